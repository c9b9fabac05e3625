/-! the law itself (printed by gen_lawm.py) -/
theorem d_La_law_0 : decode code 0 = .ok (.new 7, 3) := by decide +kernel
theorem d_La_law_3 : decode code 3 = .ok (.dup, 1) := by decide +kernel
theorem d_La_law_4 : decode code 4 = .ok (.invokespecial 9, 3) := by decide +kernel
theorem d_La_law_7 : decode code 7 = .ok (.astore_n 1, 1) := by decide +kernel
theorem d_La_law_8 : decode code 8 = .ok (.new 10, 3) := by decide +kernel
theorem d_La_law_11 : decode code 11 = .ok (.dup, 1) := by decide +kernel
theorem d_La_law_12 : decode code 12 = .ok (.invokespecial 12, 3) := by decide +kernel
theorem d_La_law_15 : decode code 15 = .ok (.astore_n 2, 1) := by decide +kernel
theorem d_La_law_16 : decode code 16 = .ok (.iconst 0, 1) := by decide +kernel
theorem d_La_law_17 : decode code 17 = .ok (.istore_n 3, 1) := by decide +kernel
theorem d_La_law_18 : decode code 18 = .ok (.iload_n 3, 1) := by decide +kernel
theorem d_La_law_19 : decode code 19 = .ok (.aload_n 0, 1) := by decide +kernel
theorem d_La_law_20 : decode code 20 = .ok (.arraylength, 1) := by decide +kernel
theorem d_La_law_21 : decode code 21 = .ok (.bipush 6, 2) := by decide +kernel
theorem d_La_law_23 : decode code 23 = .ok (.isub, 1) := by decide +kernel
theorem d_La_law_24 : decode code 24 = .ok (.if_icmp .gt 1271, 3) := by decide +kernel
theorem d_La_law_27 : decode code 27 = .ok (.aload_n 0, 1) := by decide +kernel
theorem d_La_law_28 : decode code 28 = .ok (.iload_n 3, 1) := by decide +kernel
theorem d_La_law_29 : decode code 29 = .ok (.iaload, 1) := by decide +kernel
theorem d_La_law_30 : decode code 30 = .ok (.bipush 63, 2) := by decide +kernel
theorem d_La_law_32 : decode code 32 = .ok (.iand, 1) := by decide +kernel
theorem d_La_law_33 : decode code 33 = .ok (.tableswitch 1256 0 39 #[175, 208, 251, 284, 327, 360, 423, 446, 459, 472, 485, 498, 511, 524, 547, 570, 603, 636, 649, 662, 695, 738, 761, 784, 817, 860, 893, 926, 959, 972, 985, 1008, 1031, 1065, 1108, 1141, 1174, 1197, 1220, 1243], 175) := by decide +kernel
theorem d_La_law_208 : decode code 208 = .ok (.aload_n 1, 1) := by decide +kernel
theorem d_La_law_209 : decode code 209 = .ok (.aload_n 0, 1) := by decide +kernel
theorem d_La_law_210 : decode code 210 = .ok (.iload_n 3, 1) := by decide +kernel
theorem d_La_law_211 : decode code 211 = .ok (.iconst 1, 1) := by decide +kernel
theorem d_La_law_212 : decode code 212 = .ok (.iadd, 1) := by decide +kernel
theorem d_La_law_213 : decode code 213 = .ok (.iaload, 1) := by decide +kernel
theorem d_La_law_214 : decode code 214 = .ok (.aload_n 0, 1) := by decide +kernel
theorem d_La_law_215 : decode code 215 = .ok (.iload_n 3, 1) := by decide +kernel
theorem d_La_law_216 : decode code 216 = .ok (.iconst 2, 1) := by decide +kernel
theorem d_La_law_217 : decode code 217 = .ok (.iadd, 1) := by decide +kernel
theorem d_La_law_218 : decode code 218 = .ok (.iaload, 1) := by decide +kernel
theorem d_La_law_219 : decode code 219 = .ok (.invokevirtual 13, 3) := by decide +kernel
theorem d_La_law_222 : decode code 222 = .ok (.aload_n 2, 1) := by decide +kernel
theorem d_La_law_223 : decode code 223 = .ok (.aload_n 0, 1) := by decide +kernel
theorem d_La_law_224 : decode code 224 = .ok (.iload_n 3, 1) := by decide +kernel
theorem d_La_law_225 : decode code 225 = .ok (.iconst 1, 1) := by decide +kernel
theorem d_La_law_226 : decode code 226 = .ok (.iadd, 1) := by decide +kernel
theorem d_La_law_227 : decode code 227 = .ok (.iaload, 1) := by decide +kernel
theorem d_La_law_228 : decode code 228 = .ok (.aload_n 0, 1) := by decide +kernel
theorem d_La_law_229 : decode code 229 = .ok (.iload_n 3, 1) := by decide +kernel
theorem d_La_law_230 : decode code 230 = .ok (.iconst 2, 1) := by decide +kernel
theorem d_La_law_231 : decode code 231 = .ok (.iadd, 1) := by decide +kernel
theorem d_La_law_232 : decode code 232 = .ok (.iaload, 1) := by decide +kernel
theorem d_La_law_233 : decode code 233 = .ok (.invokevirtual 17, 3) := by decide +kernel
theorem d_La_law_236 : decode code 236 = .ok (.if_icmp .eq 1053, 3) := by decide +kernel
theorem d_La_law_239 : decode code 239 = .ok (.iconst 0, 1) := by decide +kernel
theorem d_La_law_240 : decode code 240 = .ok (.ireturn, 1) := by decide +kernel
theorem d_La_law_241 : decode code 241 = .ok (.aload_n 1, 1) := by decide +kernel
theorem d_La_law_242 : decode code 242 = .ok (.aload_n 0, 1) := by decide +kernel
theorem d_La_law_243 : decode code 243 = .ok (.iload_n 3, 1) := by decide +kernel
theorem d_La_law_244 : decode code 244 = .ok (.iconst 1, 1) := by decide +kernel
theorem d_La_law_245 : decode code 245 = .ok (.iadd, 1) := by decide +kernel
theorem d_La_law_246 : decode code 246 = .ok (.iaload, 1) := by decide +kernel
theorem d_La_law_247 : decode code 247 = .ok (.aload_n 0, 1) := by decide +kernel
theorem d_La_law_248 : decode code 248 = .ok (.iload_n 3, 1) := by decide +kernel
theorem d_La_law_249 : decode code 249 = .ok (.iconst 2, 1) := by decide +kernel
theorem d_La_law_250 : decode code 250 = .ok (.iadd, 1) := by decide +kernel
theorem d_La_law_251 : decode code 251 = .ok (.iaload, 1) := by decide +kernel
theorem d_La_law_252 : decode code 252 = .ok (.aload_n 0, 1) := by decide +kernel
theorem d_La_law_253 : decode code 253 = .ok (.iload_n 3, 1) := by decide +kernel
theorem d_La_law_254 : decode code 254 = .ok (.iconst 3, 1) := by decide +kernel
theorem d_La_law_255 : decode code 255 = .ok (.iadd, 1) := by decide +kernel
theorem d_La_law_256 : decode code 256 = .ok (.iaload, 1) := by decide +kernel
theorem d_La_law_257 : decode code 257 = .ok (.invokevirtual 18, 3) := by decide +kernel
theorem d_La_law_260 : decode code 260 = .ok (.aload_n 2, 1) := by decide +kernel
theorem d_La_law_261 : decode code 261 = .ok (.aload_n 0, 1) := by decide +kernel
theorem d_La_law_262 : decode code 262 = .ok (.iload_n 3, 1) := by decide +kernel
theorem d_La_law_263 : decode code 263 = .ok (.iconst 1, 1) := by decide +kernel
theorem d_La_law_264 : decode code 264 = .ok (.iadd, 1) := by decide +kernel
theorem d_La_law_265 : decode code 265 = .ok (.iaload, 1) := by decide +kernel
theorem d_La_law_266 : decode code 266 = .ok (.aload_n 0, 1) := by decide +kernel
theorem d_La_law_267 : decode code 267 = .ok (.iload_n 3, 1) := by decide +kernel
theorem d_La_law_268 : decode code 268 = .ok (.iconst 2, 1) := by decide +kernel
theorem d_La_law_269 : decode code 269 = .ok (.iadd, 1) := by decide +kernel
theorem d_La_law_270 : decode code 270 = .ok (.iaload, 1) := by decide +kernel
theorem d_La_law_271 : decode code 271 = .ok (.aload_n 0, 1) := by decide +kernel
theorem d_La_law_272 : decode code 272 = .ok (.iload_n 3, 1) := by decide +kernel
theorem d_La_law_273 : decode code 273 = .ok (.iconst 3, 1) := by decide +kernel
theorem d_La_law_274 : decode code 274 = .ok (.iadd, 1) := by decide +kernel
theorem d_La_law_275 : decode code 275 = .ok (.iaload, 1) := by decide +kernel
theorem d_La_law_276 : decode code 276 = .ok (.invokevirtual 22, 3) := by decide +kernel
theorem d_La_law_279 : decode code 279 = .ok (.if_icmp .eq 1010, 3) := by decide +kernel
theorem d_La_law_282 : decode code 282 = .ok (.iconst 0, 1) := by decide +kernel
theorem d_La_law_283 : decode code 283 = .ok (.ireturn, 1) := by decide +kernel
theorem d_La_law_284 : decode code 284 = .ok (.aload_n 1, 1) := by decide +kernel
theorem d_La_law_285 : decode code 285 = .ok (.aload_n 0, 1) := by decide +kernel
theorem d_La_law_286 : decode code 286 = .ok (.iload_n 3, 1) := by decide +kernel
theorem d_La_law_287 : decode code 287 = .ok (.iconst 1, 1) := by decide +kernel
theorem d_La_law_288 : decode code 288 = .ok (.iadd, 1) := by decide +kernel
theorem d_La_law_289 : decode code 289 = .ok (.iaload, 1) := by decide +kernel
theorem d_La_law_290 : decode code 290 = .ok (.aload_n 0, 1) := by decide +kernel
theorem d_La_law_291 : decode code 291 = .ok (.iload_n 3, 1) := by decide +kernel
theorem d_La_law_292 : decode code 292 = .ok (.iconst 2, 1) := by decide +kernel
theorem d_La_law_293 : decode code 293 = .ok (.iadd, 1) := by decide +kernel
theorem d_La_law_294 : decode code 294 = .ok (.iaload, 1) := by decide +kernel
theorem d_La_law_295 : decode code 295 = .ok (.invokevirtual 23, 3) := by decide +kernel
theorem d_La_law_298 : decode code 298 = .ok (.aload_n 2, 1) := by decide +kernel
theorem d_La_law_299 : decode code 299 = .ok (.aload_n 0, 1) := by decide +kernel
theorem d_La_law_300 : decode code 300 = .ok (.iload_n 3, 1) := by decide +kernel
theorem d_La_law_301 : decode code 301 = .ok (.iconst 1, 1) := by decide +kernel
theorem d_La_law_302 : decode code 302 = .ok (.iadd, 1) := by decide +kernel
theorem d_La_law_303 : decode code 303 = .ok (.iaload, 1) := by decide +kernel
theorem d_La_law_304 : decode code 304 = .ok (.aload_n 0, 1) := by decide +kernel
theorem d_La_law_305 : decode code 305 = .ok (.iload_n 3, 1) := by decide +kernel
theorem d_La_law_306 : decode code 306 = .ok (.iconst 2, 1) := by decide +kernel
theorem d_La_law_307 : decode code 307 = .ok (.iadd, 1) := by decide +kernel
theorem d_La_law_308 : decode code 308 = .ok (.iaload, 1) := by decide +kernel
theorem d_La_law_309 : decode code 309 = .ok (.invokevirtual 26, 3) := by decide +kernel
theorem d_La_law_312 : decode code 312 = .ok (.if_icmp .eq 977, 3) := by decide +kernel
theorem d_La_law_315 : decode code 315 = .ok (.iconst 0, 1) := by decide +kernel
theorem d_La_law_316 : decode code 316 = .ok (.ireturn, 1) := by decide +kernel
theorem d_La_law_317 : decode code 317 = .ok (.aload_n 1, 1) := by decide +kernel
theorem d_La_law_318 : decode code 318 = .ok (.aload_n 0, 1) := by decide +kernel
theorem d_La_law_319 : decode code 319 = .ok (.iload_n 3, 1) := by decide +kernel
theorem d_La_law_320 : decode code 320 = .ok (.iconst 1, 1) := by decide +kernel
theorem d_La_law_321 : decode code 321 = .ok (.iadd, 1) := by decide +kernel
theorem d_La_law_322 : decode code 322 = .ok (.iaload, 1) := by decide +kernel
theorem d_La_law_323 : decode code 323 = .ok (.aload_n 0, 1) := by decide +kernel
theorem d_La_law_324 : decode code 324 = .ok (.iload_n 3, 1) := by decide +kernel
theorem d_La_law_325 : decode code 325 = .ok (.iconst 2, 1) := by decide +kernel
theorem d_La_law_326 : decode code 326 = .ok (.iadd, 1) := by decide +kernel
theorem d_La_law_327 : decode code 327 = .ok (.iaload, 1) := by decide +kernel
theorem d_La_law_328 : decode code 328 = .ok (.aload_n 0, 1) := by decide +kernel
theorem d_La_law_329 : decode code 329 = .ok (.iload_n 3, 1) := by decide +kernel
theorem d_La_law_330 : decode code 330 = .ok (.iconst 3, 1) := by decide +kernel
theorem d_La_law_331 : decode code 331 = .ok (.iadd, 1) := by decide +kernel
theorem d_La_law_332 : decode code 332 = .ok (.iaload, 1) := by decide +kernel
theorem d_La_law_333 : decode code 333 = .ok (.invokevirtual 27, 3) := by decide +kernel
theorem d_La_law_336 : decode code 336 = .ok (.aload_n 2, 1) := by decide +kernel
theorem d_La_law_337 : decode code 337 = .ok (.aload_n 0, 1) := by decide +kernel
theorem d_La_law_338 : decode code 338 = .ok (.iload_n 3, 1) := by decide +kernel
theorem d_La_law_339 : decode code 339 = .ok (.iconst 1, 1) := by decide +kernel
theorem d_La_law_340 : decode code 340 = .ok (.iadd, 1) := by decide +kernel
theorem d_La_law_341 : decode code 341 = .ok (.iaload, 1) := by decide +kernel
theorem d_La_law_342 : decode code 342 = .ok (.aload_n 0, 1) := by decide +kernel
theorem d_La_law_343 : decode code 343 = .ok (.iload_n 3, 1) := by decide +kernel
theorem d_La_law_344 : decode code 344 = .ok (.iconst 2, 1) := by decide +kernel
theorem d_La_law_345 : decode code 345 = .ok (.iadd, 1) := by decide +kernel
theorem d_La_law_346 : decode code 346 = .ok (.iaload, 1) := by decide +kernel
theorem d_La_law_347 : decode code 347 = .ok (.aload_n 0, 1) := by decide +kernel
theorem d_La_law_348 : decode code 348 = .ok (.iload_n 3, 1) := by decide +kernel
theorem d_La_law_349 : decode code 349 = .ok (.iconst 3, 1) := by decide +kernel
theorem d_La_law_350 : decode code 350 = .ok (.iadd, 1) := by decide +kernel
theorem d_La_law_351 : decode code 351 = .ok (.iaload, 1) := by decide +kernel
theorem d_La_law_352 : decode code 352 = .ok (.invokevirtual 30, 3) := by decide +kernel
theorem d_La_law_355 : decode code 355 = .ok (.if_icmp .eq 934, 3) := by decide +kernel
theorem d_La_law_358 : decode code 358 = .ok (.iconst 0, 1) := by decide +kernel
theorem d_La_law_359 : decode code 359 = .ok (.ireturn, 1) := by decide +kernel
theorem d_La_law_360 : decode code 360 = .ok (.aload_n 1, 1) := by decide +kernel
theorem d_La_law_361 : decode code 361 = .ok (.aload_n 0, 1) := by decide +kernel
theorem d_La_law_362 : decode code 362 = .ok (.iload_n 3, 1) := by decide +kernel
theorem d_La_law_363 : decode code 363 = .ok (.iconst 1, 1) := by decide +kernel
theorem d_La_law_364 : decode code 364 = .ok (.iadd, 1) := by decide +kernel
theorem d_La_law_365 : decode code 365 = .ok (.iaload, 1) := by decide +kernel
theorem d_La_law_366 : decode code 366 = .ok (.aload_n 0, 1) := by decide +kernel
theorem d_La_law_367 : decode code 367 = .ok (.iload_n 3, 1) := by decide +kernel
theorem d_La_law_368 : decode code 368 = .ok (.iconst 2, 1) := by decide +kernel
theorem d_La_law_369 : decode code 369 = .ok (.iadd, 1) := by decide +kernel
theorem d_La_law_370 : decode code 370 = .ok (.iaload, 1) := by decide +kernel
theorem d_La_law_371 : decode code 371 = .ok (.invokevirtual 31, 3) := by decide +kernel
theorem d_La_law_374 : decode code 374 = .ok (.aload_n 2, 1) := by decide +kernel
theorem d_La_law_375 : decode code 375 = .ok (.aload_n 0, 1) := by decide +kernel
theorem d_La_law_376 : decode code 376 = .ok (.iload_n 3, 1) := by decide +kernel
theorem d_La_law_377 : decode code 377 = .ok (.iconst 1, 1) := by decide +kernel
theorem d_La_law_378 : decode code 378 = .ok (.iadd, 1) := by decide +kernel
theorem d_La_law_379 : decode code 379 = .ok (.iaload, 1) := by decide +kernel
theorem d_La_law_380 : decode code 380 = .ok (.aload_n 0, 1) := by decide +kernel
theorem d_La_law_381 : decode code 381 = .ok (.iload_n 3, 1) := by decide +kernel
theorem d_La_law_382 : decode code 382 = .ok (.iconst 2, 1) := by decide +kernel
theorem d_La_law_383 : decode code 383 = .ok (.iadd, 1) := by decide +kernel
theorem d_La_law_384 : decode code 384 = .ok (.iaload, 1) := by decide +kernel
theorem d_La_law_385 : decode code 385 = .ok (.invokevirtual 34, 3) := by decide +kernel
theorem d_La_law_388 : decode code 388 = .ok (.if_icmp .eq 901, 3) := by decide +kernel
theorem d_La_law_391 : decode code 391 = .ok (.iconst 0, 1) := by decide +kernel
theorem d_La_law_392 : decode code 392 = .ok (.ireturn, 1) := by decide +kernel
theorem d_La_law_393 : decode code 393 = .ok (.aload_n 1, 1) := by decide +kernel
theorem d_La_law_394 : decode code 394 = .ok (.aload_n 0, 1) := by decide +kernel
theorem d_La_law_395 : decode code 395 = .ok (.iload_n 3, 1) := by decide +kernel
theorem d_La_law_396 : decode code 396 = .ok (.iconst 1, 1) := by decide +kernel
theorem d_La_law_397 : decode code 397 = .ok (.iadd, 1) := by decide +kernel
theorem d_La_law_398 : decode code 398 = .ok (.iaload, 1) := by decide +kernel
theorem d_La_law_399 : decode code 399 = .ok (.aload_n 0, 1) := by decide +kernel
theorem d_La_law_400 : decode code 400 = .ok (.iload_n 3, 1) := by decide +kernel
theorem d_La_law_401 : decode code 401 = .ok (.iconst 2, 1) := by decide +kernel
theorem d_La_law_402 : decode code 402 = .ok (.iadd, 1) := by decide +kernel
theorem d_La_law_403 : decode code 403 = .ok (.iaload, 1) := by decide +kernel
theorem d_La_law_404 : decode code 404 = .ok (.aload_n 0, 1) := by decide +kernel
theorem d_La_law_405 : decode code 405 = .ok (.iload_n 3, 1) := by decide +kernel
theorem d_La_law_406 : decode code 406 = .ok (.iconst 3, 1) := by decide +kernel
theorem d_La_law_407 : decode code 407 = .ok (.iadd, 1) := by decide +kernel
theorem d_La_law_408 : decode code 408 = .ok (.iaload, 1) := by decide +kernel
theorem d_La_law_409 : decode code 409 = .ok (.aload_n 0, 1) := by decide +kernel
theorem d_La_law_410 : decode code 410 = .ok (.iload_n 3, 1) := by decide +kernel
theorem d_La_law_411 : decode code 411 = .ok (.iconst 4, 1) := by decide +kernel
theorem d_La_law_412 : decode code 412 = .ok (.iadd, 1) := by decide +kernel
theorem d_La_law_413 : decode code 413 = .ok (.iaload, 1) := by decide +kernel
theorem d_La_law_414 : decode code 414 = .ok (.aload_n 0, 1) := by decide +kernel
theorem d_La_law_415 : decode code 415 = .ok (.iload_n 3, 1) := by decide +kernel
theorem d_La_law_416 : decode code 416 = .ok (.iconst 5, 1) := by decide +kernel
theorem d_La_law_417 : decode code 417 = .ok (.iadd, 1) := by decide +kernel
theorem d_La_law_418 : decode code 418 = .ok (.iaload, 1) := by decide +kernel
theorem d_La_law_419 : decode code 419 = .ok (.invokevirtual 35, 3) := by decide +kernel
theorem d_La_law_422 : decode code 422 = .ok (.aload_n 2, 1) := by decide +kernel
theorem d_La_law_423 : decode code 423 = .ok (.aload_n 0, 1) := by decide +kernel
theorem d_La_law_424 : decode code 424 = .ok (.iload_n 3, 1) := by decide +kernel
theorem d_La_law_425 : decode code 425 = .ok (.iconst 1, 1) := by decide +kernel
theorem d_La_law_426 : decode code 426 = .ok (.iadd, 1) := by decide +kernel
theorem d_La_law_427 : decode code 427 = .ok (.iaload, 1) := by decide +kernel
theorem d_La_law_428 : decode code 428 = .ok (.aload_n 0, 1) := by decide +kernel
theorem d_La_law_429 : decode code 429 = .ok (.iload_n 3, 1) := by decide +kernel
theorem d_La_law_430 : decode code 430 = .ok (.iconst 2, 1) := by decide +kernel
theorem d_La_law_431 : decode code 431 = .ok (.iadd, 1) := by decide +kernel
theorem d_La_law_432 : decode code 432 = .ok (.iaload, 1) := by decide +kernel
theorem d_La_law_433 : decode code 433 = .ok (.aload_n 0, 1) := by decide +kernel
theorem d_La_law_434 : decode code 434 = .ok (.iload_n 3, 1) := by decide +kernel
theorem d_La_law_435 : decode code 435 = .ok (.iconst 3, 1) := by decide +kernel
theorem d_La_law_436 : decode code 436 = .ok (.iadd, 1) := by decide +kernel
theorem d_La_law_437 : decode code 437 = .ok (.iaload, 1) := by decide +kernel
theorem d_La_law_438 : decode code 438 = .ok (.aload_n 0, 1) := by decide +kernel
theorem d_La_law_439 : decode code 439 = .ok (.iload_n 3, 1) := by decide +kernel
theorem d_La_law_440 : decode code 440 = .ok (.iconst 4, 1) := by decide +kernel
theorem d_La_law_441 : decode code 441 = .ok (.iadd, 1) := by decide +kernel
theorem d_La_law_442 : decode code 442 = .ok (.iaload, 1) := by decide +kernel
theorem d_La_law_443 : decode code 443 = .ok (.aload_n 0, 1) := by decide +kernel
theorem d_La_law_444 : decode code 444 = .ok (.iload_n 3, 1) := by decide +kernel
theorem d_La_law_445 : decode code 445 = .ok (.iconst 5, 1) := by decide +kernel
theorem d_La_law_446 : decode code 446 = .ok (.iadd, 1) := by decide +kernel
theorem d_La_law_447 : decode code 447 = .ok (.iaload, 1) := by decide +kernel
theorem d_La_law_448 : decode code 448 = .ok (.invokevirtual 39, 3) := by decide +kernel
theorem d_La_law_451 : decode code 451 = .ok (.if_icmp .eq 838, 3) := by decide +kernel
theorem d_La_law_454 : decode code 454 = .ok (.iconst 0, 1) := by decide +kernel
theorem d_La_law_455 : decode code 455 = .ok (.ireturn, 1) := by decide +kernel
theorem d_La_law_456 : decode code 456 = .ok (.aload_n 1, 1) := by decide +kernel
theorem d_La_law_457 : decode code 457 = .ok (.aload_n 0, 1) := by decide +kernel
theorem d_La_law_458 : decode code 458 = .ok (.iload_n 3, 1) := by decide +kernel
theorem d_La_law_459 : decode code 459 = .ok (.iconst 1, 1) := by decide +kernel
theorem d_La_law_460 : decode code 460 = .ok (.iadd, 1) := by decide +kernel
theorem d_La_law_461 : decode code 461 = .ok (.iaload, 1) := by decide +kernel
theorem d_La_law_462 : decode code 462 = .ok (.invokevirtual 40, 3) := by decide +kernel
theorem d_La_law_465 : decode code 465 = .ok (.aload_n 2, 1) := by decide +kernel
theorem d_La_law_466 : decode code 466 = .ok (.aload_n 0, 1) := by decide +kernel
theorem d_La_law_467 : decode code 467 = .ok (.iload_n 3, 1) := by decide +kernel
theorem d_La_law_468 : decode code 468 = .ok (.iconst 1, 1) := by decide +kernel
theorem d_La_law_469 : decode code 469 = .ok (.iadd, 1) := by decide +kernel
theorem d_La_law_470 : decode code 470 = .ok (.iaload, 1) := by decide +kernel
theorem d_La_law_471 : decode code 471 = .ok (.invokevirtual 44, 3) := by decide +kernel
theorem d_La_law_474 : decode code 474 = .ok (.if_icmp .eq 815, 3) := by decide +kernel
theorem d_La_law_477 : decode code 477 = .ok (.iconst 0, 1) := by decide +kernel
theorem d_La_law_478 : decode code 478 = .ok (.ireturn, 1) := by decide +kernel
theorem d_La_law_479 : decode code 479 = .ok (.aload_n 1, 1) := by decide +kernel
theorem d_La_law_480 : decode code 480 = .ok (.invokevirtual 45, 3) := by decide +kernel
theorem d_La_law_483 : decode code 483 = .ok (.aload_n 2, 1) := by decide +kernel
theorem d_La_law_484 : decode code 484 = .ok (.invokevirtual 49, 3) := by decide +kernel
theorem d_La_law_487 : decode code 487 = .ok (.if_icmp .eq 802, 3) := by decide +kernel
theorem d_La_law_490 : decode code 490 = .ok (.iconst 0, 1) := by decide +kernel
theorem d_La_law_491 : decode code 491 = .ok (.ireturn, 1) := by decide +kernel
theorem d_La_law_492 : decode code 492 = .ok (.aload_n 1, 1) := by decide +kernel
theorem d_La_law_493 : decode code 493 = .ok (.invokevirtual 50, 3) := by decide +kernel
theorem d_La_law_496 : decode code 496 = .ok (.aload_n 2, 1) := by decide +kernel
theorem d_La_law_497 : decode code 497 = .ok (.invokevirtual 53, 3) := by decide +kernel
theorem d_La_law_500 : decode code 500 = .ok (.if_icmp .eq 789, 3) := by decide +kernel
theorem d_La_law_503 : decode code 503 = .ok (.iconst 0, 1) := by decide +kernel
theorem d_La_law_504 : decode code 504 = .ok (.ireturn, 1) := by decide +kernel
theorem d_La_law_505 : decode code 505 = .ok (.aload_n 1, 1) := by decide +kernel
theorem d_La_law_506 : decode code 506 = .ok (.invokevirtual 54, 3) := by decide +kernel
theorem d_La_law_509 : decode code 509 = .ok (.aload_n 2, 1) := by decide +kernel
theorem d_La_law_510 : decode code 510 = .ok (.invokevirtual 57, 3) := by decide +kernel
theorem d_La_law_513 : decode code 513 = .ok (.if_icmp .eq 776, 3) := by decide +kernel
theorem d_La_law_516 : decode code 516 = .ok (.iconst 0, 1) := by decide +kernel
theorem d_La_law_517 : decode code 517 = .ok (.ireturn, 1) := by decide +kernel
theorem d_La_law_518 : decode code 518 = .ok (.aload_n 1, 1) := by decide +kernel
theorem d_La_law_519 : decode code 519 = .ok (.invokevirtual 58, 3) := by decide +kernel
theorem d_La_law_522 : decode code 522 = .ok (.aload_n 2, 1) := by decide +kernel
theorem d_La_law_523 : decode code 523 = .ok (.invokevirtual 61, 3) := by decide +kernel
theorem d_La_law_526 : decode code 526 = .ok (.if_icmp .eq 763, 3) := by decide +kernel
theorem d_La_law_529 : decode code 529 = .ok (.iconst 0, 1) := by decide +kernel
theorem d_La_law_530 : decode code 530 = .ok (.ireturn, 1) := by decide +kernel
theorem d_La_law_531 : decode code 531 = .ok (.aload_n 1, 1) := by decide +kernel
theorem d_La_law_532 : decode code 532 = .ok (.invokevirtual 62, 3) := by decide +kernel
theorem d_La_law_535 : decode code 535 = .ok (.aload_n 2, 1) := by decide +kernel
theorem d_La_law_536 : decode code 536 = .ok (.invokevirtual 65, 3) := by decide +kernel
theorem d_La_law_539 : decode code 539 = .ok (.if_icmp .eq 750, 3) := by decide +kernel
theorem d_La_law_542 : decode code 542 = .ok (.iconst 0, 1) := by decide +kernel
theorem d_La_law_543 : decode code 543 = .ok (.ireturn, 1) := by decide +kernel
theorem d_La_law_544 : decode code 544 = .ok (.aload_n 1, 1) := by decide +kernel
theorem d_La_law_545 : decode code 545 = .ok (.invokevirtual 66, 3) := by decide +kernel
theorem d_La_law_548 : decode code 548 = .ok (.aload_n 2, 1) := by decide +kernel
theorem d_La_law_549 : decode code 549 = .ok (.invokevirtual 69, 3) := by decide +kernel
theorem d_La_law_552 : decode code 552 = .ok (.if_icmp .eq 737, 3) := by decide +kernel
theorem d_La_law_555 : decode code 555 = .ok (.iconst 0, 1) := by decide +kernel
theorem d_La_law_556 : decode code 556 = .ok (.ireturn, 1) := by decide +kernel
theorem d_La_law_557 : decode code 557 = .ok (.aload_n 1, 1) := by decide +kernel
theorem d_La_law_558 : decode code 558 = .ok (.aload_n 0, 1) := by decide +kernel
theorem d_La_law_559 : decode code 559 = .ok (.iload_n 3, 1) := by decide +kernel
theorem d_La_law_560 : decode code 560 = .ok (.iconst 1, 1) := by decide +kernel
theorem d_La_law_561 : decode code 561 = .ok (.iadd, 1) := by decide +kernel
theorem d_La_law_562 : decode code 562 = .ok (.iaload, 1) := by decide +kernel
theorem d_La_law_563 : decode code 563 = .ok (.invokevirtual 70, 3) := by decide +kernel
theorem d_La_law_566 : decode code 566 = .ok (.aload_n 2, 1) := by decide +kernel
theorem d_La_law_567 : decode code 567 = .ok (.aload_n 0, 1) := by decide +kernel
theorem d_La_law_568 : decode code 568 = .ok (.iload_n 3, 1) := by decide +kernel
theorem d_La_law_569 : decode code 569 = .ok (.iconst 1, 1) := by decide +kernel
theorem d_La_law_570 : decode code 570 = .ok (.iadd, 1) := by decide +kernel
theorem d_La_law_571 : decode code 571 = .ok (.iaload, 1) := by decide +kernel
theorem d_La_law_572 : decode code 572 = .ok (.invokevirtual 73, 3) := by decide +kernel
theorem d_La_law_575 : decode code 575 = .ok (.if_icmp .eq 714, 3) := by decide +kernel
theorem d_La_law_578 : decode code 578 = .ok (.iconst 0, 1) := by decide +kernel
theorem d_La_law_579 : decode code 579 = .ok (.ireturn, 1) := by decide +kernel
theorem d_La_law_580 : decode code 580 = .ok (.aload_n 1, 1) := by decide +kernel
theorem d_La_law_581 : decode code 581 = .ok (.aload_n 0, 1) := by decide +kernel
theorem d_La_law_582 : decode code 582 = .ok (.iload_n 3, 1) := by decide +kernel
theorem d_La_law_583 : decode code 583 = .ok (.iconst 1, 1) := by decide +kernel
theorem d_La_law_584 : decode code 584 = .ok (.iadd, 1) := by decide +kernel
theorem d_La_law_585 : decode code 585 = .ok (.iaload, 1) := by decide +kernel
theorem d_La_law_586 : decode code 586 = .ok (.invokevirtual 74, 3) := by decide +kernel
theorem d_La_law_589 : decode code 589 = .ok (.aload_n 2, 1) := by decide +kernel
theorem d_La_law_590 : decode code 590 = .ok (.aload_n 0, 1) := by decide +kernel
theorem d_La_law_591 : decode code 591 = .ok (.iload_n 3, 1) := by decide +kernel
theorem d_La_law_592 : decode code 592 = .ok (.iconst 1, 1) := by decide +kernel
theorem d_La_law_593 : decode code 593 = .ok (.iadd, 1) := by decide +kernel
theorem d_La_law_594 : decode code 594 = .ok (.iaload, 1) := by decide +kernel
theorem d_La_law_595 : decode code 595 = .ok (.invokevirtual 77, 3) := by decide +kernel
theorem d_La_law_598 : decode code 598 = .ok (.if_icmp .eq 691, 3) := by decide +kernel
theorem d_La_law_601 : decode code 601 = .ok (.iconst 0, 1) := by decide +kernel
theorem d_La_law_602 : decode code 602 = .ok (.ireturn, 1) := by decide +kernel
theorem d_La_law_603 : decode code 603 = .ok (.aload_n 1, 1) := by decide +kernel
theorem d_La_law_604 : decode code 604 = .ok (.aload_n 0, 1) := by decide +kernel
theorem d_La_law_605 : decode code 605 = .ok (.iload_n 3, 1) := by decide +kernel
theorem d_La_law_606 : decode code 606 = .ok (.iconst 1, 1) := by decide +kernel
theorem d_La_law_607 : decode code 607 = .ok (.iadd, 1) := by decide +kernel
theorem d_La_law_608 : decode code 608 = .ok (.iaload, 1) := by decide +kernel
theorem d_La_law_609 : decode code 609 = .ok (.aload_n 0, 1) := by decide +kernel
theorem d_La_law_610 : decode code 610 = .ok (.iload_n 3, 1) := by decide +kernel
theorem d_La_law_611 : decode code 611 = .ok (.iconst 2, 1) := by decide +kernel
theorem d_La_law_612 : decode code 612 = .ok (.iadd, 1) := by decide +kernel
theorem d_La_law_613 : decode code 613 = .ok (.iaload, 1) := by decide +kernel
theorem d_La_law_614 : decode code 614 = .ok (.invokevirtual 78, 3) := by decide +kernel
theorem d_La_law_617 : decode code 617 = .ok (.aload_n 2, 1) := by decide +kernel
theorem d_La_law_618 : decode code 618 = .ok (.aload_n 0, 1) := by decide +kernel
theorem d_La_law_619 : decode code 619 = .ok (.iload_n 3, 1) := by decide +kernel
theorem d_La_law_620 : decode code 620 = .ok (.iconst 1, 1) := by decide +kernel
theorem d_La_law_621 : decode code 621 = .ok (.iadd, 1) := by decide +kernel
theorem d_La_law_622 : decode code 622 = .ok (.iaload, 1) := by decide +kernel
theorem d_La_law_623 : decode code 623 = .ok (.aload_n 0, 1) := by decide +kernel
theorem d_La_law_624 : decode code 624 = .ok (.iload_n 3, 1) := by decide +kernel
theorem d_La_law_625 : decode code 625 = .ok (.iconst 2, 1) := by decide +kernel
theorem d_La_law_626 : decode code 626 = .ok (.iadd, 1) := by decide +kernel
theorem d_La_law_627 : decode code 627 = .ok (.iaload, 1) := by decide +kernel
theorem d_La_law_628 : decode code 628 = .ok (.invokevirtual 81, 3) := by decide +kernel
theorem d_La_law_631 : decode code 631 = .ok (.if_icmp .eq 658, 3) := by decide +kernel
theorem d_La_law_634 : decode code 634 = .ok (.iconst 0, 1) := by decide +kernel
theorem d_La_law_635 : decode code 635 = .ok (.ireturn, 1) := by decide +kernel
theorem d_La_law_636 : decode code 636 = .ok (.aload_n 1, 1) := by decide +kernel
theorem d_La_law_637 : decode code 637 = .ok (.aload_n 0, 1) := by decide +kernel
theorem d_La_law_638 : decode code 638 = .ok (.iload_n 3, 1) := by decide +kernel
theorem d_La_law_639 : decode code 639 = .ok (.iconst 1, 1) := by decide +kernel
theorem d_La_law_640 : decode code 640 = .ok (.iadd, 1) := by decide +kernel
theorem d_La_law_641 : decode code 641 = .ok (.iaload, 1) := by decide +kernel
theorem d_La_law_642 : decode code 642 = .ok (.aload_n 0, 1) := by decide +kernel
theorem d_La_law_643 : decode code 643 = .ok (.iload_n 3, 1) := by decide +kernel
theorem d_La_law_644 : decode code 644 = .ok (.iconst 2, 1) := by decide +kernel
theorem d_La_law_645 : decode code 645 = .ok (.iadd, 1) := by decide +kernel
theorem d_La_law_646 : decode code 646 = .ok (.iaload, 1) := by decide +kernel
theorem d_La_law_647 : decode code 647 = .ok (.invokevirtual 82, 3) := by decide +kernel
theorem d_La_law_650 : decode code 650 = .ok (.aload_n 2, 1) := by decide +kernel
theorem d_La_law_651 : decode code 651 = .ok (.aload_n 0, 1) := by decide +kernel
theorem d_La_law_652 : decode code 652 = .ok (.iload_n 3, 1) := by decide +kernel
theorem d_La_law_653 : decode code 653 = .ok (.iconst 1, 1) := by decide +kernel
theorem d_La_law_654 : decode code 654 = .ok (.iadd, 1) := by decide +kernel
theorem d_La_law_655 : decode code 655 = .ok (.iaload, 1) := by decide +kernel
theorem d_La_law_656 : decode code 656 = .ok (.aload_n 0, 1) := by decide +kernel
theorem d_La_law_657 : decode code 657 = .ok (.iload_n 3, 1) := by decide +kernel
theorem d_La_law_658 : decode code 658 = .ok (.iconst 2, 1) := by decide +kernel
theorem d_La_law_659 : decode code 659 = .ok (.iadd, 1) := by decide +kernel
theorem d_La_law_660 : decode code 660 = .ok (.iaload, 1) := by decide +kernel
theorem d_La_law_661 : decode code 661 = .ok (.invokevirtual 85, 3) := by decide +kernel
theorem d_La_law_664 : decode code 664 = .ok (.if_icmp .eq 625, 3) := by decide +kernel
theorem d_La_law_667 : decode code 667 = .ok (.iconst 0, 1) := by decide +kernel
theorem d_La_law_668 : decode code 668 = .ok (.ireturn, 1) := by decide +kernel
theorem d_La_law_669 : decode code 669 = .ok (.aload_n 1, 1) := by decide +kernel
theorem d_La_law_670 : decode code 670 = .ok (.invokevirtual 86, 3) := by decide +kernel
theorem d_La_law_673 : decode code 673 = .ok (.aload_n 2, 1) := by decide +kernel
theorem d_La_law_674 : decode code 674 = .ok (.invokevirtual 89, 3) := by decide +kernel
theorem d_La_law_677 : decode code 677 = .ok (.if_icmp .eq 612, 3) := by decide +kernel
theorem d_La_law_680 : decode code 680 = .ok (.iconst 0, 1) := by decide +kernel
theorem d_La_law_681 : decode code 681 = .ok (.ireturn, 1) := by decide +kernel
theorem d_La_law_682 : decode code 682 = .ok (.aload_n 1, 1) := by decide +kernel
theorem d_La_law_683 : decode code 683 = .ok (.invokevirtual 90, 3) := by decide +kernel
theorem d_La_law_686 : decode code 686 = .ok (.aload_n 2, 1) := by decide +kernel
theorem d_La_law_687 : decode code 687 = .ok (.invokevirtual 93, 3) := by decide +kernel
theorem d_La_law_690 : decode code 690 = .ok (.if_icmp .eq 599, 3) := by decide +kernel
theorem d_La_law_693 : decode code 693 = .ok (.iconst 0, 1) := by decide +kernel
theorem d_La_law_694 : decode code 694 = .ok (.ireturn, 1) := by decide +kernel
theorem d_La_law_695 : decode code 695 = .ok (.aload_n 1, 1) := by decide +kernel
theorem d_La_law_696 : decode code 696 = .ok (.aload_n 0, 1) := by decide +kernel
theorem d_La_law_697 : decode code 697 = .ok (.iload_n 3, 1) := by decide +kernel
theorem d_La_law_698 : decode code 698 = .ok (.iconst 1, 1) := by decide +kernel
theorem d_La_law_699 : decode code 699 = .ok (.iadd, 1) := by decide +kernel
theorem d_La_law_700 : decode code 700 = .ok (.iaload, 1) := by decide +kernel
theorem d_La_law_701 : decode code 701 = .ok (.aload_n 0, 1) := by decide +kernel
theorem d_La_law_702 : decode code 702 = .ok (.iload_n 3, 1) := by decide +kernel
theorem d_La_law_703 : decode code 703 = .ok (.iconst 2, 1) := by decide +kernel
theorem d_La_law_704 : decode code 704 = .ok (.iadd, 1) := by decide +kernel
theorem d_La_law_705 : decode code 705 = .ok (.iaload, 1) := by decide +kernel
theorem d_La_law_706 : decode code 706 = .ok (.invokevirtual 94, 3) := by decide +kernel
theorem d_La_law_709 : decode code 709 = .ok (.aload_n 2, 1) := by decide +kernel
theorem d_La_law_710 : decode code 710 = .ok (.aload_n 0, 1) := by decide +kernel
theorem d_La_law_711 : decode code 711 = .ok (.iload_n 3, 1) := by decide +kernel
theorem d_La_law_712 : decode code 712 = .ok (.iconst 1, 1) := by decide +kernel
theorem d_La_law_713 : decode code 713 = .ok (.iadd, 1) := by decide +kernel
theorem d_La_law_714 : decode code 714 = .ok (.iaload, 1) := by decide +kernel
theorem d_La_law_715 : decode code 715 = .ok (.aload_n 0, 1) := by decide +kernel
theorem d_La_law_716 : decode code 716 = .ok (.iload_n 3, 1) := by decide +kernel
theorem d_La_law_717 : decode code 717 = .ok (.iconst 2, 1) := by decide +kernel
theorem d_La_law_718 : decode code 718 = .ok (.iadd, 1) := by decide +kernel
theorem d_La_law_719 : decode code 719 = .ok (.iaload, 1) := by decide +kernel
theorem d_La_law_720 : decode code 720 = .ok (.invokevirtual 97, 3) := by decide +kernel
theorem d_La_law_723 : decode code 723 = .ok (.if_icmp .eq 566, 3) := by decide +kernel
theorem d_La_law_726 : decode code 726 = .ok (.iconst 0, 1) := by decide +kernel
theorem d_La_law_727 : decode code 727 = .ok (.ireturn, 1) := by decide +kernel
theorem d_La_law_728 : decode code 728 = .ok (.aload_n 1, 1) := by decide +kernel
theorem d_La_law_729 : decode code 729 = .ok (.aload_n 0, 1) := by decide +kernel
theorem d_La_law_730 : decode code 730 = .ok (.iload_n 3, 1) := by decide +kernel
theorem d_La_law_731 : decode code 731 = .ok (.iconst 1, 1) := by decide +kernel
theorem d_La_law_732 : decode code 732 = .ok (.iadd, 1) := by decide +kernel
theorem d_La_law_733 : decode code 733 = .ok (.iaload, 1) := by decide +kernel
theorem d_La_law_734 : decode code 734 = .ok (.aload_n 0, 1) := by decide +kernel
theorem d_La_law_735 : decode code 735 = .ok (.iload_n 3, 1) := by decide +kernel
theorem d_La_law_736 : decode code 736 = .ok (.iconst 2, 1) := by decide +kernel
theorem d_La_law_737 : decode code 737 = .ok (.iadd, 1) := by decide +kernel
theorem d_La_law_738 : decode code 738 = .ok (.iaload, 1) := by decide +kernel
theorem d_La_law_739 : decode code 739 = .ok (.aload_n 0, 1) := by decide +kernel
theorem d_La_law_740 : decode code 740 = .ok (.iload_n 3, 1) := by decide +kernel
theorem d_La_law_741 : decode code 741 = .ok (.iconst 3, 1) := by decide +kernel
theorem d_La_law_742 : decode code 742 = .ok (.iadd, 1) := by decide +kernel
theorem d_La_law_743 : decode code 743 = .ok (.iaload, 1) := by decide +kernel
theorem d_La_law_744 : decode code 744 = .ok (.invokevirtual 98, 3) := by decide +kernel
theorem d_La_law_747 : decode code 747 = .ok (.aload_n 2, 1) := by decide +kernel
theorem d_La_law_748 : decode code 748 = .ok (.aload_n 0, 1) := by decide +kernel
theorem d_La_law_749 : decode code 749 = .ok (.iload_n 3, 1) := by decide +kernel
theorem d_La_law_750 : decode code 750 = .ok (.iconst 1, 1) := by decide +kernel
theorem d_La_law_751 : decode code 751 = .ok (.iadd, 1) := by decide +kernel
theorem d_La_law_752 : decode code 752 = .ok (.iaload, 1) := by decide +kernel
theorem d_La_law_753 : decode code 753 = .ok (.aload_n 0, 1) := by decide +kernel
theorem d_La_law_754 : decode code 754 = .ok (.iload_n 3, 1) := by decide +kernel
theorem d_La_law_755 : decode code 755 = .ok (.iconst 2, 1) := by decide +kernel
theorem d_La_law_756 : decode code 756 = .ok (.iadd, 1) := by decide +kernel
theorem d_La_law_757 : decode code 757 = .ok (.iaload, 1) := by decide +kernel
theorem d_La_law_758 : decode code 758 = .ok (.aload_n 0, 1) := by decide +kernel
theorem d_La_law_759 : decode code 759 = .ok (.iload_n 3, 1) := by decide +kernel
theorem d_La_law_760 : decode code 760 = .ok (.iconst 3, 1) := by decide +kernel
theorem d_La_law_761 : decode code 761 = .ok (.iadd, 1) := by decide +kernel
theorem d_La_law_762 : decode code 762 = .ok (.iaload, 1) := by decide +kernel
theorem d_La_law_763 : decode code 763 = .ok (.invokevirtual 101, 3) := by decide +kernel
theorem d_La_law_766 : decode code 766 = .ok (.if_icmp .eq 523, 3) := by decide +kernel
theorem d_La_law_769 : decode code 769 = .ok (.iconst 0, 1) := by decide +kernel
theorem d_La_law_770 : decode code 770 = .ok (.ireturn, 1) := by decide +kernel
theorem d_La_law_771 : decode code 771 = .ok (.aload_n 1, 1) := by decide +kernel
theorem d_La_law_772 : decode code 772 = .ok (.aload_n 0, 1) := by decide +kernel
theorem d_La_law_773 : decode code 773 = .ok (.iload_n 3, 1) := by decide +kernel
theorem d_La_law_774 : decode code 774 = .ok (.iconst 1, 1) := by decide +kernel
theorem d_La_law_775 : decode code 775 = .ok (.iadd, 1) := by decide +kernel
theorem d_La_law_776 : decode code 776 = .ok (.iaload, 1) := by decide +kernel
theorem d_La_law_777 : decode code 777 = .ok (.invokevirtual 102, 3) := by decide +kernel
theorem d_La_law_780 : decode code 780 = .ok (.aload_n 2, 1) := by decide +kernel
theorem d_La_law_781 : decode code 781 = .ok (.aload_n 0, 1) := by decide +kernel
theorem d_La_law_782 : decode code 782 = .ok (.iload_n 3, 1) := by decide +kernel
theorem d_La_law_783 : decode code 783 = .ok (.iconst 1, 1) := by decide +kernel
theorem d_La_law_784 : decode code 784 = .ok (.iadd, 1) := by decide +kernel
theorem d_La_law_785 : decode code 785 = .ok (.iaload, 1) := by decide +kernel
theorem d_La_law_786 : decode code 786 = .ok (.invokevirtual 105, 3) := by decide +kernel
theorem d_La_law_789 : decode code 789 = .ok (.if_icmp .eq 500, 3) := by decide +kernel
theorem d_La_law_792 : decode code 792 = .ok (.iconst 0, 1) := by decide +kernel
theorem d_La_law_793 : decode code 793 = .ok (.ireturn, 1) := by decide +kernel
theorem d_La_law_794 : decode code 794 = .ok (.aload_n 1, 1) := by decide +kernel
theorem d_La_law_795 : decode code 795 = .ok (.aload_n 0, 1) := by decide +kernel
theorem d_La_law_796 : decode code 796 = .ok (.iload_n 3, 1) := by decide +kernel
theorem d_La_law_797 : decode code 797 = .ok (.iconst 1, 1) := by decide +kernel
theorem d_La_law_798 : decode code 798 = .ok (.iadd, 1) := by decide +kernel
theorem d_La_law_799 : decode code 799 = .ok (.iaload, 1) := by decide +kernel
theorem d_La_law_800 : decode code 800 = .ok (.invokevirtual 106, 3) := by decide +kernel
theorem d_La_law_803 : decode code 803 = .ok (.aload_n 2, 1) := by decide +kernel
theorem d_La_law_804 : decode code 804 = .ok (.aload_n 0, 1) := by decide +kernel
theorem d_La_law_805 : decode code 805 = .ok (.iload_n 3, 1) := by decide +kernel
theorem d_La_law_806 : decode code 806 = .ok (.iconst 1, 1) := by decide +kernel
theorem d_La_law_807 : decode code 807 = .ok (.iadd, 1) := by decide +kernel
theorem d_La_law_808 : decode code 808 = .ok (.iaload, 1) := by decide +kernel
theorem d_La_law_809 : decode code 809 = .ok (.invokevirtual 109, 3) := by decide +kernel
theorem d_La_law_812 : decode code 812 = .ok (.if_icmp .eq 477, 3) := by decide +kernel
theorem d_La_law_815 : decode code 815 = .ok (.iconst 0, 1) := by decide +kernel
theorem d_La_law_816 : decode code 816 = .ok (.ireturn, 1) := by decide +kernel
theorem d_La_law_817 : decode code 817 = .ok (.aload_n 1, 1) := by decide +kernel
theorem d_La_law_818 : decode code 818 = .ok (.aload_n 0, 1) := by decide +kernel
theorem d_La_law_819 : decode code 819 = .ok (.iload_n 3, 1) := by decide +kernel
theorem d_La_law_820 : decode code 820 = .ok (.iconst 1, 1) := by decide +kernel
theorem d_La_law_821 : decode code 821 = .ok (.iadd, 1) := by decide +kernel
theorem d_La_law_822 : decode code 822 = .ok (.iaload, 1) := by decide +kernel
theorem d_La_law_823 : decode code 823 = .ok (.aload_n 0, 1) := by decide +kernel
theorem d_La_law_824 : decode code 824 = .ok (.iload_n 3, 1) := by decide +kernel
theorem d_La_law_825 : decode code 825 = .ok (.iconst 2, 1) := by decide +kernel
theorem d_La_law_826 : decode code 826 = .ok (.iadd, 1) := by decide +kernel
theorem d_La_law_827 : decode code 827 = .ok (.iaload, 1) := by decide +kernel
theorem d_La_law_828 : decode code 828 = .ok (.invokevirtual 110, 3) := by decide +kernel
theorem d_La_law_831 : decode code 831 = .ok (.aload_n 2, 1) := by decide +kernel
theorem d_La_law_832 : decode code 832 = .ok (.aload_n 0, 1) := by decide +kernel
theorem d_La_law_833 : decode code 833 = .ok (.iload_n 3, 1) := by decide +kernel
theorem d_La_law_834 : decode code 834 = .ok (.iconst 1, 1) := by decide +kernel
theorem d_La_law_835 : decode code 835 = .ok (.iadd, 1) := by decide +kernel
theorem d_La_law_836 : decode code 836 = .ok (.iaload, 1) := by decide +kernel
theorem d_La_law_837 : decode code 837 = .ok (.aload_n 0, 1) := by decide +kernel
theorem d_La_law_838 : decode code 838 = .ok (.iload_n 3, 1) := by decide +kernel
theorem d_La_law_839 : decode code 839 = .ok (.iconst 2, 1) := by decide +kernel
theorem d_La_law_840 : decode code 840 = .ok (.iadd, 1) := by decide +kernel
theorem d_La_law_841 : decode code 841 = .ok (.iaload, 1) := by decide +kernel
theorem d_La_law_842 : decode code 842 = .ok (.invokevirtual 113, 3) := by decide +kernel
theorem d_La_law_845 : decode code 845 = .ok (.if_icmp .eq 444, 3) := by decide +kernel
theorem d_La_law_848 : decode code 848 = .ok (.iconst 0, 1) := by decide +kernel
theorem d_La_law_849 : decode code 849 = .ok (.ireturn, 1) := by decide +kernel
theorem d_La_law_850 : decode code 850 = .ok (.aload_n 1, 1) := by decide +kernel
theorem d_La_law_851 : decode code 851 = .ok (.aload_n 0, 1) := by decide +kernel
theorem d_La_law_852 : decode code 852 = .ok (.iload_n 3, 1) := by decide +kernel
theorem d_La_law_853 : decode code 853 = .ok (.iconst 1, 1) := by decide +kernel
theorem d_La_law_854 : decode code 854 = .ok (.iadd, 1) := by decide +kernel
theorem d_La_law_855 : decode code 855 = .ok (.iaload, 1) := by decide +kernel
theorem d_La_law_856 : decode code 856 = .ok (.aload_n 0, 1) := by decide +kernel
theorem d_La_law_857 : decode code 857 = .ok (.iload_n 3, 1) := by decide +kernel
theorem d_La_law_858 : decode code 858 = .ok (.iconst 2, 1) := by decide +kernel
theorem d_La_law_859 : decode code 859 = .ok (.iadd, 1) := by decide +kernel
theorem d_La_law_860 : decode code 860 = .ok (.iaload, 1) := by decide +kernel
theorem d_La_law_861 : decode code 861 = .ok (.aload_n 0, 1) := by decide +kernel
theorem d_La_law_862 : decode code 862 = .ok (.iload_n 3, 1) := by decide +kernel
theorem d_La_law_863 : decode code 863 = .ok (.iconst 3, 1) := by decide +kernel
theorem d_La_law_864 : decode code 864 = .ok (.iadd, 1) := by decide +kernel
theorem d_La_law_865 : decode code 865 = .ok (.iaload, 1) := by decide +kernel
theorem d_La_law_866 : decode code 866 = .ok (.invokevirtual 114, 3) := by decide +kernel
theorem d_La_law_869 : decode code 869 = .ok (.aload_n 2, 1) := by decide +kernel
theorem d_La_law_870 : decode code 870 = .ok (.aload_n 0, 1) := by decide +kernel
theorem d_La_law_871 : decode code 871 = .ok (.iload_n 3, 1) := by decide +kernel
theorem d_La_law_872 : decode code 872 = .ok (.iconst 1, 1) := by decide +kernel
theorem d_La_law_873 : decode code 873 = .ok (.iadd, 1) := by decide +kernel
theorem d_La_law_874 : decode code 874 = .ok (.iaload, 1) := by decide +kernel
theorem d_La_law_875 : decode code 875 = .ok (.aload_n 0, 1) := by decide +kernel
theorem d_La_law_876 : decode code 876 = .ok (.iload_n 3, 1) := by decide +kernel
theorem d_La_law_877 : decode code 877 = .ok (.iconst 2, 1) := by decide +kernel
theorem d_La_law_878 : decode code 878 = .ok (.iadd, 1) := by decide +kernel
theorem d_La_law_879 : decode code 879 = .ok (.iaload, 1) := by decide +kernel
theorem d_La_law_880 : decode code 880 = .ok (.aload_n 0, 1) := by decide +kernel
theorem d_La_law_881 : decode code 881 = .ok (.iload_n 3, 1) := by decide +kernel
theorem d_La_law_882 : decode code 882 = .ok (.iconst 3, 1) := by decide +kernel
theorem d_La_law_883 : decode code 883 = .ok (.iadd, 1) := by decide +kernel
theorem d_La_law_884 : decode code 884 = .ok (.iaload, 1) := by decide +kernel
theorem d_La_law_885 : decode code 885 = .ok (.invokevirtual 117, 3) := by decide +kernel
theorem d_La_law_888 : decode code 888 = .ok (.if_icmp .eq 401, 3) := by decide +kernel
theorem d_La_law_891 : decode code 891 = .ok (.iconst 0, 1) := by decide +kernel
theorem d_La_law_892 : decode code 892 = .ok (.ireturn, 1) := by decide +kernel
theorem d_La_law_893 : decode code 893 = .ok (.aload_n 1, 1) := by decide +kernel
theorem d_La_law_894 : decode code 894 = .ok (.aload_n 0, 1) := by decide +kernel
theorem d_La_law_895 : decode code 895 = .ok (.iload_n 3, 1) := by decide +kernel
theorem d_La_law_896 : decode code 896 = .ok (.iconst 1, 1) := by decide +kernel
theorem d_La_law_897 : decode code 897 = .ok (.iadd, 1) := by decide +kernel
theorem d_La_law_898 : decode code 898 = .ok (.iaload, 1) := by decide +kernel
theorem d_La_law_899 : decode code 899 = .ok (.aload_n 0, 1) := by decide +kernel
theorem d_La_law_900 : decode code 900 = .ok (.iload_n 3, 1) := by decide +kernel
theorem d_La_law_901 : decode code 901 = .ok (.iconst 2, 1) := by decide +kernel
theorem d_La_law_902 : decode code 902 = .ok (.iadd, 1) := by decide +kernel
theorem d_La_law_903 : decode code 903 = .ok (.iaload, 1) := by decide +kernel
theorem d_La_law_904 : decode code 904 = .ok (.invokevirtual 118, 3) := by decide +kernel
theorem d_La_law_907 : decode code 907 = .ok (.aload_n 2, 1) := by decide +kernel
theorem d_La_law_908 : decode code 908 = .ok (.aload_n 0, 1) := by decide +kernel
theorem d_La_law_909 : decode code 909 = .ok (.iload_n 3, 1) := by decide +kernel
theorem d_La_law_910 : decode code 910 = .ok (.iconst 1, 1) := by decide +kernel
theorem d_La_law_911 : decode code 911 = .ok (.iadd, 1) := by decide +kernel
theorem d_La_law_912 : decode code 912 = .ok (.iaload, 1) := by decide +kernel
theorem d_La_law_913 : decode code 913 = .ok (.aload_n 0, 1) := by decide +kernel
theorem d_La_law_914 : decode code 914 = .ok (.iload_n 3, 1) := by decide +kernel
theorem d_La_law_915 : decode code 915 = .ok (.iconst 2, 1) := by decide +kernel
theorem d_La_law_916 : decode code 916 = .ok (.iadd, 1) := by decide +kernel
theorem d_La_law_917 : decode code 917 = .ok (.iaload, 1) := by decide +kernel
theorem d_La_law_918 : decode code 918 = .ok (.invokevirtual 121, 3) := by decide +kernel
theorem d_La_law_921 : decode code 921 = .ok (.if_icmp .eq 368, 3) := by decide +kernel
theorem d_La_law_924 : decode code 924 = .ok (.iconst 0, 1) := by decide +kernel
theorem d_La_law_925 : decode code 925 = .ok (.ireturn, 1) := by decide +kernel
theorem d_La_law_926 : decode code 926 = .ok (.aload_n 1, 1) := by decide +kernel
theorem d_La_law_927 : decode code 927 = .ok (.aload_n 0, 1) := by decide +kernel
theorem d_La_law_928 : decode code 928 = .ok (.iload_n 3, 1) := by decide +kernel
theorem d_La_law_929 : decode code 929 = .ok (.iconst 1, 1) := by decide +kernel
theorem d_La_law_930 : decode code 930 = .ok (.iadd, 1) := by decide +kernel
theorem d_La_law_931 : decode code 931 = .ok (.iaload, 1) := by decide +kernel
theorem d_La_law_932 : decode code 932 = .ok (.aload_n 0, 1) := by decide +kernel
theorem d_La_law_933 : decode code 933 = .ok (.iload_n 3, 1) := by decide +kernel
theorem d_La_law_934 : decode code 934 = .ok (.iconst 2, 1) := by decide +kernel
theorem d_La_law_935 : decode code 935 = .ok (.iadd, 1) := by decide +kernel
theorem d_La_law_936 : decode code 936 = .ok (.iaload, 1) := by decide +kernel
theorem d_La_law_937 : decode code 937 = .ok (.invokevirtual 122, 3) := by decide +kernel
theorem d_La_law_940 : decode code 940 = .ok (.aload_n 2, 1) := by decide +kernel
theorem d_La_law_941 : decode code 941 = .ok (.aload_n 0, 1) := by decide +kernel
theorem d_La_law_942 : decode code 942 = .ok (.iload_n 3, 1) := by decide +kernel
theorem d_La_law_943 : decode code 943 = .ok (.iconst 1, 1) := by decide +kernel
theorem d_La_law_944 : decode code 944 = .ok (.iadd, 1) := by decide +kernel
theorem d_La_law_945 : decode code 945 = .ok (.iaload, 1) := by decide +kernel
theorem d_La_law_946 : decode code 946 = .ok (.aload_n 0, 1) := by decide +kernel
theorem d_La_law_947 : decode code 947 = .ok (.iload_n 3, 1) := by decide +kernel
theorem d_La_law_948 : decode code 948 = .ok (.iconst 2, 1) := by decide +kernel
theorem d_La_law_949 : decode code 949 = .ok (.iadd, 1) := by decide +kernel
theorem d_La_law_950 : decode code 950 = .ok (.iaload, 1) := by decide +kernel
theorem d_La_law_951 : decode code 951 = .ok (.invokevirtual 125, 3) := by decide +kernel
theorem d_La_law_954 : decode code 954 = .ok (.if_icmp .eq 335, 3) := by decide +kernel
theorem d_La_law_957 : decode code 957 = .ok (.iconst 0, 1) := by decide +kernel
theorem d_La_law_958 : decode code 958 = .ok (.ireturn, 1) := by decide +kernel
theorem d_La_law_959 : decode code 959 = .ok (.aload_n 1, 1) := by decide +kernel
theorem d_La_law_960 : decode code 960 = .ok (.aload_n 0, 1) := by decide +kernel
theorem d_La_law_961 : decode code 961 = .ok (.iload_n 3, 1) := by decide +kernel
theorem d_La_law_962 : decode code 962 = .ok (.iconst 1, 1) := by decide +kernel
theorem d_La_law_963 : decode code 963 = .ok (.iadd, 1) := by decide +kernel
theorem d_La_law_964 : decode code 964 = .ok (.iaload, 1) := by decide +kernel
theorem d_La_law_965 : decode code 965 = .ok (.aload_n 0, 1) := by decide +kernel
theorem d_La_law_966 : decode code 966 = .ok (.iload_n 3, 1) := by decide +kernel
theorem d_La_law_967 : decode code 967 = .ok (.iconst 2, 1) := by decide +kernel
theorem d_La_law_968 : decode code 968 = .ok (.iadd, 1) := by decide +kernel
theorem d_La_law_969 : decode code 969 = .ok (.iaload, 1) := by decide +kernel
theorem d_La_law_970 : decode code 970 = .ok (.invokevirtual 126, 3) := by decide +kernel
theorem d_La_law_973 : decode code 973 = .ok (.aload_n 2, 1) := by decide +kernel
theorem d_La_law_974 : decode code 974 = .ok (.aload_n 0, 1) := by decide +kernel
theorem d_La_law_975 : decode code 975 = .ok (.iload_n 3, 1) := by decide +kernel
theorem d_La_law_976 : decode code 976 = .ok (.iconst 1, 1) := by decide +kernel
theorem d_La_law_977 : decode code 977 = .ok (.iadd, 1) := by decide +kernel
theorem d_La_law_978 : decode code 978 = .ok (.iaload, 1) := by decide +kernel
theorem d_La_law_979 : decode code 979 = .ok (.aload_n 0, 1) := by decide +kernel
theorem d_La_law_980 : decode code 980 = .ok (.iload_n 3, 1) := by decide +kernel
theorem d_La_law_981 : decode code 981 = .ok (.iconst 2, 1) := by decide +kernel
theorem d_La_law_982 : decode code 982 = .ok (.iadd, 1) := by decide +kernel
theorem d_La_law_983 : decode code 983 = .ok (.iaload, 1) := by decide +kernel
theorem d_La_law_984 : decode code 984 = .ok (.invokevirtual 129, 3) := by decide +kernel
theorem d_La_law_987 : decode code 987 = .ok (.if_icmp .eq 302, 3) := by decide +kernel
theorem d_La_law_990 : decode code 990 = .ok (.iconst 0, 1) := by decide +kernel
theorem d_La_law_991 : decode code 991 = .ok (.ireturn, 1) := by decide +kernel
theorem d_La_law_992 : decode code 992 = .ok (.aload_n 1, 1) := by decide +kernel
theorem d_La_law_993 : decode code 993 = .ok (.invokevirtual 130, 3) := by decide +kernel
theorem d_La_law_996 : decode code 996 = .ok (.aload_n 2, 1) := by decide +kernel
theorem d_La_law_997 : decode code 997 = .ok (.invokevirtual 133, 3) := by decide +kernel
theorem d_La_law_1000 : decode code 1000 = .ok (.if_icmp .eq 289, 3) := by decide +kernel
theorem d_La_law_1003 : decode code 1003 = .ok (.iconst 0, 1) := by decide +kernel
theorem d_La_law_1004 : decode code 1004 = .ok (.ireturn, 1) := by decide +kernel
theorem d_La_law_1005 : decode code 1005 = .ok (.aload_n 1, 1) := by decide +kernel
theorem d_La_law_1006 : decode code 1006 = .ok (.invokevirtual 134, 3) := by decide +kernel
theorem d_La_law_1009 : decode code 1009 = .ok (.aload_n 2, 1) := by decide +kernel
theorem d_La_law_1010 : decode code 1010 = .ok (.invokevirtual 137, 3) := by decide +kernel
theorem d_La_law_1013 : decode code 1013 = .ok (.if_icmp .eq 276, 3) := by decide +kernel
theorem d_La_law_1016 : decode code 1016 = .ok (.iconst 0, 1) := by decide +kernel
theorem d_La_law_1017 : decode code 1017 = .ok (.ireturn, 1) := by decide +kernel
theorem d_La_law_1018 : decode code 1018 = .ok (.aload_n 1, 1) := by decide +kernel
theorem d_La_law_1019 : decode code 1019 = .ok (.aload_n 0, 1) := by decide +kernel
theorem d_La_law_1020 : decode code 1020 = .ok (.iload_n 3, 1) := by decide +kernel
theorem d_La_law_1021 : decode code 1021 = .ok (.iconst 1, 1) := by decide +kernel
theorem d_La_law_1022 : decode code 1022 = .ok (.iadd, 1) := by decide +kernel
theorem d_La_law_1023 : decode code 1023 = .ok (.iaload, 1) := by decide +kernel
theorem d_La_law_1024 : decode code 1024 = .ok (.invokevirtual 138, 3) := by decide +kernel
theorem d_La_law_1027 : decode code 1027 = .ok (.aload_n 2, 1) := by decide +kernel
theorem d_La_law_1028 : decode code 1028 = .ok (.aload_n 0, 1) := by decide +kernel
theorem d_La_law_1029 : decode code 1029 = .ok (.iload_n 3, 1) := by decide +kernel
theorem d_La_law_1030 : decode code 1030 = .ok (.iconst 1, 1) := by decide +kernel
theorem d_La_law_1031 : decode code 1031 = .ok (.iadd, 1) := by decide +kernel
theorem d_La_law_1032 : decode code 1032 = .ok (.iaload, 1) := by decide +kernel
theorem d_La_law_1033 : decode code 1033 = .ok (.invokevirtual 141, 3) := by decide +kernel
theorem d_La_law_1036 : decode code 1036 = .ok (.if_icmp .eq 253, 3) := by decide +kernel
theorem d_La_law_1039 : decode code 1039 = .ok (.iconst 0, 1) := by decide +kernel
theorem d_La_law_1040 : decode code 1040 = .ok (.ireturn, 1) := by decide +kernel
theorem d_La_law_1041 : decode code 1041 = .ok (.aload_n 1, 1) := by decide +kernel
theorem d_La_law_1042 : decode code 1042 = .ok (.aload_n 0, 1) := by decide +kernel
theorem d_La_law_1043 : decode code 1043 = .ok (.iload_n 3, 1) := by decide +kernel
theorem d_La_law_1044 : decode code 1044 = .ok (.iconst 1, 1) := by decide +kernel
theorem d_La_law_1045 : decode code 1045 = .ok (.iadd, 1) := by decide +kernel
theorem d_La_law_1046 : decode code 1046 = .ok (.iaload, 1) := by decide +kernel
theorem d_La_law_1047 : decode code 1047 = .ok (.invokevirtual 142, 3) := by decide +kernel
theorem d_La_law_1050 : decode code 1050 = .ok (.aload_n 2, 1) := by decide +kernel
theorem d_La_law_1051 : decode code 1051 = .ok (.aload_n 0, 1) := by decide +kernel
theorem d_La_law_1052 : decode code 1052 = .ok (.iload_n 3, 1) := by decide +kernel
theorem d_La_law_1053 : decode code 1053 = .ok (.iconst 1, 1) := by decide +kernel
theorem d_La_law_1054 : decode code 1054 = .ok (.iadd, 1) := by decide +kernel
theorem d_La_law_1055 : decode code 1055 = .ok (.iaload, 1) := by decide +kernel
theorem d_La_law_1056 : decode code 1056 = .ok (.invokevirtual 145, 3) := by decide +kernel
theorem d_La_law_1059 : decode code 1059 = .ok (.if_icmp .eq 230, 3) := by decide +kernel
theorem d_La_law_1062 : decode code 1062 = .ok (.iconst 0, 1) := by decide +kernel
theorem d_La_law_1063 : decode code 1063 = .ok (.ireturn, 1) := by decide +kernel
theorem d_La_law_1064 : decode code 1064 = .ok (.aload_n 1, 1) := by decide +kernel
theorem d_La_law_1065 : decode code 1065 = .ok (.aload_n 0, 1) := by decide +kernel
theorem d_La_law_1066 : decode code 1066 = .ok (.iload_n 3, 1) := by decide +kernel
theorem d_La_law_1067 : decode code 1067 = .ok (.iconst 1, 1) := by decide +kernel
theorem d_La_law_1068 : decode code 1068 = .ok (.iadd, 1) := by decide +kernel
theorem d_La_law_1069 : decode code 1069 = .ok (.iaload, 1) := by decide +kernel
theorem d_La_law_1070 : decode code 1070 = .ok (.aload_n 0, 1) := by decide +kernel
theorem d_La_law_1071 : decode code 1071 = .ok (.iload_n 3, 1) := by decide +kernel
theorem d_La_law_1072 : decode code 1072 = .ok (.iconst 2, 1) := by decide +kernel
theorem d_La_law_1073 : decode code 1073 = .ok (.iadd, 1) := by decide +kernel
theorem d_La_law_1074 : decode code 1074 = .ok (.iaload, 1) := by decide +kernel
theorem d_La_law_1075 : decode code 1075 = .ok (.invokevirtual 146, 3) := by decide +kernel
theorem d_La_law_1078 : decode code 1078 = .ok (.aload_n 2, 1) := by decide +kernel
theorem d_La_law_1079 : decode code 1079 = .ok (.aload_n 0, 1) := by decide +kernel
theorem d_La_law_1080 : decode code 1080 = .ok (.iload_n 3, 1) := by decide +kernel
theorem d_La_law_1081 : decode code 1081 = .ok (.iconst 1, 1) := by decide +kernel
theorem d_La_law_1082 : decode code 1082 = .ok (.iadd, 1) := by decide +kernel
theorem d_La_law_1083 : decode code 1083 = .ok (.iaload, 1) := by decide +kernel
theorem d_La_law_1084 : decode code 1084 = .ok (.aload_n 0, 1) := by decide +kernel
theorem d_La_law_1085 : decode code 1085 = .ok (.iload_n 3, 1) := by decide +kernel
theorem d_La_law_1086 : decode code 1086 = .ok (.iconst 2, 1) := by decide +kernel
theorem d_La_law_1087 : decode code 1087 = .ok (.iadd, 1) := by decide +kernel
theorem d_La_law_1088 : decode code 1088 = .ok (.iaload, 1) := by decide +kernel
theorem d_La_law_1089 : decode code 1089 = .ok (.invokevirtual 150, 3) := by decide +kernel
theorem d_La_law_1092 : decode code 1092 = .ok (.lcmp, 1) := by decide +kernel
theorem d_La_law_1093 : decode code 1093 = .ok (.ifCond .eq 196, 3) := by decide +kernel
theorem d_La_law_1096 : decode code 1096 = .ok (.iconst 0, 1) := by decide +kernel
theorem d_La_law_1097 : decode code 1097 = .ok (.ireturn, 1) := by decide +kernel
theorem d_La_law_1098 : decode code 1098 = .ok (.aload_n 1, 1) := by decide +kernel
theorem d_La_law_1099 : decode code 1099 = .ok (.aload_n 0, 1) := by decide +kernel
theorem d_La_law_1100 : decode code 1100 = .ok (.iload_n 3, 1) := by decide +kernel
theorem d_La_law_1101 : decode code 1101 = .ok (.iconst 1, 1) := by decide +kernel
theorem d_La_law_1102 : decode code 1102 = .ok (.iadd, 1) := by decide +kernel
theorem d_La_law_1103 : decode code 1103 = .ok (.iaload, 1) := by decide +kernel
theorem d_La_law_1104 : decode code 1104 = .ok (.aload_n 0, 1) := by decide +kernel
theorem d_La_law_1105 : decode code 1105 = .ok (.iload_n 3, 1) := by decide +kernel
theorem d_La_law_1106 : decode code 1106 = .ok (.iconst 2, 1) := by decide +kernel
theorem d_La_law_1107 : decode code 1107 = .ok (.iadd, 1) := by decide +kernel
theorem d_La_law_1108 : decode code 1108 = .ok (.iaload, 1) := by decide +kernel
theorem d_La_law_1109 : decode code 1109 = .ok (.aload_n 0, 1) := by decide +kernel
theorem d_La_law_1110 : decode code 1110 = .ok (.iload_n 3, 1) := by decide +kernel
theorem d_La_law_1111 : decode code 1111 = .ok (.iconst 3, 1) := by decide +kernel
theorem d_La_law_1112 : decode code 1112 = .ok (.iadd, 1) := by decide +kernel
theorem d_La_law_1113 : decode code 1113 = .ok (.iaload, 1) := by decide +kernel
theorem d_La_law_1114 : decode code 1114 = .ok (.invokevirtual 151, 3) := by decide +kernel
theorem d_La_law_1117 : decode code 1117 = .ok (.aload_n 2, 1) := by decide +kernel
theorem d_La_law_1118 : decode code 1118 = .ok (.aload_n 0, 1) := by decide +kernel
theorem d_La_law_1119 : decode code 1119 = .ok (.iload_n 3, 1) := by decide +kernel
theorem d_La_law_1120 : decode code 1120 = .ok (.iconst 1, 1) := by decide +kernel
theorem d_La_law_1121 : decode code 1121 = .ok (.iadd, 1) := by decide +kernel
theorem d_La_law_1122 : decode code 1122 = .ok (.iaload, 1) := by decide +kernel
theorem d_La_law_1123 : decode code 1123 = .ok (.aload_n 0, 1) := by decide +kernel
theorem d_La_law_1124 : decode code 1124 = .ok (.iload_n 3, 1) := by decide +kernel
theorem d_La_law_1125 : decode code 1125 = .ok (.iconst 2, 1) := by decide +kernel
theorem d_La_law_1126 : decode code 1126 = .ok (.iadd, 1) := by decide +kernel
theorem d_La_law_1127 : decode code 1127 = .ok (.iaload, 1) := by decide +kernel
theorem d_La_law_1128 : decode code 1128 = .ok (.aload_n 0, 1) := by decide +kernel
theorem d_La_law_1129 : decode code 1129 = .ok (.iload_n 3, 1) := by decide +kernel
theorem d_La_law_1130 : decode code 1130 = .ok (.iconst 3, 1) := by decide +kernel
theorem d_La_law_1131 : decode code 1131 = .ok (.iadd, 1) := by decide +kernel
theorem d_La_law_1132 : decode code 1132 = .ok (.iaload, 1) := by decide +kernel
theorem d_La_law_1133 : decode code 1133 = .ok (.invokevirtual 154, 3) := by decide +kernel
theorem d_La_law_1136 : decode code 1136 = .ok (.if_icmp .eq 153, 3) := by decide +kernel
theorem d_La_law_1139 : decode code 1139 = .ok (.iconst 0, 1) := by decide +kernel
theorem d_La_law_1140 : decode code 1140 = .ok (.ireturn, 1) := by decide +kernel
theorem d_La_law_1141 : decode code 1141 = .ok (.aload_n 1, 1) := by decide +kernel
theorem d_La_law_1142 : decode code 1142 = .ok (.aload_n 0, 1) := by decide +kernel
theorem d_La_law_1143 : decode code 1143 = .ok (.iload_n 3, 1) := by decide +kernel
theorem d_La_law_1144 : decode code 1144 = .ok (.iconst 1, 1) := by decide +kernel
theorem d_La_law_1145 : decode code 1145 = .ok (.iadd, 1) := by decide +kernel
theorem d_La_law_1146 : decode code 1146 = .ok (.iaload, 1) := by decide +kernel
theorem d_La_law_1147 : decode code 1147 = .ok (.aload_n 0, 1) := by decide +kernel
theorem d_La_law_1148 : decode code 1148 = .ok (.iload_n 3, 1) := by decide +kernel
theorem d_La_law_1149 : decode code 1149 = .ok (.iconst 2, 1) := by decide +kernel
theorem d_La_law_1150 : decode code 1150 = .ok (.iadd, 1) := by decide +kernel
theorem d_La_law_1151 : decode code 1151 = .ok (.iaload, 1) := by decide +kernel
theorem d_La_law_1152 : decode code 1152 = .ok (.invokevirtual 155, 3) := by decide +kernel
theorem d_La_law_1155 : decode code 1155 = .ok (.aload_n 2, 1) := by decide +kernel
theorem d_La_law_1156 : decode code 1156 = .ok (.aload_n 0, 1) := by decide +kernel
theorem d_La_law_1157 : decode code 1157 = .ok (.iload_n 3, 1) := by decide +kernel
theorem d_La_law_1158 : decode code 1158 = .ok (.iconst 1, 1) := by decide +kernel
theorem d_La_law_1159 : decode code 1159 = .ok (.iadd, 1) := by decide +kernel
theorem d_La_law_1160 : decode code 1160 = .ok (.iaload, 1) := by decide +kernel
theorem d_La_law_1161 : decode code 1161 = .ok (.aload_n 0, 1) := by decide +kernel
theorem d_La_law_1162 : decode code 1162 = .ok (.iload_n 3, 1) := by decide +kernel
theorem d_La_law_1163 : decode code 1163 = .ok (.iconst 2, 1) := by decide +kernel
theorem d_La_law_1164 : decode code 1164 = .ok (.iadd, 1) := by decide +kernel
theorem d_La_law_1165 : decode code 1165 = .ok (.iaload, 1) := by decide +kernel
theorem d_La_law_1166 : decode code 1166 = .ok (.invokevirtual 158, 3) := by decide +kernel
theorem d_La_law_1169 : decode code 1169 = .ok (.if_icmp .eq 120, 3) := by decide +kernel
theorem d_La_law_1172 : decode code 1172 = .ok (.iconst 0, 1) := by decide +kernel
theorem d_La_law_1173 : decode code 1173 = .ok (.ireturn, 1) := by decide +kernel
theorem d_La_law_1174 : decode code 1174 = .ok (.aload_n 1, 1) := by decide +kernel
theorem d_La_law_1175 : decode code 1175 = .ok (.aload_n 0, 1) := by decide +kernel
theorem d_La_law_1176 : decode code 1176 = .ok (.iload_n 3, 1) := by decide +kernel
theorem d_La_law_1177 : decode code 1177 = .ok (.iconst 1, 1) := by decide +kernel
theorem d_La_law_1178 : decode code 1178 = .ok (.iadd, 1) := by decide +kernel
theorem d_La_law_1179 : decode code 1179 = .ok (.iaload, 1) := by decide +kernel
theorem d_La_law_1180 : decode code 1180 = .ok (.aload_n 0, 1) := by decide +kernel
theorem d_La_law_1181 : decode code 1181 = .ok (.iload_n 3, 1) := by decide +kernel
theorem d_La_law_1182 : decode code 1182 = .ok (.iconst 2, 1) := by decide +kernel
theorem d_La_law_1183 : decode code 1183 = .ok (.iadd, 1) := by decide +kernel
theorem d_La_law_1184 : decode code 1184 = .ok (.iaload, 1) := by decide +kernel
theorem d_La_law_1185 : decode code 1185 = .ok (.invokevirtual 159, 3) := by decide +kernel
theorem d_La_law_1188 : decode code 1188 = .ok (.aload_n 2, 1) := by decide +kernel
theorem d_La_law_1189 : decode code 1189 = .ok (.aload_n 0, 1) := by decide +kernel
theorem d_La_law_1190 : decode code 1190 = .ok (.iload_n 3, 1) := by decide +kernel
theorem d_La_law_1191 : decode code 1191 = .ok (.iconst 1, 1) := by decide +kernel
theorem d_La_law_1192 : decode code 1192 = .ok (.iadd, 1) := by decide +kernel
theorem d_La_law_1193 : decode code 1193 = .ok (.iaload, 1) := by decide +kernel
theorem d_La_law_1194 : decode code 1194 = .ok (.aload_n 0, 1) := by decide +kernel
theorem d_La_law_1195 : decode code 1195 = .ok (.iload_n 3, 1) := by decide +kernel
theorem d_La_law_1196 : decode code 1196 = .ok (.iconst 2, 1) := by decide +kernel
theorem d_La_law_1197 : decode code 1197 = .ok (.iadd, 1) := by decide +kernel
theorem d_La_law_1198 : decode code 1198 = .ok (.iaload, 1) := by decide +kernel
theorem d_La_law_1199 : decode code 1199 = .ok (.invokevirtual 162, 3) := by decide +kernel
theorem d_La_law_1202 : decode code 1202 = .ok (.if_icmp .eq 87, 3) := by decide +kernel
theorem d_La_law_1205 : decode code 1205 = .ok (.iconst 0, 1) := by decide +kernel
theorem d_La_law_1206 : decode code 1206 = .ok (.ireturn, 1) := by decide +kernel
theorem d_La_law_1207 : decode code 1207 = .ok (.aload_n 1, 1) := by decide +kernel
theorem d_La_law_1208 : decode code 1208 = .ok (.aload_n 0, 1) := by decide +kernel
theorem d_La_law_1209 : decode code 1209 = .ok (.iload_n 3, 1) := by decide +kernel
theorem d_La_law_1210 : decode code 1210 = .ok (.iconst 1, 1) := by decide +kernel
theorem d_La_law_1211 : decode code 1211 = .ok (.iadd, 1) := by decide +kernel
theorem d_La_law_1212 : decode code 1212 = .ok (.iaload, 1) := by decide +kernel
theorem d_La_law_1213 : decode code 1213 = .ok (.invokevirtual 163, 3) := by decide +kernel
theorem d_La_law_1216 : decode code 1216 = .ok (.aload_n 2, 1) := by decide +kernel
theorem d_La_law_1217 : decode code 1217 = .ok (.aload_n 0, 1) := by decide +kernel
theorem d_La_law_1218 : decode code 1218 = .ok (.iload_n 3, 1) := by decide +kernel
theorem d_La_law_1219 : decode code 1219 = .ok (.iconst 1, 1) := by decide +kernel
theorem d_La_law_1220 : decode code 1220 = .ok (.iadd, 1) := by decide +kernel
theorem d_La_law_1221 : decode code 1221 = .ok (.iaload, 1) := by decide +kernel
theorem d_La_law_1222 : decode code 1222 = .ok (.invokevirtual 166, 3) := by decide +kernel
theorem d_La_law_1225 : decode code 1225 = .ok (.if_icmp .eq 64, 3) := by decide +kernel
theorem d_La_law_1228 : decode code 1228 = .ok (.iconst 0, 1) := by decide +kernel
theorem d_La_law_1229 : decode code 1229 = .ok (.ireturn, 1) := by decide +kernel
theorem d_La_law_1230 : decode code 1230 = .ok (.aload_n 1, 1) := by decide +kernel
theorem d_La_law_1231 : decode code 1231 = .ok (.aload_n 0, 1) := by decide +kernel
theorem d_La_law_1232 : decode code 1232 = .ok (.iload_n 3, 1) := by decide +kernel
theorem d_La_law_1233 : decode code 1233 = .ok (.iconst 1, 1) := by decide +kernel
theorem d_La_law_1234 : decode code 1234 = .ok (.iadd, 1) := by decide +kernel
theorem d_La_law_1235 : decode code 1235 = .ok (.iaload, 1) := by decide +kernel
theorem d_La_law_1236 : decode code 1236 = .ok (.invokevirtual 167, 3) := by decide +kernel
theorem d_La_law_1239 : decode code 1239 = .ok (.aload_n 2, 1) := by decide +kernel
theorem d_La_law_1240 : decode code 1240 = .ok (.aload_n 0, 1) := by decide +kernel
theorem d_La_law_1241 : decode code 1241 = .ok (.iload_n 3, 1) := by decide +kernel
theorem d_La_law_1242 : decode code 1242 = .ok (.iconst 1, 1) := by decide +kernel
theorem d_La_law_1243 : decode code 1243 = .ok (.iadd, 1) := by decide +kernel
theorem d_La_law_1244 : decode code 1244 = .ok (.iaload, 1) := by decide +kernel
theorem d_La_law_1245 : decode code 1245 = .ok (.invokevirtual 170, 3) := by decide +kernel
theorem d_La_law_1248 : decode code 1248 = .ok (.if_icmp .eq 41, 3) := by decide +kernel
theorem d_La_law_1251 : decode code 1251 = .ok (.iconst 0, 1) := by decide +kernel
theorem d_La_law_1252 : decode code 1252 = .ok (.ireturn, 1) := by decide +kernel
theorem d_La_law_1253 : decode code 1253 = .ok (.aload_n 1, 1) := by decide +kernel
theorem d_La_law_1254 : decode code 1254 = .ok (.aload_n 0, 1) := by decide +kernel
theorem d_La_law_1255 : decode code 1255 = .ok (.iload_n 3, 1) := by decide +kernel
theorem d_La_law_1256 : decode code 1256 = .ok (.iconst 1, 1) := by decide +kernel
theorem d_La_law_1257 : decode code 1257 = .ok (.iadd, 1) := by decide +kernel
theorem d_La_law_1258 : decode code 1258 = .ok (.iaload, 1) := by decide +kernel
theorem d_La_law_1259 : decode code 1259 = .ok (.invokevirtual 171, 3) := by decide +kernel
theorem d_La_law_1262 : decode code 1262 = .ok (.aload_n 2, 1) := by decide +kernel
theorem d_La_law_1263 : decode code 1263 = .ok (.aload_n 0, 1) := by decide +kernel
theorem d_La_law_1264 : decode code 1264 = .ok (.iload_n 3, 1) := by decide +kernel
theorem d_La_law_1265 : decode code 1265 = .ok (.iconst 1, 1) := by decide +kernel
theorem d_La_law_1266 : decode code 1266 = .ok (.iadd, 1) := by decide +kernel
theorem d_La_law_1267 : decode code 1267 = .ok (.iaload, 1) := by decide +kernel
theorem d_La_law_1268 : decode code 1268 = .ok (.invokevirtual 174, 3) := by decide +kernel
theorem d_La_law_1271 : decode code 1271 = .ok (.if_icmp .eq 18, 3) := by decide +kernel
theorem d_La_law_1274 : decode code 1274 = .ok (.iconst 0, 1) := by decide +kernel
theorem d_La_law_1275 : decode code 1275 = .ok (.ireturn, 1) := by decide +kernel
theorem d_La_law_1276 : decode code 1276 = .ok (.aload_n 1, 1) := by decide +kernel
theorem d_La_law_1277 : decode code 1277 = .ok (.invokevirtual 175, 3) := by decide +kernel
theorem d_La_law_1280 : decode code 1280 = .ok (.aload_n 2, 1) := by decide +kernel
theorem d_La_law_1281 : decode code 1281 = .ok (.invokevirtual 178, 3) := by decide +kernel
theorem d_La_law_1284 : decode code 1284 = .ok (.if_icmp .eq 5, 3) := by decide +kernel
theorem d_La_law_1287 : decode code 1287 = .ok (.iconst 0, 1) := by decide +kernel
theorem d_La_law_1288 : decode code 1288 = .ok (.ireturn, 1) := by decide +kernel
theorem d_La_law_1289 : decode code 1289 = .ok (.iinc 3 6, 3) := by decide +kernel
theorem d_La_law_1292 : decode code 1292 = .ok (.goto (-1274), 3) := by decide +kernel
theorem d_La_law_1295 : decode code 1295 = .ok (.iconst 1, 1) := by decide +kernel
theorem d_La_law_1296 : decode code 1296 = .ok (.ireturn, 1) := by decide +kernel
theorem cl_La_7 : Cond.classLink "EelClerkLaw" 7 (zNm 0) ∈ zGW := zGW_in 143 (by decide +kernel) (by decide +kernel)
theorem lk_La_9 : Cond.methodLink "EelClerkLaw" 9 y_E_init ∈ zGW := zGW_in 145 (by decide +kernel) (by decide +kernel)
theorem cl_La_10 : Cond.classLink "EelClerkLaw" 10 (zNm 11) ∈ zGW := zGW_in 1273 (by decide +kernel) (by decide +kernel)
theorem lk_La_12 : Cond.methodLink "EelClerkLaw" 12 y_M_init ∈ zGW := zGW_in 1275 (by decide +kernel) (by decide +kernel)
theorem lk_La_13 : Cond.methodLink "EelClerkLaw" 13 y_E_spring ∈ zGW := zGW_in 488 (by decide +kernel) (by decide +kernel)
theorem lk_La_17 : Cond.methodLink "EelClerkLaw" 17 y_M_spring ∈ zGW := zGW_in 1457 (by decide +kernel) (by decide +kernel)
theorem lk_La_18 : Cond.methodLink "EelClerkLaw" 18 y_E_channel ∈ zGW := zGW_in 514 (by decide +kernel) (by decide +kernel)
theorem lk_La_22 : Cond.methodLink "EelClerkLaw" 22 y_M_channel ∈ zGW := zGW_in 1465 (by decide +kernel) (by decide +kernel)
theorem lk_La_23 : Cond.methodLink "EelClerkLaw" 23 y_E_of ∈ zGW := zGW_in 530 (by decide +kernel) (by decide +kernel)
theorem lk_La_26 : Cond.methodLink "EelClerkLaw" 26 y_M_of ∈ zGW := zGW_in 1488 (by decide +kernel) (by decide +kernel)
theorem lk_La_27 : Cond.methodLink "EelClerkLaw" 27 y_E_between ∈ zGW := zGW_in 594 (by decide +kernel) (by decide +kernel)
theorem lk_La_30 : Cond.methodLink "EelClerkLaw" 30 y_M_between ∈ zGW := zGW_in 1565 (by decide +kernel) (by decide +kernel)
theorem lk_La_31 : Cond.methodLink "EelClerkLaw" 31 y_E_terms ∈ zGW := zGW_in 607 (by decide +kernel) (by decide +kernel)
theorem lk_La_34 : Cond.methodLink "EelClerkLaw" 34 y_M_terms ∈ zGW := zGW_in 1585 (by decide +kernel) (by decide +kernel)
theorem lk_La_35 : Cond.methodLink "EelClerkLaw" 35 y_E_feed ∈ zGW := zGW_in 622 (by decide +kernel) (by decide +kernel)
theorem lk_La_39 : Cond.methodLink "EelClerkLaw" 39 y_M_feed ∈ zGW := zGW_in 1603 (by decide +kernel) (by decide +kernel)
theorem lk_La_40 : Cond.methodLink "EelClerkLaw" 40 y_E_end ∈ zGW := zGW_in 630 (by decide +kernel) (by decide +kernel)
theorem lk_La_44 : Cond.methodLink "EelClerkLaw" 44 y_M_end ∈ zGW := zGW_in 1607 (by decide +kernel) (by decide +kernel)
theorem lk_La_45 : Cond.methodLink "EelClerkLaw" 45 y_E_row ∈ zGW := zGW_in 634 (by decide +kernel) (by decide +kernel)
theorem lk_La_49 : Cond.methodLink "EelClerkLaw" 49 y_M_row ∈ zGW := zGW_in 1595 (by decide +kernel) (by decide +kernel)
theorem lk_La_50 : Cond.methodLink "EelClerkLaw" 50 y_E_bubbles ∈ zGW := zGW_in 646 (by decide +kernel) (by decide +kernel)
theorem lk_La_53 : Cond.methodLink "EelClerkLaw" 53 y_M_bubbles ∈ zGW := zGW_in 1599 (by decide +kernel) (by decide +kernel)
theorem lk_La_54 : Cond.methodLink "EelClerkLaw" 54 y_E_law ∈ zGW := zGW_in 650 (by decide +kernel) (by decide +kernel)
theorem lk_La_57 : Cond.methodLink "EelClerkLaw" 57 y_M_law ∈ zGW := zGW_in 1611 (by decide +kernel) (by decide +kernel)
theorem lk_La_58 : Cond.methodLink "EelClerkLaw" 58 y_E_orders ∈ zGW := zGW_in 873 (by decide +kernel) (by decide +kernel)
theorem lk_La_61 : Cond.methodLink "EelClerkLaw" 61 y_M_orders ∈ zGW := zGW_in 1914 (by decide +kernel) (by decide +kernel)
theorem lk_La_62 : Cond.methodLink "EelClerkLaw" 62 y_E_fault ∈ zGW := zGW_in 964 (by decide +kernel) (by decide +kernel)
theorem lk_La_65 : Cond.methodLink "EelClerkLaw" 65 y_M_fault ∈ zGW := zGW_in 1702 (by decide +kernel) (by decide +kernel)
theorem lk_La_66 : Cond.methodLink "EelClerkLaw" 66 y_E_stopped ∈ zGW := zGW_in 968 (by decide +kernel) (by decide +kernel)
theorem lk_La_69 : Cond.methodLink "EelClerkLaw" 69 y_M_stopped ∈ zGW := zGW_in 1910 (by decide +kernel) (by decide +kernel)
theorem lk_La_70 : Cond.methodLink "EelClerkLaw" 70 y_E_force ∈ zGW := zGW_in 972 (by decide +kernel) (by decide +kernel)
theorem lk_La_73 : Cond.methodLink "EelClerkLaw" 73 y_M_force ∈ zGW := zGW_in 1706 (by decide +kernel) (by decide +kernel)
theorem lk_La_74 : Cond.methodLink "EelClerkLaw" 74 y_E_swim ∈ zGW := zGW_in 980 (by decide +kernel) (by decide +kernel)
theorem lk_La_77 : Cond.methodLink "EelClerkLaw" 77 y_M_swim ∈ zGW := zGW_in 1718 (by decide +kernel) (by decide +kernel)
theorem lk_La_78 : Cond.methodLink "EelClerkLaw" 78 y_E_gate ∈ zGW := zGW_in 988 (by decide +kernel) (by decide +kernel)
theorem lk_La_81 : Cond.methodLink "EelClerkLaw" 81 y_M_gate ∈ zGW := zGW_in 1742 (by decide +kernel) (by decide +kernel)
theorem lk_La_82 : Cond.methodLink "EelClerkLaw" 82 y_E_stir ∈ zGW := zGW_in 992 (by decide +kernel) (by decide +kernel)
theorem lk_La_85 : Cond.methodLink "EelClerkLaw" 85 y_M_stir ∈ zGW := zGW_in 1754 (by decide +kernel) (by decide +kernel)
theorem lk_La_86 : Cond.methodLink "EelClerkLaw" 86 y_E_pass ∈ zGW := zGW_in 996 (by decide +kernel) (by decide +kernel)
theorem lk_La_89 : Cond.methodLink "EelClerkLaw" 89 y_M_pass ∈ zGW := zGW_in 1762 (by decide +kernel) (by decide +kernel)
theorem lk_La_90 : Cond.methodLink "EelClerkLaw" 90 y_E_undo ∈ zGW := zGW_in 1000 (by decide +kernel) (by decide +kernel)
theorem lk_La_93 : Cond.methodLink "EelClerkLaw" 93 y_M_undo ∈ zGW := zGW_in 1714 (by decide +kernel) (by decide +kernel)
theorem lk_La_94 : Cond.methodLink "EelClerkLaw" 94 y_E_soon ∈ zGW := zGW_in 1008 (by decide +kernel) (by decide +kernel)
theorem lk_La_97 : Cond.methodLink "EelClerkLaw" 97 y_M_soon ∈ zGW := zGW_in 1774 (by decide +kernel) (by decide +kernel)
theorem lk_La_98 : Cond.methodLink "EelClerkLaw" 98 y_E_way ∈ zGW := zGW_in 1016 (by decide +kernel) (by decide +kernel)
theorem lk_La_101 : Cond.methodLink "EelClerkLaw" 101 y_M_way ∈ zGW := zGW_in 1789 (by decide +kernel) (by decide +kernel)
theorem lk_La_102 : Cond.methodLink "EelClerkLaw" 102 y_E_never ∈ zGW := zGW_in 1029 (by decide +kernel) (by decide +kernel)
theorem lk_La_105 : Cond.methodLink "EelClerkLaw" 105 y_M_never ∈ zGW := zGW_in 1797 (by decide +kernel) (by decide +kernel)
theorem lk_La_106 : Cond.methodLink "EelClerkLaw" 106 y_E_centre ∈ zGW := zGW_in 1037 (by decide +kernel) (by decide +kernel)
theorem lk_La_109 : Cond.methodLink "EelClerkLaw" 109 y_M_centre ∈ zGW := zGW_in 1801 (by decide +kernel) (by decide +kernel)
theorem lk_La_110 : Cond.methodLink "EelClerkLaw" 110 y_E_round ∈ zGW := zGW_in 1050 (by decide +kernel) (by decide +kernel)
theorem lk_La_113 : Cond.methodLink "EelClerkLaw" 113 y_M_round ∈ zGW := zGW_in 1808 (by decide +kernel) (by decide +kernel)
theorem lk_La_114 : Cond.methodLink "EelClerkLaw" 114 y_E_bound ∈ zGW := zGW_in 1088 (by decide +kernel) (by decide +kernel)
theorem lk_La_117 : Cond.methodLink "EelClerkLaw" 117 y_M_bound ∈ zGW := zGW_in 1831 (by decide +kernel) (by decide +kernel)
theorem lk_La_118 : Cond.methodLink "EelClerkLaw" 118 y_E_share ∈ zGW := zGW_in 1106 (by decide +kernel) (by decide +kernel)
theorem lk_La_121 : Cond.methodLink "EelClerkLaw" 121 y_M_share ∈ zGW := zGW_in 1843 (by decide +kernel) (by decide +kernel)
theorem lk_La_122 : Cond.methodLink "EelClerkLaw" 122 y_E_sea ∈ zGW := zGW_in 1114 (by decide +kernel) (by decide +kernel)
theorem lk_La_125 : Cond.methodLink "EelClerkLaw" 125 y_M_sea ∈ zGW := zGW_in 1847 (by decide +kernel) (by decide +kernel)
theorem lk_La_126 : Cond.methodLink "EelClerkLaw" 126 y_E_heard ∈ zGW := zGW_in 1157 (by decide +kernel) (by decide +kernel)
theorem lk_La_129 : Cond.methodLink "EelClerkLaw" 129 y_M_heard ∈ zGW := zGW_in 1863 (by decide +kernel) (by decide +kernel)
theorem lk_La_130 : Cond.methodLink "EelClerkLaw" 130 y_E_forget ∈ zGW := zGW_in 1165 (by decide +kernel) (by decide +kernel)
theorem lk_La_133 : Cond.methodLink "EelClerkLaw" 133 y_M_forget ∈ zGW := zGW_in 1867 (by decide +kernel) (by decide +kernel)
theorem lk_La_134 : Cond.methodLink "EelClerkLaw" 134 y_E_canBe ∈ zGW := zGW_in 1169 (by decide +kernel) (by decide +kernel)
theorem lk_La_137 : Cond.methodLink "EelClerkLaw" 137 y_M_canBe ∈ zGW := zGW_in 1871 (by decide +kernel) (by decide +kernel)
theorem lk_La_138 : Cond.methodLink "EelClerkLaw" 138 y_E_since ∈ zGW := zGW_in 1185 (by decide +kernel) (by decide +kernel)
theorem lk_La_141 : Cond.methodLink "EelClerkLaw" 141 y_M_since ∈ zGW := zGW_in 1883 (by decide +kernel) (by decide +kernel)
theorem lk_La_142 : Cond.methodLink "EelClerkLaw" 142 y_E_listen ∈ zGW := zGW_in 1193 (by decide +kernel) (by decide +kernel)
theorem lk_La_145 : Cond.methodLink "EelClerkLaw" 145 y_M_listen ∈ zGW := zGW_in 1887 (by decide +kernel) (by decide +kernel)
theorem lk_La_146 : Cond.methodLink "EelClerkLaw" 146 y_E_few ∈ zGW := zGW_in 1211 (by decide +kernel) (by decide +kernel)
theorem lk_La_150 : Cond.methodLink "EelClerkLaw" 150 y_M_few ∈ zGW := zGW_in 1899 (by decide +kernel) (by decide +kernel)
theorem lk_La_151 : Cond.methodLink "EelClerkLaw" 151 y_E_compare ∈ zGW := zGW_in 1225 (by decide +kernel) (by decide +kernel)
theorem lk_La_154 : Cond.methodLink "EelClerkLaw" 154 y_M_compare ∈ zGW := zGW_in 1906 (by decide +kernel) (by decide +kernel)
theorem lk_La_155 : Cond.methodLink "EelClerkLaw" 155 y_E_years ∈ zGW := zGW_in 1230 (by decide +kernel) (by decide +kernel)
theorem lk_La_158 : Cond.methodLink "EelClerkLaw" 158 y_M_years ∈ zGW := zGW_in 1946 (by decide +kernel) (by decide +kernel)
theorem lk_La_159 : Cond.methodLink "EelClerkLaw" 159 y_E_drawn ∈ zGW := zGW_in 1245 (by decide +kernel) (by decide +kernel)
theorem lk_La_162 : Cond.methodLink "EelClerkLaw" 162 y_M_drawn ∈ zGW := zGW_in 1961 (by decide +kernel) (by decide +kernel)
theorem lk_La_163 : Cond.methodLink "EelClerkLaw" 163 y_E_image ∈ zGW := zGW_in 1249 (by decide +kernel) (by decide +kernel)
theorem lk_La_166 : Cond.methodLink "EelClerkLaw" 166 y_M_image ∈ zGW := zGW_in 1434 (by decide +kernel) (by decide +kernel)
theorem lk_La_167 : Cond.methodLink "EelClerkLaw" 167 y_E_back ∈ zGW := zGW_in 1253 (by decide +kernel) (by decide +kernel)
theorem lk_La_170 : Cond.methodLink "EelClerkLaw" 170 y_M_back ∈ zGW := zGW_in 1449 (by decide +kernel) (by decide +kernel)
theorem lk_La_171 : Cond.methodLink "EelClerkLaw" 171 y_E_count ∈ zGW := zGW_in 1257 (by decide +kernel) (by decide +kernel)
theorem lk_La_174 : Cond.methodLink "EelClerkLaw" 174 y_M_count ∈ zGW := zGW_in 1965 (by decide +kernel) (by decide +kernel)
theorem lk_La_175 : Cond.methodLink "EelClerkLaw" 175 y_E_status ∈ zGW := zGW_in 1269 (by decide +kernel) (by decide +kernel)
theorem lk_La_178 : Cond.methodLink "EelClerkLaw" 178 y_M_status ∈ zGW := zGW_in 1969 (by decide +kernel) (by decide +kernel)
section ZLaw
variable {p : Program} {l : Launch} {e : Env} {R : Room} {s : State} {m : MethodId} {args : Array Value} {below : List Frame} {meth : Method} {c : Code} {G : zG} {f : Bool} {nL cells slots : Nat} {Q : State → Prop} {S : zSt} {cc : ByteArray} {own : String} {pc : Nat} {ls : List (Nat × zV)} {st : List zV} {L : Nat} {xs : Nat → Int32}
theorem z_sld (C : zC p s m args meth c G cc nL own) (hX : va_X (G.2.1 60) L xs s G.1) (hXb : G.2.1 60 < zb G) {x : Int32} (hx : 0 ≤ x ∧ x.toNatClampNeg < L) (d : decode cc pc = .ok (.iaload, 1))
    (kk : zJ p l e R s m args below meth c G f nL cells slots Q S (pc + 1) ls (zi (xs x.toNatClampNeg) :: st)) : zJ p l e R s m args below meth c G f nL cells slots Q S pc ls (zi x :: zr (some (zX + 60)) :: st) := by
  intro H locs la hW hq hl1
  obtain ⟨hxx, hb, hml, hown, hts, hlk, hKK⟩ := C
  obtain ⟨scr, h1, h2, h3, h4, h5⟩ := hX.kept (hW.2.2.1 _ hXb)
  show W p l e R s m args below meth c H locs cells slots Q (F0 m pc la (Value.int x :: Value.ref (zad G (zX + 60)) :: zst G st))
  rw [zx_ad]
  exact W.iald (v := .int (xs x.toNatClampNeg)) hxx hb h1 h2 h3 (by rw [h4]; exact zidx hx) (h5 _ hx.2) rfl rfl d (kk H locs la hW hq hl1)
theorem z_slen (C : zC p s m args meth c G cc nL own) (hX : va_X (G.2.1 60) L xs s G.1) (hXb : G.2.1 60 < zb G) (d : decode cc pc = .ok (.arraylength, 1))
    (kk : zJ p l e R s m args below meth c G f nL cells slots Q S (pc + 1) ls (zi (nI L) :: st)) : zJ p l e R s m args below meth c G f nL cells slots Q S pc ls (zr (some (zX + 60)) :: st) := by
  intro H locs la hW hq hl1
  obtain ⟨hxx, hb, hml, hown, hts, hlk, hKK⟩ := C
  obtain ⟨scr, h1, h2, h3, h4, h5⟩ := hX.kept (hW.2.2.1 _ hXb)
  show W p l e R s m args below meth c H locs cells slots Q (F0 m pc la (Value.ref (zad G (zX + 60)) :: zst G st))
  rw [zx_ad]
  exact W.alen hxx hb h1 h2 (by rw [h4]; rfl) rfl rfl d (kk H locs la hW hq hl1)
end ZLaw
def f_La_18 (fu : Nat) (xs : Nat → Int32) (L : Nat) : Nat → Int32 → zSt → Option Unit
  | 0, _, _ => none
  | n + 1, a3, S => if ((nI L) - (6 : Int32)) < a3 then some () else zgd (0 ≤ a3 ∧ a3.toNatClampNeg < L) (if ((xs a3.toNatClampNeg) &&& (63 : Int32)) = (0 : Int32) then zgd (0 ≤ (a3 + (1 : Int32)) ∧ (a3 + (1 : Int32)).toNatClampNeg < L) (zgd (0 ≤ (a3 + (2 : Int32)) ∧ (a3 + (2 : Int32)).toNatClampNeg < L) (zb2 (f_E_spring (xs (a3 + (1 : Int32)).toNatClampNeg) (xs (a3 + (2 : Int32)).toNatClampNeg) S) (fun r7 S8 => zgd (0 ≤ (a3 + (1 : Int32)) ∧ (a3 + (1 : Int32)).toNatClampNeg < L) (zgd (0 ≤ (a3 + (2 : Int32)) ∧ (a3 + (2 : Int32)).toNatClampNeg < L) (zb2 (f_M_spring (xs (a3 + (1 : Int32)).toNatClampNeg) (xs (a3 + (2 : Int32)).toNatClampNeg) S8) (fun r12 S13 => if r7 = r12 then f_La_18 fu xs L n (a3 + (6 : Int32)) S13 else none)))))) else if ((xs a3.toNatClampNeg) &&& (63 : Int32)) = (1 : Int32) then zgd (0 ≤ (a3 + (1 : Int32)) ∧ (a3 + (1 : Int32)).toNatClampNeg < L) (zgd (0 ≤ (a3 + (2 : Int32)) ∧ (a3 + (2 : Int32)).toNatClampNeg < L) (zgd (0 ≤ (a3 + (3 : Int32)) ∧ (a3 + (3 : Int32)).toNatClampNeg < L) (zb2 (f_E_channel (xs (a3 + (1 : Int32)).toNatClampNeg) (xs (a3 + (2 : Int32)).toNatClampNeg) (xs (a3 + (3 : Int32)).toNatClampNeg) S) (fun r20 S21 => zgd (0 ≤ (a3 + (1 : Int32)) ∧ (a3 + (1 : Int32)).toNatClampNeg < L) (zgd (0 ≤ (a3 + (2 : Int32)) ∧ (a3 + (2 : Int32)).toNatClampNeg < L) (zgd (0 ≤ (a3 + (3 : Int32)) ∧ (a3 + (3 : Int32)).toNatClampNeg < L) (zb2 (f_M_channel (xs (a3 + (1 : Int32)).toNatClampNeg) (xs (a3 + (2 : Int32)).toNatClampNeg) (xs (a3 + (3 : Int32)).toNatClampNeg) S21) (fun r26 S27 => if r20 = r26 then f_La_18 fu xs L n (a3 + (6 : Int32)) S27 else none)))))))) else if ((xs a3.toNatClampNeg) &&& (63 : Int32)) = (2 : Int32) then zgd (0 ≤ (a3 + (1 : Int32)) ∧ (a3 + (1 : Int32)).toNatClampNeg < L) (zgd (0 ≤ (a3 + (2 : Int32)) ∧ (a3 + (2 : Int32)).toNatClampNeg < L) (zb2 (f_E_of fu (xs (a3 + (1 : Int32)).toNatClampNeg) (xs (a3 + (2 : Int32)).toNatClampNeg) S) (fun r33 S34 => zgd (0 ≤ (a3 + (1 : Int32)) ∧ (a3 + (1 : Int32)).toNatClampNeg < L) (zgd (0 ≤ (a3 + (2 : Int32)) ∧ (a3 + (2 : Int32)).toNatClampNeg < L) (zb2 (f_M_of fu (xs (a3 + (1 : Int32)).toNatClampNeg) (xs (a3 + (2 : Int32)).toNatClampNeg) S34) (fun r38 S39 => if r33 = r38 then f_La_18 fu xs L n (a3 + (6 : Int32)) S39 else none)))))) else if ((xs a3.toNatClampNeg) &&& (63 : Int32)) = (3 : Int32) then zgd (0 ≤ (a3 + (1 : Int32)) ∧ (a3 + (1 : Int32)).toNatClampNeg < L) (zgd (0 ≤ (a3 + (2 : Int32)) ∧ (a3 + (2 : Int32)).toNatClampNeg < L) (zgd (0 ≤ (a3 + (3 : Int32)) ∧ (a3 + (3 : Int32)).toNatClampNeg < L) (zb2 (f_E_between fu (xs (a3 + (1 : Int32)).toNatClampNeg) (xs (a3 + (2 : Int32)).toNatClampNeg) (xs (a3 + (3 : Int32)).toNatClampNeg) S) (fun r46 S47 => zgd (0 ≤ (a3 + (1 : Int32)) ∧ (a3 + (1 : Int32)).toNatClampNeg < L) (zgd (0 ≤ (a3 + (2 : Int32)) ∧ (a3 + (2 : Int32)).toNatClampNeg < L) (zgd (0 ≤ (a3 + (3 : Int32)) ∧ (a3 + (3 : Int32)).toNatClampNeg < L) (zb2 (f_M_between fu (xs (a3 + (1 : Int32)).toNatClampNeg) (xs (a3 + (2 : Int32)).toNatClampNeg) (xs (a3 + (3 : Int32)).toNatClampNeg) S47) (fun r52 S53 => if r46 = r52 then f_La_18 fu xs L n (a3 + (6 : Int32)) S53 else none)))))))) else if ((xs a3.toNatClampNeg) &&& (63 : Int32)) = (4 : Int32) then zgd (0 ≤ (a3 + (1 : Int32)) ∧ (a3 + (1 : Int32)).toNatClampNeg < L) (zgd (0 ≤ (a3 + (2 : Int32)) ∧ (a3 + (2 : Int32)).toNatClampNeg < L) (zb2 (f_E_terms (xs (a3 + (1 : Int32)).toNatClampNeg) (xs (a3 + (2 : Int32)).toNatClampNeg) S) (fun r59 S60 => zgd (0 ≤ (a3 + (1 : Int32)) ∧ (a3 + (1 : Int32)).toNatClampNeg < L) (zgd (0 ≤ (a3 + (2 : Int32)) ∧ (a3 + (2 : Int32)).toNatClampNeg < L) (zb2 (f_M_terms (xs (a3 + (1 : Int32)).toNatClampNeg) (xs (a3 + (2 : Int32)).toNatClampNeg) S60) (fun r64 S65 => if r59 = r64 then f_La_18 fu xs L n (a3 + (6 : Int32)) S65 else none)))))) else if ((xs a3.toNatClampNeg) &&& (63 : Int32)) = (5 : Int32) then zgd (0 ≤ (a3 + (1 : Int32)) ∧ (a3 + (1 : Int32)).toNatClampNeg < L) (zgd (0 ≤ (a3 + (2 : Int32)) ∧ (a3 + (2 : Int32)).toNatClampNeg < L) (zgd (0 ≤ (a3 + (3 : Int32)) ∧ (a3 + (3 : Int32)).toNatClampNeg < L) (zgd (0 ≤ (a3 + (4 : Int32)) ∧ (a3 + (4 : Int32)).toNatClampNeg < L) (zgd (0 ≤ (a3 + (5 : Int32)) ∧ (a3 + (5 : Int32)).toNatClampNeg < L) (zb2 (f_E_feed fu (xs (a3 + (1 : Int32)).toNatClampNeg) (xs (a3 + (2 : Int32)).toNatClampNeg) (xs (a3 + (3 : Int32)).toNatClampNeg) (xs (a3 + (4 : Int32)).toNatClampNeg) (xs (a3 + (5 : Int32)).toNatClampNeg) S) (fun r74 S75 => zgd (0 ≤ (a3 + (1 : Int32)) ∧ (a3 + (1 : Int32)).toNatClampNeg < L) (zgd (0 ≤ (a3 + (2 : Int32)) ∧ (a3 + (2 : Int32)).toNatClampNeg < L) (zgd (0 ≤ (a3 + (3 : Int32)) ∧ (a3 + (3 : Int32)).toNatClampNeg < L) (zgd (0 ≤ (a3 + (4 : Int32)) ∧ (a3 + (4 : Int32)).toNatClampNeg < L) (zgd (0 ≤ (a3 + (5 : Int32)) ∧ (a3 + (5 : Int32)).toNatClampNeg < L) (zb2 (f_M_feed fu (xs (a3 + (1 : Int32)).toNatClampNeg) (xs (a3 + (2 : Int32)).toNatClampNeg) (xs (a3 + (3 : Int32)).toNatClampNeg) (xs (a3 + (4 : Int32)).toNatClampNeg) (xs (a3 + (5 : Int32)).toNatClampNeg) S75) (fun r82 S83 => if r74 = r82 then f_La_18 fu xs L n (a3 + (6 : Int32)) S83 else none)))))))))))) else if ((xs a3.toNatClampNeg) &&& (63 : Int32)) = (6 : Int32) then zgd (0 ≤ (a3 + (1 : Int32)) ∧ (a3 + (1 : Int32)).toNatClampNeg < L) (zb2 (f_E_end (xs (a3 + (1 : Int32)).toNatClampNeg) S) (fun r88 S89 => zgd (0 ≤ (a3 + (1 : Int32)) ∧ (a3 + (1 : Int32)).toNatClampNeg < L) (zb2 (f_M_end (xs (a3 + (1 : Int32)).toNatClampNeg) S89) (fun r92 S93 => if r88 = r92 then f_La_18 fu xs L n (a3 + (6 : Int32)) S93 else none)))) else if ((xs a3.toNatClampNeg) &&& (63 : Int32)) = (7 : Int32) then zb2 (f_E_row fu S) (fun r97 S98 => zb2 (f_M_row fu S98) (fun r100 S101 => if r97 = r100 then f_La_18 fu xs L n (a3 + (6 : Int32)) S101 else none)) else if ((xs a3.toNatClampNeg) &&& (63 : Int32)) = (8 : Int32) then zb1 (f_E_bubbles S) (fun r105 => zb1 (f_M_bubbles S) (fun r107 => if r105 = r107 then f_La_18 fu xs L n (a3 + (6 : Int32)) S else none)) else if ((xs a3.toNatClampNeg) &&& (63 : Int32)) = (9 : Int32) then zb2 (f_E_law fu S) (fun r111 S112 => zb2 (f_M_law fu S112) (fun r114 S115 => if r111 = r114 then f_La_18 fu xs L n (a3 + (6 : Int32)) S115 else none)) else if ((xs a3.toNatClampNeg) &&& (63 : Int32)) = (10 : Int32) then zb2 (f_E_orders fu S) (fun r119 S120 => zb2 (f_M_orders fu S120) (fun r122 S123 => if r119 = r122 then f_La_18 fu xs L n (a3 + (6 : Int32)) S123 else none)) else if ((xs a3.toNatClampNeg) &&& (63 : Int32)) = (11 : Int32) then zb1 (f_E_fault S) (fun r127 => zb1 (f_M_fault S) (fun r129 => if r127 = r129 then f_La_18 fu xs L n (a3 + (6 : Int32)) S else none)) else if ((xs a3.toNatClampNeg) &&& (63 : Int32)) = (12 : Int32) then zb1 (f_E_stopped S) (fun r133 => zb1 (f_M_stopped S) (fun r135 => if r133 = r135 then f_La_18 fu xs L n (a3 + (6 : Int32)) S else none)) else if ((xs a3.toNatClampNeg) &&& (63 : Int32)) = (13 : Int32) then zgd (0 ≤ (a3 + (1 : Int32)) ∧ (a3 + (1 : Int32)).toNatClampNeg < L) (zb2 (f_E_force (xs (a3 + (1 : Int32)).toNatClampNeg) S) (fun r140 S141 => zgd (0 ≤ (a3 + (1 : Int32)) ∧ (a3 + (1 : Int32)).toNatClampNeg < L) (zb2 (f_M_force (xs (a3 + (1 : Int32)).toNatClampNeg) S141) (fun r144 S145 => if r140 = r144 then f_La_18 fu xs L n (a3 + (6 : Int32)) S145 else none)))) else if ((xs a3.toNatClampNeg) &&& (63 : Int32)) = (14 : Int32) then zgd (0 ≤ (a3 + (1 : Int32)) ∧ (a3 + (1 : Int32)).toNatClampNeg < L) (zb2 (f_E_swim fu (xs (a3 + (1 : Int32)).toNatClampNeg) S) (fun r150 S151 => zgd (0 ≤ (a3 + (1 : Int32)) ∧ (a3 + (1 : Int32)).toNatClampNeg < L) (zb2 (f_M_swim fu (xs (a3 + (1 : Int32)).toNatClampNeg) S151) (fun r154 S155 => if r150 = r154 then f_La_18 fu xs L n (a3 + (6 : Int32)) S155 else none)))) else if ((xs a3.toNatClampNeg) &&& (63 : Int32)) = (15 : Int32) then zgd (0 ≤ (a3 + (1 : Int32)) ∧ (a3 + (1 : Int32)).toNatClampNeg < L) (zgd (0 ≤ (a3 + (2 : Int32)) ∧ (a3 + (2 : Int32)).toNatClampNeg < L) (zb2 (f_E_gate fu (xs (a3 + (1 : Int32)).toNatClampNeg) (xs (a3 + (2 : Int32)).toNatClampNeg) S) (fun r161 S162 => zgd (0 ≤ (a3 + (1 : Int32)) ∧ (a3 + (1 : Int32)).toNatClampNeg < L) (zgd (0 ≤ (a3 + (2 : Int32)) ∧ (a3 + (2 : Int32)).toNatClampNeg < L) (zb2 (f_M_gate fu (xs (a3 + (1 : Int32)).toNatClampNeg) (xs (a3 + (2 : Int32)).toNatClampNeg) S162) (fun r166 S167 => if r161 = r166 then f_La_18 fu xs L n (a3 + (6 : Int32)) S167 else none)))))) else if ((xs a3.toNatClampNeg) &&& (63 : Int32)) = (16 : Int32) then zgd (0 ≤ (a3 + (1 : Int32)) ∧ (a3 + (1 : Int32)).toNatClampNeg < L) (zgd (0 ≤ (a3 + (2 : Int32)) ∧ (a3 + (2 : Int32)).toNatClampNeg < L) (zb2 (f_E_stir fu (xs (a3 + (1 : Int32)).toNatClampNeg) (xs (a3 + (2 : Int32)).toNatClampNeg) S) (fun r173 S174 => zgd (0 ≤ (a3 + (1 : Int32)) ∧ (a3 + (1 : Int32)).toNatClampNeg < L) (zgd (0 ≤ (a3 + (2 : Int32)) ∧ (a3 + (2 : Int32)).toNatClampNeg < L) (zb2 (f_M_stir fu (xs (a3 + (1 : Int32)).toNatClampNeg) (xs (a3 + (2 : Int32)).toNatClampNeg) S174) (fun r178 S179 => if r173 = r178 then f_La_18 fu xs L n (a3 + (6 : Int32)) S179 else none)))))) else if ((xs a3.toNatClampNeg) &&& (63 : Int32)) = (17 : Int32) then zb2 (f_E_pass fu S) (fun r183 S184 => zb2 (f_M_pass fu S184) (fun r186 S187 => if r183 = r186 then f_La_18 fu xs L n (a3 + (6 : Int32)) S187 else none)) else if ((xs a3.toNatClampNeg) &&& (63 : Int32)) = (18 : Int32) then zb2 (f_E_undo S) (fun r191 S192 => zb2 (f_M_undo fu S192) (fun r194 S195 => if r191 = r194 then f_La_18 fu xs L n (a3 + (6 : Int32)) S195 else none)) else if ((xs a3.toNatClampNeg) &&& (63 : Int32)) = (19 : Int32) then zgd (0 ≤ (a3 + (1 : Int32)) ∧ (a3 + (1 : Int32)).toNatClampNeg < L) (zgd (0 ≤ (a3 + (2 : Int32)) ∧ (a3 + (2 : Int32)).toNatClampNeg < L) (zb2 (f_E_soon fu (xs (a3 + (1 : Int32)).toNatClampNeg) (xs (a3 + (2 : Int32)).toNatClampNeg) S) (fun r201 S202 => zgd (0 ≤ (a3 + (1 : Int32)) ∧ (a3 + (1 : Int32)).toNatClampNeg < L) (zgd (0 ≤ (a3 + (2 : Int32)) ∧ (a3 + (2 : Int32)).toNatClampNeg < L) (zb2 (f_M_soon fu (xs (a3 + (1 : Int32)).toNatClampNeg) (xs (a3 + (2 : Int32)).toNatClampNeg) S202) (fun r206 S207 => if r201 = r206 then f_La_18 fu xs L n (a3 + (6 : Int32)) S207 else none)))))) else if ((xs a3.toNatClampNeg) &&& (63 : Int32)) = (20 : Int32) then zgd (0 ≤ (a3 + (1 : Int32)) ∧ (a3 + (1 : Int32)).toNatClampNeg < L) (zgd (0 ≤ (a3 + (2 : Int32)) ∧ (a3 + (2 : Int32)).toNatClampNeg < L) (zgd (0 ≤ (a3 + (3 : Int32)) ∧ (a3 + (3 : Int32)).toNatClampNeg < L) (zb2 (f_E_way fu (xs (a3 + (1 : Int32)).toNatClampNeg) (xs (a3 + (2 : Int32)).toNatClampNeg) (xs (a3 + (3 : Int32)).toNatClampNeg) S) (fun r214 S215 => zgd (0 ≤ (a3 + (1 : Int32)) ∧ (a3 + (1 : Int32)).toNatClampNeg < L) (zgd (0 ≤ (a3 + (2 : Int32)) ∧ (a3 + (2 : Int32)).toNatClampNeg < L) (zgd (0 ≤ (a3 + (3 : Int32)) ∧ (a3 + (3 : Int32)).toNatClampNeg < L) (zb2 (f_M_way fu (xs (a3 + (1 : Int32)).toNatClampNeg) (xs (a3 + (2 : Int32)).toNatClampNeg) (xs (a3 + (3 : Int32)).toNatClampNeg) S215) (fun r220 S221 => if r214 = r220 then f_La_18 fu xs L n (a3 + (6 : Int32)) S221 else none)))))))) else if ((xs a3.toNatClampNeg) &&& (63 : Int32)) = (21 : Int32) then zgd (0 ≤ (a3 + (1 : Int32)) ∧ (a3 + (1 : Int32)).toNatClampNeg < L) (zb2 (f_E_never fu (xs (a3 + (1 : Int32)).toNatClampNeg) S) (fun r226 S227 => zgd (0 ≤ (a3 + (1 : Int32)) ∧ (a3 + (1 : Int32)).toNatClampNeg < L) (zb2 (f_M_never fu (xs (a3 + (1 : Int32)).toNatClampNeg) S227) (fun r230 S231 => if r226 = r230 then f_La_18 fu xs L n (a3 + (6 : Int32)) S231 else none)))) else if ((xs a3.toNatClampNeg) &&& (63 : Int32)) = (22 : Int32) then zgd (0 ≤ (a3 + (1 : Int32)) ∧ (a3 + (1 : Int32)).toNatClampNeg < L) (zb2 (f_E_centre fu (xs (a3 + (1 : Int32)).toNatClampNeg) S) (fun r236 S237 => zgd (0 ≤ (a3 + (1 : Int32)) ∧ (a3 + (1 : Int32)).toNatClampNeg < L) (zb2 (f_M_centre fu (xs (a3 + (1 : Int32)).toNatClampNeg) S237) (fun r240 S241 => if r236 = r240 then f_La_18 fu xs L n (a3 + (6 : Int32)) S241 else none)))) else if ((xs a3.toNatClampNeg) &&& (63 : Int32)) = (23 : Int32) then zgd (0 ≤ (a3 + (1 : Int32)) ∧ (a3 + (1 : Int32)).toNatClampNeg < L) (zgd (0 ≤ (a3 + (2 : Int32)) ∧ (a3 + (2 : Int32)).toNatClampNeg < L) (zb2 (f_E_round fu (xs (a3 + (1 : Int32)).toNatClampNeg) (xs (a3 + (2 : Int32)).toNatClampNeg) S) (fun r247 S248 => zgd (0 ≤ (a3 + (1 : Int32)) ∧ (a3 + (1 : Int32)).toNatClampNeg < L) (zgd (0 ≤ (a3 + (2 : Int32)) ∧ (a3 + (2 : Int32)).toNatClampNeg < L) (zb2 (f_M_round fu (xs (a3 + (1 : Int32)).toNatClampNeg) (xs (a3 + (2 : Int32)).toNatClampNeg) S248) (fun r252 S253 => if r247 = r252 then f_La_18 fu xs L n (a3 + (6 : Int32)) S253 else none)))))) else if ((xs a3.toNatClampNeg) &&& (63 : Int32)) = (24 : Int32) then zgd (0 ≤ (a3 + (1 : Int32)) ∧ (a3 + (1 : Int32)).toNatClampNeg < L) (zgd (0 ≤ (a3 + (2 : Int32)) ∧ (a3 + (2 : Int32)).toNatClampNeg < L) (zgd (0 ≤ (a3 + (3 : Int32)) ∧ (a3 + (3 : Int32)).toNatClampNeg < L) (zb2 (f_E_bound fu (xs (a3 + (1 : Int32)).toNatClampNeg) (xs (a3 + (2 : Int32)).toNatClampNeg) (xs (a3 + (3 : Int32)).toNatClampNeg) S) (fun r260 S261 => zgd (0 ≤ (a3 + (1 : Int32)) ∧ (a3 + (1 : Int32)).toNatClampNeg < L) (zgd (0 ≤ (a3 + (2 : Int32)) ∧ (a3 + (2 : Int32)).toNatClampNeg < L) (zgd (0 ≤ (a3 + (3 : Int32)) ∧ (a3 + (3 : Int32)).toNatClampNeg < L) (zb2 (f_M_bound fu (xs (a3 + (1 : Int32)).toNatClampNeg) (xs (a3 + (2 : Int32)).toNatClampNeg) (xs (a3 + (3 : Int32)).toNatClampNeg) S261) (fun r266 S267 => if r260 = r266 then f_La_18 fu xs L n (a3 + (6 : Int32)) S267 else none)))))))) else if ((xs a3.toNatClampNeg) &&& (63 : Int32)) = (25 : Int32) then zgd (0 ≤ (a3 + (1 : Int32)) ∧ (a3 + (1 : Int32)).toNatClampNeg < L) (zgd (0 ≤ (a3 + (2 : Int32)) ∧ (a3 + (2 : Int32)).toNatClampNeg < L) (zb2 (f_E_share fu (xs (a3 + (1 : Int32)).toNatClampNeg) (xs (a3 + (2 : Int32)).toNatClampNeg) S) (fun r273 S274 => zgd (0 ≤ (a3 + (1 : Int32)) ∧ (a3 + (1 : Int32)).toNatClampNeg < L) (zgd (0 ≤ (a3 + (2 : Int32)) ∧ (a3 + (2 : Int32)).toNatClampNeg < L) (zb2 (f_M_share fu (xs (a3 + (1 : Int32)).toNatClampNeg) (xs (a3 + (2 : Int32)).toNatClampNeg) S274) (fun r278 S279 => if r273 = r278 then f_La_18 fu xs L n (a3 + (6 : Int32)) S279 else none)))))) else if ((xs a3.toNatClampNeg) &&& (63 : Int32)) = (26 : Int32) then zgd (0 ≤ (a3 + (1 : Int32)) ∧ (a3 + (1 : Int32)).toNatClampNeg < L) (zgd (0 ≤ (a3 + (2 : Int32)) ∧ (a3 + (2 : Int32)).toNatClampNeg < L) (zb2 (f_E_sea fu (xs (a3 + (1 : Int32)).toNatClampNeg) (xs (a3 + (2 : Int32)).toNatClampNeg) S) (fun r285 S286 => zgd (0 ≤ (a3 + (1 : Int32)) ∧ (a3 + (1 : Int32)).toNatClampNeg < L) (zgd (0 ≤ (a3 + (2 : Int32)) ∧ (a3 + (2 : Int32)).toNatClampNeg < L) (zb2 (f_M_sea fu (xs (a3 + (1 : Int32)).toNatClampNeg) (xs (a3 + (2 : Int32)).toNatClampNeg) S286) (fun r290 S291 => if r285 = r290 then f_La_18 fu xs L n (a3 + (6 : Int32)) S291 else none)))))) else if ((xs a3.toNatClampNeg) &&& (63 : Int32)) = (27 : Int32) then zgd (0 ≤ (a3 + (1 : Int32)) ∧ (a3 + (1 : Int32)).toNatClampNeg < L) (zgd (0 ≤ (a3 + (2 : Int32)) ∧ (a3 + (2 : Int32)).toNatClampNeg < L) (zb2 (f_E_heard (xs (a3 + (1 : Int32)).toNatClampNeg) (xs (a3 + (2 : Int32)).toNatClampNeg) S) (fun r297 S298 => zgd (0 ≤ (a3 + (1 : Int32)) ∧ (a3 + (1 : Int32)).toNatClampNeg < L) (zgd (0 ≤ (a3 + (2 : Int32)) ∧ (a3 + (2 : Int32)).toNatClampNeg < L) (zb2 (f_M_heard (xs (a3 + (1 : Int32)).toNatClampNeg) (xs (a3 + (2 : Int32)).toNatClampNeg) S298) (fun r302 S303 => if r297 = r302 then f_La_18 fu xs L n (a3 + (6 : Int32)) S303 else none)))))) else if ((xs a3.toNatClampNeg) &&& (63 : Int32)) = (28 : Int32) then zb2 (f_E_forget S) (fun r307 S308 => zb2 (f_M_forget S308) (fun r310 S311 => if r307 = r310 then f_La_18 fu xs L n (a3 + (6 : Int32)) S311 else none)) else if ((xs a3.toNatClampNeg) &&& (63 : Int32)) = (29 : Int32) then zb2 (f_E_canBe fu S) (fun r315 S316 => zb2 (f_M_canBe fu S316) (fun r318 S319 => if r315 = r318 then f_La_18 fu xs L n (a3 + (6 : Int32)) S319 else none)) else if ((xs a3.toNatClampNeg) &&& (63 : Int32)) = (30 : Int32) then zgd (0 ≤ (a3 + (1 : Int32)) ∧ (a3 + (1 : Int32)).toNatClampNeg < L) (zb2 (f_E_since fu (xs (a3 + (1 : Int32)).toNatClampNeg) S) (fun r324 S325 => zgd (0 ≤ (a3 + (1 : Int32)) ∧ (a3 + (1 : Int32)).toNatClampNeg < L) (zb2 (f_M_since fu (xs (a3 + (1 : Int32)).toNatClampNeg) S325) (fun r328 S329 => if r324 = r328 then f_La_18 fu xs L n (a3 + (6 : Int32)) S329 else none)))) else if ((xs a3.toNatClampNeg) &&& (63 : Int32)) = (31 : Int32) then zgd (0 ≤ (a3 + (1 : Int32)) ∧ (a3 + (1 : Int32)).toNatClampNeg < L) (zb2 (f_E_listen fu (xs (a3 + (1 : Int32)).toNatClampNeg) S) (fun r334 S335 => zgd (0 ≤ (a3 + (1 : Int32)) ∧ (a3 + (1 : Int32)).toNatClampNeg < L) (zb2 (f_M_listen fu (xs (a3 + (1 : Int32)).toNatClampNeg) S335) (fun r338 S339 => if r334 = r338 then f_La_18 fu xs L n (a3 + (6 : Int32)) S339 else none)))) else if ((xs a3.toNatClampNeg) &&& (63 : Int32)) = (32 : Int32) then zgd (0 ≤ (a3 + (1 : Int32)) ∧ (a3 + (1 : Int32)).toNatClampNeg < L) (zgd (0 ≤ (a3 + (2 : Int32)) ∧ (a3 + (2 : Int32)).toNatClampNeg < L) (zb2 (f_E_few fu (xs (a3 + (1 : Int32)).toNatClampNeg) (xs (a3 + (2 : Int32)).toNatClampNeg) S) (fun r345 S346 => zgd (0 ≤ (a3 + (1 : Int32)) ∧ (a3 + (1 : Int32)).toNatClampNeg < L) (zgd (0 ≤ (a3 + (2 : Int32)) ∧ (a3 + (2 : Int32)).toNatClampNeg < L) (zb2 (f_M_few fu (xs (a3 + (1 : Int32)).toNatClampNeg) (xs (a3 + (2 : Int32)).toNatClampNeg) S346) (fun r350 S351 => if (lg_cmp r345 r350) = 0 then f_La_18 fu xs L n (a3 + (6 : Int32)) S351 else none)))))) else if ((xs a3.toNatClampNeg) &&& (63 : Int32)) = (33 : Int32) then zgd (0 ≤ (a3 + (1 : Int32)) ∧ (a3 + (1 : Int32)).toNatClampNeg < L) (zgd (0 ≤ (a3 + (2 : Int32)) ∧ (a3 + (2 : Int32)).toNatClampNeg < L) (zgd (0 ≤ (a3 + (3 : Int32)) ∧ (a3 + (3 : Int32)).toNatClampNeg < L) (zb2 (f_E_compare fu (xs (a3 + (1 : Int32)).toNatClampNeg) (xs (a3 + (2 : Int32)).toNatClampNeg) (xs (a3 + (3 : Int32)).toNatClampNeg) S) (fun r358 S359 => zgd (0 ≤ (a3 + (1 : Int32)) ∧ (a3 + (1 : Int32)).toNatClampNeg < L) (zgd (0 ≤ (a3 + (2 : Int32)) ∧ (a3 + (2 : Int32)).toNatClampNeg < L) (zgd (0 ≤ (a3 + (3 : Int32)) ∧ (a3 + (3 : Int32)).toNatClampNeg < L) (zb2 (f_M_compare fu (xs (a3 + (1 : Int32)).toNatClampNeg) (xs (a3 + (2 : Int32)).toNatClampNeg) (xs (a3 + (3 : Int32)).toNatClampNeg) S359) (fun r364 S365 => if r358 = r364 then f_La_18 fu xs L n (a3 + (6 : Int32)) S365 else none)))))))) else if ((xs a3.toNatClampNeg) &&& (63 : Int32)) = (34 : Int32) then zgd (0 ≤ (a3 + (1 : Int32)) ∧ (a3 + (1 : Int32)).toNatClampNeg < L) (zgd (0 ≤ (a3 + (2 : Int32)) ∧ (a3 + (2 : Int32)).toNatClampNeg < L) (zb2 (f_E_years fu (xs (a3 + (1 : Int32)).toNatClampNeg) (xs (a3 + (2 : Int32)).toNatClampNeg) S) (fun r371 S372 => zgd (0 ≤ (a3 + (1 : Int32)) ∧ (a3 + (1 : Int32)).toNatClampNeg < L) (zgd (0 ≤ (a3 + (2 : Int32)) ∧ (a3 + (2 : Int32)).toNatClampNeg < L) (zb2 (f_M_years fu (xs (a3 + (1 : Int32)).toNatClampNeg) (xs (a3 + (2 : Int32)).toNatClampNeg) S372) (fun r376 S377 => if r371 = r376 then f_La_18 fu xs L n (a3 + (6 : Int32)) S377 else none)))))) else if ((xs a3.toNatClampNeg) &&& (63 : Int32)) = (35 : Int32) then zgd (0 ≤ (a3 + (1 : Int32)) ∧ (a3 + (1 : Int32)).toNatClampNeg < L) (zgd (0 ≤ (a3 + (2 : Int32)) ∧ (a3 + (2 : Int32)).toNatClampNeg < L) (zb1 (f_E_drawn (xs (a3 + (1 : Int32)).toNatClampNeg) (xs (a3 + (2 : Int32)).toNatClampNeg) S) (fun r383 => zgd (0 ≤ (a3 + (1 : Int32)) ∧ (a3 + (1 : Int32)).toNatClampNeg < L) (zgd (0 ≤ (a3 + (2 : Int32)) ∧ (a3 + (2 : Int32)).toNatClampNeg < L) (zb1 (f_M_drawn (xs (a3 + (1 : Int32)).toNatClampNeg) (xs (a3 + (2 : Int32)).toNatClampNeg) S) (fun r387 => if r383 = r387 then f_La_18 fu xs L n (a3 + (6 : Int32)) S else none)))))) else if ((xs a3.toNatClampNeg) &&& (63 : Int32)) = (36 : Int32) then zgd (0 ≤ (a3 + (1 : Int32)) ∧ (a3 + (1 : Int32)).toNatClampNeg < L) (zb2 (f_E_image fu (xs (a3 + (1 : Int32)).toNatClampNeg) S) (fun r392 S393 => zgd (0 ≤ (a3 + (1 : Int32)) ∧ (a3 + (1 : Int32)).toNatClampNeg < L) (zb2 (f_M_image fu (xs (a3 + (1 : Int32)).toNatClampNeg) S393) (fun r396 S397 => if r392 = r396 then f_La_18 fu xs L n (a3 + (6 : Int32)) S397 else none)))) else if ((xs a3.toNatClampNeg) &&& (63 : Int32)) = (37 : Int32) then zgd (0 ≤ (a3 + (1 : Int32)) ∧ (a3 + (1 : Int32)).toNatClampNeg < L) (zb2 (f_E_back fu (xs (a3 + (1 : Int32)).toNatClampNeg) S) (fun r402 S403 => zgd (0 ≤ (a3 + (1 : Int32)) ∧ (a3 + (1 : Int32)).toNatClampNeg < L) (zb2 (f_M_back fu (xs (a3 + (1 : Int32)).toNatClampNeg) S403) (fun r406 S407 => if r402 = r406 then f_La_18 fu xs L n (a3 + (6 : Int32)) S407 else none)))) else if ((xs a3.toNatClampNeg) &&& (63 : Int32)) = (38 : Int32) then zgd (0 ≤ (a3 + (1 : Int32)) ∧ (a3 + (1 : Int32)).toNatClampNeg < L) (zb1 (f_E_count fu (xs (a3 + (1 : Int32)).toNatClampNeg) S) (fun r412 => zgd (0 ≤ (a3 + (1 : Int32)) ∧ (a3 + (1 : Int32)).toNatClampNeg < L) (zb1 (f_M_count fu (xs (a3 + (1 : Int32)).toNatClampNeg) S) (fun r415 => if r412 = r415 then f_La_18 fu xs L n (a3 + (6 : Int32)) S else none)))) else if ((xs a3.toNatClampNeg) &&& (63 : Int32)) = (39 : Int32) then zb1 (f_E_status S) (fun r419 => zb1 (f_M_status S) (fun r421 => if r419 = r421 then f_La_18 fu xs L n (a3 + (6 : Int32)) S else none)) else f_La_18 fu xs L n (a3 + (6 : Int32)) S)
set_option maxRecDepth 100000 in
set_option maxHeartbeats 16000000 in
theorem c_La_18 {p : Program} {l : Launch} {e : Env} {s : State} {m : MethodId} {args : Array Value} {below : List Frame} {meth : Method} {c : Code} {G : zG} {Q : State → Prop} {L : Nat} {xs : Nat → Int32} (C : zC p s m args meth c G code 4 "EelClerkLaw") (hX : va_X (G.2.1 60) L xs s G.1) (hXb : G.2.1 60 < zb G)
    (hfin : ∀ cells slots : Nat, cells ≤ 600000 → slots ≤ 7302250 → ∀ (S : zSt) (pc : Nat) (ls : List (Nat × zV)), decode code pc = .ok (.ireturn, 1) → zJ p l e room_1 s m args below meth c G true 4 cells slots Q S pc ls [zi 1]) {fu : Nat} :
    ∀ (n : Nat) (a3 : Int32) (S : zSt) (k : Nat), k + n ≤ 600 → f_La_18 fu xs L n a3 S = some () → zJ p l e room_1 s m args below meth c G true 4 (98 + 5 * k) (32000 + 503 * k) Q S 18 [(0, zr (some (zX + 60))), (1, zr (some 0)), (2, zr (some 72)), (3, zi a3)] [] := by
  intro n
  induction n with
  | zero =>
    intro a3 S k hk h
    cases h
  | succ n ih =>
    intro a3 S k hk h
    rw [f_La_18] at h
    refine z_iload_n C 3 rfl d_La_law_18 rfl ?_
    refine z_aload_n C 0 rfl d_La_law_19 rfl ?_
    refine z_slen C hX hXb d_La_law_20 ?_
    refine z_bipush C (6 : Int32) (by decide) d_La_law_21 ?_
    refine z_isub C d_La_law_23 ?_
    rcases zite h with ⟨c1, h⟩ | ⟨c1, h⟩
    · refine z_icmp_gtt C 1295 c1 d_La_law_24 (by decide) ?_
      refine z_iconst C (1 : Int32) (by decide) d_La_law_1295 ?_
      exact hfin _ _ (by omega) (by omega) _ _ _ d_La_law_1296
    · refine z_icmp_gtf C 1295 c1 d_La_law_24 (by decide) ?_
      refine z_aload_n C 0 rfl d_La_law_27 rfl ?_
      refine z_iload_n C 3 rfl d_La_law_28 rfl ?_
      obtain ⟨g2, h⟩ := zgd_some h
      refine z_sld C hX hXb g2 d_La_law_29 ?_
      refine z_bipush C (63 : Int32) (by decide) d_La_law_30 ?_
      refine z_iand C d_La_law_32 ?_
      rcases zite h with ⟨c3, h⟩ | ⟨c3, h⟩
      · refine z_tab C (0 : Int32) 175 208 c3 (by decide) (by decide) (by decide) (by decide) d_La_law_33 ?_
        refine z_aload_n C 1 rfl d_La_law_208 rfl ?_
        refine z_aload_n C 0 rfl d_La_law_209 rfl ?_
        refine z_iload_n C 3 rfl d_La_law_210 rfl ?_
        refine z_iconst C (1 : Int32) (by decide) d_La_law_211 ?_
        refine z_iadd C d_La_law_212 ?_
        obtain ⟨g4, h⟩ := zgd_some h
        refine z_sld C hX hXb g4 d_La_law_213 ?_
        refine z_aload_n C 0 rfl d_La_law_214 rfl ?_
        refine z_iload_n C 3 rfl d_La_law_215 rfl ?_
        refine z_iconst C (2 : Int32) (by decide) d_La_law_216 ?_
        refine z_iadd C d_La_law_217 ?_
        obtain ⟨g5, h⟩ := zgd_some h
        refine z_sld C hX hXb g5 d_La_law_218 ?_
        obtain ⟨r7, S8, h6, h⟩ := zb2_some h
        refine z_cV C 0 (by decide) (m_E_spring l h6) mf_E_spring lk_La_13 in_E_spring se_E_spring rfl zo_0 zk_0 ⟨rfl, rfl⟩ ⟨by decide, by decide⟩ ⟨by show _ ≤ 600000; omega, by show _ ≤ 7302250; omega⟩ rfl _ [] rfl (Nat.le_of_ble_eq_true rfl) d_La_law_219 ?_
        refine z_aload_n C 2 rfl d_La_law_222 rfl ?_
        refine z_aload_n C 0 rfl d_La_law_223 rfl ?_
        refine z_iload_n C 3 rfl d_La_law_224 rfl ?_
        refine z_iconst C (1 : Int32) (by decide) d_La_law_225 ?_
        refine z_iadd C d_La_law_226 ?_
        obtain ⟨g9, h⟩ := zgd_some h
        refine z_sld C hX hXb g9 d_La_law_227 ?_
        refine z_aload_n C 0 rfl d_La_law_228 rfl ?_
        refine z_iload_n C 3 rfl d_La_law_229 rfl ?_
        refine z_iconst C (2 : Int32) (by decide) d_La_law_230 ?_
        refine z_iadd C d_La_law_231 ?_
        obtain ⟨g10, h⟩ := zgd_some h
        refine z_sld C hX hXb g10 d_La_law_232 ?_
        obtain ⟨r12, S13, h11, h⟩ := zb2_some h
        refine z_cV C 11 (by decide) (m_M_spring l h11) mf_M_spring lk_La_17 in_M_spring se_M_spring rfl zo_72 zk_72 ⟨rfl, rfl⟩ ⟨by decide, by decide⟩ ⟨by show _ ≤ 600000; omega, by show _ ≤ 7302250; omega⟩ rfl _ [zi r7] rfl (Nat.le_of_ble_eq_true rfl) d_La_law_233 ?_
        rcases zite h with ⟨c14, h⟩ | ⟨c14, h⟩
        · refine z_icmp_eqt C 1289 c14 d_La_law_236 (by decide) ?_
          refine z_iinc C 3 (a3 + (6 : Int32)) [(3, zi (a3 + (6 : Int32))), (0, zr (some (zX + 60))), (1, zr (some 0)), (2, zr (some 72))] rfl d_La_law_1289 (by first | rfl | decide) (by decide) rfl ?_
          refine z_goto C 18 d_La_law_1292 (by decide) ?_
          refine zq_lsub [1, 2, 3, 0] [(0, zr (some (zX + 60))), (1, zr (some 0)), (2, zr (some 72)), (3, zi (a3 + (6 : Int32)))] rfl ?_
          refine z_widen (98 + 5 * (k + 1)) (32000 + 503 * (k + 1)) (by omega) (by omega) ?_
          exact ih (a3 + (6 : Int32)) S13 (k + 1) (by omega) h
        · refine z_icmp_eqf C 1289 c14 d_La_law_236 (by decide) ?_
          refine z_iconst C (0 : Int32) (by decide) d_La_law_239 ?_
          cases h
      · rcases zite h with ⟨c15, h⟩ | ⟨c15, h⟩
        · refine z_tab C (1 : Int32) 208 241 c15 (by decide) (by decide) (by decide) (by decide) d_La_law_33 ?_
          refine z_aload_n C 1 rfl d_La_law_241 rfl ?_
          refine z_aload_n C 0 rfl d_La_law_242 rfl ?_
          refine z_iload_n C 3 rfl d_La_law_243 rfl ?_
          refine z_iconst C (1 : Int32) (by decide) d_La_law_244 ?_
          refine z_iadd C d_La_law_245 ?_
          obtain ⟨g16, h⟩ := zgd_some h
          refine z_sld C hX hXb g16 d_La_law_246 ?_
          refine z_aload_n C 0 rfl d_La_law_247 rfl ?_
          refine z_iload_n C 3 rfl d_La_law_248 rfl ?_
          refine z_iconst C (2 : Int32) (by decide) d_La_law_249 ?_
          refine z_iadd C d_La_law_250 ?_
          obtain ⟨g17, h⟩ := zgd_some h
          refine z_sld C hX hXb g17 d_La_law_251 ?_
          refine z_aload_n C 0 rfl d_La_law_252 rfl ?_
          refine z_iload_n C 3 rfl d_La_law_253 rfl ?_
          refine z_iconst C (3 : Int32) (by decide) d_La_law_254 ?_
          refine z_iadd C d_La_law_255 ?_
          obtain ⟨g18, h⟩ := zgd_some h
          refine z_sld C hX hXb g18 d_La_law_256 ?_
          obtain ⟨r20, S21, h19, h⟩ := zb2_some h
          refine z_cV C 0 (by decide) (m_E_channel l h19) mf_E_channel lk_La_18 in_E_channel se_E_channel rfl zo_0 zk_0 ⟨rfl, rfl⟩ ⟨by decide, by decide⟩ ⟨by show _ ≤ 600000; omega, by show _ ≤ 7302250; omega⟩ rfl _ [] rfl (Nat.le_of_ble_eq_true rfl) d_La_law_257 ?_
          refine z_aload_n C 2 rfl d_La_law_260 rfl ?_
          refine z_aload_n C 0 rfl d_La_law_261 rfl ?_
          refine z_iload_n C 3 rfl d_La_law_262 rfl ?_
          refine z_iconst C (1 : Int32) (by decide) d_La_law_263 ?_
          refine z_iadd C d_La_law_264 ?_
          obtain ⟨g22, h⟩ := zgd_some h
          refine z_sld C hX hXb g22 d_La_law_265 ?_
          refine z_aload_n C 0 rfl d_La_law_266 rfl ?_
          refine z_iload_n C 3 rfl d_La_law_267 rfl ?_
          refine z_iconst C (2 : Int32) (by decide) d_La_law_268 ?_
          refine z_iadd C d_La_law_269 ?_
          obtain ⟨g23, h⟩ := zgd_some h
          refine z_sld C hX hXb g23 d_La_law_270 ?_
          refine z_aload_n C 0 rfl d_La_law_271 rfl ?_
          refine z_iload_n C 3 rfl d_La_law_272 rfl ?_
          refine z_iconst C (3 : Int32) (by decide) d_La_law_273 ?_
          refine z_iadd C d_La_law_274 ?_
          obtain ⟨g24, h⟩ := zgd_some h
          refine z_sld C hX hXb g24 d_La_law_275 ?_
          obtain ⟨r26, S27, h25, h⟩ := zb2_some h
          refine z_cV C 11 (by decide) (m_M_channel l h25) mf_M_channel lk_La_22 in_M_channel se_M_channel rfl zo_72 zk_72 ⟨rfl, rfl⟩ ⟨by decide, by decide⟩ ⟨by show _ ≤ 600000; omega, by show _ ≤ 7302250; omega⟩ rfl _ [zi r20] rfl (Nat.le_of_ble_eq_true rfl) d_La_law_276 ?_
          rcases zite h with ⟨c28, h⟩ | ⟨c28, h⟩
          · refine z_icmp_eqt C 1289 c28 d_La_law_279 (by decide) ?_
            refine z_iinc C 3 (a3 + (6 : Int32)) [(3, zi (a3 + (6 : Int32))), (0, zr (some (zX + 60))), (1, zr (some 0)), (2, zr (some 72))] rfl d_La_law_1289 (by first | rfl | decide) (by decide) rfl ?_
            refine z_goto C 18 d_La_law_1292 (by decide) ?_
            refine zq_lsub [1, 2, 3, 0] [(0, zr (some (zX + 60))), (1, zr (some 0)), (2, zr (some 72)), (3, zi (a3 + (6 : Int32)))] rfl ?_
            refine z_widen (98 + 5 * (k + 1)) (32000 + 503 * (k + 1)) (by omega) (by omega) ?_
            exact ih (a3 + (6 : Int32)) S27 (k + 1) (by omega) h
          · refine z_icmp_eqf C 1289 c28 d_La_law_279 (by decide) ?_
            refine z_iconst C (0 : Int32) (by decide) d_La_law_282 ?_
            cases h
        · rcases zite h with ⟨c29, h⟩ | ⟨c29, h⟩
          · refine z_tab C (2 : Int32) 251 284 c29 (by decide) (by decide) (by decide) (by decide) d_La_law_33 ?_
            refine z_aload_n C 1 rfl d_La_law_284 rfl ?_
            refine z_aload_n C 0 rfl d_La_law_285 rfl ?_
            refine z_iload_n C 3 rfl d_La_law_286 rfl ?_
            refine z_iconst C (1 : Int32) (by decide) d_La_law_287 ?_
            refine z_iadd C d_La_law_288 ?_
            obtain ⟨g30, h⟩ := zgd_some h
            refine z_sld C hX hXb g30 d_La_law_289 ?_
            refine z_aload_n C 0 rfl d_La_law_290 rfl ?_
            refine z_iload_n C 3 rfl d_La_law_291 rfl ?_
            refine z_iconst C (2 : Int32) (by decide) d_La_law_292 ?_
            refine z_iadd C d_La_law_293 ?_
            obtain ⟨g31, h⟩ := zgd_some h
            refine z_sld C hX hXb g31 d_La_law_294 ?_
            obtain ⟨r33, S34, h32, h⟩ := zb2_some h
            refine z_cV C 0 (by decide) (m_E_of l h32) mf_E_of lk_La_23 in_E_of se_E_of rfl zo_0 zk_0 ⟨rfl, rfl⟩ ⟨by decide, by decide⟩ ⟨by show _ ≤ 600000; omega, by show _ ≤ 7302250; omega⟩ rfl _ [] rfl (Nat.le_of_ble_eq_true rfl) d_La_law_295 ?_
            refine z_aload_n C 2 rfl d_La_law_298 rfl ?_
            refine z_aload_n C 0 rfl d_La_law_299 rfl ?_
            refine z_iload_n C 3 rfl d_La_law_300 rfl ?_
            refine z_iconst C (1 : Int32) (by decide) d_La_law_301 ?_
            refine z_iadd C d_La_law_302 ?_
            obtain ⟨g35, h⟩ := zgd_some h
            refine z_sld C hX hXb g35 d_La_law_303 ?_
            refine z_aload_n C 0 rfl d_La_law_304 rfl ?_
            refine z_iload_n C 3 rfl d_La_law_305 rfl ?_
            refine z_iconst C (2 : Int32) (by decide) d_La_law_306 ?_
            refine z_iadd C d_La_law_307 ?_
            obtain ⟨g36, h⟩ := zgd_some h
            refine z_sld C hX hXb g36 d_La_law_308 ?_
            obtain ⟨r38, S39, h37, h⟩ := zb2_some h
            refine z_cV C 11 (by decide) (m_M_of l h37) mf_M_of lk_La_26 in_M_of se_M_of rfl zo_72 zk_72 ⟨rfl, rfl⟩ ⟨by decide, by decide⟩ ⟨by show _ ≤ 600000; omega, by show _ ≤ 7302250; omega⟩ rfl _ [zi r33] rfl (Nat.le_of_ble_eq_true rfl) d_La_law_309 ?_
            rcases zite h with ⟨c40, h⟩ | ⟨c40, h⟩
            · refine z_icmp_eqt C 1289 c40 d_La_law_312 (by decide) ?_
              refine z_iinc C 3 (a3 + (6 : Int32)) [(3, zi (a3 + (6 : Int32))), (0, zr (some (zX + 60))), (1, zr (some 0)), (2, zr (some 72))] rfl d_La_law_1289 (by first | rfl | decide) (by decide) rfl ?_
              refine z_goto C 18 d_La_law_1292 (by decide) ?_
              refine zq_lsub [1, 2, 3, 0] [(0, zr (some (zX + 60))), (1, zr (some 0)), (2, zr (some 72)), (3, zi (a3 + (6 : Int32)))] rfl ?_
              refine z_widen (98 + 5 * (k + 1)) (32000 + 503 * (k + 1)) (by omega) (by omega) ?_
              exact ih (a3 + (6 : Int32)) S39 (k + 1) (by omega) h
            · refine z_icmp_eqf C 1289 c40 d_La_law_312 (by decide) ?_
              refine z_iconst C (0 : Int32) (by decide) d_La_law_315 ?_
              cases h
          · rcases zite h with ⟨c41, h⟩ | ⟨c41, h⟩
            · refine z_tab C (3 : Int32) 284 317 c41 (by decide) (by decide) (by decide) (by decide) d_La_law_33 ?_
              refine z_aload_n C 1 rfl d_La_law_317 rfl ?_
              refine z_aload_n C 0 rfl d_La_law_318 rfl ?_
              refine z_iload_n C 3 rfl d_La_law_319 rfl ?_
              refine z_iconst C (1 : Int32) (by decide) d_La_law_320 ?_
              refine z_iadd C d_La_law_321 ?_
              obtain ⟨g42, h⟩ := zgd_some h
              refine z_sld C hX hXb g42 d_La_law_322 ?_
              refine z_aload_n C 0 rfl d_La_law_323 rfl ?_
              refine z_iload_n C 3 rfl d_La_law_324 rfl ?_
              refine z_iconst C (2 : Int32) (by decide) d_La_law_325 ?_
              refine z_iadd C d_La_law_326 ?_
              obtain ⟨g43, h⟩ := zgd_some h
              refine z_sld C hX hXb g43 d_La_law_327 ?_
              refine z_aload_n C 0 rfl d_La_law_328 rfl ?_
              refine z_iload_n C 3 rfl d_La_law_329 rfl ?_
              refine z_iconst C (3 : Int32) (by decide) d_La_law_330 ?_
              refine z_iadd C d_La_law_331 ?_
              obtain ⟨g44, h⟩ := zgd_some h
              refine z_sld C hX hXb g44 d_La_law_332 ?_
              obtain ⟨r46, S47, h45, h⟩ := zb2_some h
              refine z_cV C 0 (by decide) (m_E_between l h45) mf_E_between lk_La_27 in_E_between se_E_between rfl zo_0 zk_0 ⟨rfl, rfl⟩ ⟨by decide, by decide⟩ ⟨by show _ ≤ 600000; omega, by show _ ≤ 7302250; omega⟩ rfl _ [] rfl (Nat.le_of_ble_eq_true rfl) d_La_law_333 ?_
              refine z_aload_n C 2 rfl d_La_law_336 rfl ?_
              refine z_aload_n C 0 rfl d_La_law_337 rfl ?_
              refine z_iload_n C 3 rfl d_La_law_338 rfl ?_
              refine z_iconst C (1 : Int32) (by decide) d_La_law_339 ?_
              refine z_iadd C d_La_law_340 ?_
              obtain ⟨g48, h⟩ := zgd_some h
              refine z_sld C hX hXb g48 d_La_law_341 ?_
              refine z_aload_n C 0 rfl d_La_law_342 rfl ?_
              refine z_iload_n C 3 rfl d_La_law_343 rfl ?_
              refine z_iconst C (2 : Int32) (by decide) d_La_law_344 ?_
              refine z_iadd C d_La_law_345 ?_
              obtain ⟨g49, h⟩ := zgd_some h
              refine z_sld C hX hXb g49 d_La_law_346 ?_
              refine z_aload_n C 0 rfl d_La_law_347 rfl ?_
              refine z_iload_n C 3 rfl d_La_law_348 rfl ?_
              refine z_iconst C (3 : Int32) (by decide) d_La_law_349 ?_
              refine z_iadd C d_La_law_350 ?_
              obtain ⟨g50, h⟩ := zgd_some h
              refine z_sld C hX hXb g50 d_La_law_351 ?_
              obtain ⟨r52, S53, h51, h⟩ := zb2_some h
              refine z_cV C 11 (by decide) (m_M_between l h51) mf_M_between lk_La_30 in_M_between se_M_between rfl zo_72 zk_72 ⟨rfl, rfl⟩ ⟨by decide, by decide⟩ ⟨by show _ ≤ 600000; omega, by show _ ≤ 7302250; omega⟩ rfl _ [zi r46] rfl (Nat.le_of_ble_eq_true rfl) d_La_law_352 ?_
              rcases zite h with ⟨c54, h⟩ | ⟨c54, h⟩
              · refine z_icmp_eqt C 1289 c54 d_La_law_355 (by decide) ?_
                refine z_iinc C 3 (a3 + (6 : Int32)) [(3, zi (a3 + (6 : Int32))), (0, zr (some (zX + 60))), (1, zr (some 0)), (2, zr (some 72))] rfl d_La_law_1289 (by first | rfl | decide) (by decide) rfl ?_
                refine z_goto C 18 d_La_law_1292 (by decide) ?_
                refine zq_lsub [1, 2, 3, 0] [(0, zr (some (zX + 60))), (1, zr (some 0)), (2, zr (some 72)), (3, zi (a3 + (6 : Int32)))] rfl ?_
                refine z_widen (98 + 5 * (k + 1)) (32000 + 503 * (k + 1)) (by omega) (by omega) ?_
                exact ih (a3 + (6 : Int32)) S53 (k + 1) (by omega) h
              · refine z_icmp_eqf C 1289 c54 d_La_law_355 (by decide) ?_
                refine z_iconst C (0 : Int32) (by decide) d_La_law_358 ?_
                cases h
            · rcases zite h with ⟨c55, h⟩ | ⟨c55, h⟩
              · refine z_tab C (4 : Int32) 327 360 c55 (by decide) (by decide) (by decide) (by decide) d_La_law_33 ?_
                refine z_aload_n C 1 rfl d_La_law_360 rfl ?_
                refine z_aload_n C 0 rfl d_La_law_361 rfl ?_
                refine z_iload_n C 3 rfl d_La_law_362 rfl ?_
                refine z_iconst C (1 : Int32) (by decide) d_La_law_363 ?_
                refine z_iadd C d_La_law_364 ?_
                obtain ⟨g56, h⟩ := zgd_some h
                refine z_sld C hX hXb g56 d_La_law_365 ?_
                refine z_aload_n C 0 rfl d_La_law_366 rfl ?_
                refine z_iload_n C 3 rfl d_La_law_367 rfl ?_
                refine z_iconst C (2 : Int32) (by decide) d_La_law_368 ?_
                refine z_iadd C d_La_law_369 ?_
                obtain ⟨g57, h⟩ := zgd_some h
                refine z_sld C hX hXb g57 d_La_law_370 ?_
                obtain ⟨r59, S60, h58, h⟩ := zb2_some h
                refine z_cV C 0 (by decide) (m_E_terms l h58) mf_E_terms lk_La_31 in_E_terms se_E_terms rfl zo_0 zk_0 ⟨rfl, rfl⟩ ⟨by decide, by decide⟩ ⟨by show _ ≤ 600000; omega, by show _ ≤ 7302250; omega⟩ rfl _ [] rfl (Nat.le_of_ble_eq_true rfl) d_La_law_371 ?_
                refine z_aload_n C 2 rfl d_La_law_374 rfl ?_
                refine z_aload_n C 0 rfl d_La_law_375 rfl ?_
                refine z_iload_n C 3 rfl d_La_law_376 rfl ?_
                refine z_iconst C (1 : Int32) (by decide) d_La_law_377 ?_
                refine z_iadd C d_La_law_378 ?_
                obtain ⟨g61, h⟩ := zgd_some h
                refine z_sld C hX hXb g61 d_La_law_379 ?_
                refine z_aload_n C 0 rfl d_La_law_380 rfl ?_
                refine z_iload_n C 3 rfl d_La_law_381 rfl ?_
                refine z_iconst C (2 : Int32) (by decide) d_La_law_382 ?_
                refine z_iadd C d_La_law_383 ?_
                obtain ⟨g62, h⟩ := zgd_some h
                refine z_sld C hX hXb g62 d_La_law_384 ?_
                obtain ⟨r64, S65, h63, h⟩ := zb2_some h
                refine z_cV C 11 (by decide) (m_M_terms l h63) mf_M_terms lk_La_34 in_M_terms se_M_terms rfl zo_72 zk_72 ⟨rfl, rfl⟩ ⟨by decide, by decide⟩ ⟨by show _ ≤ 600000; omega, by show _ ≤ 7302250; omega⟩ rfl _ [zi r59] rfl (Nat.le_of_ble_eq_true rfl) d_La_law_385 ?_
                rcases zite h with ⟨c66, h⟩ | ⟨c66, h⟩
                · refine z_icmp_eqt C 1289 c66 d_La_law_388 (by decide) ?_
                  refine z_iinc C 3 (a3 + (6 : Int32)) [(3, zi (a3 + (6 : Int32))), (0, zr (some (zX + 60))), (1, zr (some 0)), (2, zr (some 72))] rfl d_La_law_1289 (by first | rfl | decide) (by decide) rfl ?_
                  refine z_goto C 18 d_La_law_1292 (by decide) ?_
                  refine zq_lsub [1, 2, 3, 0] [(0, zr (some (zX + 60))), (1, zr (some 0)), (2, zr (some 72)), (3, zi (a3 + (6 : Int32)))] rfl ?_
                  refine z_widen (98 + 5 * (k + 1)) (32000 + 503 * (k + 1)) (by omega) (by omega) ?_
                  exact ih (a3 + (6 : Int32)) S65 (k + 1) (by omega) h
                · refine z_icmp_eqf C 1289 c66 d_La_law_388 (by decide) ?_
                  refine z_iconst C (0 : Int32) (by decide) d_La_law_391 ?_
                  cases h
              · rcases zite h with ⟨c67, h⟩ | ⟨c67, h⟩
                · refine z_tab C (5 : Int32) 360 393 c67 (by decide) (by decide) (by decide) (by decide) d_La_law_33 ?_
                  refine z_aload_n C 1 rfl d_La_law_393 rfl ?_
                  refine z_aload_n C 0 rfl d_La_law_394 rfl ?_
                  refine z_iload_n C 3 rfl d_La_law_395 rfl ?_
                  refine z_iconst C (1 : Int32) (by decide) d_La_law_396 ?_
                  refine z_iadd C d_La_law_397 ?_
                  obtain ⟨g68, h⟩ := zgd_some h
                  refine z_sld C hX hXb g68 d_La_law_398 ?_
                  refine z_aload_n C 0 rfl d_La_law_399 rfl ?_
                  refine z_iload_n C 3 rfl d_La_law_400 rfl ?_
                  refine z_iconst C (2 : Int32) (by decide) d_La_law_401 ?_
                  refine z_iadd C d_La_law_402 ?_
                  obtain ⟨g69, h⟩ := zgd_some h
                  refine z_sld C hX hXb g69 d_La_law_403 ?_
                  refine z_aload_n C 0 rfl d_La_law_404 rfl ?_
                  refine z_iload_n C 3 rfl d_La_law_405 rfl ?_
                  refine z_iconst C (3 : Int32) (by decide) d_La_law_406 ?_
                  refine z_iadd C d_La_law_407 ?_
                  obtain ⟨g70, h⟩ := zgd_some h
                  refine z_sld C hX hXb g70 d_La_law_408 ?_
                  refine z_aload_n C 0 rfl d_La_law_409 rfl ?_
                  refine z_iload_n C 3 rfl d_La_law_410 rfl ?_
                  refine z_iconst C (4 : Int32) (by decide) d_La_law_411 ?_
                  refine z_iadd C d_La_law_412 ?_
                  obtain ⟨g71, h⟩ := zgd_some h
                  refine z_sld C hX hXb g71 d_La_law_413 ?_
                  refine z_aload_n C 0 rfl d_La_law_414 rfl ?_
                  refine z_iload_n C 3 rfl d_La_law_415 rfl ?_
                  refine z_iconst C (5 : Int32) (by decide) d_La_law_416 ?_
                  refine z_iadd C d_La_law_417 ?_
                  obtain ⟨g72, h⟩ := zgd_some h
                  refine z_sld C hX hXb g72 d_La_law_418 ?_
                  obtain ⟨r74, S75, h73, h⟩ := zb2_some h
                  refine z_cV C 0 (by decide) (m_E_feed l h73) mf_E_feed lk_La_35 in_E_feed se_E_feed rfl zo_0 zk_0 ⟨rfl, rfl⟩ ⟨by decide, by decide⟩ ⟨by show _ ≤ 600000; omega, by show _ ≤ 7302250; omega⟩ rfl _ [] rfl (Nat.le_of_ble_eq_true rfl) d_La_law_419 ?_
                  refine z_aload_n C 2 rfl d_La_law_422 rfl ?_
                  refine z_aload_n C 0 rfl d_La_law_423 rfl ?_
                  refine z_iload_n C 3 rfl d_La_law_424 rfl ?_
                  refine z_iconst C (1 : Int32) (by decide) d_La_law_425 ?_
                  refine z_iadd C d_La_law_426 ?_
                  obtain ⟨g76, h⟩ := zgd_some h
                  refine z_sld C hX hXb g76 d_La_law_427 ?_
                  refine z_aload_n C 0 rfl d_La_law_428 rfl ?_
                  refine z_iload_n C 3 rfl d_La_law_429 rfl ?_
                  refine z_iconst C (2 : Int32) (by decide) d_La_law_430 ?_
                  refine z_iadd C d_La_law_431 ?_
                  obtain ⟨g77, h⟩ := zgd_some h
                  refine z_sld C hX hXb g77 d_La_law_432 ?_
                  refine z_aload_n C 0 rfl d_La_law_433 rfl ?_
                  refine z_iload_n C 3 rfl d_La_law_434 rfl ?_
                  refine z_iconst C (3 : Int32) (by decide) d_La_law_435 ?_
                  refine z_iadd C d_La_law_436 ?_
                  obtain ⟨g78, h⟩ := zgd_some h
                  refine z_sld C hX hXb g78 d_La_law_437 ?_
                  refine z_aload_n C 0 rfl d_La_law_438 rfl ?_
                  refine z_iload_n C 3 rfl d_La_law_439 rfl ?_
                  refine z_iconst C (4 : Int32) (by decide) d_La_law_440 ?_
                  refine z_iadd C d_La_law_441 ?_
                  obtain ⟨g79, h⟩ := zgd_some h
                  refine z_sld C hX hXb g79 d_La_law_442 ?_
                  refine z_aload_n C 0 rfl d_La_law_443 rfl ?_
                  refine z_iload_n C 3 rfl d_La_law_444 rfl ?_
                  refine z_iconst C (5 : Int32) (by decide) d_La_law_445 ?_
                  refine z_iadd C d_La_law_446 ?_
                  obtain ⟨g80, h⟩ := zgd_some h
                  refine z_sld C hX hXb g80 d_La_law_447 ?_
                  obtain ⟨r82, S83, h81, h⟩ := zb2_some h
                  refine z_cV C 11 (by decide) (m_M_feed l h81) mf_M_feed lk_La_39 in_M_feed se_M_feed rfl zo_72 zk_72 ⟨rfl, rfl⟩ ⟨by decide, by decide⟩ ⟨by show _ ≤ 600000; omega, by show _ ≤ 7302250; omega⟩ rfl _ [zi r74] rfl (Nat.le_of_ble_eq_true rfl) d_La_law_448 ?_
                  rcases zite h with ⟨c84, h⟩ | ⟨c84, h⟩
                  · refine z_icmp_eqt C 1289 c84 d_La_law_451 (by decide) ?_
                    refine z_iinc C 3 (a3 + (6 : Int32)) [(3, zi (a3 + (6 : Int32))), (0, zr (some (zX + 60))), (1, zr (some 0)), (2, zr (some 72))] rfl d_La_law_1289 (by first | rfl | decide) (by decide) rfl ?_
                    refine z_goto C 18 d_La_law_1292 (by decide) ?_
                    refine zq_lsub [1, 2, 3, 0] [(0, zr (some (zX + 60))), (1, zr (some 0)), (2, zr (some 72)), (3, zi (a3 + (6 : Int32)))] rfl ?_
                    refine z_widen (98 + 5 * (k + 1)) (32000 + 503 * (k + 1)) (by omega) (by omega) ?_
                    exact ih (a3 + (6 : Int32)) S83 (k + 1) (by omega) h
                  · refine z_icmp_eqf C 1289 c84 d_La_law_451 (by decide) ?_
                    refine z_iconst C (0 : Int32) (by decide) d_La_law_454 ?_
                    cases h
                · rcases zite h with ⟨c85, h⟩ | ⟨c85, h⟩
                  · refine z_tab C (6 : Int32) 423 456 c85 (by decide) (by decide) (by decide) (by decide) d_La_law_33 ?_
                    refine z_aload_n C 1 rfl d_La_law_456 rfl ?_
                    refine z_aload_n C 0 rfl d_La_law_457 rfl ?_
                    refine z_iload_n C 3 rfl d_La_law_458 rfl ?_
                    refine z_iconst C (1 : Int32) (by decide) d_La_law_459 ?_
                    refine z_iadd C d_La_law_460 ?_
                    obtain ⟨g86, h⟩ := zgd_some h
                    refine z_sld C hX hXb g86 d_La_law_461 ?_
                    obtain ⟨r88, S89, h87, h⟩ := zb2_some h
                    refine z_cV C 0 (by decide) (m_E_end l h87) mf_E_end lk_La_40 in_E_end se_E_end rfl zo_0 zk_0 ⟨rfl, rfl⟩ ⟨by decide, by decide⟩ ⟨by show _ ≤ 600000; omega, by show _ ≤ 7302250; omega⟩ rfl _ [] rfl (Nat.le_of_ble_eq_true rfl) d_La_law_462 ?_
                    refine z_aload_n C 2 rfl d_La_law_465 rfl ?_
                    refine z_aload_n C 0 rfl d_La_law_466 rfl ?_
                    refine z_iload_n C 3 rfl d_La_law_467 rfl ?_
                    refine z_iconst C (1 : Int32) (by decide) d_La_law_468 ?_
                    refine z_iadd C d_La_law_469 ?_
                    obtain ⟨g90, h⟩ := zgd_some h
                    refine z_sld C hX hXb g90 d_La_law_470 ?_
                    obtain ⟨r92, S93, h91, h⟩ := zb2_some h
                    refine z_cV C 11 (by decide) (m_M_end l h91) mf_M_end lk_La_44 in_M_end se_M_end rfl zo_72 zk_72 ⟨rfl, rfl⟩ ⟨by decide, by decide⟩ ⟨by show _ ≤ 600000; omega, by show _ ≤ 7302250; omega⟩ rfl _ [zi r88] rfl (Nat.le_of_ble_eq_true rfl) d_La_law_471 ?_
                    rcases zite h with ⟨c94, h⟩ | ⟨c94, h⟩
                    · refine z_icmp_eqt C 1289 c94 d_La_law_474 (by decide) ?_
                      refine z_iinc C 3 (a3 + (6 : Int32)) [(3, zi (a3 + (6 : Int32))), (0, zr (some (zX + 60))), (1, zr (some 0)), (2, zr (some 72))] rfl d_La_law_1289 (by first | rfl | decide) (by decide) rfl ?_
                      refine z_goto C 18 d_La_law_1292 (by decide) ?_
                      refine zq_lsub [1, 2, 3, 0] [(0, zr (some (zX + 60))), (1, zr (some 0)), (2, zr (some 72)), (3, zi (a3 + (6 : Int32)))] rfl ?_
                      refine z_widen (98 + 5 * (k + 1)) (32000 + 503 * (k + 1)) (by omega) (by omega) ?_
                      exact ih (a3 + (6 : Int32)) S93 (k + 1) (by omega) h
                    · refine z_icmp_eqf C 1289 c94 d_La_law_474 (by decide) ?_
                      refine z_iconst C (0 : Int32) (by decide) d_La_law_477 ?_
                      cases h
                  · rcases zite h with ⟨c95, h⟩ | ⟨c95, h⟩
                    · refine z_tab C (7 : Int32) 446 479 c95 (by decide) (by decide) (by decide) (by decide) d_La_law_33 ?_
                      refine z_aload_n C 1 rfl d_La_law_479 rfl ?_
                      obtain ⟨r97, S98, h96, h⟩ := zb2_some h
                      refine z_cV C 0 (by decide) (m_E_row l h96) mf_E_row lk_La_45 in_E_row se_E_row rfl zo_0 zk_0 ⟨rfl, rfl⟩ ⟨by decide, by decide⟩ ⟨by show _ ≤ 600000; omega, by show _ ≤ 7302250; omega⟩ rfl _ [] rfl (Nat.le_of_ble_eq_true rfl) d_La_law_480 ?_
                      refine z_aload_n C 2 rfl d_La_law_483 rfl ?_
                      obtain ⟨r100, S101, h99, h⟩ := zb2_some h
                      refine z_cV C 11 (by decide) (m_M_row l h99) mf_M_row lk_La_49 in_M_row se_M_row rfl zo_72 zk_72 ⟨rfl, rfl⟩ ⟨by decide, by decide⟩ ⟨by show _ ≤ 600000; omega, by show _ ≤ 7302250; omega⟩ rfl _ [zi r97] rfl (Nat.le_of_ble_eq_true rfl) d_La_law_484 ?_
                      rcases zite h with ⟨c102, h⟩ | ⟨c102, h⟩
                      · refine z_icmp_eqt C 1289 c102 d_La_law_487 (by decide) ?_
                        refine z_iinc C 3 (a3 + (6 : Int32)) [(3, zi (a3 + (6 : Int32))), (0, zr (some (zX + 60))), (1, zr (some 0)), (2, zr (some 72))] rfl d_La_law_1289 (by first | rfl | decide) (by decide) rfl ?_
                        refine z_goto C 18 d_La_law_1292 (by decide) ?_
                        refine zq_lsub [1, 2, 3, 0] [(0, zr (some (zX + 60))), (1, zr (some 0)), (2, zr (some 72)), (3, zi (a3 + (6 : Int32)))] rfl ?_
                        refine z_widen (98 + 5 * (k + 1)) (32000 + 503 * (k + 1)) (by omega) (by omega) ?_
                        exact ih (a3 + (6 : Int32)) S101 (k + 1) (by omega) h
                      · refine z_icmp_eqf C 1289 c102 d_La_law_487 (by decide) ?_
                        refine z_iconst C (0 : Int32) (by decide) d_La_law_490 ?_
                        cases h
                    · rcases zite h with ⟨c103, h⟩ | ⟨c103, h⟩
                      · refine z_tab C (8 : Int32) 459 492 c103 (by decide) (by decide) (by decide) (by decide) d_La_law_33 ?_
                        refine z_aload_n C 1 rfl d_La_law_492 rfl ?_
                        obtain ⟨r105, h104, h⟩ := zb1_some h
                        refine z_cV C 0 (by decide) (m_E_bubbles l h104) mf_E_bubbles lk_La_50 in_E_bubbles se_E_bubbles rfl zo_0 zk_0 ⟨rfl, rfl⟩ ⟨by decide, by decide⟩ ⟨by show _ ≤ 600000; omega, by show _ ≤ 7302250; omega⟩ rfl _ [] rfl (Nat.le_of_ble_eq_true rfl) d_La_law_493 ?_
                        refine z_aload_n C 2 rfl d_La_law_496 rfl ?_
                        obtain ⟨r107, h106, h⟩ := zb1_some h
                        refine z_cV C 11 (by decide) (m_M_bubbles l h106) mf_M_bubbles lk_La_53 in_M_bubbles se_M_bubbles rfl zo_72 zk_72 ⟨rfl, rfl⟩ ⟨by decide, by decide⟩ ⟨by show _ ≤ 600000; omega, by show _ ≤ 7302250; omega⟩ rfl _ [zi r105] rfl (Nat.le_of_ble_eq_true rfl) d_La_law_497 ?_
                        rcases zite h with ⟨c108, h⟩ | ⟨c108, h⟩
                        · refine z_icmp_eqt C 1289 c108 d_La_law_500 (by decide) ?_
                          refine z_iinc C 3 (a3 + (6 : Int32)) [(3, zi (a3 + (6 : Int32))), (0, zr (some (zX + 60))), (1, zr (some 0)), (2, zr (some 72))] rfl d_La_law_1289 (by first | rfl | decide) (by decide) rfl ?_
                          refine z_goto C 18 d_La_law_1292 (by decide) ?_
                          refine zq_lsub [1, 2, 3, 0] [(0, zr (some (zX + 60))), (1, zr (some 0)), (2, zr (some 72)), (3, zi (a3 + (6 : Int32)))] rfl ?_
                          refine z_widen (98 + 5 * (k + 1)) (32000 + 503 * (k + 1)) (by omega) (by omega) ?_
                          exact ih (a3 + (6 : Int32)) S (k + 1) (by omega) h
                        · refine z_icmp_eqf C 1289 c108 d_La_law_500 (by decide) ?_
                          refine z_iconst C (0 : Int32) (by decide) d_La_law_503 ?_
                          cases h
                      · rcases zite h with ⟨c109, h⟩ | ⟨c109, h⟩
                        · refine z_tab C (9 : Int32) 472 505 c109 (by decide) (by decide) (by decide) (by decide) d_La_law_33 ?_
                          refine z_aload_n C 1 rfl d_La_law_505 rfl ?_
                          obtain ⟨r111, S112, h110, h⟩ := zb2_some h
                          refine z_callV C 0 (by decide) (m_E_law l h110) mf_E_law lk_La_54 in_E_law (Or.inl se_E_law) rfl zo_0 zk_0 ⟨by decide, by decide, by show 98 + 5 * k + 5 ≤ 600000; omega, by show 32000 + 503 * k + 503 ≤ 7302250; omega⟩ rfl _ [] rfl (Nat.le_of_ble_eq_true rfl) d_La_law_506 ?_
                          refine z_widen (98 + 5 * (k + 1)) (32000 + 503 * (k + 1)) (by show _ + 5 ≤ _; omega) (by show _ + 503 ≤ _; omega) ?_
                          refine z_aload_n C 2 rfl d_La_law_509 rfl ?_
                          obtain ⟨r114, S115, h113, h⟩ := zb2_some h
                          refine z_cV C 11 (by decide) (m_M_law l h113) mf_M_law lk_La_57 in_M_law se_M_law rfl zo_72 zk_72 ⟨rfl, rfl⟩ ⟨by decide, by decide⟩ ⟨by show _ ≤ 600000; omega, by show _ ≤ 7302250; omega⟩ rfl _ [zi r111] rfl (Nat.le_of_ble_eq_true rfl) d_La_law_510 ?_
                          rcases zite h with ⟨c116, h⟩ | ⟨c116, h⟩
                          · refine z_icmp_eqt C 1289 c116 d_La_law_513 (by decide) ?_
                            refine z_iinc C 3 (a3 + (6 : Int32)) [(3, zi (a3 + (6 : Int32))), (0, zr (some (zX + 60))), (1, zr (some 0)), (2, zr (some 72))] rfl d_La_law_1289 (by first | rfl | decide) (by decide) rfl ?_
                            refine z_goto C 18 d_La_law_1292 (by decide) ?_
                            refine zq_lsub [1, 2, 3, 0] [(0, zr (some (zX + 60))), (1, zr (some 0)), (2, zr (some 72)), (3, zi (a3 + (6 : Int32)))] rfl ?_
                            refine z_widen (98 + 5 * (k + 1)) (32000 + 503 * (k + 1)) (by omega) (by omega) ?_
                            exact ih (a3 + (6 : Int32)) S115 (k + 1) (by omega) h
                          · refine z_icmp_eqf C 1289 c116 d_La_law_513 (by decide) ?_
                            refine z_iconst C (0 : Int32) (by decide) d_La_law_516 ?_
                            cases h
                        · rcases zite h with ⟨c117, h⟩ | ⟨c117, h⟩
                          · refine z_tab C (10 : Int32) 485 518 c117 (by decide) (by decide) (by decide) (by decide) d_La_law_33 ?_
                            refine z_aload_n C 1 rfl d_La_law_518 rfl ?_
                            obtain ⟨r119, S120, h118, h⟩ := zb2_some h
                            refine z_cV C 0 (by decide) (m_E_orders l h118) mf_E_orders lk_La_58 in_E_orders se_E_orders rfl zo_0 zk_0 ⟨rfl, rfl⟩ ⟨by decide, by decide⟩ ⟨by show _ ≤ 600000; omega, by show _ ≤ 7302250; omega⟩ rfl _ [] rfl (Nat.le_of_ble_eq_true rfl) d_La_law_519 ?_
                            refine z_aload_n C 2 rfl d_La_law_522 rfl ?_
                            obtain ⟨r122, S123, h121, h⟩ := zb2_some h
                            refine z_cV C 11 (by decide) (m_M_orders l h121) mf_M_orders lk_La_61 in_M_orders se_M_orders rfl zo_72 zk_72 ⟨rfl, rfl⟩ ⟨by decide, by decide⟩ ⟨by show _ ≤ 600000; omega, by show _ ≤ 7302250; omega⟩ rfl _ [zi r119] rfl (Nat.le_of_ble_eq_true rfl) d_La_law_523 ?_
                            rcases zite h with ⟨c124, h⟩ | ⟨c124, h⟩
                            · refine z_icmp_eqt C 1289 c124 d_La_law_526 (by decide) ?_
                              refine z_iinc C 3 (a3 + (6 : Int32)) [(3, zi (a3 + (6 : Int32))), (0, zr (some (zX + 60))), (1, zr (some 0)), (2, zr (some 72))] rfl d_La_law_1289 (by first | rfl | decide) (by decide) rfl ?_
                              refine z_goto C 18 d_La_law_1292 (by decide) ?_
                              refine zq_lsub [1, 2, 3, 0] [(0, zr (some (zX + 60))), (1, zr (some 0)), (2, zr (some 72)), (3, zi (a3 + (6 : Int32)))] rfl ?_
                              refine z_widen (98 + 5 * (k + 1)) (32000 + 503 * (k + 1)) (by omega) (by omega) ?_
                              exact ih (a3 + (6 : Int32)) S123 (k + 1) (by omega) h
                            · refine z_icmp_eqf C 1289 c124 d_La_law_526 (by decide) ?_
                              refine z_iconst C (0 : Int32) (by decide) d_La_law_529 ?_
                              cases h
                          · rcases zite h with ⟨c125, h⟩ | ⟨c125, h⟩
                            · refine z_tab C (11 : Int32) 498 531 c125 (by decide) (by decide) (by decide) (by decide) d_La_law_33 ?_
                              refine z_aload_n C 1 rfl d_La_law_531 rfl ?_
                              obtain ⟨r127, h126, h⟩ := zb1_some h
                              refine z_cV C 0 (by decide) (m_E_fault l h126) mf_E_fault lk_La_62 in_E_fault se_E_fault rfl zo_0 zk_0 ⟨rfl, rfl⟩ ⟨by decide, by decide⟩ ⟨by show _ ≤ 600000; omega, by show _ ≤ 7302250; omega⟩ rfl _ [] rfl (Nat.le_of_ble_eq_true rfl) d_La_law_532 ?_
                              refine z_aload_n C 2 rfl d_La_law_535 rfl ?_
                              obtain ⟨r129, h128, h⟩ := zb1_some h
                              refine z_cV C 11 (by decide) (m_M_fault l h128) mf_M_fault lk_La_65 in_M_fault se_M_fault rfl zo_72 zk_72 ⟨rfl, rfl⟩ ⟨by decide, by decide⟩ ⟨by show _ ≤ 600000; omega, by show _ ≤ 7302250; omega⟩ rfl _ [zi r127] rfl (Nat.le_of_ble_eq_true rfl) d_La_law_536 ?_
                              rcases zite h with ⟨c130, h⟩ | ⟨c130, h⟩
                              · refine z_icmp_eqt C 1289 c130 d_La_law_539 (by decide) ?_
                                refine z_iinc C 3 (a3 + (6 : Int32)) [(3, zi (a3 + (6 : Int32))), (0, zr (some (zX + 60))), (1, zr (some 0)), (2, zr (some 72))] rfl d_La_law_1289 (by first | rfl | decide) (by decide) rfl ?_
                                refine z_goto C 18 d_La_law_1292 (by decide) ?_
                                refine zq_lsub [1, 2, 3, 0] [(0, zr (some (zX + 60))), (1, zr (some 0)), (2, zr (some 72)), (3, zi (a3 + (6 : Int32)))] rfl ?_
                                refine z_widen (98 + 5 * (k + 1)) (32000 + 503 * (k + 1)) (by omega) (by omega) ?_
                                exact ih (a3 + (6 : Int32)) S (k + 1) (by omega) h
                              · refine z_icmp_eqf C 1289 c130 d_La_law_539 (by decide) ?_
                                refine z_iconst C (0 : Int32) (by decide) d_La_law_542 ?_
                                cases h
                            · rcases zite h with ⟨c131, h⟩ | ⟨c131, h⟩
                              · refine z_tab C (12 : Int32) 511 544 c131 (by decide) (by decide) (by decide) (by decide) d_La_law_33 ?_
                                refine z_aload_n C 1 rfl d_La_law_544 rfl ?_
                                obtain ⟨r133, h132, h⟩ := zb1_some h
                                refine z_cV C 0 (by decide) (m_E_stopped l h132) mf_E_stopped lk_La_66 in_E_stopped se_E_stopped rfl zo_0 zk_0 ⟨rfl, rfl⟩ ⟨by decide, by decide⟩ ⟨by show _ ≤ 600000; omega, by show _ ≤ 7302250; omega⟩ rfl _ [] rfl (Nat.le_of_ble_eq_true rfl) d_La_law_545 ?_
                                refine z_aload_n C 2 rfl d_La_law_548 rfl ?_
                                obtain ⟨r135, h134, h⟩ := zb1_some h
                                refine z_cV C 11 (by decide) (m_M_stopped l h134) mf_M_stopped lk_La_69 in_M_stopped se_M_stopped rfl zo_72 zk_72 ⟨rfl, rfl⟩ ⟨by decide, by decide⟩ ⟨by show _ ≤ 600000; omega, by show _ ≤ 7302250; omega⟩ rfl _ [zi r133] rfl (Nat.le_of_ble_eq_true rfl) d_La_law_549 ?_
                                rcases zite h with ⟨c136, h⟩ | ⟨c136, h⟩
                                · refine z_icmp_eqt C 1289 c136 d_La_law_552 (by decide) ?_
                                  refine z_iinc C 3 (a3 + (6 : Int32)) [(3, zi (a3 + (6 : Int32))), (0, zr (some (zX + 60))), (1, zr (some 0)), (2, zr (some 72))] rfl d_La_law_1289 (by first | rfl | decide) (by decide) rfl ?_
                                  refine z_goto C 18 d_La_law_1292 (by decide) ?_
                                  refine zq_lsub [1, 2, 3, 0] [(0, zr (some (zX + 60))), (1, zr (some 0)), (2, zr (some 72)), (3, zi (a3 + (6 : Int32)))] rfl ?_
                                  refine z_widen (98 + 5 * (k + 1)) (32000 + 503 * (k + 1)) (by omega) (by omega) ?_
                                  exact ih (a3 + (6 : Int32)) S (k + 1) (by omega) h
                                · refine z_icmp_eqf C 1289 c136 d_La_law_552 (by decide) ?_
                                  refine z_iconst C (0 : Int32) (by decide) d_La_law_555 ?_
                                  cases h
                              · rcases zite h with ⟨c137, h⟩ | ⟨c137, h⟩
                                · refine z_tab C (13 : Int32) 524 557 c137 (by decide) (by decide) (by decide) (by decide) d_La_law_33 ?_
                                  refine z_aload_n C 1 rfl d_La_law_557 rfl ?_
                                  refine z_aload_n C 0 rfl d_La_law_558 rfl ?_
                                  refine z_iload_n C 3 rfl d_La_law_559 rfl ?_
                                  refine z_iconst C (1 : Int32) (by decide) d_La_law_560 ?_
                                  refine z_iadd C d_La_law_561 ?_
                                  obtain ⟨g138, h⟩ := zgd_some h
                                  refine z_sld C hX hXb g138 d_La_law_562 ?_
                                  obtain ⟨r140, S141, h139, h⟩ := zb2_some h
                                  refine z_cV C 0 (by decide) (m_E_force l h139) mf_E_force lk_La_70 in_E_force se_E_force rfl zo_0 zk_0 ⟨rfl, rfl⟩ ⟨by decide, by decide⟩ ⟨by show _ ≤ 600000; omega, by show _ ≤ 7302250; omega⟩ rfl _ [] rfl (Nat.le_of_ble_eq_true rfl) d_La_law_563 ?_
                                  refine z_aload_n C 2 rfl d_La_law_566 rfl ?_
                                  refine z_aload_n C 0 rfl d_La_law_567 rfl ?_
                                  refine z_iload_n C 3 rfl d_La_law_568 rfl ?_
                                  refine z_iconst C (1 : Int32) (by decide) d_La_law_569 ?_
                                  refine z_iadd C d_La_law_570 ?_
                                  obtain ⟨g142, h⟩ := zgd_some h
                                  refine z_sld C hX hXb g142 d_La_law_571 ?_
                                  obtain ⟨r144, S145, h143, h⟩ := zb2_some h
                                  refine z_cV C 11 (by decide) (m_M_force l h143) mf_M_force lk_La_73 in_M_force se_M_force rfl zo_72 zk_72 ⟨rfl, rfl⟩ ⟨by decide, by decide⟩ ⟨by show _ ≤ 600000; omega, by show _ ≤ 7302250; omega⟩ rfl _ [zi r140] rfl (Nat.le_of_ble_eq_true rfl) d_La_law_572 ?_
                                  rcases zite h with ⟨c146, h⟩ | ⟨c146, h⟩
                                  · refine z_icmp_eqt C 1289 c146 d_La_law_575 (by decide) ?_
                                    refine z_iinc C 3 (a3 + (6 : Int32)) [(3, zi (a3 + (6 : Int32))), (0, zr (some (zX + 60))), (1, zr (some 0)), (2, zr (some 72))] rfl d_La_law_1289 (by first | rfl | decide) (by decide) rfl ?_
                                    refine z_goto C 18 d_La_law_1292 (by decide) ?_
                                    refine zq_lsub [1, 2, 3, 0] [(0, zr (some (zX + 60))), (1, zr (some 0)), (2, zr (some 72)), (3, zi (a3 + (6 : Int32)))] rfl ?_
                                    refine z_widen (98 + 5 * (k + 1)) (32000 + 503 * (k + 1)) (by omega) (by omega) ?_
                                    exact ih (a3 + (6 : Int32)) S145 (k + 1) (by omega) h
                                  · refine z_icmp_eqf C 1289 c146 d_La_law_575 (by decide) ?_
                                    refine z_iconst C (0 : Int32) (by decide) d_La_law_578 ?_
                                    cases h
                                · rcases zite h with ⟨c147, h⟩ | ⟨c147, h⟩
                                  · refine z_tab C (14 : Int32) 547 580 c147 (by decide) (by decide) (by decide) (by decide) d_La_law_33 ?_
                                    refine z_aload_n C 1 rfl d_La_law_580 rfl ?_
                                    refine z_aload_n C 0 rfl d_La_law_581 rfl ?_
                                    refine z_iload_n C 3 rfl d_La_law_582 rfl ?_
                                    refine z_iconst C (1 : Int32) (by decide) d_La_law_583 ?_
                                    refine z_iadd C d_La_law_584 ?_
                                    obtain ⟨g148, h⟩ := zgd_some h
                                    refine z_sld C hX hXb g148 d_La_law_585 ?_
                                    obtain ⟨r150, S151, h149, h⟩ := zb2_some h
                                    refine z_cV C 0 (by decide) (m_E_swim l h149) mf_E_swim lk_La_74 in_E_swim se_E_swim rfl zo_0 zk_0 ⟨rfl, rfl⟩ ⟨by decide, by decide⟩ ⟨by show _ ≤ 600000; omega, by show _ ≤ 7302250; omega⟩ rfl _ [] rfl (Nat.le_of_ble_eq_true rfl) d_La_law_586 ?_
                                    refine z_aload_n C 2 rfl d_La_law_589 rfl ?_
                                    refine z_aload_n C 0 rfl d_La_law_590 rfl ?_
                                    refine z_iload_n C 3 rfl d_La_law_591 rfl ?_
                                    refine z_iconst C (1 : Int32) (by decide) d_La_law_592 ?_
                                    refine z_iadd C d_La_law_593 ?_
                                    obtain ⟨g152, h⟩ := zgd_some h
                                    refine z_sld C hX hXb g152 d_La_law_594 ?_
                                    obtain ⟨r154, S155, h153, h⟩ := zb2_some h
                                    refine z_cV C 11 (by decide) (m_M_swim l h153) mf_M_swim lk_La_77 in_M_swim se_M_swim rfl zo_72 zk_72 ⟨rfl, rfl⟩ ⟨by decide, by decide⟩ ⟨by show _ ≤ 600000; omega, by show _ ≤ 7302250; omega⟩ rfl _ [zi r150] rfl (Nat.le_of_ble_eq_true rfl) d_La_law_595 ?_
                                    rcases zite h with ⟨c156, h⟩ | ⟨c156, h⟩
                                    · refine z_icmp_eqt C 1289 c156 d_La_law_598 (by decide) ?_
                                      refine z_iinc C 3 (a3 + (6 : Int32)) [(3, zi (a3 + (6 : Int32))), (0, zr (some (zX + 60))), (1, zr (some 0)), (2, zr (some 72))] rfl d_La_law_1289 (by first | rfl | decide) (by decide) rfl ?_
                                      refine z_goto C 18 d_La_law_1292 (by decide) ?_
                                      refine zq_lsub [1, 2, 3, 0] [(0, zr (some (zX + 60))), (1, zr (some 0)), (2, zr (some 72)), (3, zi (a3 + (6 : Int32)))] rfl ?_
                                      refine z_widen (98 + 5 * (k + 1)) (32000 + 503 * (k + 1)) (by omega) (by omega) ?_
                                      exact ih (a3 + (6 : Int32)) S155 (k + 1) (by omega) h
                                    · refine z_icmp_eqf C 1289 c156 d_La_law_598 (by decide) ?_
                                      refine z_iconst C (0 : Int32) (by decide) d_La_law_601 ?_
                                      cases h
                                  · rcases zite h with ⟨c157, h⟩ | ⟨c157, h⟩
                                    · refine z_tab C (15 : Int32) 570 603 c157 (by decide) (by decide) (by decide) (by decide) d_La_law_33 ?_
                                      refine z_aload_n C 1 rfl d_La_law_603 rfl ?_
                                      refine z_aload_n C 0 rfl d_La_law_604 rfl ?_
                                      refine z_iload_n C 3 rfl d_La_law_605 rfl ?_
                                      refine z_iconst C (1 : Int32) (by decide) d_La_law_606 ?_
                                      refine z_iadd C d_La_law_607 ?_
                                      obtain ⟨g158, h⟩ := zgd_some h
                                      refine z_sld C hX hXb g158 d_La_law_608 ?_
                                      refine z_aload_n C 0 rfl d_La_law_609 rfl ?_
                                      refine z_iload_n C 3 rfl d_La_law_610 rfl ?_
                                      refine z_iconst C (2 : Int32) (by decide) d_La_law_611 ?_
                                      refine z_iadd C d_La_law_612 ?_
                                      obtain ⟨g159, h⟩ := zgd_some h
                                      refine z_sld C hX hXb g159 d_La_law_613 ?_
                                      obtain ⟨r161, S162, h160, h⟩ := zb2_some h
                                      refine z_cV C 0 (by decide) (m_E_gate l h160) mf_E_gate lk_La_78 in_E_gate se_E_gate rfl zo_0 zk_0 ⟨rfl, rfl⟩ ⟨by decide, by decide⟩ ⟨by show _ ≤ 600000; omega, by show _ ≤ 7302250; omega⟩ rfl _ [] rfl (Nat.le_of_ble_eq_true rfl) d_La_law_614 ?_
                                      refine z_aload_n C 2 rfl d_La_law_617 rfl ?_
                                      refine z_aload_n C 0 rfl d_La_law_618 rfl ?_
                                      refine z_iload_n C 3 rfl d_La_law_619 rfl ?_
                                      refine z_iconst C (1 : Int32) (by decide) d_La_law_620 ?_
                                      refine z_iadd C d_La_law_621 ?_
                                      obtain ⟨g163, h⟩ := zgd_some h
                                      refine z_sld C hX hXb g163 d_La_law_622 ?_
                                      refine z_aload_n C 0 rfl d_La_law_623 rfl ?_
                                      refine z_iload_n C 3 rfl d_La_law_624 rfl ?_
                                      refine z_iconst C (2 : Int32) (by decide) d_La_law_625 ?_
                                      refine z_iadd C d_La_law_626 ?_
                                      obtain ⟨g164, h⟩ := zgd_some h
                                      refine z_sld C hX hXb g164 d_La_law_627 ?_
                                      obtain ⟨r166, S167, h165, h⟩ := zb2_some h
                                      refine z_cV C 11 (by decide) (m_M_gate l h165) mf_M_gate lk_La_81 in_M_gate se_M_gate rfl zo_72 zk_72 ⟨rfl, rfl⟩ ⟨by decide, by decide⟩ ⟨by show _ ≤ 600000; omega, by show _ ≤ 7302250; omega⟩ rfl _ [zi r161] rfl (Nat.le_of_ble_eq_true rfl) d_La_law_628 ?_
                                      rcases zite h with ⟨c168, h⟩ | ⟨c168, h⟩
                                      · refine z_icmp_eqt C 1289 c168 d_La_law_631 (by decide) ?_
                                        refine z_iinc C 3 (a3 + (6 : Int32)) [(3, zi (a3 + (6 : Int32))), (0, zr (some (zX + 60))), (1, zr (some 0)), (2, zr (some 72))] rfl d_La_law_1289 (by first | rfl | decide) (by decide) rfl ?_
                                        refine z_goto C 18 d_La_law_1292 (by decide) ?_
                                        refine zq_lsub [1, 2, 3, 0] [(0, zr (some (zX + 60))), (1, zr (some 0)), (2, zr (some 72)), (3, zi (a3 + (6 : Int32)))] rfl ?_
                                        refine z_widen (98 + 5 * (k + 1)) (32000 + 503 * (k + 1)) (by omega) (by omega) ?_
                                        exact ih (a3 + (6 : Int32)) S167 (k + 1) (by omega) h
                                      · refine z_icmp_eqf C 1289 c168 d_La_law_631 (by decide) ?_
                                        refine z_iconst C (0 : Int32) (by decide) d_La_law_634 ?_
                                        cases h
                                    · rcases zite h with ⟨c169, h⟩ | ⟨c169, h⟩
                                      · refine z_tab C (16 : Int32) 603 636 c169 (by decide) (by decide) (by decide) (by decide) d_La_law_33 ?_
                                        refine z_aload_n C 1 rfl d_La_law_636 rfl ?_
                                        refine z_aload_n C 0 rfl d_La_law_637 rfl ?_
                                        refine z_iload_n C 3 rfl d_La_law_638 rfl ?_
                                        refine z_iconst C (1 : Int32) (by decide) d_La_law_639 ?_
                                        refine z_iadd C d_La_law_640 ?_
                                        obtain ⟨g170, h⟩ := zgd_some h
                                        refine z_sld C hX hXb g170 d_La_law_641 ?_
                                        refine z_aload_n C 0 rfl d_La_law_642 rfl ?_
                                        refine z_iload_n C 3 rfl d_La_law_643 rfl ?_
                                        refine z_iconst C (2 : Int32) (by decide) d_La_law_644 ?_
                                        refine z_iadd C d_La_law_645 ?_
                                        obtain ⟨g171, h⟩ := zgd_some h
                                        refine z_sld C hX hXb g171 d_La_law_646 ?_
                                        obtain ⟨r173, S174, h172, h⟩ := zb2_some h
                                        refine z_cV C 0 (by decide) (m_E_stir l h172) mf_E_stir lk_La_82 in_E_stir se_E_stir rfl zo_0 zk_0 ⟨rfl, rfl⟩ ⟨by decide, by decide⟩ ⟨by show _ ≤ 600000; omega, by show _ ≤ 7302250; omega⟩ rfl _ [] rfl (Nat.le_of_ble_eq_true rfl) d_La_law_647 ?_
                                        refine z_aload_n C 2 rfl d_La_law_650 rfl ?_
                                        refine z_aload_n C 0 rfl d_La_law_651 rfl ?_
                                        refine z_iload_n C 3 rfl d_La_law_652 rfl ?_
                                        refine z_iconst C (1 : Int32) (by decide) d_La_law_653 ?_
                                        refine z_iadd C d_La_law_654 ?_
                                        obtain ⟨g175, h⟩ := zgd_some h
                                        refine z_sld C hX hXb g175 d_La_law_655 ?_
                                        refine z_aload_n C 0 rfl d_La_law_656 rfl ?_
                                        refine z_iload_n C 3 rfl d_La_law_657 rfl ?_
                                        refine z_iconst C (2 : Int32) (by decide) d_La_law_658 ?_
                                        refine z_iadd C d_La_law_659 ?_
                                        obtain ⟨g176, h⟩ := zgd_some h
                                        refine z_sld C hX hXb g176 d_La_law_660 ?_
                                        obtain ⟨r178, S179, h177, h⟩ := zb2_some h
                                        refine z_cV C 11 (by decide) (m_M_stir l h177) mf_M_stir lk_La_85 in_M_stir se_M_stir rfl zo_72 zk_72 ⟨rfl, rfl⟩ ⟨by decide, by decide⟩ ⟨by show _ ≤ 600000; omega, by show _ ≤ 7302250; omega⟩ rfl _ [zi r173] rfl (Nat.le_of_ble_eq_true rfl) d_La_law_661 ?_
                                        rcases zite h with ⟨c180, h⟩ | ⟨c180, h⟩
                                        · refine z_icmp_eqt C 1289 c180 d_La_law_664 (by decide) ?_
                                          refine z_iinc C 3 (a3 + (6 : Int32)) [(3, zi (a3 + (6 : Int32))), (0, zr (some (zX + 60))), (1, zr (some 0)), (2, zr (some 72))] rfl d_La_law_1289 (by first | rfl | decide) (by decide) rfl ?_
                                          refine z_goto C 18 d_La_law_1292 (by decide) ?_
                                          refine zq_lsub [1, 2, 3, 0] [(0, zr (some (zX + 60))), (1, zr (some 0)), (2, zr (some 72)), (3, zi (a3 + (6 : Int32)))] rfl ?_
                                          refine z_widen (98 + 5 * (k + 1)) (32000 + 503 * (k + 1)) (by omega) (by omega) ?_
                                          exact ih (a3 + (6 : Int32)) S179 (k + 1) (by omega) h
                                        · refine z_icmp_eqf C 1289 c180 d_La_law_664 (by decide) ?_
                                          refine z_iconst C (0 : Int32) (by decide) d_La_law_667 ?_
                                          cases h
                                      · rcases zite h with ⟨c181, h⟩ | ⟨c181, h⟩
                                        · refine z_tab C (17 : Int32) 636 669 c181 (by decide) (by decide) (by decide) (by decide) d_La_law_33 ?_
                                          refine z_aload_n C 1 rfl d_La_law_669 rfl ?_
                                          obtain ⟨r183, S184, h182, h⟩ := zb2_some h
                                          refine z_cV C 0 (by decide) (m_E_pass l h182) mf_E_pass lk_La_86 in_E_pass se_E_pass rfl zo_0 zk_0 ⟨rfl, rfl⟩ ⟨by decide, by decide⟩ ⟨by show _ ≤ 600000; omega, by show _ ≤ 7302250; omega⟩ rfl _ [] rfl (Nat.le_of_ble_eq_true rfl) d_La_law_670 ?_
                                          refine z_aload_n C 2 rfl d_La_law_673 rfl ?_
                                          obtain ⟨r186, S187, h185, h⟩ := zb2_some h
                                          refine z_cV C 11 (by decide) (m_M_pass l h185) mf_M_pass lk_La_89 in_M_pass se_M_pass rfl zo_72 zk_72 ⟨rfl, rfl⟩ ⟨by decide, by decide⟩ ⟨by show _ ≤ 600000; omega, by show _ ≤ 7302250; omega⟩ rfl _ [zi r183] rfl (Nat.le_of_ble_eq_true rfl) d_La_law_674 ?_
                                          rcases zite h with ⟨c188, h⟩ | ⟨c188, h⟩
                                          · refine z_icmp_eqt C 1289 c188 d_La_law_677 (by decide) ?_
                                            refine z_iinc C 3 (a3 + (6 : Int32)) [(3, zi (a3 + (6 : Int32))), (0, zr (some (zX + 60))), (1, zr (some 0)), (2, zr (some 72))] rfl d_La_law_1289 (by first | rfl | decide) (by decide) rfl ?_
                                            refine z_goto C 18 d_La_law_1292 (by decide) ?_
                                            refine zq_lsub [1, 2, 3, 0] [(0, zr (some (zX + 60))), (1, zr (some 0)), (2, zr (some 72)), (3, zi (a3 + (6 : Int32)))] rfl ?_
                                            refine z_widen (98 + 5 * (k + 1)) (32000 + 503 * (k + 1)) (by omega) (by omega) ?_
                                            exact ih (a3 + (6 : Int32)) S187 (k + 1) (by omega) h
                                          · refine z_icmp_eqf C 1289 c188 d_La_law_677 (by decide) ?_
                                            refine z_iconst C (0 : Int32) (by decide) d_La_law_680 ?_
                                            cases h
                                        · rcases zite h with ⟨c189, h⟩ | ⟨c189, h⟩
                                          · refine z_tab C (18 : Int32) 649 682 c189 (by decide) (by decide) (by decide) (by decide) d_La_law_33 ?_
                                            refine z_aload_n C 1 rfl d_La_law_682 rfl ?_
                                            obtain ⟨r191, S192, h190, h⟩ := zb2_some h
                                            refine z_cV C 0 (by decide) (m_E_undo l h190) mf_E_undo lk_La_90 in_E_undo se_E_undo rfl zo_0 zk_0 ⟨rfl, rfl⟩ ⟨by decide, by decide⟩ ⟨by show _ ≤ 600000; omega, by show _ ≤ 7302250; omega⟩ rfl _ [] rfl (Nat.le_of_ble_eq_true rfl) d_La_law_683 ?_
                                            refine z_aload_n C 2 rfl d_La_law_686 rfl ?_
                                            obtain ⟨r194, S195, h193, h⟩ := zb2_some h
                                            refine z_cV C 11 (by decide) (m_M_undo l h193) mf_M_undo lk_La_93 in_M_undo se_M_undo rfl zo_72 zk_72 ⟨rfl, rfl⟩ ⟨by decide, by decide⟩ ⟨by show _ ≤ 600000; omega, by show _ ≤ 7302250; omega⟩ rfl _ [zi r191] rfl (Nat.le_of_ble_eq_true rfl) d_La_law_687 ?_
                                            rcases zite h with ⟨c196, h⟩ | ⟨c196, h⟩
                                            · refine z_icmp_eqt C 1289 c196 d_La_law_690 (by decide) ?_
                                              refine z_iinc C 3 (a3 + (6 : Int32)) [(3, zi (a3 + (6 : Int32))), (0, zr (some (zX + 60))), (1, zr (some 0)), (2, zr (some 72))] rfl d_La_law_1289 (by first | rfl | decide) (by decide) rfl ?_
                                              refine z_goto C 18 d_La_law_1292 (by decide) ?_
                                              refine zq_lsub [1, 2, 3, 0] [(0, zr (some (zX + 60))), (1, zr (some 0)), (2, zr (some 72)), (3, zi (a3 + (6 : Int32)))] rfl ?_
                                              refine z_widen (98 + 5 * (k + 1)) (32000 + 503 * (k + 1)) (by omega) (by omega) ?_
                                              exact ih (a3 + (6 : Int32)) S195 (k + 1) (by omega) h
                                            · refine z_icmp_eqf C 1289 c196 d_La_law_690 (by decide) ?_
                                              refine z_iconst C (0 : Int32) (by decide) d_La_law_693 ?_
                                              cases h
                                          · rcases zite h with ⟨c197, h⟩ | ⟨c197, h⟩
                                            · refine z_tab C (19 : Int32) 662 695 c197 (by decide) (by decide) (by decide) (by decide) d_La_law_33 ?_
                                              refine z_aload_n C 1 rfl d_La_law_695 rfl ?_
                                              refine z_aload_n C 0 rfl d_La_law_696 rfl ?_
                                              refine z_iload_n C 3 rfl d_La_law_697 rfl ?_
                                              refine z_iconst C (1 : Int32) (by decide) d_La_law_698 ?_
                                              refine z_iadd C d_La_law_699 ?_
                                              obtain ⟨g198, h⟩ := zgd_some h
                                              refine z_sld C hX hXb g198 d_La_law_700 ?_
                                              refine z_aload_n C 0 rfl d_La_law_701 rfl ?_
                                              refine z_iload_n C 3 rfl d_La_law_702 rfl ?_
                                              refine z_iconst C (2 : Int32) (by decide) d_La_law_703 ?_
                                              refine z_iadd C d_La_law_704 ?_
                                              obtain ⟨g199, h⟩ := zgd_some h
                                              refine z_sld C hX hXb g199 d_La_law_705 ?_
                                              obtain ⟨r201, S202, h200, h⟩ := zb2_some h
                                              refine z_cV C 0 (by decide) (m_E_soon l h200) mf_E_soon lk_La_94 in_E_soon se_E_soon rfl zo_0 zk_0 ⟨rfl, rfl⟩ ⟨by decide, by decide⟩ ⟨by show _ ≤ 600000; omega, by show _ ≤ 7302250; omega⟩ rfl _ [] rfl (Nat.le_of_ble_eq_true rfl) d_La_law_706 ?_
                                              refine z_aload_n C 2 rfl d_La_law_709 rfl ?_
                                              refine z_aload_n C 0 rfl d_La_law_710 rfl ?_
                                              refine z_iload_n C 3 rfl d_La_law_711 rfl ?_
                                              refine z_iconst C (1 : Int32) (by decide) d_La_law_712 ?_
                                              refine z_iadd C d_La_law_713 ?_
                                              obtain ⟨g203, h⟩ := zgd_some h
                                              refine z_sld C hX hXb g203 d_La_law_714 ?_
                                              refine z_aload_n C 0 rfl d_La_law_715 rfl ?_
                                              refine z_iload_n C 3 rfl d_La_law_716 rfl ?_
                                              refine z_iconst C (2 : Int32) (by decide) d_La_law_717 ?_
                                              refine z_iadd C d_La_law_718 ?_
                                              obtain ⟨g204, h⟩ := zgd_some h
                                              refine z_sld C hX hXb g204 d_La_law_719 ?_
                                              obtain ⟨r206, S207, h205, h⟩ := zb2_some h
                                              refine z_cV C 11 (by decide) (m_M_soon l h205) mf_M_soon lk_La_97 in_M_soon se_M_soon rfl zo_72 zk_72 ⟨rfl, rfl⟩ ⟨by decide, by decide⟩ ⟨by show _ ≤ 600000; omega, by show _ ≤ 7302250; omega⟩ rfl _ [zi r201] rfl (Nat.le_of_ble_eq_true rfl) d_La_law_720 ?_
                                              rcases zite h with ⟨c208, h⟩ | ⟨c208, h⟩
                                              · refine z_icmp_eqt C 1289 c208 d_La_law_723 (by decide) ?_
                                                refine z_iinc C 3 (a3 + (6 : Int32)) [(3, zi (a3 + (6 : Int32))), (0, zr (some (zX + 60))), (1, zr (some 0)), (2, zr (some 72))] rfl d_La_law_1289 (by first | rfl | decide) (by decide) rfl ?_
                                                refine z_goto C 18 d_La_law_1292 (by decide) ?_
                                                refine zq_lsub [1, 2, 3, 0] [(0, zr (some (zX + 60))), (1, zr (some 0)), (2, zr (some 72)), (3, zi (a3 + (6 : Int32)))] rfl ?_
                                                refine z_widen (98 + 5 * (k + 1)) (32000 + 503 * (k + 1)) (by omega) (by omega) ?_
                                                exact ih (a3 + (6 : Int32)) S207 (k + 1) (by omega) h
                                              · refine z_icmp_eqf C 1289 c208 d_La_law_723 (by decide) ?_
                                                refine z_iconst C (0 : Int32) (by decide) d_La_law_726 ?_
                                                cases h
                                            · rcases zite h with ⟨c209, h⟩ | ⟨c209, h⟩
                                              · refine z_tab C (20 : Int32) 695 728 c209 (by decide) (by decide) (by decide) (by decide) d_La_law_33 ?_
                                                refine z_aload_n C 1 rfl d_La_law_728 rfl ?_
                                                refine z_aload_n C 0 rfl d_La_law_729 rfl ?_
                                                refine z_iload_n C 3 rfl d_La_law_730 rfl ?_
                                                refine z_iconst C (1 : Int32) (by decide) d_La_law_731 ?_
                                                refine z_iadd C d_La_law_732 ?_
                                                obtain ⟨g210, h⟩ := zgd_some h
                                                refine z_sld C hX hXb g210 d_La_law_733 ?_
                                                refine z_aload_n C 0 rfl d_La_law_734 rfl ?_
                                                refine z_iload_n C 3 rfl d_La_law_735 rfl ?_
                                                refine z_iconst C (2 : Int32) (by decide) d_La_law_736 ?_
                                                refine z_iadd C d_La_law_737 ?_
                                                obtain ⟨g211, h⟩ := zgd_some h
                                                refine z_sld C hX hXb g211 d_La_law_738 ?_
                                                refine z_aload_n C 0 rfl d_La_law_739 rfl ?_
                                                refine z_iload_n C 3 rfl d_La_law_740 rfl ?_
                                                refine z_iconst C (3 : Int32) (by decide) d_La_law_741 ?_
                                                refine z_iadd C d_La_law_742 ?_
                                                obtain ⟨g212, h⟩ := zgd_some h
                                                refine z_sld C hX hXb g212 d_La_law_743 ?_
                                                obtain ⟨r214, S215, h213, h⟩ := zb2_some h
                                                refine z_cV C 0 (by decide) (m_E_way l h213) mf_E_way lk_La_98 in_E_way se_E_way rfl zo_0 zk_0 ⟨rfl, rfl⟩ ⟨by decide, by decide⟩ ⟨by show _ ≤ 600000; omega, by show _ ≤ 7302250; omega⟩ rfl _ [] rfl (Nat.le_of_ble_eq_true rfl) d_La_law_744 ?_
                                                refine z_aload_n C 2 rfl d_La_law_747 rfl ?_
                                                refine z_aload_n C 0 rfl d_La_law_748 rfl ?_
                                                refine z_iload_n C 3 rfl d_La_law_749 rfl ?_
                                                refine z_iconst C (1 : Int32) (by decide) d_La_law_750 ?_
                                                refine z_iadd C d_La_law_751 ?_
                                                obtain ⟨g216, h⟩ := zgd_some h
                                                refine z_sld C hX hXb g216 d_La_law_752 ?_
                                                refine z_aload_n C 0 rfl d_La_law_753 rfl ?_
                                                refine z_iload_n C 3 rfl d_La_law_754 rfl ?_
                                                refine z_iconst C (2 : Int32) (by decide) d_La_law_755 ?_
                                                refine z_iadd C d_La_law_756 ?_
                                                obtain ⟨g217, h⟩ := zgd_some h
                                                refine z_sld C hX hXb g217 d_La_law_757 ?_
                                                refine z_aload_n C 0 rfl d_La_law_758 rfl ?_
                                                refine z_iload_n C 3 rfl d_La_law_759 rfl ?_
                                                refine z_iconst C (3 : Int32) (by decide) d_La_law_760 ?_
                                                refine z_iadd C d_La_law_761 ?_
                                                obtain ⟨g218, h⟩ := zgd_some h
                                                refine z_sld C hX hXb g218 d_La_law_762 ?_
                                                obtain ⟨r220, S221, h219, h⟩ := zb2_some h
                                                refine z_cV C 11 (by decide) (m_M_way l h219) mf_M_way lk_La_101 in_M_way se_M_way rfl zo_72 zk_72 ⟨rfl, rfl⟩ ⟨by decide, by decide⟩ ⟨by show _ ≤ 600000; omega, by show _ ≤ 7302250; omega⟩ rfl _ [zi r214] rfl (Nat.le_of_ble_eq_true rfl) d_La_law_763 ?_
                                                rcases zite h with ⟨c222, h⟩ | ⟨c222, h⟩
                                                · refine z_icmp_eqt C 1289 c222 d_La_law_766 (by decide) ?_
                                                  refine z_iinc C 3 (a3 + (6 : Int32)) [(3, zi (a3 + (6 : Int32))), (0, zr (some (zX + 60))), (1, zr (some 0)), (2, zr (some 72))] rfl d_La_law_1289 (by first | rfl | decide) (by decide) rfl ?_
                                                  refine z_goto C 18 d_La_law_1292 (by decide) ?_
                                                  refine zq_lsub [1, 2, 3, 0] [(0, zr (some (zX + 60))), (1, zr (some 0)), (2, zr (some 72)), (3, zi (a3 + (6 : Int32)))] rfl ?_
                                                  refine z_widen (98 + 5 * (k + 1)) (32000 + 503 * (k + 1)) (by omega) (by omega) ?_
                                                  exact ih (a3 + (6 : Int32)) S221 (k + 1) (by omega) h
                                                · refine z_icmp_eqf C 1289 c222 d_La_law_766 (by decide) ?_
                                                  refine z_iconst C (0 : Int32) (by decide) d_La_law_769 ?_
                                                  cases h
                                              · rcases zite h with ⟨c223, h⟩ | ⟨c223, h⟩
                                                · refine z_tab C (21 : Int32) 738 771 c223 (by decide) (by decide) (by decide) (by decide) d_La_law_33 ?_
                                                  refine z_aload_n C 1 rfl d_La_law_771 rfl ?_
                                                  refine z_aload_n C 0 rfl d_La_law_772 rfl ?_
                                                  refine z_iload_n C 3 rfl d_La_law_773 rfl ?_
                                                  refine z_iconst C (1 : Int32) (by decide) d_La_law_774 ?_
                                                  refine z_iadd C d_La_law_775 ?_
                                                  obtain ⟨g224, h⟩ := zgd_some h
                                                  refine z_sld C hX hXb g224 d_La_law_776 ?_
                                                  obtain ⟨r226, S227, h225, h⟩ := zb2_some h
                                                  refine z_cV C 0 (by decide) (m_E_never l h225) mf_E_never lk_La_102 in_E_never se_E_never rfl zo_0 zk_0 ⟨rfl, rfl⟩ ⟨by decide, by decide⟩ ⟨by show _ ≤ 600000; omega, by show _ ≤ 7302250; omega⟩ rfl _ [] rfl (Nat.le_of_ble_eq_true rfl) d_La_law_777 ?_
                                                  refine z_aload_n C 2 rfl d_La_law_780 rfl ?_
                                                  refine z_aload_n C 0 rfl d_La_law_781 rfl ?_
                                                  refine z_iload_n C 3 rfl d_La_law_782 rfl ?_
                                                  refine z_iconst C (1 : Int32) (by decide) d_La_law_783 ?_
                                                  refine z_iadd C d_La_law_784 ?_
                                                  obtain ⟨g228, h⟩ := zgd_some h
                                                  refine z_sld C hX hXb g228 d_La_law_785 ?_
                                                  obtain ⟨r230, S231, h229, h⟩ := zb2_some h
                                                  refine z_cV C 11 (by decide) (m_M_never l h229) mf_M_never lk_La_105 in_M_never se_M_never rfl zo_72 zk_72 ⟨rfl, rfl⟩ ⟨by decide, by decide⟩ ⟨by show _ ≤ 600000; omega, by show _ ≤ 7302250; omega⟩ rfl _ [zi r226] rfl (Nat.le_of_ble_eq_true rfl) d_La_law_786 ?_
                                                  rcases zite h with ⟨c232, h⟩ | ⟨c232, h⟩
                                                  · refine z_icmp_eqt C 1289 c232 d_La_law_789 (by decide) ?_
                                                    refine z_iinc C 3 (a3 + (6 : Int32)) [(3, zi (a3 + (6 : Int32))), (0, zr (some (zX + 60))), (1, zr (some 0)), (2, zr (some 72))] rfl d_La_law_1289 (by first | rfl | decide) (by decide) rfl ?_
                                                    refine z_goto C 18 d_La_law_1292 (by decide) ?_
                                                    refine zq_lsub [1, 2, 3, 0] [(0, zr (some (zX + 60))), (1, zr (some 0)), (2, zr (some 72)), (3, zi (a3 + (6 : Int32)))] rfl ?_
                                                    refine z_widen (98 + 5 * (k + 1)) (32000 + 503 * (k + 1)) (by omega) (by omega) ?_
                                                    exact ih (a3 + (6 : Int32)) S231 (k + 1) (by omega) h
                                                  · refine z_icmp_eqf C 1289 c232 d_La_law_789 (by decide) ?_
                                                    refine z_iconst C (0 : Int32) (by decide) d_La_law_792 ?_
                                                    cases h
                                                · rcases zite h with ⟨c233, h⟩ | ⟨c233, h⟩
                                                  · refine z_tab C (22 : Int32) 761 794 c233 (by decide) (by decide) (by decide) (by decide) d_La_law_33 ?_
                                                    refine z_aload_n C 1 rfl d_La_law_794 rfl ?_
                                                    refine z_aload_n C 0 rfl d_La_law_795 rfl ?_
                                                    refine z_iload_n C 3 rfl d_La_law_796 rfl ?_
                                                    refine z_iconst C (1 : Int32) (by decide) d_La_law_797 ?_
                                                    refine z_iadd C d_La_law_798 ?_
                                                    obtain ⟨g234, h⟩ := zgd_some h
                                                    refine z_sld C hX hXb g234 d_La_law_799 ?_
                                                    obtain ⟨r236, S237, h235, h⟩ := zb2_some h
                                                    refine z_cV C 0 (by decide) (m_E_centre l h235) mf_E_centre lk_La_106 in_E_centre se_E_centre rfl zo_0 zk_0 ⟨rfl, rfl⟩ ⟨by decide, by decide⟩ ⟨by show _ ≤ 600000; omega, by show _ ≤ 7302250; omega⟩ rfl _ [] rfl (Nat.le_of_ble_eq_true rfl) d_La_law_800 ?_
                                                    refine z_aload_n C 2 rfl d_La_law_803 rfl ?_
                                                    refine z_aload_n C 0 rfl d_La_law_804 rfl ?_
                                                    refine z_iload_n C 3 rfl d_La_law_805 rfl ?_
                                                    refine z_iconst C (1 : Int32) (by decide) d_La_law_806 ?_
                                                    refine z_iadd C d_La_law_807 ?_
                                                    obtain ⟨g238, h⟩ := zgd_some h
                                                    refine z_sld C hX hXb g238 d_La_law_808 ?_
                                                    obtain ⟨r240, S241, h239, h⟩ := zb2_some h
                                                    refine z_cV C 11 (by decide) (m_M_centre l h239) mf_M_centre lk_La_109 in_M_centre se_M_centre rfl zo_72 zk_72 ⟨rfl, rfl⟩ ⟨by decide, by decide⟩ ⟨by show _ ≤ 600000; omega, by show _ ≤ 7302250; omega⟩ rfl _ [zi r236] rfl (Nat.le_of_ble_eq_true rfl) d_La_law_809 ?_
                                                    rcases zite h with ⟨c242, h⟩ | ⟨c242, h⟩
                                                    · refine z_icmp_eqt C 1289 c242 d_La_law_812 (by decide) ?_
                                                      refine z_iinc C 3 (a3 + (6 : Int32)) [(3, zi (a3 + (6 : Int32))), (0, zr (some (zX + 60))), (1, zr (some 0)), (2, zr (some 72))] rfl d_La_law_1289 (by first | rfl | decide) (by decide) rfl ?_
                                                      refine z_goto C 18 d_La_law_1292 (by decide) ?_
                                                      refine zq_lsub [1, 2, 3, 0] [(0, zr (some (zX + 60))), (1, zr (some 0)), (2, zr (some 72)), (3, zi (a3 + (6 : Int32)))] rfl ?_
                                                      refine z_widen (98 + 5 * (k + 1)) (32000 + 503 * (k + 1)) (by omega) (by omega) ?_
                                                      exact ih (a3 + (6 : Int32)) S241 (k + 1) (by omega) h
                                                    · refine z_icmp_eqf C 1289 c242 d_La_law_812 (by decide) ?_
                                                      refine z_iconst C (0 : Int32) (by decide) d_La_law_815 ?_
                                                      cases h
                                                  · rcases zite h with ⟨c243, h⟩ | ⟨c243, h⟩
                                                    · refine z_tab C (23 : Int32) 784 817 c243 (by decide) (by decide) (by decide) (by decide) d_La_law_33 ?_
                                                      refine z_aload_n C 1 rfl d_La_law_817 rfl ?_
                                                      refine z_aload_n C 0 rfl d_La_law_818 rfl ?_
                                                      refine z_iload_n C 3 rfl d_La_law_819 rfl ?_
                                                      refine z_iconst C (1 : Int32) (by decide) d_La_law_820 ?_
                                                      refine z_iadd C d_La_law_821 ?_
                                                      obtain ⟨g244, h⟩ := zgd_some h
                                                      refine z_sld C hX hXb g244 d_La_law_822 ?_
                                                      refine z_aload_n C 0 rfl d_La_law_823 rfl ?_
                                                      refine z_iload_n C 3 rfl d_La_law_824 rfl ?_
                                                      refine z_iconst C (2 : Int32) (by decide) d_La_law_825 ?_
                                                      refine z_iadd C d_La_law_826 ?_
                                                      obtain ⟨g245, h⟩ := zgd_some h
                                                      refine z_sld C hX hXb g245 d_La_law_827 ?_
                                                      obtain ⟨r247, S248, h246, h⟩ := zb2_some h
                                                      refine z_cV C 0 (by decide) (m_E_round l h246) mf_E_round lk_La_110 in_E_round se_E_round rfl zo_0 zk_0 ⟨rfl, rfl⟩ ⟨by decide, by decide⟩ ⟨by show _ ≤ 600000; omega, by show _ ≤ 7302250; omega⟩ rfl _ [] rfl (Nat.le_of_ble_eq_true rfl) d_La_law_828 ?_
                                                      refine z_aload_n C 2 rfl d_La_law_831 rfl ?_
                                                      refine z_aload_n C 0 rfl d_La_law_832 rfl ?_
                                                      refine z_iload_n C 3 rfl d_La_law_833 rfl ?_
                                                      refine z_iconst C (1 : Int32) (by decide) d_La_law_834 ?_
                                                      refine z_iadd C d_La_law_835 ?_
                                                      obtain ⟨g249, h⟩ := zgd_some h
                                                      refine z_sld C hX hXb g249 d_La_law_836 ?_
                                                      refine z_aload_n C 0 rfl d_La_law_837 rfl ?_
                                                      refine z_iload_n C 3 rfl d_La_law_838 rfl ?_
                                                      refine z_iconst C (2 : Int32) (by decide) d_La_law_839 ?_
                                                      refine z_iadd C d_La_law_840 ?_
                                                      obtain ⟨g250, h⟩ := zgd_some h
                                                      refine z_sld C hX hXb g250 d_La_law_841 ?_
                                                      obtain ⟨r252, S253, h251, h⟩ := zb2_some h
                                                      refine z_cV C 11 (by decide) (m_M_round l h251) mf_M_round lk_La_113 in_M_round se_M_round rfl zo_72 zk_72 ⟨rfl, rfl⟩ ⟨by decide, by decide⟩ ⟨by show _ ≤ 600000; omega, by show _ ≤ 7302250; omega⟩ rfl _ [zi r247] rfl (Nat.le_of_ble_eq_true rfl) d_La_law_842 ?_
                                                      rcases zite h with ⟨c254, h⟩ | ⟨c254, h⟩
                                                      · refine z_icmp_eqt C 1289 c254 d_La_law_845 (by decide) ?_
                                                        refine z_iinc C 3 (a3 + (6 : Int32)) [(3, zi (a3 + (6 : Int32))), (0, zr (some (zX + 60))), (1, zr (some 0)), (2, zr (some 72))] rfl d_La_law_1289 (by first | rfl | decide) (by decide) rfl ?_
                                                        refine z_goto C 18 d_La_law_1292 (by decide) ?_
                                                        refine zq_lsub [1, 2, 3, 0] [(0, zr (some (zX + 60))), (1, zr (some 0)), (2, zr (some 72)), (3, zi (a3 + (6 : Int32)))] rfl ?_
                                                        refine z_widen (98 + 5 * (k + 1)) (32000 + 503 * (k + 1)) (by omega) (by omega) ?_
                                                        exact ih (a3 + (6 : Int32)) S253 (k + 1) (by omega) h
                                                      · refine z_icmp_eqf C 1289 c254 d_La_law_845 (by decide) ?_
                                                        refine z_iconst C (0 : Int32) (by decide) d_La_law_848 ?_
                                                        cases h
                                                    · rcases zite h with ⟨c255, h⟩ | ⟨c255, h⟩
                                                      · refine z_tab C (24 : Int32) 817 850 c255 (by decide) (by decide) (by decide) (by decide) d_La_law_33 ?_
                                                        refine z_aload_n C 1 rfl d_La_law_850 rfl ?_
                                                        refine z_aload_n C 0 rfl d_La_law_851 rfl ?_
                                                        refine z_iload_n C 3 rfl d_La_law_852 rfl ?_
                                                        refine z_iconst C (1 : Int32) (by decide) d_La_law_853 ?_
                                                        refine z_iadd C d_La_law_854 ?_
                                                        obtain ⟨g256, h⟩ := zgd_some h
                                                        refine z_sld C hX hXb g256 d_La_law_855 ?_
                                                        refine z_aload_n C 0 rfl d_La_law_856 rfl ?_
                                                        refine z_iload_n C 3 rfl d_La_law_857 rfl ?_
                                                        refine z_iconst C (2 : Int32) (by decide) d_La_law_858 ?_
                                                        refine z_iadd C d_La_law_859 ?_
                                                        obtain ⟨g257, h⟩ := zgd_some h
                                                        refine z_sld C hX hXb g257 d_La_law_860 ?_
                                                        refine z_aload_n C 0 rfl d_La_law_861 rfl ?_
                                                        refine z_iload_n C 3 rfl d_La_law_862 rfl ?_
                                                        refine z_iconst C (3 : Int32) (by decide) d_La_law_863 ?_
                                                        refine z_iadd C d_La_law_864 ?_
                                                        obtain ⟨g258, h⟩ := zgd_some h
                                                        refine z_sld C hX hXb g258 d_La_law_865 ?_
                                                        obtain ⟨r260, S261, h259, h⟩ := zb2_some h
                                                        refine z_cV C 0 (by decide) (m_E_bound l h259) mf_E_bound lk_La_114 in_E_bound se_E_bound rfl zo_0 zk_0 ⟨rfl, rfl⟩ ⟨by decide, by decide⟩ ⟨by show _ ≤ 600000; omega, by show _ ≤ 7302250; omega⟩ rfl _ [] rfl (Nat.le_of_ble_eq_true rfl) d_La_law_866 ?_
                                                        refine z_aload_n C 2 rfl d_La_law_869 rfl ?_
                                                        refine z_aload_n C 0 rfl d_La_law_870 rfl ?_
                                                        refine z_iload_n C 3 rfl d_La_law_871 rfl ?_
                                                        refine z_iconst C (1 : Int32) (by decide) d_La_law_872 ?_
                                                        refine z_iadd C d_La_law_873 ?_
                                                        obtain ⟨g262, h⟩ := zgd_some h
                                                        refine z_sld C hX hXb g262 d_La_law_874 ?_
                                                        refine z_aload_n C 0 rfl d_La_law_875 rfl ?_
                                                        refine z_iload_n C 3 rfl d_La_law_876 rfl ?_
                                                        refine z_iconst C (2 : Int32) (by decide) d_La_law_877 ?_
                                                        refine z_iadd C d_La_law_878 ?_
                                                        obtain ⟨g263, h⟩ := zgd_some h
                                                        refine z_sld C hX hXb g263 d_La_law_879 ?_
                                                        refine z_aload_n C 0 rfl d_La_law_880 rfl ?_
                                                        refine z_iload_n C 3 rfl d_La_law_881 rfl ?_
                                                        refine z_iconst C (3 : Int32) (by decide) d_La_law_882 ?_
                                                        refine z_iadd C d_La_law_883 ?_
                                                        obtain ⟨g264, h⟩ := zgd_some h
                                                        refine z_sld C hX hXb g264 d_La_law_884 ?_
                                                        obtain ⟨r266, S267, h265, h⟩ := zb2_some h
                                                        refine z_cV C 11 (by decide) (m_M_bound l h265) mf_M_bound lk_La_117 in_M_bound se_M_bound rfl zo_72 zk_72 ⟨rfl, rfl⟩ ⟨by decide, by decide⟩ ⟨by show _ ≤ 600000; omega, by show _ ≤ 7302250; omega⟩ rfl _ [zi r260] rfl (Nat.le_of_ble_eq_true rfl) d_La_law_885 ?_
                                                        rcases zite h with ⟨c268, h⟩ | ⟨c268, h⟩
                                                        · refine z_icmp_eqt C 1289 c268 d_La_law_888 (by decide) ?_
                                                          refine z_iinc C 3 (a3 + (6 : Int32)) [(3, zi (a3 + (6 : Int32))), (0, zr (some (zX + 60))), (1, zr (some 0)), (2, zr (some 72))] rfl d_La_law_1289 (by first | rfl | decide) (by decide) rfl ?_
                                                          refine z_goto C 18 d_La_law_1292 (by decide) ?_
                                                          refine zq_lsub [1, 2, 3, 0] [(0, zr (some (zX + 60))), (1, zr (some 0)), (2, zr (some 72)), (3, zi (a3 + (6 : Int32)))] rfl ?_
                                                          refine z_widen (98 + 5 * (k + 1)) (32000 + 503 * (k + 1)) (by omega) (by omega) ?_
                                                          exact ih (a3 + (6 : Int32)) S267 (k + 1) (by omega) h
                                                        · refine z_icmp_eqf C 1289 c268 d_La_law_888 (by decide) ?_
                                                          refine z_iconst C (0 : Int32) (by decide) d_La_law_891 ?_
                                                          cases h
                                                      · rcases zite h with ⟨c269, h⟩ | ⟨c269, h⟩
                                                        · refine z_tab C (25 : Int32) 860 893 c269 (by decide) (by decide) (by decide) (by decide) d_La_law_33 ?_
                                                          refine z_aload_n C 1 rfl d_La_law_893 rfl ?_
                                                          refine z_aload_n C 0 rfl d_La_law_894 rfl ?_
                                                          refine z_iload_n C 3 rfl d_La_law_895 rfl ?_
                                                          refine z_iconst C (1 : Int32) (by decide) d_La_law_896 ?_
                                                          refine z_iadd C d_La_law_897 ?_
                                                          obtain ⟨g270, h⟩ := zgd_some h
                                                          refine z_sld C hX hXb g270 d_La_law_898 ?_
                                                          refine z_aload_n C 0 rfl d_La_law_899 rfl ?_
                                                          refine z_iload_n C 3 rfl d_La_law_900 rfl ?_
                                                          refine z_iconst C (2 : Int32) (by decide) d_La_law_901 ?_
                                                          refine z_iadd C d_La_law_902 ?_
                                                          obtain ⟨g271, h⟩ := zgd_some h
                                                          refine z_sld C hX hXb g271 d_La_law_903 ?_
                                                          obtain ⟨r273, S274, h272, h⟩ := zb2_some h
                                                          refine z_cV C 0 (by decide) (m_E_share l h272) mf_E_share lk_La_118 in_E_share se_E_share rfl zo_0 zk_0 ⟨rfl, rfl⟩ ⟨by decide, by decide⟩ ⟨by show _ ≤ 600000; omega, by show _ ≤ 7302250; omega⟩ rfl _ [] rfl (Nat.le_of_ble_eq_true rfl) d_La_law_904 ?_
                                                          refine z_aload_n C 2 rfl d_La_law_907 rfl ?_
                                                          refine z_aload_n C 0 rfl d_La_law_908 rfl ?_
                                                          refine z_iload_n C 3 rfl d_La_law_909 rfl ?_
                                                          refine z_iconst C (1 : Int32) (by decide) d_La_law_910 ?_
                                                          refine z_iadd C d_La_law_911 ?_
                                                          obtain ⟨g275, h⟩ := zgd_some h
                                                          refine z_sld C hX hXb g275 d_La_law_912 ?_
                                                          refine z_aload_n C 0 rfl d_La_law_913 rfl ?_
                                                          refine z_iload_n C 3 rfl d_La_law_914 rfl ?_
                                                          refine z_iconst C (2 : Int32) (by decide) d_La_law_915 ?_
                                                          refine z_iadd C d_La_law_916 ?_
                                                          obtain ⟨g276, h⟩ := zgd_some h
                                                          refine z_sld C hX hXb g276 d_La_law_917 ?_
                                                          obtain ⟨r278, S279, h277, h⟩ := zb2_some h
                                                          refine z_cV C 11 (by decide) (m_M_share l h277) mf_M_share lk_La_121 in_M_share se_M_share rfl zo_72 zk_72 ⟨rfl, rfl⟩ ⟨by decide, by decide⟩ ⟨by show _ ≤ 600000; omega, by show _ ≤ 7302250; omega⟩ rfl _ [zi r273] rfl (Nat.le_of_ble_eq_true rfl) d_La_law_918 ?_
                                                          rcases zite h with ⟨c280, h⟩ | ⟨c280, h⟩
                                                          · refine z_icmp_eqt C 1289 c280 d_La_law_921 (by decide) ?_
                                                            refine z_iinc C 3 (a3 + (6 : Int32)) [(3, zi (a3 + (6 : Int32))), (0, zr (some (zX + 60))), (1, zr (some 0)), (2, zr (some 72))] rfl d_La_law_1289 (by first | rfl | decide) (by decide) rfl ?_
                                                            refine z_goto C 18 d_La_law_1292 (by decide) ?_
                                                            refine zq_lsub [1, 2, 3, 0] [(0, zr (some (zX + 60))), (1, zr (some 0)), (2, zr (some 72)), (3, zi (a3 + (6 : Int32)))] rfl ?_
                                                            refine z_widen (98 + 5 * (k + 1)) (32000 + 503 * (k + 1)) (by omega) (by omega) ?_
                                                            exact ih (a3 + (6 : Int32)) S279 (k + 1) (by omega) h
                                                          · refine z_icmp_eqf C 1289 c280 d_La_law_921 (by decide) ?_
                                                            refine z_iconst C (0 : Int32) (by decide) d_La_law_924 ?_
                                                            cases h
                                                        · rcases zite h with ⟨c281, h⟩ | ⟨c281, h⟩
                                                          · refine z_tab C (26 : Int32) 893 926 c281 (by decide) (by decide) (by decide) (by decide) d_La_law_33 ?_
                                                            refine z_aload_n C 1 rfl d_La_law_926 rfl ?_
                                                            refine z_aload_n C 0 rfl d_La_law_927 rfl ?_
                                                            refine z_iload_n C 3 rfl d_La_law_928 rfl ?_
                                                            refine z_iconst C (1 : Int32) (by decide) d_La_law_929 ?_
                                                            refine z_iadd C d_La_law_930 ?_
                                                            obtain ⟨g282, h⟩ := zgd_some h
                                                            refine z_sld C hX hXb g282 d_La_law_931 ?_
                                                            refine z_aload_n C 0 rfl d_La_law_932 rfl ?_
                                                            refine z_iload_n C 3 rfl d_La_law_933 rfl ?_
                                                            refine z_iconst C (2 : Int32) (by decide) d_La_law_934 ?_
                                                            refine z_iadd C d_La_law_935 ?_
                                                            obtain ⟨g283, h⟩ := zgd_some h
                                                            refine z_sld C hX hXb g283 d_La_law_936 ?_
                                                            obtain ⟨r285, S286, h284, h⟩ := zb2_some h
                                                            refine z_cV C 0 (by decide) (m_E_sea l h284) mf_E_sea lk_La_122 in_E_sea se_E_sea rfl zo_0 zk_0 ⟨rfl, rfl⟩ ⟨by decide, by decide⟩ ⟨by show _ ≤ 600000; omega, by show _ ≤ 7302250; omega⟩ rfl _ [] rfl (Nat.le_of_ble_eq_true rfl) d_La_law_937 ?_
                                                            refine z_aload_n C 2 rfl d_La_law_940 rfl ?_
                                                            refine z_aload_n C 0 rfl d_La_law_941 rfl ?_
                                                            refine z_iload_n C 3 rfl d_La_law_942 rfl ?_
                                                            refine z_iconst C (1 : Int32) (by decide) d_La_law_943 ?_
                                                            refine z_iadd C d_La_law_944 ?_
                                                            obtain ⟨g287, h⟩ := zgd_some h
                                                            refine z_sld C hX hXb g287 d_La_law_945 ?_
                                                            refine z_aload_n C 0 rfl d_La_law_946 rfl ?_
                                                            refine z_iload_n C 3 rfl d_La_law_947 rfl ?_
                                                            refine z_iconst C (2 : Int32) (by decide) d_La_law_948 ?_
                                                            refine z_iadd C d_La_law_949 ?_
                                                            obtain ⟨g288, h⟩ := zgd_some h
                                                            refine z_sld C hX hXb g288 d_La_law_950 ?_
                                                            obtain ⟨r290, S291, h289, h⟩ := zb2_some h
                                                            refine z_cV C 11 (by decide) (m_M_sea l h289) mf_M_sea lk_La_125 in_M_sea se_M_sea rfl zo_72 zk_72 ⟨rfl, rfl⟩ ⟨by decide, by decide⟩ ⟨by show _ ≤ 600000; omega, by show _ ≤ 7302250; omega⟩ rfl _ [zi r285] rfl (Nat.le_of_ble_eq_true rfl) d_La_law_951 ?_
                                                            rcases zite h with ⟨c292, h⟩ | ⟨c292, h⟩
                                                            · refine z_icmp_eqt C 1289 c292 d_La_law_954 (by decide) ?_
                                                              refine z_iinc C 3 (a3 + (6 : Int32)) [(3, zi (a3 + (6 : Int32))), (0, zr (some (zX + 60))), (1, zr (some 0)), (2, zr (some 72))] rfl d_La_law_1289 (by first | rfl | decide) (by decide) rfl ?_
                                                              refine z_goto C 18 d_La_law_1292 (by decide) ?_
                                                              refine zq_lsub [1, 2, 3, 0] [(0, zr (some (zX + 60))), (1, zr (some 0)), (2, zr (some 72)), (3, zi (a3 + (6 : Int32)))] rfl ?_
                                                              refine z_widen (98 + 5 * (k + 1)) (32000 + 503 * (k + 1)) (by omega) (by omega) ?_
                                                              exact ih (a3 + (6 : Int32)) S291 (k + 1) (by omega) h
                                                            · refine z_icmp_eqf C 1289 c292 d_La_law_954 (by decide) ?_
                                                              refine z_iconst C (0 : Int32) (by decide) d_La_law_957 ?_
                                                              cases h
                                                          · rcases zite h with ⟨c293, h⟩ | ⟨c293, h⟩
                                                            · refine z_tab C (27 : Int32) 926 959 c293 (by decide) (by decide) (by decide) (by decide) d_La_law_33 ?_
                                                              refine z_aload_n C 1 rfl d_La_law_959 rfl ?_
                                                              refine z_aload_n C 0 rfl d_La_law_960 rfl ?_
                                                              refine z_iload_n C 3 rfl d_La_law_961 rfl ?_
                                                              refine z_iconst C (1 : Int32) (by decide) d_La_law_962 ?_
                                                              refine z_iadd C d_La_law_963 ?_
                                                              obtain ⟨g294, h⟩ := zgd_some h
                                                              refine z_sld C hX hXb g294 d_La_law_964 ?_
                                                              refine z_aload_n C 0 rfl d_La_law_965 rfl ?_
                                                              refine z_iload_n C 3 rfl d_La_law_966 rfl ?_
                                                              refine z_iconst C (2 : Int32) (by decide) d_La_law_967 ?_
                                                              refine z_iadd C d_La_law_968 ?_
                                                              obtain ⟨g295, h⟩ := zgd_some h
                                                              refine z_sld C hX hXb g295 d_La_law_969 ?_
                                                              obtain ⟨r297, S298, h296, h⟩ := zb2_some h
                                                              refine z_cV C 0 (by decide) (m_E_heard l h296) mf_E_heard lk_La_126 in_E_heard se_E_heard rfl zo_0 zk_0 ⟨rfl, rfl⟩ ⟨by decide, by decide⟩ ⟨by show _ ≤ 600000; omega, by show _ ≤ 7302250; omega⟩ rfl _ [] rfl (Nat.le_of_ble_eq_true rfl) d_La_law_970 ?_
                                                              refine z_aload_n C 2 rfl d_La_law_973 rfl ?_
                                                              refine z_aload_n C 0 rfl d_La_law_974 rfl ?_
                                                              refine z_iload_n C 3 rfl d_La_law_975 rfl ?_
                                                              refine z_iconst C (1 : Int32) (by decide) d_La_law_976 ?_
                                                              refine z_iadd C d_La_law_977 ?_
                                                              obtain ⟨g299, h⟩ := zgd_some h
                                                              refine z_sld C hX hXb g299 d_La_law_978 ?_
                                                              refine z_aload_n C 0 rfl d_La_law_979 rfl ?_
                                                              refine z_iload_n C 3 rfl d_La_law_980 rfl ?_
                                                              refine z_iconst C (2 : Int32) (by decide) d_La_law_981 ?_
                                                              refine z_iadd C d_La_law_982 ?_
                                                              obtain ⟨g300, h⟩ := zgd_some h
                                                              refine z_sld C hX hXb g300 d_La_law_983 ?_
                                                              obtain ⟨r302, S303, h301, h⟩ := zb2_some h
                                                              refine z_cV C 11 (by decide) (m_M_heard l h301) mf_M_heard lk_La_129 in_M_heard se_M_heard rfl zo_72 zk_72 ⟨rfl, rfl⟩ ⟨by decide, by decide⟩ ⟨by show _ ≤ 600000; omega, by show _ ≤ 7302250; omega⟩ rfl _ [zi r297] rfl (Nat.le_of_ble_eq_true rfl) d_La_law_984 ?_
                                                              rcases zite h with ⟨c304, h⟩ | ⟨c304, h⟩
                                                              · refine z_icmp_eqt C 1289 c304 d_La_law_987 (by decide) ?_
                                                                refine z_iinc C 3 (a3 + (6 : Int32)) [(3, zi (a3 + (6 : Int32))), (0, zr (some (zX + 60))), (1, zr (some 0)), (2, zr (some 72))] rfl d_La_law_1289 (by first | rfl | decide) (by decide) rfl ?_
                                                                refine z_goto C 18 d_La_law_1292 (by decide) ?_
                                                                refine zq_lsub [1, 2, 3, 0] [(0, zr (some (zX + 60))), (1, zr (some 0)), (2, zr (some 72)), (3, zi (a3 + (6 : Int32)))] rfl ?_
                                                                refine z_widen (98 + 5 * (k + 1)) (32000 + 503 * (k + 1)) (by omega) (by omega) ?_
                                                                exact ih (a3 + (6 : Int32)) S303 (k + 1) (by omega) h
                                                              · refine z_icmp_eqf C 1289 c304 d_La_law_987 (by decide) ?_
                                                                refine z_iconst C (0 : Int32) (by decide) d_La_law_990 ?_
                                                                cases h
                                                            · rcases zite h with ⟨c305, h⟩ | ⟨c305, h⟩
                                                              · refine z_tab C (28 : Int32) 959 992 c305 (by decide) (by decide) (by decide) (by decide) d_La_law_33 ?_
                                                                refine z_aload_n C 1 rfl d_La_law_992 rfl ?_
                                                                obtain ⟨r307, S308, h306, h⟩ := zb2_some h
                                                                refine z_cV C 0 (by decide) (m_E_forget l h306) mf_E_forget lk_La_130 in_E_forget se_E_forget rfl zo_0 zk_0 ⟨rfl, rfl⟩ ⟨by decide, by decide⟩ ⟨by show _ ≤ 600000; omega, by show _ ≤ 7302250; omega⟩ rfl _ [] rfl (Nat.le_of_ble_eq_true rfl) d_La_law_993 ?_
                                                                refine z_aload_n C 2 rfl d_La_law_996 rfl ?_
                                                                obtain ⟨r310, S311, h309, h⟩ := zb2_some h
                                                                refine z_cV C 11 (by decide) (m_M_forget l h309) mf_M_forget lk_La_133 in_M_forget se_M_forget rfl zo_72 zk_72 ⟨rfl, rfl⟩ ⟨by decide, by decide⟩ ⟨by show _ ≤ 600000; omega, by show _ ≤ 7302250; omega⟩ rfl _ [zi r307] rfl (Nat.le_of_ble_eq_true rfl) d_La_law_997 ?_
                                                                rcases zite h with ⟨c312, h⟩ | ⟨c312, h⟩
                                                                · refine z_icmp_eqt C 1289 c312 d_La_law_1000 (by decide) ?_
                                                                  refine z_iinc C 3 (a3 + (6 : Int32)) [(3, zi (a3 + (6 : Int32))), (0, zr (some (zX + 60))), (1, zr (some 0)), (2, zr (some 72))] rfl d_La_law_1289 (by first | rfl | decide) (by decide) rfl ?_
                                                                  refine z_goto C 18 d_La_law_1292 (by decide) ?_
                                                                  refine zq_lsub [1, 2, 3, 0] [(0, zr (some (zX + 60))), (1, zr (some 0)), (2, zr (some 72)), (3, zi (a3 + (6 : Int32)))] rfl ?_
                                                                  refine z_widen (98 + 5 * (k + 1)) (32000 + 503 * (k + 1)) (by omega) (by omega) ?_
                                                                  exact ih (a3 + (6 : Int32)) S311 (k + 1) (by omega) h
                                                                · refine z_icmp_eqf C 1289 c312 d_La_law_1000 (by decide) ?_
                                                                  refine z_iconst C (0 : Int32) (by decide) d_La_law_1003 ?_
                                                                  cases h
                                                              · rcases zite h with ⟨c313, h⟩ | ⟨c313, h⟩
                                                                · refine z_tab C (29 : Int32) 972 1005 c313 (by decide) (by decide) (by decide) (by decide) d_La_law_33 ?_
                                                                  refine z_aload_n C 1 rfl d_La_law_1005 rfl ?_
                                                                  obtain ⟨r315, S316, h314, h⟩ := zb2_some h
                                                                  refine z_cV C 0 (by decide) (m_E_canBe l h314) mf_E_canBe lk_La_134 in_E_canBe se_E_canBe rfl zo_0 zk_0 ⟨rfl, rfl⟩ ⟨by decide, by decide⟩ ⟨by show _ ≤ 600000; omega, by show _ ≤ 7302250; omega⟩ rfl _ [] rfl (Nat.le_of_ble_eq_true rfl) d_La_law_1006 ?_
                                                                  refine z_aload_n C 2 rfl d_La_law_1009 rfl ?_
                                                                  obtain ⟨r318, S319, h317, h⟩ := zb2_some h
                                                                  refine z_cV C 11 (by decide) (m_M_canBe l h317) mf_M_canBe lk_La_137 in_M_canBe se_M_canBe rfl zo_72 zk_72 ⟨rfl, rfl⟩ ⟨by decide, by decide⟩ ⟨by show _ ≤ 600000; omega, by show _ ≤ 7302250; omega⟩ rfl _ [zi r315] rfl (Nat.le_of_ble_eq_true rfl) d_La_law_1010 ?_
                                                                  rcases zite h with ⟨c320, h⟩ | ⟨c320, h⟩
                                                                  · refine z_icmp_eqt C 1289 c320 d_La_law_1013 (by decide) ?_
                                                                    refine z_iinc C 3 (a3 + (6 : Int32)) [(3, zi (a3 + (6 : Int32))), (0, zr (some (zX + 60))), (1, zr (some 0)), (2, zr (some 72))] rfl d_La_law_1289 (by first | rfl | decide) (by decide) rfl ?_
                                                                    refine z_goto C 18 d_La_law_1292 (by decide) ?_
                                                                    refine zq_lsub [1, 2, 3, 0] [(0, zr (some (zX + 60))), (1, zr (some 0)), (2, zr (some 72)), (3, zi (a3 + (6 : Int32)))] rfl ?_
                                                                    refine z_widen (98 + 5 * (k + 1)) (32000 + 503 * (k + 1)) (by omega) (by omega) ?_
                                                                    exact ih (a3 + (6 : Int32)) S319 (k + 1) (by omega) h
                                                                  · refine z_icmp_eqf C 1289 c320 d_La_law_1013 (by decide) ?_
                                                                    refine z_iconst C (0 : Int32) (by decide) d_La_law_1016 ?_
                                                                    cases h
                                                                · rcases zite h with ⟨c321, h⟩ | ⟨c321, h⟩
                                                                  · refine z_tab C (30 : Int32) 985 1018 c321 (by decide) (by decide) (by decide) (by decide) d_La_law_33 ?_
                                                                    refine z_aload_n C 1 rfl d_La_law_1018 rfl ?_
                                                                    refine z_aload_n C 0 rfl d_La_law_1019 rfl ?_
                                                                    refine z_iload_n C 3 rfl d_La_law_1020 rfl ?_
                                                                    refine z_iconst C (1 : Int32) (by decide) d_La_law_1021 ?_
                                                                    refine z_iadd C d_La_law_1022 ?_
                                                                    obtain ⟨g322, h⟩ := zgd_some h
                                                                    refine z_sld C hX hXb g322 d_La_law_1023 ?_
                                                                    obtain ⟨r324, S325, h323, h⟩ := zb2_some h
                                                                    refine z_cV C 0 (by decide) (m_E_since l h323) mf_E_since lk_La_138 in_E_since se_E_since rfl zo_0 zk_0 ⟨rfl, rfl⟩ ⟨by decide, by decide⟩ ⟨by show _ ≤ 600000; omega, by show _ ≤ 7302250; omega⟩ rfl _ [] rfl (Nat.le_of_ble_eq_true rfl) d_La_law_1024 ?_
                                                                    refine z_aload_n C 2 rfl d_La_law_1027 rfl ?_
                                                                    refine z_aload_n C 0 rfl d_La_law_1028 rfl ?_
                                                                    refine z_iload_n C 3 rfl d_La_law_1029 rfl ?_
                                                                    refine z_iconst C (1 : Int32) (by decide) d_La_law_1030 ?_
                                                                    refine z_iadd C d_La_law_1031 ?_
                                                                    obtain ⟨g326, h⟩ := zgd_some h
                                                                    refine z_sld C hX hXb g326 d_La_law_1032 ?_
                                                                    obtain ⟨r328, S329, h327, h⟩ := zb2_some h
                                                                    refine z_cV C 11 (by decide) (m_M_since l h327) mf_M_since lk_La_141 in_M_since se_M_since rfl zo_72 zk_72 ⟨rfl, rfl⟩ ⟨by decide, by decide⟩ ⟨by show _ ≤ 600000; omega, by show _ ≤ 7302250; omega⟩ rfl _ [zi r324] rfl (Nat.le_of_ble_eq_true rfl) d_La_law_1033 ?_
                                                                    rcases zite h with ⟨c330, h⟩ | ⟨c330, h⟩
                                                                    · refine z_icmp_eqt C 1289 c330 d_La_law_1036 (by decide) ?_
                                                                      refine z_iinc C 3 (a3 + (6 : Int32)) [(3, zi (a3 + (6 : Int32))), (0, zr (some (zX + 60))), (1, zr (some 0)), (2, zr (some 72))] rfl d_La_law_1289 (by first | rfl | decide) (by decide) rfl ?_
                                                                      refine z_goto C 18 d_La_law_1292 (by decide) ?_
                                                                      refine zq_lsub [1, 2, 3, 0] [(0, zr (some (zX + 60))), (1, zr (some 0)), (2, zr (some 72)), (3, zi (a3 + (6 : Int32)))] rfl ?_
                                                                      refine z_widen (98 + 5 * (k + 1)) (32000 + 503 * (k + 1)) (by omega) (by omega) ?_
                                                                      exact ih (a3 + (6 : Int32)) S329 (k + 1) (by omega) h
                                                                    · refine z_icmp_eqf C 1289 c330 d_La_law_1036 (by decide) ?_
                                                                      refine z_iconst C (0 : Int32) (by decide) d_La_law_1039 ?_
                                                                      cases h
                                                                  · rcases zite h with ⟨c331, h⟩ | ⟨c331, h⟩
                                                                    · refine z_tab C (31 : Int32) 1008 1041 c331 (by decide) (by decide) (by decide) (by decide) d_La_law_33 ?_
                                                                      refine z_aload_n C 1 rfl d_La_law_1041 rfl ?_
                                                                      refine z_aload_n C 0 rfl d_La_law_1042 rfl ?_
                                                                      refine z_iload_n C 3 rfl d_La_law_1043 rfl ?_
                                                                      refine z_iconst C (1 : Int32) (by decide) d_La_law_1044 ?_
                                                                      refine z_iadd C d_La_law_1045 ?_
                                                                      obtain ⟨g332, h⟩ := zgd_some h
                                                                      refine z_sld C hX hXb g332 d_La_law_1046 ?_
                                                                      obtain ⟨r334, S335, h333, h⟩ := zb2_some h
                                                                      refine z_cV C 0 (by decide) (m_E_listen l h333) mf_E_listen lk_La_142 in_E_listen se_E_listen rfl zo_0 zk_0 ⟨rfl, rfl⟩ ⟨by decide, by decide⟩ ⟨by show _ ≤ 600000; omega, by show _ ≤ 7302250; omega⟩ rfl _ [] rfl (Nat.le_of_ble_eq_true rfl) d_La_law_1047 ?_
                                                                      refine z_aload_n C 2 rfl d_La_law_1050 rfl ?_
                                                                      refine z_aload_n C 0 rfl d_La_law_1051 rfl ?_
                                                                      refine z_iload_n C 3 rfl d_La_law_1052 rfl ?_
                                                                      refine z_iconst C (1 : Int32) (by decide) d_La_law_1053 ?_
                                                                      refine z_iadd C d_La_law_1054 ?_
                                                                      obtain ⟨g336, h⟩ := zgd_some h
                                                                      refine z_sld C hX hXb g336 d_La_law_1055 ?_
                                                                      obtain ⟨r338, S339, h337, h⟩ := zb2_some h
                                                                      refine z_cV C 11 (by decide) (m_M_listen l h337) mf_M_listen lk_La_145 in_M_listen se_M_listen rfl zo_72 zk_72 ⟨rfl, rfl⟩ ⟨by decide, by decide⟩ ⟨by show _ ≤ 600000; omega, by show _ ≤ 7302250; omega⟩ rfl _ [zi r334] rfl (Nat.le_of_ble_eq_true rfl) d_La_law_1056 ?_
                                                                      rcases zite h with ⟨c340, h⟩ | ⟨c340, h⟩
                                                                      · refine z_icmp_eqt C 1289 c340 d_La_law_1059 (by decide) ?_
                                                                        refine z_iinc C 3 (a3 + (6 : Int32)) [(3, zi (a3 + (6 : Int32))), (0, zr (some (zX + 60))), (1, zr (some 0)), (2, zr (some 72))] rfl d_La_law_1289 (by first | rfl | decide) (by decide) rfl ?_
                                                                        refine z_goto C 18 d_La_law_1292 (by decide) ?_
                                                                        refine zq_lsub [1, 2, 3, 0] [(0, zr (some (zX + 60))), (1, zr (some 0)), (2, zr (some 72)), (3, zi (a3 + (6 : Int32)))] rfl ?_
                                                                        refine z_widen (98 + 5 * (k + 1)) (32000 + 503 * (k + 1)) (by omega) (by omega) ?_
                                                                        exact ih (a3 + (6 : Int32)) S339 (k + 1) (by omega) h
                                                                      · refine z_icmp_eqf C 1289 c340 d_La_law_1059 (by decide) ?_
                                                                        refine z_iconst C (0 : Int32) (by decide) d_La_law_1062 ?_
                                                                        cases h
                                                                    · rcases zite h with ⟨c341, h⟩ | ⟨c341, h⟩
                                                                      · refine z_tab C (32 : Int32) 1031 1064 c341 (by decide) (by decide) (by decide) (by decide) d_La_law_33 ?_
                                                                        refine z_aload_n C 1 rfl d_La_law_1064 rfl ?_
                                                                        refine z_aload_n C 0 rfl d_La_law_1065 rfl ?_
                                                                        refine z_iload_n C 3 rfl d_La_law_1066 rfl ?_
                                                                        refine z_iconst C (1 : Int32) (by decide) d_La_law_1067 ?_
                                                                        refine z_iadd C d_La_law_1068 ?_
                                                                        obtain ⟨g342, h⟩ := zgd_some h
                                                                        refine z_sld C hX hXb g342 d_La_law_1069 ?_
                                                                        refine z_aload_n C 0 rfl d_La_law_1070 rfl ?_
                                                                        refine z_iload_n C 3 rfl d_La_law_1071 rfl ?_
                                                                        refine z_iconst C (2 : Int32) (by decide) d_La_law_1072 ?_
                                                                        refine z_iadd C d_La_law_1073 ?_
                                                                        obtain ⟨g343, h⟩ := zgd_some h
                                                                        refine z_sld C hX hXb g343 d_La_law_1074 ?_
                                                                        obtain ⟨r345, S346, h344, h⟩ := zb2_some h
                                                                        refine z_cV C 0 (by decide) (m_E_few l h344) mf_E_few lk_La_146 in_E_few se_E_few rfl zo_0 zk_0 ⟨rfl, rfl⟩ ⟨by decide, by decide⟩ ⟨by show _ ≤ 600000; omega, by show _ ≤ 7302250; omega⟩ rfl _ [] rfl (Nat.le_of_ble_eq_true rfl) d_La_law_1075 ?_
                                                                        refine z_aload_n C 2 rfl d_La_law_1078 rfl ?_
                                                                        refine z_aload_n C 0 rfl d_La_law_1079 rfl ?_
                                                                        refine z_iload_n C 3 rfl d_La_law_1080 rfl ?_
                                                                        refine z_iconst C (1 : Int32) (by decide) d_La_law_1081 ?_
                                                                        refine z_iadd C d_La_law_1082 ?_
                                                                        obtain ⟨g347, h⟩ := zgd_some h
                                                                        refine z_sld C hX hXb g347 d_La_law_1083 ?_
                                                                        refine z_aload_n C 0 rfl d_La_law_1084 rfl ?_
                                                                        refine z_iload_n C 3 rfl d_La_law_1085 rfl ?_
                                                                        refine z_iconst C (2 : Int32) (by decide) d_La_law_1086 ?_
                                                                        refine z_iadd C d_La_law_1087 ?_
                                                                        obtain ⟨g348, h⟩ := zgd_some h
                                                                        refine z_sld C hX hXb g348 d_La_law_1088 ?_
                                                                        obtain ⟨r350, S351, h349, h⟩ := zb2_some h
                                                                        refine z_cV C 11 (by decide) (m_M_few l h349) mf_M_few lk_La_150 in_M_few se_M_few rfl zo_72 zk_72 ⟨rfl, rfl⟩ ⟨by decide, by decide⟩ ⟨by show _ ≤ 600000; omega, by show _ ≤ 7302250; omega⟩ rfl _ [zl r345] rfl (Nat.le_of_ble_eq_true rfl) d_La_law_1089 ?_
                                                                        refine z_lcmp C d_La_law_1092 ?_
                                                                        rcases zite h with ⟨c352, h⟩ | ⟨c352, h⟩
                                                                        · refine z_if_eqt C 1289 c352 d_La_law_1093 (by decide) ?_
                                                                          refine z_iinc C 3 (a3 + (6 : Int32)) [(3, zi (a3 + (6 : Int32))), (0, zr (some (zX + 60))), (1, zr (some 0)), (2, zr (some 72))] rfl d_La_law_1289 (by first | rfl | decide) (by decide) rfl ?_
                                                                          refine z_goto C 18 d_La_law_1292 (by decide) ?_
                                                                          refine zq_lsub [1, 2, 3, 0] [(0, zr (some (zX + 60))), (1, zr (some 0)), (2, zr (some 72)), (3, zi (a3 + (6 : Int32)))] rfl ?_
                                                                          refine z_widen (98 + 5 * (k + 1)) (32000 + 503 * (k + 1)) (by omega) (by omega) ?_
                                                                          exact ih (a3 + (6 : Int32)) S351 (k + 1) (by omega) h
                                                                        · refine z_if_eqf C 1289 c352 d_La_law_1093 (by decide) ?_
                                                                          refine z_iconst C (0 : Int32) (by decide) d_La_law_1096 ?_
                                                                          cases h
                                                                      · rcases zite h with ⟨c353, h⟩ | ⟨c353, h⟩
                                                                        · refine z_tab C (33 : Int32) 1065 1098 c353 (by decide) (by decide) (by decide) (by decide) d_La_law_33 ?_
                                                                          refine z_aload_n C 1 rfl d_La_law_1098 rfl ?_
                                                                          refine z_aload_n C 0 rfl d_La_law_1099 rfl ?_
                                                                          refine z_iload_n C 3 rfl d_La_law_1100 rfl ?_
                                                                          refine z_iconst C (1 : Int32) (by decide) d_La_law_1101 ?_
                                                                          refine z_iadd C d_La_law_1102 ?_
                                                                          obtain ⟨g354, h⟩ := zgd_some h
                                                                          refine z_sld C hX hXb g354 d_La_law_1103 ?_
                                                                          refine z_aload_n C 0 rfl d_La_law_1104 rfl ?_
                                                                          refine z_iload_n C 3 rfl d_La_law_1105 rfl ?_
                                                                          refine z_iconst C (2 : Int32) (by decide) d_La_law_1106 ?_
                                                                          refine z_iadd C d_La_law_1107 ?_
                                                                          obtain ⟨g355, h⟩ := zgd_some h
                                                                          refine z_sld C hX hXb g355 d_La_law_1108 ?_
                                                                          refine z_aload_n C 0 rfl d_La_law_1109 rfl ?_
                                                                          refine z_iload_n C 3 rfl d_La_law_1110 rfl ?_
                                                                          refine z_iconst C (3 : Int32) (by decide) d_La_law_1111 ?_
                                                                          refine z_iadd C d_La_law_1112 ?_
                                                                          obtain ⟨g356, h⟩ := zgd_some h
                                                                          refine z_sld C hX hXb g356 d_La_law_1113 ?_
                                                                          obtain ⟨r358, S359, h357, h⟩ := zb2_some h
                                                                          refine z_cV C 0 (by decide) (m_E_compare l h357) mf_E_compare lk_La_151 in_E_compare se_E_compare rfl zo_0 zk_0 ⟨rfl, rfl⟩ ⟨by decide, by decide⟩ ⟨by show _ ≤ 600000; omega, by show _ ≤ 7302250; omega⟩ rfl _ [] rfl (Nat.le_of_ble_eq_true rfl) d_La_law_1114 ?_
                                                                          refine z_aload_n C 2 rfl d_La_law_1117 rfl ?_
                                                                          refine z_aload_n C 0 rfl d_La_law_1118 rfl ?_
                                                                          refine z_iload_n C 3 rfl d_La_law_1119 rfl ?_
                                                                          refine z_iconst C (1 : Int32) (by decide) d_La_law_1120 ?_
                                                                          refine z_iadd C d_La_law_1121 ?_
                                                                          obtain ⟨g360, h⟩ := zgd_some h
                                                                          refine z_sld C hX hXb g360 d_La_law_1122 ?_
                                                                          refine z_aload_n C 0 rfl d_La_law_1123 rfl ?_
                                                                          refine z_iload_n C 3 rfl d_La_law_1124 rfl ?_
                                                                          refine z_iconst C (2 : Int32) (by decide) d_La_law_1125 ?_
                                                                          refine z_iadd C d_La_law_1126 ?_
                                                                          obtain ⟨g361, h⟩ := zgd_some h
                                                                          refine z_sld C hX hXb g361 d_La_law_1127 ?_
                                                                          refine z_aload_n C 0 rfl d_La_law_1128 rfl ?_
                                                                          refine z_iload_n C 3 rfl d_La_law_1129 rfl ?_
                                                                          refine z_iconst C (3 : Int32) (by decide) d_La_law_1130 ?_
                                                                          refine z_iadd C d_La_law_1131 ?_
                                                                          obtain ⟨g362, h⟩ := zgd_some h
                                                                          refine z_sld C hX hXb g362 d_La_law_1132 ?_
                                                                          obtain ⟨r364, S365, h363, h⟩ := zb2_some h
                                                                          refine z_cV C 11 (by decide) (m_M_compare l h363) mf_M_compare lk_La_154 in_M_compare se_M_compare rfl zo_72 zk_72 ⟨rfl, rfl⟩ ⟨by decide, by decide⟩ ⟨by show _ ≤ 600000; omega, by show _ ≤ 7302250; omega⟩ rfl _ [zi r358] rfl (Nat.le_of_ble_eq_true rfl) d_La_law_1133 ?_
                                                                          rcases zite h with ⟨c366, h⟩ | ⟨c366, h⟩
                                                                          · refine z_icmp_eqt C 1289 c366 d_La_law_1136 (by decide) ?_
                                                                            refine z_iinc C 3 (a3 + (6 : Int32)) [(3, zi (a3 + (6 : Int32))), (0, zr (some (zX + 60))), (1, zr (some 0)), (2, zr (some 72))] rfl d_La_law_1289 (by first | rfl | decide) (by decide) rfl ?_
                                                                            refine z_goto C 18 d_La_law_1292 (by decide) ?_
                                                                            refine zq_lsub [1, 2, 3, 0] [(0, zr (some (zX + 60))), (1, zr (some 0)), (2, zr (some 72)), (3, zi (a3 + (6 : Int32)))] rfl ?_
                                                                            refine z_widen (98 + 5 * (k + 1)) (32000 + 503 * (k + 1)) (by omega) (by omega) ?_
                                                                            exact ih (a3 + (6 : Int32)) S365 (k + 1) (by omega) h
                                                                          · refine z_icmp_eqf C 1289 c366 d_La_law_1136 (by decide) ?_
                                                                            refine z_iconst C (0 : Int32) (by decide) d_La_law_1139 ?_
                                                                            cases h
                                                                        · rcases zite h with ⟨c367, h⟩ | ⟨c367, h⟩
                                                                          · refine z_tab C (34 : Int32) 1108 1141 c367 (by decide) (by decide) (by decide) (by decide) d_La_law_33 ?_
                                                                            refine z_aload_n C 1 rfl d_La_law_1141 rfl ?_
                                                                            refine z_aload_n C 0 rfl d_La_law_1142 rfl ?_
                                                                            refine z_iload_n C 3 rfl d_La_law_1143 rfl ?_
                                                                            refine z_iconst C (1 : Int32) (by decide) d_La_law_1144 ?_
                                                                            refine z_iadd C d_La_law_1145 ?_
                                                                            obtain ⟨g368, h⟩ := zgd_some h
                                                                            refine z_sld C hX hXb g368 d_La_law_1146 ?_
                                                                            refine z_aload_n C 0 rfl d_La_law_1147 rfl ?_
                                                                            refine z_iload_n C 3 rfl d_La_law_1148 rfl ?_
                                                                            refine z_iconst C (2 : Int32) (by decide) d_La_law_1149 ?_
                                                                            refine z_iadd C d_La_law_1150 ?_
                                                                            obtain ⟨g369, h⟩ := zgd_some h
                                                                            refine z_sld C hX hXb g369 d_La_law_1151 ?_
                                                                            obtain ⟨r371, S372, h370, h⟩ := zb2_some h
                                                                            refine z_cV C 0 (by decide) (m_E_years l h370) mf_E_years lk_La_155 in_E_years se_E_years rfl zo_0 zk_0 ⟨rfl, rfl⟩ ⟨by decide, by decide⟩ ⟨by show _ ≤ 600000; omega, by show _ ≤ 7302250; omega⟩ rfl _ [] rfl (Nat.le_of_ble_eq_true rfl) d_La_law_1152 ?_
                                                                            refine z_aload_n C 2 rfl d_La_law_1155 rfl ?_
                                                                            refine z_aload_n C 0 rfl d_La_law_1156 rfl ?_
                                                                            refine z_iload_n C 3 rfl d_La_law_1157 rfl ?_
                                                                            refine z_iconst C (1 : Int32) (by decide) d_La_law_1158 ?_
                                                                            refine z_iadd C d_La_law_1159 ?_
                                                                            obtain ⟨g373, h⟩ := zgd_some h
                                                                            refine z_sld C hX hXb g373 d_La_law_1160 ?_
                                                                            refine z_aload_n C 0 rfl d_La_law_1161 rfl ?_
                                                                            refine z_iload_n C 3 rfl d_La_law_1162 rfl ?_
                                                                            refine z_iconst C (2 : Int32) (by decide) d_La_law_1163 ?_
                                                                            refine z_iadd C d_La_law_1164 ?_
                                                                            obtain ⟨g374, h⟩ := zgd_some h
                                                                            refine z_sld C hX hXb g374 d_La_law_1165 ?_
                                                                            obtain ⟨r376, S377, h375, h⟩ := zb2_some h
                                                                            refine z_cV C 11 (by decide) (m_M_years l h375) mf_M_years lk_La_158 in_M_years se_M_years rfl zo_72 zk_72 ⟨rfl, rfl⟩ ⟨by decide, by decide⟩ ⟨by show _ ≤ 600000; omega, by show _ ≤ 7302250; omega⟩ rfl _ [zi r371] rfl (Nat.le_of_ble_eq_true rfl) d_La_law_1166 ?_
                                                                            rcases zite h with ⟨c378, h⟩ | ⟨c378, h⟩
                                                                            · refine z_icmp_eqt C 1289 c378 d_La_law_1169 (by decide) ?_
                                                                              refine z_iinc C 3 (a3 + (6 : Int32)) [(3, zi (a3 + (6 : Int32))), (0, zr (some (zX + 60))), (1, zr (some 0)), (2, zr (some 72))] rfl d_La_law_1289 (by first | rfl | decide) (by decide) rfl ?_
                                                                              refine z_goto C 18 d_La_law_1292 (by decide) ?_
                                                                              refine zq_lsub [1, 2, 3, 0] [(0, zr (some (zX + 60))), (1, zr (some 0)), (2, zr (some 72)), (3, zi (a3 + (6 : Int32)))] rfl ?_
                                                                              refine z_widen (98 + 5 * (k + 1)) (32000 + 503 * (k + 1)) (by omega) (by omega) ?_
                                                                              exact ih (a3 + (6 : Int32)) S377 (k + 1) (by omega) h
                                                                            · refine z_icmp_eqf C 1289 c378 d_La_law_1169 (by decide) ?_
                                                                              refine z_iconst C (0 : Int32) (by decide) d_La_law_1172 ?_
                                                                              cases h
                                                                          · rcases zite h with ⟨c379, h⟩ | ⟨c379, h⟩
                                                                            · refine z_tab C (35 : Int32) 1141 1174 c379 (by decide) (by decide) (by decide) (by decide) d_La_law_33 ?_
                                                                              refine z_aload_n C 1 rfl d_La_law_1174 rfl ?_
                                                                              refine z_aload_n C 0 rfl d_La_law_1175 rfl ?_
                                                                              refine z_iload_n C 3 rfl d_La_law_1176 rfl ?_
                                                                              refine z_iconst C (1 : Int32) (by decide) d_La_law_1177 ?_
                                                                              refine z_iadd C d_La_law_1178 ?_
                                                                              obtain ⟨g380, h⟩ := zgd_some h
                                                                              refine z_sld C hX hXb g380 d_La_law_1179 ?_
                                                                              refine z_aload_n C 0 rfl d_La_law_1180 rfl ?_
                                                                              refine z_iload_n C 3 rfl d_La_law_1181 rfl ?_
                                                                              refine z_iconst C (2 : Int32) (by decide) d_La_law_1182 ?_
                                                                              refine z_iadd C d_La_law_1183 ?_
                                                                              obtain ⟨g381, h⟩ := zgd_some h
                                                                              refine z_sld C hX hXb g381 d_La_law_1184 ?_
                                                                              obtain ⟨r383, h382, h⟩ := zb1_some h
                                                                              refine z_cV C 0 (by decide) (m_E_drawn l h382) mf_E_drawn lk_La_159 in_E_drawn se_E_drawn rfl zo_0 zk_0 ⟨rfl, rfl⟩ ⟨by decide, by decide⟩ ⟨by show _ ≤ 600000; omega, by show _ ≤ 7302250; omega⟩ rfl _ [] rfl (Nat.le_of_ble_eq_true rfl) d_La_law_1185 ?_
                                                                              refine z_aload_n C 2 rfl d_La_law_1188 rfl ?_
                                                                              refine z_aload_n C 0 rfl d_La_law_1189 rfl ?_
                                                                              refine z_iload_n C 3 rfl d_La_law_1190 rfl ?_
                                                                              refine z_iconst C (1 : Int32) (by decide) d_La_law_1191 ?_
                                                                              refine z_iadd C d_La_law_1192 ?_
                                                                              obtain ⟨g384, h⟩ := zgd_some h
                                                                              refine z_sld C hX hXb g384 d_La_law_1193 ?_
                                                                              refine z_aload_n C 0 rfl d_La_law_1194 rfl ?_
                                                                              refine z_iload_n C 3 rfl d_La_law_1195 rfl ?_
                                                                              refine z_iconst C (2 : Int32) (by decide) d_La_law_1196 ?_
                                                                              refine z_iadd C d_La_law_1197 ?_
                                                                              obtain ⟨g385, h⟩ := zgd_some h
                                                                              refine z_sld C hX hXb g385 d_La_law_1198 ?_
                                                                              obtain ⟨r387, h386, h⟩ := zb1_some h
                                                                              refine z_cV C 11 (by decide) (m_M_drawn l h386) mf_M_drawn lk_La_162 in_M_drawn se_M_drawn rfl zo_72 zk_72 ⟨rfl, rfl⟩ ⟨by decide, by decide⟩ ⟨by show _ ≤ 600000; omega, by show _ ≤ 7302250; omega⟩ rfl _ [zi r383] rfl (Nat.le_of_ble_eq_true rfl) d_La_law_1199 ?_
                                                                              rcases zite h with ⟨c388, h⟩ | ⟨c388, h⟩
                                                                              · refine z_icmp_eqt C 1289 c388 d_La_law_1202 (by decide) ?_
                                                                                refine z_iinc C 3 (a3 + (6 : Int32)) [(3, zi (a3 + (6 : Int32))), (0, zr (some (zX + 60))), (1, zr (some 0)), (2, zr (some 72))] rfl d_La_law_1289 (by first | rfl | decide) (by decide) rfl ?_
                                                                                refine z_goto C 18 d_La_law_1292 (by decide) ?_
                                                                                refine zq_lsub [1, 2, 3, 0] [(0, zr (some (zX + 60))), (1, zr (some 0)), (2, zr (some 72)), (3, zi (a3 + (6 : Int32)))] rfl ?_
                                                                                refine z_widen (98 + 5 * (k + 1)) (32000 + 503 * (k + 1)) (by omega) (by omega) ?_
                                                                                exact ih (a3 + (6 : Int32)) S (k + 1) (by omega) h
                                                                              · refine z_icmp_eqf C 1289 c388 d_La_law_1202 (by decide) ?_
                                                                                refine z_iconst C (0 : Int32) (by decide) d_La_law_1205 ?_
                                                                                cases h
                                                                            · rcases zite h with ⟨c389, h⟩ | ⟨c389, h⟩
                                                                              · refine z_tab C (36 : Int32) 1174 1207 c389 (by decide) (by decide) (by decide) (by decide) d_La_law_33 ?_
                                                                                refine z_aload_n C 1 rfl d_La_law_1207 rfl ?_
                                                                                refine z_aload_n C 0 rfl d_La_law_1208 rfl ?_
                                                                                refine z_iload_n C 3 rfl d_La_law_1209 rfl ?_
                                                                                refine z_iconst C (1 : Int32) (by decide) d_La_law_1210 ?_
                                                                                refine z_iadd C d_La_law_1211 ?_
                                                                                obtain ⟨g390, h⟩ := zgd_some h
                                                                                refine z_sld C hX hXb g390 d_La_law_1212 ?_
                                                                                obtain ⟨r392, S393, h391, h⟩ := zb2_some h
                                                                                refine z_cV C 0 (by decide) (m_E_image l h391) mf_E_image lk_La_163 in_E_image se_E_image rfl zo_0 zk_0 ⟨rfl, rfl⟩ ⟨by decide, by decide⟩ ⟨by show _ ≤ 600000; omega, by show _ ≤ 7302250; omega⟩ rfl _ [] rfl (Nat.le_of_ble_eq_true rfl) d_La_law_1213 ?_
                                                                                refine z_aload_n C 2 rfl d_La_law_1216 rfl ?_
                                                                                refine z_aload_n C 0 rfl d_La_law_1217 rfl ?_
                                                                                refine z_iload_n C 3 rfl d_La_law_1218 rfl ?_
                                                                                refine z_iconst C (1 : Int32) (by decide) d_La_law_1219 ?_
                                                                                refine z_iadd C d_La_law_1220 ?_
                                                                                obtain ⟨g394, h⟩ := zgd_some h
                                                                                refine z_sld C hX hXb g394 d_La_law_1221 ?_
                                                                                obtain ⟨r396, S397, h395, h⟩ := zb2_some h
                                                                                refine z_cV C 11 (by decide) (m_M_image l h395) mf_M_image lk_La_166 in_M_image se_M_image rfl zo_72 zk_72 ⟨rfl, rfl⟩ ⟨by decide, by decide⟩ ⟨by show _ ≤ 600000; omega, by show _ ≤ 7302250; omega⟩ rfl _ [zi r392] rfl (Nat.le_of_ble_eq_true rfl) d_La_law_1222 ?_
                                                                                rcases zite h with ⟨c398, h⟩ | ⟨c398, h⟩
                                                                                · refine z_icmp_eqt C 1289 c398 d_La_law_1225 (by decide) ?_
                                                                                  refine z_iinc C 3 (a3 + (6 : Int32)) [(3, zi (a3 + (6 : Int32))), (0, zr (some (zX + 60))), (1, zr (some 0)), (2, zr (some 72))] rfl d_La_law_1289 (by first | rfl | decide) (by decide) rfl ?_
                                                                                  refine z_goto C 18 d_La_law_1292 (by decide) ?_
                                                                                  refine zq_lsub [1, 2, 3, 0] [(0, zr (some (zX + 60))), (1, zr (some 0)), (2, zr (some 72)), (3, zi (a3 + (6 : Int32)))] rfl ?_
                                                                                  refine z_widen (98 + 5 * (k + 1)) (32000 + 503 * (k + 1)) (by omega) (by omega) ?_
                                                                                  exact ih (a3 + (6 : Int32)) S397 (k + 1) (by omega) h
                                                                                · refine z_icmp_eqf C 1289 c398 d_La_law_1225 (by decide) ?_
                                                                                  refine z_iconst C (0 : Int32) (by decide) d_La_law_1228 ?_
                                                                                  cases h
                                                                              · rcases zite h with ⟨c399, h⟩ | ⟨c399, h⟩
                                                                                · refine z_tab C (37 : Int32) 1197 1230 c399 (by decide) (by decide) (by decide) (by decide) d_La_law_33 ?_
                                                                                  refine z_aload_n C 1 rfl d_La_law_1230 rfl ?_
                                                                                  refine z_aload_n C 0 rfl d_La_law_1231 rfl ?_
                                                                                  refine z_iload_n C 3 rfl d_La_law_1232 rfl ?_
                                                                                  refine z_iconst C (1 : Int32) (by decide) d_La_law_1233 ?_
                                                                                  refine z_iadd C d_La_law_1234 ?_
                                                                                  obtain ⟨g400, h⟩ := zgd_some h
                                                                                  refine z_sld C hX hXb g400 d_La_law_1235 ?_
                                                                                  obtain ⟨r402, S403, h401, h⟩ := zb2_some h
                                                                                  refine z_cV C 0 (by decide) (m_E_back l h401) mf_E_back lk_La_167 in_E_back se_E_back rfl zo_0 zk_0 ⟨rfl, rfl⟩ ⟨by decide, by decide⟩ ⟨by show _ ≤ 600000; omega, by show _ ≤ 7302250; omega⟩ rfl _ [] rfl (Nat.le_of_ble_eq_true rfl) d_La_law_1236 ?_
                                                                                  refine z_aload_n C 2 rfl d_La_law_1239 rfl ?_
                                                                                  refine z_aload_n C 0 rfl d_La_law_1240 rfl ?_
                                                                                  refine z_iload_n C 3 rfl d_La_law_1241 rfl ?_
                                                                                  refine z_iconst C (1 : Int32) (by decide) d_La_law_1242 ?_
                                                                                  refine z_iadd C d_La_law_1243 ?_
                                                                                  obtain ⟨g404, h⟩ := zgd_some h
                                                                                  refine z_sld C hX hXb g404 d_La_law_1244 ?_
                                                                                  obtain ⟨r406, S407, h405, h⟩ := zb2_some h
                                                                                  refine z_cV C 11 (by decide) (m_M_back l h405) mf_M_back lk_La_170 in_M_back se_M_back rfl zo_72 zk_72 ⟨rfl, rfl⟩ ⟨by decide, by decide⟩ ⟨by show _ ≤ 600000; omega, by show _ ≤ 7302250; omega⟩ rfl _ [zi r402] rfl (Nat.le_of_ble_eq_true rfl) d_La_law_1245 ?_
                                                                                  rcases zite h with ⟨c408, h⟩ | ⟨c408, h⟩
                                                                                  · refine z_icmp_eqt C 1289 c408 d_La_law_1248 (by decide) ?_
                                                                                    refine z_iinc C 3 (a3 + (6 : Int32)) [(3, zi (a3 + (6 : Int32))), (0, zr (some (zX + 60))), (1, zr (some 0)), (2, zr (some 72))] rfl d_La_law_1289 (by first | rfl | decide) (by decide) rfl ?_
                                                                                    refine z_goto C 18 d_La_law_1292 (by decide) ?_
                                                                                    refine zq_lsub [1, 2, 3, 0] [(0, zr (some (zX + 60))), (1, zr (some 0)), (2, zr (some 72)), (3, zi (a3 + (6 : Int32)))] rfl ?_
                                                                                    refine z_widen (98 + 5 * (k + 1)) (32000 + 503 * (k + 1)) (by omega) (by omega) ?_
                                                                                    exact ih (a3 + (6 : Int32)) S407 (k + 1) (by omega) h
                                                                                  · refine z_icmp_eqf C 1289 c408 d_La_law_1248 (by decide) ?_
                                                                                    refine z_iconst C (0 : Int32) (by decide) d_La_law_1251 ?_
                                                                                    cases h
                                                                                · rcases zite h with ⟨c409, h⟩ | ⟨c409, h⟩
                                                                                  · refine z_tab C (38 : Int32) 1220 1253 c409 (by decide) (by decide) (by decide) (by decide) d_La_law_33 ?_
                                                                                    refine z_aload_n C 1 rfl d_La_law_1253 rfl ?_
                                                                                    refine z_aload_n C 0 rfl d_La_law_1254 rfl ?_
                                                                                    refine z_iload_n C 3 rfl d_La_law_1255 rfl ?_
                                                                                    refine z_iconst C (1 : Int32) (by decide) d_La_law_1256 ?_
                                                                                    refine z_iadd C d_La_law_1257 ?_
                                                                                    obtain ⟨g410, h⟩ := zgd_some h
                                                                                    refine z_sld C hX hXb g410 d_La_law_1258 ?_
                                                                                    obtain ⟨r412, h411, h⟩ := zb1_some h
                                                                                    refine z_cV C 0 (by decide) (m_E_count l h411) mf_E_count lk_La_171 in_E_count se_E_count rfl zo_0 zk_0 ⟨rfl, rfl⟩ ⟨by decide, by decide⟩ ⟨by show _ ≤ 600000; omega, by show _ ≤ 7302250; omega⟩ rfl _ [] rfl (Nat.le_of_ble_eq_true rfl) d_La_law_1259 ?_
                                                                                    refine z_aload_n C 2 rfl d_La_law_1262 rfl ?_
                                                                                    refine z_aload_n C 0 rfl d_La_law_1263 rfl ?_
                                                                                    refine z_iload_n C 3 rfl d_La_law_1264 rfl ?_
                                                                                    refine z_iconst C (1 : Int32) (by decide) d_La_law_1265 ?_
                                                                                    refine z_iadd C d_La_law_1266 ?_
                                                                                    obtain ⟨g413, h⟩ := zgd_some h
                                                                                    refine z_sld C hX hXb g413 d_La_law_1267 ?_
                                                                                    obtain ⟨r415, h414, h⟩ := zb1_some h
                                                                                    refine z_cV C 11 (by decide) (m_M_count l h414) mf_M_count lk_La_174 in_M_count se_M_count rfl zo_72 zk_72 ⟨rfl, rfl⟩ ⟨by decide, by decide⟩ ⟨by show _ ≤ 600000; omega, by show _ ≤ 7302250; omega⟩ rfl _ [zi r412] rfl (Nat.le_of_ble_eq_true rfl) d_La_law_1268 ?_
                                                                                    rcases zite h with ⟨c416, h⟩ | ⟨c416, h⟩
                                                                                    · refine z_icmp_eqt C 1289 c416 d_La_law_1271 (by decide) ?_
                                                                                      refine z_iinc C 3 (a3 + (6 : Int32)) [(3, zi (a3 + (6 : Int32))), (0, zr (some (zX + 60))), (1, zr (some 0)), (2, zr (some 72))] rfl d_La_law_1289 (by first | rfl | decide) (by decide) rfl ?_
                                                                                      refine z_goto C 18 d_La_law_1292 (by decide) ?_
                                                                                      refine zq_lsub [1, 2, 3, 0] [(0, zr (some (zX + 60))), (1, zr (some 0)), (2, zr (some 72)), (3, zi (a3 + (6 : Int32)))] rfl ?_
                                                                                      refine z_widen (98 + 5 * (k + 1)) (32000 + 503 * (k + 1)) (by omega) (by omega) ?_
                                                                                      exact ih (a3 + (6 : Int32)) S (k + 1) (by omega) h
                                                                                    · refine z_icmp_eqf C 1289 c416 d_La_law_1271 (by decide) ?_
                                                                                      refine z_iconst C (0 : Int32) (by decide) d_La_law_1274 ?_
                                                                                      cases h
                                                                                  · rcases zite h with ⟨c417, h⟩ | ⟨c417, h⟩
                                                                                    · refine z_tab C (39 : Int32) 1243 1276 c417 (by decide) (by decide) (by decide) (by decide) d_La_law_33 ?_
                                                                                      refine z_aload_n C 1 rfl d_La_law_1276 rfl ?_
                                                                                      obtain ⟨r419, h418, h⟩ := zb1_some h
                                                                                      refine z_cV C 0 (by decide) (m_E_status l h418) mf_E_status lk_La_175 in_E_status se_E_status rfl zo_0 zk_0 ⟨rfl, rfl⟩ ⟨by decide, by decide⟩ ⟨by show _ ≤ 600000; omega, by show _ ≤ 7302250; omega⟩ rfl _ [] rfl (Nat.le_of_ble_eq_true rfl) d_La_law_1277 ?_
                                                                                      refine z_aload_n C 2 rfl d_La_law_1280 rfl ?_
                                                                                      obtain ⟨r421, h420, h⟩ := zb1_some h
                                                                                      refine z_cV C 11 (by decide) (m_M_status l h420) mf_M_status lk_La_178 in_M_status se_M_status rfl zo_72 zk_72 ⟨rfl, rfl⟩ ⟨by decide, by decide⟩ ⟨by show _ ≤ 600000; omega, by show _ ≤ 7302250; omega⟩ rfl _ [zi r419] rfl (Nat.le_of_ble_eq_true rfl) d_La_law_1281 ?_
                                                                                      rcases zite h with ⟨c422, h⟩ | ⟨c422, h⟩
                                                                                      · refine z_icmp_eqt C 1289 c422 d_La_law_1284 (by decide) ?_
                                                                                        refine z_iinc C 3 (a3 + (6 : Int32)) [(3, zi (a3 + (6 : Int32))), (0, zr (some (zX + 60))), (1, zr (some 0)), (2, zr (some 72))] rfl d_La_law_1289 (by first | rfl | decide) (by decide) rfl ?_
                                                                                        refine z_goto C 18 d_La_law_1292 (by decide) ?_
                                                                                        refine zq_lsub [1, 2, 3, 0] [(0, zr (some (zX + 60))), (1, zr (some 0)), (2, zr (some 72)), (3, zi (a3 + (6 : Int32)))] rfl ?_
                                                                                        refine z_widen (98 + 5 * (k + 1)) (32000 + 503 * (k + 1)) (by omega) (by omega) ?_
                                                                                        exact ih (a3 + (6 : Int32)) S (k + 1) (by omega) h
                                                                                      · refine z_icmp_eqf C 1289 c422 d_La_law_1284 (by decide) ?_
                                                                                        refine z_iconst C (0 : Int32) (by decide) d_La_law_1287 ?_
                                                                                        cases h
                                                                                    · refine z_tabO C (0) 40 (by decide) (fun j hj => by match j, hj with | 0, _ => exact c3 | 1, _ => exact c15 | 2, _ => exact c29 | 3, _ => exact c41 | 4, _ => exact c55 | 5, _ => exact c67 | 6, _ => exact c85 | 7, _ => exact c95 | 8, _ => exact c103 | 9, _ => exact c109 | 10, _ => exact c117 | 11, _ => exact c125 | 12, _ => exact c131 | 13, _ => exact c137 | 14, _ => exact c147 | 15, _ => exact c157 | 16, _ => exact c169 | 17, _ => exact c181 | 18, _ => exact c189 | 19, _ => exact c197 | 20, _ => exact c209 | 21, _ => exact c223 | 22, _ => exact c233 | 23, _ => exact c243 | 24, _ => exact c255 | 25, _ => exact c269 | 26, _ => exact c281 | 27, _ => exact c293 | 28, _ => exact c305 | 29, _ => exact c313 | 30, _ => exact c321 | 31, _ => exact c331 | 32, _ => exact c341 | 33, _ => exact c353 | 34, _ => exact c367 | 35, _ => exact c379 | 36, _ => exact c389 | 37, _ => exact c399 | 38, _ => exact c409 | 39, _ => exact c417 | j + 40, hj => omega) 1289 (by decide) d_La_law_33 ?_
                                                                                      refine z_iinc C 3 (a3 + (6 : Int32)) [(3, zi (a3 + (6 : Int32))), (0, zr (some (zX + 60))), (1, zr (some 0)), (2, zr (some 72))] rfl d_La_law_1289 (by first | rfl | decide) (by decide) rfl ?_
                                                                                      refine z_goto C 18 d_La_law_1292 (by decide) ?_
                                                                                      refine zq_lsub [1, 2, 3, 0] [(0, zr (some (zX + 60))), (1, zr (some 0)), (2, zr (some 72)), (3, zi (a3 + (6 : Int32)))] rfl ?_
                                                                                      refine z_widen (98 + 5 * (k + 1)) (32000 + 503 * (k + 1)) (by omega) (by omega) ?_
                                                                                      exact ih (a3 + (6 : Int32)) S (k + 1) (by omega) h
