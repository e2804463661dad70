/-! the law: decode rows, links -/
theorem dL_law_0 : decode code 0 = .ok (.new 7, 3) := by decide +kernel
theorem dL_law_3 : decode code 3 = .ok (.dup, 1) := by decide +kernel
theorem dL_law_4 : decode code 4 = .ok (.invokespecial 9, 3) := by decide +kernel
theorem dL_law_7 : decode code 7 = .ok (.astore_n 1, 1) := by decide +kernel
theorem dL_law_8 : decode code 8 = .ok (.new 10, 3) := by decide +kernel
theorem dL_law_11 : decode code 11 = .ok (.dup, 1) := by decide +kernel
theorem dL_law_12 : decode code 12 = .ok (.invokespecial 12, 3) := by decide +kernel
theorem dL_law_15 : decode code 15 = .ok (.astore_n 2, 1) := by decide +kernel
theorem dL_law_16 : decode code 16 = .ok (.iconst 0, 1) := by decide +kernel
theorem dL_law_17 : decode code 17 = .ok (.istore_n 3, 1) := by decide +kernel
theorem dL_law_18 : decode code 18 = .ok (.iload_n 3, 1) := by decide +kernel
theorem dL_law_19 : decode code 19 = .ok (.aload_n 0, 1) := by decide +kernel
theorem dL_law_20 : decode code 20 = .ok (.arraylength, 1) := by decide +kernel
theorem dL_law_21 : decode code 21 = .ok (.bipush 6, 2) := by decide +kernel
theorem dL_law_23 : decode code 23 = .ok (.isub, 1) := by decide +kernel
theorem dL_law_24 : decode code 24 = .ok (.if_icmp .gt 1373, 3) := by decide +kernel
theorem dL_law_27 : decode code 27 = .ok (.aload_n 0, 1) := by decide +kernel
theorem dL_law_28 : decode code 28 = .ok (.iload_n 3, 1) := by decide +kernel
theorem dL_law_29 : decode code 29 = .ok (.iaload, 1) := by decide +kernel
theorem dL_law_30 : decode code 30 = .ok (.bipush 63, 2) := by decide +kernel
theorem dL_law_32 : decode code 32 = .ok (.iand, 1) := by decide +kernel
theorem dL_law_33 : decode code 33 = .ok (.tableswitch 1358 0 38 #[171, 204, 237, 280, 323, 356, 389, 452, 475, 488, 501, 514, 527, 540, 553, 576, 619, 652, 665, 678, 721, 754, 797, 830, 883, 906, 939, 982, 1035, 1078, 1101, 1134, 1167, 1210, 1243, 1276, 1299, 1322, 1345], 171) := by decide +kernel
theorem dL_law_204 : decode code 204 = .ok (.aload_n 1, 1) := by decide +kernel
theorem dL_law_205 : decode code 205 = .ok (.aload_n 0, 1) := by decide +kernel
theorem dL_law_206 : decode code 206 = .ok (.iload_n 3, 1) := by decide +kernel
theorem dL_law_207 : decode code 207 = .ok (.iconst 1, 1) := by decide +kernel
theorem dL_law_208 : decode code 208 = .ok (.iadd, 1) := by decide +kernel
theorem dL_law_209 : decode code 209 = .ok (.iaload, 1) := by decide +kernel
theorem dL_law_210 : decode code 210 = .ok (.aload_n 0, 1) := by decide +kernel
theorem dL_law_211 : decode code 211 = .ok (.iload_n 3, 1) := by decide +kernel
theorem dL_law_212 : decode code 212 = .ok (.iconst 2, 1) := by decide +kernel
theorem dL_law_213 : decode code 213 = .ok (.iadd, 1) := by decide +kernel
theorem dL_law_214 : decode code 214 = .ok (.iaload, 1) := by decide +kernel
theorem dL_law_215 : decode code 215 = .ok (.invokevirtual 13, 3) := by decide +kernel
theorem dL_law_218 : decode code 218 = .ok (.aload_n 2, 1) := by decide +kernel
theorem dL_law_219 : decode code 219 = .ok (.aload_n 0, 1) := by decide +kernel
theorem dL_law_220 : decode code 220 = .ok (.iload_n 3, 1) := by decide +kernel
theorem dL_law_221 : decode code 221 = .ok (.iconst 1, 1) := by decide +kernel
theorem dL_law_222 : decode code 222 = .ok (.iadd, 1) := by decide +kernel
theorem dL_law_223 : decode code 223 = .ok (.iaload, 1) := by decide +kernel
theorem dL_law_224 : decode code 224 = .ok (.aload_n 0, 1) := by decide +kernel
theorem dL_law_225 : decode code 225 = .ok (.iload_n 3, 1) := by decide +kernel
theorem dL_law_226 : decode code 226 = .ok (.iconst 2, 1) := by decide +kernel
theorem dL_law_227 : decode code 227 = .ok (.iadd, 1) := by decide +kernel
theorem dL_law_228 : decode code 228 = .ok (.iaload, 1) := by decide +kernel
theorem dL_law_229 : decode code 229 = .ok (.invokevirtual 17, 3) := by decide +kernel
theorem dL_law_232 : decode code 232 = .ok (.if_icmp .eq 1159, 3) := by decide +kernel
theorem dL_law_235 : decode code 235 = .ok (.iconst 0, 1) := by decide +kernel
theorem dL_law_236 : decode code 236 = .ok (.ireturn, 1) := by decide +kernel
theorem dL_law_237 : decode code 237 = .ok (.aload_n 1, 1) := by decide +kernel
theorem dL_law_238 : decode code 238 = .ok (.aload_n 0, 1) := by decide +kernel
theorem dL_law_239 : decode code 239 = .ok (.iload_n 3, 1) := by decide +kernel
theorem dL_law_240 : decode code 240 = .ok (.iconst 1, 1) := by decide +kernel
theorem dL_law_241 : decode code 241 = .ok (.iadd, 1) := by decide +kernel
theorem dL_law_242 : decode code 242 = .ok (.iaload, 1) := by decide +kernel
theorem dL_law_243 : decode code 243 = .ok (.aload_n 0, 1) := by decide +kernel
theorem dL_law_244 : decode code 244 = .ok (.iload_n 3, 1) := by decide +kernel
theorem dL_law_245 : decode code 245 = .ok (.iconst 2, 1) := by decide +kernel
theorem dL_law_246 : decode code 246 = .ok (.iadd, 1) := by decide +kernel
theorem dL_law_247 : decode code 247 = .ok (.iaload, 1) := by decide +kernel
theorem dL_law_248 : decode code 248 = .ok (.invokevirtual 18, 3) := by decide +kernel
theorem dL_law_251 : decode code 251 = .ok (.aload_n 2, 1) := by decide +kernel
theorem dL_law_252 : decode code 252 = .ok (.aload_n 0, 1) := by decide +kernel
theorem dL_law_253 : decode code 253 = .ok (.iload_n 3, 1) := by decide +kernel
theorem dL_law_254 : decode code 254 = .ok (.iconst 1, 1) := by decide +kernel
theorem dL_law_255 : decode code 255 = .ok (.iadd, 1) := by decide +kernel
theorem dL_law_256 : decode code 256 = .ok (.iaload, 1) := by decide +kernel
theorem dL_law_257 : decode code 257 = .ok (.aload_n 0, 1) := by decide +kernel
theorem dL_law_258 : decode code 258 = .ok (.iload_n 3, 1) := by decide +kernel
theorem dL_law_259 : decode code 259 = .ok (.iconst 2, 1) := by decide +kernel
theorem dL_law_260 : decode code 260 = .ok (.iadd, 1) := by decide +kernel
theorem dL_law_261 : decode code 261 = .ok (.iaload, 1) := by decide +kernel
theorem dL_law_262 : decode code 262 = .ok (.invokevirtual 21, 3) := by decide +kernel
theorem dL_law_265 : decode code 265 = .ok (.if_icmp .eq 1126, 3) := by decide +kernel
theorem dL_law_268 : decode code 268 = .ok (.iconst 0, 1) := by decide +kernel
theorem dL_law_269 : decode code 269 = .ok (.ireturn, 1) := by decide +kernel
theorem dL_law_270 : decode code 270 = .ok (.aload_n 1, 1) := by decide +kernel
theorem dL_law_271 : decode code 271 = .ok (.aload_n 0, 1) := by decide +kernel
theorem dL_law_272 : decode code 272 = .ok (.iload_n 3, 1) := by decide +kernel
theorem dL_law_273 : decode code 273 = .ok (.iconst 1, 1) := by decide +kernel
theorem dL_law_274 : decode code 274 = .ok (.iadd, 1) := by decide +kernel
theorem dL_law_275 : decode code 275 = .ok (.iaload, 1) := by decide +kernel
theorem dL_law_276 : decode code 276 = .ok (.aload_n 0, 1) := by decide +kernel
theorem dL_law_277 : decode code 277 = .ok (.iload_n 3, 1) := by decide +kernel
theorem dL_law_278 : decode code 278 = .ok (.iconst 2, 1) := by decide +kernel
theorem dL_law_279 : decode code 279 = .ok (.iadd, 1) := by decide +kernel
theorem dL_law_280 : decode code 280 = .ok (.iaload, 1) := by decide +kernel
theorem dL_law_281 : decode code 281 = .ok (.aload_n 0, 1) := by decide +kernel
theorem dL_law_282 : decode code 282 = .ok (.iload_n 3, 1) := by decide +kernel
theorem dL_law_283 : decode code 283 = .ok (.iconst 3, 1) := by decide +kernel
theorem dL_law_284 : decode code 284 = .ok (.iadd, 1) := by decide +kernel
theorem dL_law_285 : decode code 285 = .ok (.iaload, 1) := by decide +kernel
theorem dL_law_286 : decode code 286 = .ok (.invokevirtual 22, 3) := by decide +kernel
theorem dL_law_289 : decode code 289 = .ok (.aload_n 2, 1) := by decide +kernel
theorem dL_law_290 : decode code 290 = .ok (.aload_n 0, 1) := by decide +kernel
theorem dL_law_291 : decode code 291 = .ok (.iload_n 3, 1) := by decide +kernel
theorem dL_law_292 : decode code 292 = .ok (.iconst 1, 1) := by decide +kernel
theorem dL_law_293 : decode code 293 = .ok (.iadd, 1) := by decide +kernel
theorem dL_law_294 : decode code 294 = .ok (.iaload, 1) := by decide +kernel
theorem dL_law_295 : decode code 295 = .ok (.aload_n 0, 1) := by decide +kernel
theorem dL_law_296 : decode code 296 = .ok (.iload_n 3, 1) := by decide +kernel
theorem dL_law_297 : decode code 297 = .ok (.iconst 2, 1) := by decide +kernel
theorem dL_law_298 : decode code 298 = .ok (.iadd, 1) := by decide +kernel
theorem dL_law_299 : decode code 299 = .ok (.iaload, 1) := by decide +kernel
theorem dL_law_300 : decode code 300 = .ok (.aload_n 0, 1) := by decide +kernel
theorem dL_law_301 : decode code 301 = .ok (.iload_n 3, 1) := by decide +kernel
theorem dL_law_302 : decode code 302 = .ok (.iconst 3, 1) := by decide +kernel
theorem dL_law_303 : decode code 303 = .ok (.iadd, 1) := by decide +kernel
theorem dL_law_304 : decode code 304 = .ok (.iaload, 1) := by decide +kernel
theorem dL_law_305 : decode code 305 = .ok (.invokevirtual 26, 3) := by decide +kernel
theorem dL_law_308 : decode code 308 = .ok (.if_icmp .eq 1083, 3) := by decide +kernel
theorem dL_law_311 : decode code 311 = .ok (.iconst 0, 1) := by decide +kernel
theorem dL_law_312 : decode code 312 = .ok (.ireturn, 1) := by decide +kernel
theorem dL_law_313 : decode code 313 = .ok (.aload_n 1, 1) := by decide +kernel
theorem dL_law_314 : decode code 314 = .ok (.aload_n 0, 1) := by decide +kernel
theorem dL_law_315 : decode code 315 = .ok (.iload_n 3, 1) := by decide +kernel
theorem dL_law_316 : decode code 316 = .ok (.iconst 1, 1) := by decide +kernel
theorem dL_law_317 : decode code 317 = .ok (.iadd, 1) := by decide +kernel
theorem dL_law_318 : decode code 318 = .ok (.iaload, 1) := by decide +kernel
theorem dL_law_319 : decode code 319 = .ok (.aload_n 0, 1) := by decide +kernel
theorem dL_law_320 : decode code 320 = .ok (.iload_n 3, 1) := by decide +kernel
theorem dL_law_321 : decode code 321 = .ok (.iconst 2, 1) := by decide +kernel
theorem dL_law_322 : decode code 322 = .ok (.iadd, 1) := by decide +kernel
theorem dL_law_323 : decode code 323 = .ok (.iaload, 1) := by decide +kernel
theorem dL_law_324 : decode code 324 = .ok (.aload_n 0, 1) := by decide +kernel
theorem dL_law_325 : decode code 325 = .ok (.iload_n 3, 1) := by decide +kernel
theorem dL_law_326 : decode code 326 = .ok (.iconst 3, 1) := by decide +kernel
theorem dL_law_327 : decode code 327 = .ok (.iadd, 1) := by decide +kernel
theorem dL_law_328 : decode code 328 = .ok (.iaload, 1) := by decide +kernel
theorem dL_law_329 : decode code 329 = .ok (.invokevirtual 27, 3) := by decide +kernel
theorem dL_law_332 : decode code 332 = .ok (.aload_n 2, 1) := by decide +kernel
theorem dL_law_333 : decode code 333 = .ok (.aload_n 0, 1) := by decide +kernel
theorem dL_law_334 : decode code 334 = .ok (.iload_n 3, 1) := by decide +kernel
theorem dL_law_335 : decode code 335 = .ok (.iconst 1, 1) := by decide +kernel
theorem dL_law_336 : decode code 336 = .ok (.iadd, 1) := by decide +kernel
theorem dL_law_337 : decode code 337 = .ok (.iaload, 1) := by decide +kernel
theorem dL_law_338 : decode code 338 = .ok (.aload_n 0, 1) := by decide +kernel
theorem dL_law_339 : decode code 339 = .ok (.iload_n 3, 1) := by decide +kernel
theorem dL_law_340 : decode code 340 = .ok (.iconst 2, 1) := by decide +kernel
theorem dL_law_341 : decode code 341 = .ok (.iadd, 1) := by decide +kernel
theorem dL_law_342 : decode code 342 = .ok (.iaload, 1) := by decide +kernel
theorem dL_law_343 : decode code 343 = .ok (.aload_n 0, 1) := by decide +kernel
theorem dL_law_344 : decode code 344 = .ok (.iload_n 3, 1) := by decide +kernel
theorem dL_law_345 : decode code 345 = .ok (.iconst 3, 1) := by decide +kernel
theorem dL_law_346 : decode code 346 = .ok (.iadd, 1) := by decide +kernel
theorem dL_law_347 : decode code 347 = .ok (.iaload, 1) := by decide +kernel
theorem dL_law_348 : decode code 348 = .ok (.invokevirtual 30, 3) := by decide +kernel
theorem dL_law_351 : decode code 351 = .ok (.if_icmp .eq 1040, 3) := by decide +kernel
theorem dL_law_354 : decode code 354 = .ok (.iconst 0, 1) := by decide +kernel
theorem dL_law_355 : decode code 355 = .ok (.ireturn, 1) := by decide +kernel
theorem dL_law_356 : decode code 356 = .ok (.aload_n 1, 1) := by decide +kernel
theorem dL_law_357 : decode code 357 = .ok (.aload_n 0, 1) := by decide +kernel
theorem dL_law_358 : decode code 358 = .ok (.iload_n 3, 1) := by decide +kernel
theorem dL_law_359 : decode code 359 = .ok (.iconst 1, 1) := by decide +kernel
theorem dL_law_360 : decode code 360 = .ok (.iadd, 1) := by decide +kernel
theorem dL_law_361 : decode code 361 = .ok (.iaload, 1) := by decide +kernel
theorem dL_law_362 : decode code 362 = .ok (.aload_n 0, 1) := by decide +kernel
theorem dL_law_363 : decode code 363 = .ok (.iload_n 3, 1) := by decide +kernel
theorem dL_law_364 : decode code 364 = .ok (.iconst 2, 1) := by decide +kernel
theorem dL_law_365 : decode code 365 = .ok (.iadd, 1) := by decide +kernel
theorem dL_law_366 : decode code 366 = .ok (.iaload, 1) := by decide +kernel
theorem dL_law_367 : decode code 367 = .ok (.invokevirtual 31, 3) := by decide +kernel
theorem dL_law_370 : decode code 370 = .ok (.aload_n 2, 1) := by decide +kernel
theorem dL_law_371 : decode code 371 = .ok (.aload_n 0, 1) := by decide +kernel
theorem dL_law_372 : decode code 372 = .ok (.iload_n 3, 1) := by decide +kernel
theorem dL_law_373 : decode code 373 = .ok (.iconst 1, 1) := by decide +kernel
theorem dL_law_374 : decode code 374 = .ok (.iadd, 1) := by decide +kernel
theorem dL_law_375 : decode code 375 = .ok (.iaload, 1) := by decide +kernel
theorem dL_law_376 : decode code 376 = .ok (.aload_n 0, 1) := by decide +kernel
theorem dL_law_377 : decode code 377 = .ok (.iload_n 3, 1) := by decide +kernel
theorem dL_law_378 : decode code 378 = .ok (.iconst 2, 1) := by decide +kernel
theorem dL_law_379 : decode code 379 = .ok (.iadd, 1) := by decide +kernel
theorem dL_law_380 : decode code 380 = .ok (.iaload, 1) := by decide +kernel
theorem dL_law_381 : decode code 381 = .ok (.invokevirtual 34, 3) := by decide +kernel
theorem dL_law_384 : decode code 384 = .ok (.if_icmp .eq 1007, 3) := by decide +kernel
theorem dL_law_387 : decode code 387 = .ok (.iconst 0, 1) := by decide +kernel
theorem dL_law_388 : decode code 388 = .ok (.ireturn, 1) := by decide +kernel
theorem dL_law_389 : decode code 389 = .ok (.aload_n 1, 1) := by decide +kernel
theorem dL_law_390 : decode code 390 = .ok (.aload_n 0, 1) := by decide +kernel
theorem dL_law_391 : decode code 391 = .ok (.iload_n 3, 1) := by decide +kernel
theorem dL_law_392 : decode code 392 = .ok (.iconst 1, 1) := by decide +kernel
theorem dL_law_393 : decode code 393 = .ok (.iadd, 1) := by decide +kernel
theorem dL_law_394 : decode code 394 = .ok (.iaload, 1) := by decide +kernel
theorem dL_law_395 : decode code 395 = .ok (.aload_n 0, 1) := by decide +kernel
theorem dL_law_396 : decode code 396 = .ok (.iload_n 3, 1) := by decide +kernel
theorem dL_law_397 : decode code 397 = .ok (.iconst 2, 1) := by decide +kernel
theorem dL_law_398 : decode code 398 = .ok (.iadd, 1) := by decide +kernel
theorem dL_law_399 : decode code 399 = .ok (.iaload, 1) := by decide +kernel
theorem dL_law_400 : decode code 400 = .ok (.invokevirtual 35, 3) := by decide +kernel
theorem dL_law_403 : decode code 403 = .ok (.aload_n 2, 1) := by decide +kernel
theorem dL_law_404 : decode code 404 = .ok (.aload_n 0, 1) := by decide +kernel
theorem dL_law_405 : decode code 405 = .ok (.iload_n 3, 1) := by decide +kernel
theorem dL_law_406 : decode code 406 = .ok (.iconst 1, 1) := by decide +kernel
theorem dL_law_407 : decode code 407 = .ok (.iadd, 1) := by decide +kernel
theorem dL_law_408 : decode code 408 = .ok (.iaload, 1) := by decide +kernel
theorem dL_law_409 : decode code 409 = .ok (.aload_n 0, 1) := by decide +kernel
theorem dL_law_410 : decode code 410 = .ok (.iload_n 3, 1) := by decide +kernel
theorem dL_law_411 : decode code 411 = .ok (.iconst 2, 1) := by decide +kernel
theorem dL_law_412 : decode code 412 = .ok (.iadd, 1) := by decide +kernel
theorem dL_law_413 : decode code 413 = .ok (.iaload, 1) := by decide +kernel
theorem dL_law_414 : decode code 414 = .ok (.invokevirtual 38, 3) := by decide +kernel
theorem dL_law_417 : decode code 417 = .ok (.if_icmp .eq 974, 3) := by decide +kernel
theorem dL_law_420 : decode code 420 = .ok (.iconst 0, 1) := by decide +kernel
theorem dL_law_421 : decode code 421 = .ok (.ireturn, 1) := by decide +kernel
theorem dL_law_422 : decode code 422 = .ok (.aload_n 1, 1) := by decide +kernel
theorem dL_law_423 : decode code 423 = .ok (.aload_n 0, 1) := by decide +kernel
theorem dL_law_424 : decode code 424 = .ok (.iload_n 3, 1) := by decide +kernel
theorem dL_law_425 : decode code 425 = .ok (.iconst 1, 1) := by decide +kernel
theorem dL_law_426 : decode code 426 = .ok (.iadd, 1) := by decide +kernel
theorem dL_law_427 : decode code 427 = .ok (.iaload, 1) := by decide +kernel
theorem dL_law_428 : decode code 428 = .ok (.aload_n 0, 1) := by decide +kernel
theorem dL_law_429 : decode code 429 = .ok (.iload_n 3, 1) := by decide +kernel
theorem dL_law_430 : decode code 430 = .ok (.iconst 2, 1) := by decide +kernel
theorem dL_law_431 : decode code 431 = .ok (.iadd, 1) := by decide +kernel
theorem dL_law_432 : decode code 432 = .ok (.iaload, 1) := by decide +kernel
theorem dL_law_433 : decode code 433 = .ok (.aload_n 0, 1) := by decide +kernel
theorem dL_law_434 : decode code 434 = .ok (.iload_n 3, 1) := by decide +kernel
theorem dL_law_435 : decode code 435 = .ok (.iconst 3, 1) := by decide +kernel
theorem dL_law_436 : decode code 436 = .ok (.iadd, 1) := by decide +kernel
theorem dL_law_437 : decode code 437 = .ok (.iaload, 1) := by decide +kernel
theorem dL_law_438 : decode code 438 = .ok (.aload_n 0, 1) := by decide +kernel
theorem dL_law_439 : decode code 439 = .ok (.iload_n 3, 1) := by decide +kernel
theorem dL_law_440 : decode code 440 = .ok (.iconst 4, 1) := by decide +kernel
theorem dL_law_441 : decode code 441 = .ok (.iadd, 1) := by decide +kernel
theorem dL_law_442 : decode code 442 = .ok (.iaload, 1) := by decide +kernel
theorem dL_law_443 : decode code 443 = .ok (.aload_n 0, 1) := by decide +kernel
theorem dL_law_444 : decode code 444 = .ok (.iload_n 3, 1) := by decide +kernel
theorem dL_law_445 : decode code 445 = .ok (.iconst 5, 1) := by decide +kernel
theorem dL_law_446 : decode code 446 = .ok (.iadd, 1) := by decide +kernel
theorem dL_law_447 : decode code 447 = .ok (.iaload, 1) := by decide +kernel
theorem dL_law_448 : decode code 448 = .ok (.invokevirtual 39, 3) := by decide +kernel
theorem dL_law_451 : decode code 451 = .ok (.aload_n 2, 1) := by decide +kernel
theorem dL_law_452 : decode code 452 = .ok (.aload_n 0, 1) := by decide +kernel
theorem dL_law_453 : decode code 453 = .ok (.iload_n 3, 1) := by decide +kernel
theorem dL_law_454 : decode code 454 = .ok (.iconst 1, 1) := by decide +kernel
theorem dL_law_455 : decode code 455 = .ok (.iadd, 1) := by decide +kernel
theorem dL_law_456 : decode code 456 = .ok (.iaload, 1) := by decide +kernel
theorem dL_law_457 : decode code 457 = .ok (.aload_n 0, 1) := by decide +kernel
theorem dL_law_458 : decode code 458 = .ok (.iload_n 3, 1) := by decide +kernel
theorem dL_law_459 : decode code 459 = .ok (.iconst 2, 1) := by decide +kernel
theorem dL_law_460 : decode code 460 = .ok (.iadd, 1) := by decide +kernel
theorem dL_law_461 : decode code 461 = .ok (.iaload, 1) := by decide +kernel
theorem dL_law_462 : decode code 462 = .ok (.aload_n 0, 1) := by decide +kernel
theorem dL_law_463 : decode code 463 = .ok (.iload_n 3, 1) := by decide +kernel
theorem dL_law_464 : decode code 464 = .ok (.iconst 3, 1) := by decide +kernel
theorem dL_law_465 : decode code 465 = .ok (.iadd, 1) := by decide +kernel
theorem dL_law_466 : decode code 466 = .ok (.iaload, 1) := by decide +kernel
theorem dL_law_467 : decode code 467 = .ok (.aload_n 0, 1) := by decide +kernel
theorem dL_law_468 : decode code 468 = .ok (.iload_n 3, 1) := by decide +kernel
theorem dL_law_469 : decode code 469 = .ok (.iconst 4, 1) := by decide +kernel
theorem dL_law_470 : decode code 470 = .ok (.iadd, 1) := by decide +kernel
theorem dL_law_471 : decode code 471 = .ok (.iaload, 1) := by decide +kernel
theorem dL_law_472 : decode code 472 = .ok (.aload_n 0, 1) := by decide +kernel
theorem dL_law_473 : decode code 473 = .ok (.iload_n 3, 1) := by decide +kernel
theorem dL_law_474 : decode code 474 = .ok (.iconst 5, 1) := by decide +kernel
theorem dL_law_475 : decode code 475 = .ok (.iadd, 1) := by decide +kernel
theorem dL_law_476 : decode code 476 = .ok (.iaload, 1) := by decide +kernel
theorem dL_law_477 : decode code 477 = .ok (.invokevirtual 43, 3) := by decide +kernel
theorem dL_law_480 : decode code 480 = .ok (.if_icmp .eq 911, 3) := by decide +kernel
theorem dL_law_483 : decode code 483 = .ok (.iconst 0, 1) := by decide +kernel
theorem dL_law_484 : decode code 484 = .ok (.ireturn, 1) := by decide +kernel
theorem dL_law_485 : decode code 485 = .ok (.aload_n 1, 1) := by decide +kernel
theorem dL_law_486 : decode code 486 = .ok (.aload_n 0, 1) := by decide +kernel
theorem dL_law_487 : decode code 487 = .ok (.iload_n 3, 1) := by decide +kernel
theorem dL_law_488 : decode code 488 = .ok (.iconst 1, 1) := by decide +kernel
theorem dL_law_489 : decode code 489 = .ok (.iadd, 1) := by decide +kernel
theorem dL_law_490 : decode code 490 = .ok (.iaload, 1) := by decide +kernel
theorem dL_law_491 : decode code 491 = .ok (.invokevirtual 44, 3) := by decide +kernel
theorem dL_law_494 : decode code 494 = .ok (.aload_n 2, 1) := by decide +kernel
theorem dL_law_495 : decode code 495 = .ok (.aload_n 0, 1) := by decide +kernel
theorem dL_law_496 : decode code 496 = .ok (.iload_n 3, 1) := by decide +kernel
theorem dL_law_497 : decode code 497 = .ok (.iconst 1, 1) := by decide +kernel
theorem dL_law_498 : decode code 498 = .ok (.iadd, 1) := by decide +kernel
theorem dL_law_499 : decode code 499 = .ok (.iaload, 1) := by decide +kernel
theorem dL_law_500 : decode code 500 = .ok (.invokevirtual 48, 3) := by decide +kernel
theorem dL_law_503 : decode code 503 = .ok (.if_icmp .eq 888, 3) := by decide +kernel
theorem dL_law_506 : decode code 506 = .ok (.iconst 0, 1) := by decide +kernel
theorem dL_law_507 : decode code 507 = .ok (.ireturn, 1) := by decide +kernel
theorem dL_law_508 : decode code 508 = .ok (.aload_n 1, 1) := by decide +kernel
theorem dL_law_509 : decode code 509 = .ok (.invokevirtual 49, 3) := by decide +kernel
theorem dL_law_512 : decode code 512 = .ok (.aload_n 2, 1) := by decide +kernel
theorem dL_law_513 : decode code 513 = .ok (.invokevirtual 53, 3) := by decide +kernel
theorem dL_law_516 : decode code 516 = .ok (.if_icmp .eq 875, 3) := by decide +kernel
theorem dL_law_519 : decode code 519 = .ok (.iconst 0, 1) := by decide +kernel
theorem dL_law_520 : decode code 520 = .ok (.ireturn, 1) := by decide +kernel
theorem dL_law_521 : decode code 521 = .ok (.aload_n 1, 1) := by decide +kernel
theorem dL_law_522 : decode code 522 = .ok (.invokevirtual 54, 3) := by decide +kernel
theorem dL_law_525 : decode code 525 = .ok (.aload_n 2, 1) := by decide +kernel
theorem dL_law_526 : decode code 526 = .ok (.invokevirtual 57, 3) := by decide +kernel
theorem dL_law_529 : decode code 529 = .ok (.if_icmp .eq 862, 3) := by decide +kernel
theorem dL_law_532 : decode code 532 = .ok (.iconst 0, 1) := by decide +kernel
theorem dL_law_533 : decode code 533 = .ok (.ireturn, 1) := by decide +kernel
theorem dL_law_534 : decode code 534 = .ok (.aload_n 1, 1) := by decide +kernel
theorem dL_law_535 : decode code 535 = .ok (.invokevirtual 58, 3) := by decide +kernel
theorem dL_law_538 : decode code 538 = .ok (.aload_n 2, 1) := by decide +kernel
theorem dL_law_539 : decode code 539 = .ok (.invokevirtual 61, 3) := by decide +kernel
theorem dL_law_542 : decode code 542 = .ok (.if_icmp .eq 849, 3) := by decide +kernel
theorem dL_law_545 : decode code 545 = .ok (.iconst 0, 1) := by decide +kernel
theorem dL_law_546 : decode code 546 = .ok (.ireturn, 1) := by decide +kernel
theorem dL_law_547 : decode code 547 = .ok (.aload_n 1, 1) := by decide +kernel
theorem dL_law_548 : decode code 548 = .ok (.invokevirtual 62, 3) := by decide +kernel
theorem dL_law_551 : decode code 551 = .ok (.aload_n 2, 1) := by decide +kernel
theorem dL_law_552 : decode code 552 = .ok (.invokevirtual 65, 3) := by decide +kernel
theorem dL_law_555 : decode code 555 = .ok (.if_icmp .eq 836, 3) := by decide +kernel
theorem dL_law_558 : decode code 558 = .ok (.iconst 0, 1) := by decide +kernel
theorem dL_law_559 : decode code 559 = .ok (.ireturn, 1) := by decide +kernel
theorem dL_law_560 : decode code 560 = .ok (.aload_n 1, 1) := by decide +kernel
theorem dL_law_561 : decode code 561 = .ok (.invokevirtual 66, 3) := by decide +kernel
theorem dL_law_564 : decode code 564 = .ok (.aload_n 2, 1) := by decide +kernel
theorem dL_law_565 : decode code 565 = .ok (.invokevirtual 69, 3) := by decide +kernel
theorem dL_law_568 : decode code 568 = .ok (.if_icmp .eq 823, 3) := by decide +kernel
theorem dL_law_571 : decode code 571 = .ok (.iconst 0, 1) := by decide +kernel
theorem dL_law_572 : decode code 572 = .ok (.ireturn, 1) := by decide +kernel
theorem dL_law_573 : decode code 573 = .ok (.aload_n 1, 1) := by decide +kernel
theorem dL_law_574 : decode code 574 = .ok (.invokevirtual 70, 3) := by decide +kernel
theorem dL_law_577 : decode code 577 = .ok (.aload_n 2, 1) := by decide +kernel
theorem dL_law_578 : decode code 578 = .ok (.invokevirtual 73, 3) := by decide +kernel
theorem dL_law_581 : decode code 581 = .ok (.if_icmp .eq 810, 3) := by decide +kernel
theorem dL_law_584 : decode code 584 = .ok (.iconst 0, 1) := by decide +kernel
theorem dL_law_585 : decode code 585 = .ok (.ireturn, 1) := by decide +kernel
theorem dL_law_586 : decode code 586 = .ok (.aload_n 1, 1) := by decide +kernel
theorem dL_law_587 : decode code 587 = .ok (.aload_n 0, 1) := by decide +kernel
theorem dL_law_588 : decode code 588 = .ok (.iload_n 3, 1) := by decide +kernel
theorem dL_law_589 : decode code 589 = .ok (.iconst 1, 1) := by decide +kernel
theorem dL_law_590 : decode code 590 = .ok (.iadd, 1) := by decide +kernel
theorem dL_law_591 : decode code 591 = .ok (.iaload, 1) := by decide +kernel
theorem dL_law_592 : decode code 592 = .ok (.invokevirtual 74, 3) := by decide +kernel
theorem dL_law_595 : decode code 595 = .ok (.aload_n 2, 1) := by decide +kernel
theorem dL_law_596 : decode code 596 = .ok (.aload_n 0, 1) := by decide +kernel
theorem dL_law_597 : decode code 597 = .ok (.iload_n 3, 1) := by decide +kernel
theorem dL_law_598 : decode code 598 = .ok (.iconst 1, 1) := by decide +kernel
theorem dL_law_599 : decode code 599 = .ok (.iadd, 1) := by decide +kernel
theorem dL_law_600 : decode code 600 = .ok (.iaload, 1) := by decide +kernel
theorem dL_law_601 : decode code 601 = .ok (.invokevirtual 77, 3) := by decide +kernel
theorem dL_law_604 : decode code 604 = .ok (.if_icmp .eq 787, 3) := by decide +kernel
theorem dL_law_607 : decode code 607 = .ok (.iconst 0, 1) := by decide +kernel
theorem dL_law_608 : decode code 608 = .ok (.ireturn, 1) := by decide +kernel
theorem dL_law_609 : decode code 609 = .ok (.aload_n 1, 1) := by decide +kernel
theorem dL_law_610 : decode code 610 = .ok (.aload_n 0, 1) := by decide +kernel
theorem dL_law_611 : decode code 611 = .ok (.iload_n 3, 1) := by decide +kernel
theorem dL_law_612 : decode code 612 = .ok (.iconst 1, 1) := by decide +kernel
theorem dL_law_613 : decode code 613 = .ok (.iadd, 1) := by decide +kernel
theorem dL_law_614 : decode code 614 = .ok (.iaload, 1) := by decide +kernel
theorem dL_law_615 : decode code 615 = .ok (.aload_n 0, 1) := by decide +kernel
theorem dL_law_616 : decode code 616 = .ok (.iload_n 3, 1) := by decide +kernel
theorem dL_law_617 : decode code 617 = .ok (.iconst 2, 1) := by decide +kernel
theorem dL_law_618 : decode code 618 = .ok (.iadd, 1) := by decide +kernel
theorem dL_law_619 : decode code 619 = .ok (.iaload, 1) := by decide +kernel
theorem dL_law_620 : decode code 620 = .ok (.aload_n 0, 1) := by decide +kernel
theorem dL_law_621 : decode code 621 = .ok (.iload_n 3, 1) := by decide +kernel
theorem dL_law_622 : decode code 622 = .ok (.iconst 3, 1) := by decide +kernel
theorem dL_law_623 : decode code 623 = .ok (.iadd, 1) := by decide +kernel
theorem dL_law_624 : decode code 624 = .ok (.iaload, 1) := by decide +kernel
theorem dL_law_625 : decode code 625 = .ok (.invokevirtual 78, 3) := by decide +kernel
theorem dL_law_628 : decode code 628 = .ok (.aload_n 2, 1) := by decide +kernel
theorem dL_law_629 : decode code 629 = .ok (.aload_n 0, 1) := by decide +kernel
theorem dL_law_630 : decode code 630 = .ok (.iload_n 3, 1) := by decide +kernel
theorem dL_law_631 : decode code 631 = .ok (.iconst 1, 1) := by decide +kernel
theorem dL_law_632 : decode code 632 = .ok (.iadd, 1) := by decide +kernel
theorem dL_law_633 : decode code 633 = .ok (.iaload, 1) := by decide +kernel
theorem dL_law_634 : decode code 634 = .ok (.aload_n 0, 1) := by decide +kernel
theorem dL_law_635 : decode code 635 = .ok (.iload_n 3, 1) := by decide +kernel
theorem dL_law_636 : decode code 636 = .ok (.iconst 2, 1) := by decide +kernel
theorem dL_law_637 : decode code 637 = .ok (.iadd, 1) := by decide +kernel
theorem dL_law_638 : decode code 638 = .ok (.iaload, 1) := by decide +kernel
theorem dL_law_639 : decode code 639 = .ok (.aload_n 0, 1) := by decide +kernel
theorem dL_law_640 : decode code 640 = .ok (.iload_n 3, 1) := by decide +kernel
theorem dL_law_641 : decode code 641 = .ok (.iconst 3, 1) := by decide +kernel
theorem dL_law_642 : decode code 642 = .ok (.iadd, 1) := by decide +kernel
theorem dL_law_643 : decode code 643 = .ok (.iaload, 1) := by decide +kernel
theorem dL_law_644 : decode code 644 = .ok (.invokevirtual 81, 3) := by decide +kernel
theorem dL_law_647 : decode code 647 = .ok (.if_icmp .eq 744, 3) := by decide +kernel
theorem dL_law_650 : decode code 650 = .ok (.iconst 0, 1) := by decide +kernel
theorem dL_law_651 : decode code 651 = .ok (.ireturn, 1) := by decide +kernel
theorem dL_law_652 : decode code 652 = .ok (.aload_n 1, 1) := by decide +kernel
theorem dL_law_653 : decode code 653 = .ok (.aload_n 0, 1) := by decide +kernel
theorem dL_law_654 : decode code 654 = .ok (.iload_n 3, 1) := by decide +kernel
theorem dL_law_655 : decode code 655 = .ok (.iconst 1, 1) := by decide +kernel
theorem dL_law_656 : decode code 656 = .ok (.iadd, 1) := by decide +kernel
theorem dL_law_657 : decode code 657 = .ok (.iaload, 1) := by decide +kernel
theorem dL_law_658 : decode code 658 = .ok (.aload_n 0, 1) := by decide +kernel
theorem dL_law_659 : decode code 659 = .ok (.iload_n 3, 1) := by decide +kernel
theorem dL_law_660 : decode code 660 = .ok (.iconst 2, 1) := by decide +kernel
theorem dL_law_661 : decode code 661 = .ok (.iadd, 1) := by decide +kernel
theorem dL_law_662 : decode code 662 = .ok (.iaload, 1) := by decide +kernel
theorem dL_law_663 : decode code 663 = .ok (.invokevirtual 82, 3) := by decide +kernel
theorem dL_law_666 : decode code 666 = .ok (.aload_n 2, 1) := by decide +kernel
theorem dL_law_667 : decode code 667 = .ok (.aload_n 0, 1) := by decide +kernel
theorem dL_law_668 : decode code 668 = .ok (.iload_n 3, 1) := by decide +kernel
theorem dL_law_669 : decode code 669 = .ok (.iconst 1, 1) := by decide +kernel
theorem dL_law_670 : decode code 670 = .ok (.iadd, 1) := by decide +kernel
theorem dL_law_671 : decode code 671 = .ok (.iaload, 1) := by decide +kernel
theorem dL_law_672 : decode code 672 = .ok (.aload_n 0, 1) := by decide +kernel
theorem dL_law_673 : decode code 673 = .ok (.iload_n 3, 1) := by decide +kernel
theorem dL_law_674 : decode code 674 = .ok (.iconst 2, 1) := by decide +kernel
theorem dL_law_675 : decode code 675 = .ok (.iadd, 1) := by decide +kernel
theorem dL_law_676 : decode code 676 = .ok (.iaload, 1) := by decide +kernel
theorem dL_law_677 : decode code 677 = .ok (.invokevirtual 85, 3) := by decide +kernel
theorem dL_law_680 : decode code 680 = .ok (.if_icmp .eq 711, 3) := by decide +kernel
theorem dL_law_683 : decode code 683 = .ok (.iconst 0, 1) := by decide +kernel
theorem dL_law_684 : decode code 684 = .ok (.ireturn, 1) := by decide +kernel
theorem dL_law_685 : decode code 685 = .ok (.aload_n 1, 1) := by decide +kernel
theorem dL_law_686 : decode code 686 = .ok (.invokevirtual 86, 3) := by decide +kernel
theorem dL_law_689 : decode code 689 = .ok (.aload_n 2, 1) := by decide +kernel
theorem dL_law_690 : decode code 690 = .ok (.invokevirtual 89, 3) := by decide +kernel
theorem dL_law_693 : decode code 693 = .ok (.if_icmp .eq 698, 3) := by decide +kernel
theorem dL_law_696 : decode code 696 = .ok (.iconst 0, 1) := by decide +kernel
theorem dL_law_697 : decode code 697 = .ok (.ireturn, 1) := by decide +kernel
theorem dL_law_698 : decode code 698 = .ok (.aload_n 1, 1) := by decide +kernel
theorem dL_law_699 : decode code 699 = .ok (.invokevirtual 90, 3) := by decide +kernel
theorem dL_law_702 : decode code 702 = .ok (.aload_n 2, 1) := by decide +kernel
theorem dL_law_703 : decode code 703 = .ok (.invokevirtual 93, 3) := by decide +kernel
theorem dL_law_706 : decode code 706 = .ok (.if_icmp .eq 685, 3) := by decide +kernel
theorem dL_law_709 : decode code 709 = .ok (.iconst 0, 1) := by decide +kernel
theorem dL_law_710 : decode code 710 = .ok (.ireturn, 1) := by decide +kernel
theorem dL_law_711 : decode code 711 = .ok (.aload_n 1, 1) := by decide +kernel
theorem dL_law_712 : decode code 712 = .ok (.aload_n 0, 1) := by decide +kernel
theorem dL_law_713 : decode code 713 = .ok (.iload_n 3, 1) := by decide +kernel
theorem dL_law_714 : decode code 714 = .ok (.iconst 1, 1) := by decide +kernel
theorem dL_law_715 : decode code 715 = .ok (.iadd, 1) := by decide +kernel
theorem dL_law_716 : decode code 716 = .ok (.iaload, 1) := by decide +kernel
theorem dL_law_717 : decode code 717 = .ok (.aload_n 0, 1) := by decide +kernel
theorem dL_law_718 : decode code 718 = .ok (.iload_n 3, 1) := by decide +kernel
theorem dL_law_719 : decode code 719 = .ok (.iconst 2, 1) := by decide +kernel
theorem dL_law_720 : decode code 720 = .ok (.iadd, 1) := by decide +kernel
theorem dL_law_721 : decode code 721 = .ok (.iaload, 1) := by decide +kernel
theorem dL_law_722 : decode code 722 = .ok (.aload_n 0, 1) := by decide +kernel
theorem dL_law_723 : decode code 723 = .ok (.iload_n 3, 1) := by decide +kernel
theorem dL_law_724 : decode code 724 = .ok (.iconst 3, 1) := by decide +kernel
theorem dL_law_725 : decode code 725 = .ok (.iadd, 1) := by decide +kernel
theorem dL_law_726 : decode code 726 = .ok (.iaload, 1) := by decide +kernel
theorem dL_law_727 : decode code 727 = .ok (.invokevirtual 94, 3) := by decide +kernel
theorem dL_law_730 : decode code 730 = .ok (.aload_n 2, 1) := by decide +kernel
theorem dL_law_731 : decode code 731 = .ok (.aload_n 0, 1) := by decide +kernel
theorem dL_law_732 : decode code 732 = .ok (.iload_n 3, 1) := by decide +kernel
theorem dL_law_733 : decode code 733 = .ok (.iconst 1, 1) := by decide +kernel
theorem dL_law_734 : decode code 734 = .ok (.iadd, 1) := by decide +kernel
theorem dL_law_735 : decode code 735 = .ok (.iaload, 1) := by decide +kernel
theorem dL_law_736 : decode code 736 = .ok (.aload_n 0, 1) := by decide +kernel
theorem dL_law_737 : decode code 737 = .ok (.iload_n 3, 1) := by decide +kernel
theorem dL_law_738 : decode code 738 = .ok (.iconst 2, 1) := by decide +kernel
theorem dL_law_739 : decode code 739 = .ok (.iadd, 1) := by decide +kernel
theorem dL_law_740 : decode code 740 = .ok (.iaload, 1) := by decide +kernel
theorem dL_law_741 : decode code 741 = .ok (.aload_n 0, 1) := by decide +kernel
theorem dL_law_742 : decode code 742 = .ok (.iload_n 3, 1) := by decide +kernel
theorem dL_law_743 : decode code 743 = .ok (.iconst 3, 1) := by decide +kernel
theorem dL_law_744 : decode code 744 = .ok (.iadd, 1) := by decide +kernel
theorem dL_law_745 : decode code 745 = .ok (.iaload, 1) := by decide +kernel
theorem dL_law_746 : decode code 746 = .ok (.invokevirtual 97, 3) := by decide +kernel
theorem dL_law_749 : decode code 749 = .ok (.if_icmp .eq 642, 3) := by decide +kernel
theorem dL_law_752 : decode code 752 = .ok (.iconst 0, 1) := by decide +kernel
theorem dL_law_753 : decode code 753 = .ok (.ireturn, 1) := by decide +kernel
theorem dL_law_754 : decode code 754 = .ok (.aload_n 1, 1) := by decide +kernel
theorem dL_law_755 : decode code 755 = .ok (.aload_n 0, 1) := by decide +kernel
theorem dL_law_756 : decode code 756 = .ok (.iload_n 3, 1) := by decide +kernel
theorem dL_law_757 : decode code 757 = .ok (.iconst 1, 1) := by decide +kernel
theorem dL_law_758 : decode code 758 = .ok (.iadd, 1) := by decide +kernel
theorem dL_law_759 : decode code 759 = .ok (.iaload, 1) := by decide +kernel
theorem dL_law_760 : decode code 760 = .ok (.aload_n 0, 1) := by decide +kernel
theorem dL_law_761 : decode code 761 = .ok (.iload_n 3, 1) := by decide +kernel
theorem dL_law_762 : decode code 762 = .ok (.iconst 2, 1) := by decide +kernel
theorem dL_law_763 : decode code 763 = .ok (.iadd, 1) := by decide +kernel
theorem dL_law_764 : decode code 764 = .ok (.iaload, 1) := by decide +kernel
theorem dL_law_765 : decode code 765 = .ok (.invokevirtual 98, 3) := by decide +kernel
theorem dL_law_768 : decode code 768 = .ok (.aload_n 2, 1) := by decide +kernel
theorem dL_law_769 : decode code 769 = .ok (.aload_n 0, 1) := by decide +kernel
theorem dL_law_770 : decode code 770 = .ok (.iload_n 3, 1) := by decide +kernel
theorem dL_law_771 : decode code 771 = .ok (.iconst 1, 1) := by decide +kernel
theorem dL_law_772 : decode code 772 = .ok (.iadd, 1) := by decide +kernel
theorem dL_law_773 : decode code 773 = .ok (.iaload, 1) := by decide +kernel
theorem dL_law_774 : decode code 774 = .ok (.aload_n 0, 1) := by decide +kernel
theorem dL_law_775 : decode code 775 = .ok (.iload_n 3, 1) := by decide +kernel
theorem dL_law_776 : decode code 776 = .ok (.iconst 2, 1) := by decide +kernel
theorem dL_law_777 : decode code 777 = .ok (.iadd, 1) := by decide +kernel
theorem dL_law_778 : decode code 778 = .ok (.iaload, 1) := by decide +kernel
theorem dL_law_779 : decode code 779 = .ok (.invokevirtual 101, 3) := by decide +kernel
theorem dL_law_782 : decode code 782 = .ok (.if_icmp .eq 609, 3) := by decide +kernel
theorem dL_law_785 : decode code 785 = .ok (.iconst 0, 1) := by decide +kernel
theorem dL_law_786 : decode code 786 = .ok (.ireturn, 1) := by decide +kernel
theorem dL_law_787 : decode code 787 = .ok (.aload_n 1, 1) := by decide +kernel
theorem dL_law_788 : decode code 788 = .ok (.aload_n 0, 1) := by decide +kernel
theorem dL_law_789 : decode code 789 = .ok (.iload_n 3, 1) := by decide +kernel
theorem dL_law_790 : decode code 790 = .ok (.iconst 1, 1) := by decide +kernel
theorem dL_law_791 : decode code 791 = .ok (.iadd, 1) := by decide +kernel
theorem dL_law_792 : decode code 792 = .ok (.iaload, 1) := by decide +kernel
theorem dL_law_793 : decode code 793 = .ok (.aload_n 0, 1) := by decide +kernel
theorem dL_law_794 : decode code 794 = .ok (.iload_n 3, 1) := by decide +kernel
theorem dL_law_795 : decode code 795 = .ok (.iconst 2, 1) := by decide +kernel
theorem dL_law_796 : decode code 796 = .ok (.iadd, 1) := by decide +kernel
theorem dL_law_797 : decode code 797 = .ok (.iaload, 1) := by decide +kernel
theorem dL_law_798 : decode code 798 = .ok (.aload_n 0, 1) := by decide +kernel
theorem dL_law_799 : decode code 799 = .ok (.iload_n 3, 1) := by decide +kernel
theorem dL_law_800 : decode code 800 = .ok (.iconst 3, 1) := by decide +kernel
theorem dL_law_801 : decode code 801 = .ok (.iadd, 1) := by decide +kernel
theorem dL_law_802 : decode code 802 = .ok (.iaload, 1) := by decide +kernel
theorem dL_law_803 : decode code 803 = .ok (.invokevirtual 102, 3) := by decide +kernel
theorem dL_law_806 : decode code 806 = .ok (.aload_n 2, 1) := by decide +kernel
theorem dL_law_807 : decode code 807 = .ok (.aload_n 0, 1) := by decide +kernel
theorem dL_law_808 : decode code 808 = .ok (.iload_n 3, 1) := by decide +kernel
theorem dL_law_809 : decode code 809 = .ok (.iconst 1, 1) := by decide +kernel
theorem dL_law_810 : decode code 810 = .ok (.iadd, 1) := by decide +kernel
theorem dL_law_811 : decode code 811 = .ok (.iaload, 1) := by decide +kernel
theorem dL_law_812 : decode code 812 = .ok (.aload_n 0, 1) := by decide +kernel
theorem dL_law_813 : decode code 813 = .ok (.iload_n 3, 1) := by decide +kernel
theorem dL_law_814 : decode code 814 = .ok (.iconst 2, 1) := by decide +kernel
theorem dL_law_815 : decode code 815 = .ok (.iadd, 1) := by decide +kernel
theorem dL_law_816 : decode code 816 = .ok (.iaload, 1) := by decide +kernel
theorem dL_law_817 : decode code 817 = .ok (.aload_n 0, 1) := by decide +kernel
theorem dL_law_818 : decode code 818 = .ok (.iload_n 3, 1) := by decide +kernel
theorem dL_law_819 : decode code 819 = .ok (.iconst 3, 1) := by decide +kernel
theorem dL_law_820 : decode code 820 = .ok (.iadd, 1) := by decide +kernel
theorem dL_law_821 : decode code 821 = .ok (.iaload, 1) := by decide +kernel
theorem dL_law_822 : decode code 822 = .ok (.invokevirtual 105, 3) := by decide +kernel
theorem dL_law_825 : decode code 825 = .ok (.if_icmp .eq 566, 3) := by decide +kernel
theorem dL_law_828 : decode code 828 = .ok (.iconst 0, 1) := by decide +kernel
theorem dL_law_829 : decode code 829 = .ok (.ireturn, 1) := by decide +kernel
theorem dL_law_830 : decode code 830 = .ok (.aload_n 1, 1) := by decide +kernel
theorem dL_law_831 : decode code 831 = .ok (.aload_n 0, 1) := by decide +kernel
theorem dL_law_832 : decode code 832 = .ok (.iload_n 3, 1) := by decide +kernel
theorem dL_law_833 : decode code 833 = .ok (.iconst 1, 1) := by decide +kernel
theorem dL_law_834 : decode code 834 = .ok (.iadd, 1) := by decide +kernel
theorem dL_law_835 : decode code 835 = .ok (.iaload, 1) := by decide +kernel
theorem dL_law_836 : decode code 836 = .ok (.aload_n 0, 1) := by decide +kernel
theorem dL_law_837 : decode code 837 = .ok (.iload_n 3, 1) := by decide +kernel
theorem dL_law_838 : decode code 838 = .ok (.iconst 2, 1) := by decide +kernel
theorem dL_law_839 : decode code 839 = .ok (.iadd, 1) := by decide +kernel
theorem dL_law_840 : decode code 840 = .ok (.iaload, 1) := by decide +kernel
theorem dL_law_841 : decode code 841 = .ok (.invokevirtual 106, 3) := by decide +kernel
theorem dL_law_844 : decode code 844 = .ok (.aload_n 2, 1) := by decide +kernel
theorem dL_law_845 : decode code 845 = .ok (.aload_n 0, 1) := by decide +kernel
theorem dL_law_846 : decode code 846 = .ok (.iload_n 3, 1) := by decide +kernel
theorem dL_law_847 : decode code 847 = .ok (.iconst 1, 1) := by decide +kernel
theorem dL_law_848 : decode code 848 = .ok (.iadd, 1) := by decide +kernel
theorem dL_law_849 : decode code 849 = .ok (.iaload, 1) := by decide +kernel
theorem dL_law_850 : decode code 850 = .ok (.aload_n 0, 1) := by decide +kernel
theorem dL_law_851 : decode code 851 = .ok (.iload_n 3, 1) := by decide +kernel
theorem dL_law_852 : decode code 852 = .ok (.iconst 2, 1) := by decide +kernel
theorem dL_law_853 : decode code 853 = .ok (.iadd, 1) := by decide +kernel
theorem dL_law_854 : decode code 854 = .ok (.iaload, 1) := by decide +kernel
theorem dL_law_855 : decode code 855 = .ok (.invokevirtual 109, 3) := by decide +kernel
theorem dL_law_858 : decode code 858 = .ok (.if_icmp .eq 533, 3) := by decide +kernel
theorem dL_law_861 : decode code 861 = .ok (.iconst 0, 1) := by decide +kernel
theorem dL_law_862 : decode code 862 = .ok (.ireturn, 1) := by decide +kernel
theorem dL_law_863 : decode code 863 = .ok (.aload_n 1, 1) := by decide +kernel
theorem dL_law_864 : decode code 864 = .ok (.aload_n 0, 1) := by decide +kernel
theorem dL_law_865 : decode code 865 = .ok (.iload_n 3, 1) := by decide +kernel
theorem dL_law_866 : decode code 866 = .ok (.iconst 1, 1) := by decide +kernel
theorem dL_law_867 : decode code 867 = .ok (.iadd, 1) := by decide +kernel
theorem dL_law_868 : decode code 868 = .ok (.iaload, 1) := by decide +kernel
theorem dL_law_869 : decode code 869 = .ok (.aload_n 0, 1) := by decide +kernel
theorem dL_law_870 : decode code 870 = .ok (.iload_n 3, 1) := by decide +kernel
theorem dL_law_871 : decode code 871 = .ok (.iconst 2, 1) := by decide +kernel
theorem dL_law_872 : decode code 872 = .ok (.iadd, 1) := by decide +kernel
theorem dL_law_873 : decode code 873 = .ok (.iaload, 1) := by decide +kernel
theorem dL_law_874 : decode code 874 = .ok (.aload_n 0, 1) := by decide +kernel
theorem dL_law_875 : decode code 875 = .ok (.iload_n 3, 1) := by decide +kernel
theorem dL_law_876 : decode code 876 = .ok (.iconst 3, 1) := by decide +kernel
theorem dL_law_877 : decode code 877 = .ok (.iadd, 1) := by decide +kernel
theorem dL_law_878 : decode code 878 = .ok (.iaload, 1) := by decide +kernel
theorem dL_law_879 : decode code 879 = .ok (.aload_n 0, 1) := by decide +kernel
theorem dL_law_880 : decode code 880 = .ok (.iload_n 3, 1) := by decide +kernel
theorem dL_law_881 : decode code 881 = .ok (.iconst 4, 1) := by decide +kernel
theorem dL_law_882 : decode code 882 = .ok (.iadd, 1) := by decide +kernel
theorem dL_law_883 : decode code 883 = .ok (.iaload, 1) := by decide +kernel
theorem dL_law_884 : decode code 884 = .ok (.invokevirtual 110, 3) := by decide +kernel
theorem dL_law_887 : decode code 887 = .ok (.aload_n 2, 1) := by decide +kernel
theorem dL_law_888 : decode code 888 = .ok (.aload_n 0, 1) := by decide +kernel
theorem dL_law_889 : decode code 889 = .ok (.iload_n 3, 1) := by decide +kernel
theorem dL_law_890 : decode code 890 = .ok (.iconst 1, 1) := by decide +kernel
theorem dL_law_891 : decode code 891 = .ok (.iadd, 1) := by decide +kernel
theorem dL_law_892 : decode code 892 = .ok (.iaload, 1) := by decide +kernel
theorem dL_law_893 : decode code 893 = .ok (.aload_n 0, 1) := by decide +kernel
theorem dL_law_894 : decode code 894 = .ok (.iload_n 3, 1) := by decide +kernel
theorem dL_law_895 : decode code 895 = .ok (.iconst 2, 1) := by decide +kernel
theorem dL_law_896 : decode code 896 = .ok (.iadd, 1) := by decide +kernel
theorem dL_law_897 : decode code 897 = .ok (.iaload, 1) := by decide +kernel
theorem dL_law_898 : decode code 898 = .ok (.aload_n 0, 1) := by decide +kernel
theorem dL_law_899 : decode code 899 = .ok (.iload_n 3, 1) := by decide +kernel
theorem dL_law_900 : decode code 900 = .ok (.iconst 3, 1) := by decide +kernel
theorem dL_law_901 : decode code 901 = .ok (.iadd, 1) := by decide +kernel
theorem dL_law_902 : decode code 902 = .ok (.iaload, 1) := by decide +kernel
theorem dL_law_903 : decode code 903 = .ok (.aload_n 0, 1) := by decide +kernel
theorem dL_law_904 : decode code 904 = .ok (.iload_n 3, 1) := by decide +kernel
theorem dL_law_905 : decode code 905 = .ok (.iconst 4, 1) := by decide +kernel
theorem dL_law_906 : decode code 906 = .ok (.iadd, 1) := by decide +kernel
theorem dL_law_907 : decode code 907 = .ok (.iaload, 1) := by decide +kernel
theorem dL_law_908 : decode code 908 = .ok (.invokevirtual 114, 3) := by decide +kernel
theorem dL_law_911 : decode code 911 = .ok (.if_icmp .eq 480, 3) := by decide +kernel
theorem dL_law_914 : decode code 914 = .ok (.iconst 0, 1) := by decide +kernel
theorem dL_law_915 : decode code 915 = .ok (.ireturn, 1) := by decide +kernel
theorem dL_law_916 : decode code 916 = .ok (.aload_n 1, 1) := by decide +kernel
theorem dL_law_917 : decode code 917 = .ok (.aload_n 0, 1) := by decide +kernel
theorem dL_law_918 : decode code 918 = .ok (.iload_n 3, 1) := by decide +kernel
theorem dL_law_919 : decode code 919 = .ok (.iconst 1, 1) := by decide +kernel
theorem dL_law_920 : decode code 920 = .ok (.iadd, 1) := by decide +kernel
theorem dL_law_921 : decode code 921 = .ok (.iaload, 1) := by decide +kernel
theorem dL_law_922 : decode code 922 = .ok (.invokevirtual 115, 3) := by decide +kernel
theorem dL_law_925 : decode code 925 = .ok (.aload_n 2, 1) := by decide +kernel
theorem dL_law_926 : decode code 926 = .ok (.aload_n 0, 1) := by decide +kernel
theorem dL_law_927 : decode code 927 = .ok (.iload_n 3, 1) := by decide +kernel
theorem dL_law_928 : decode code 928 = .ok (.iconst 1, 1) := by decide +kernel
theorem dL_law_929 : decode code 929 = .ok (.iadd, 1) := by decide +kernel
theorem dL_law_930 : decode code 930 = .ok (.iaload, 1) := by decide +kernel
theorem dL_law_931 : decode code 931 = .ok (.invokevirtual 118, 3) := by decide +kernel
theorem dL_law_934 : decode code 934 = .ok (.if_icmp .eq 457, 3) := by decide +kernel
theorem dL_law_937 : decode code 937 = .ok (.iconst 0, 1) := by decide +kernel
theorem dL_law_938 : decode code 938 = .ok (.ireturn, 1) := by decide +kernel
theorem dL_law_939 : decode code 939 = .ok (.aload_n 1, 1) := by decide +kernel
theorem dL_law_940 : decode code 940 = .ok (.aload_n 0, 1) := by decide +kernel
theorem dL_law_941 : decode code 941 = .ok (.iload_n 3, 1) := by decide +kernel
theorem dL_law_942 : decode code 942 = .ok (.iconst 1, 1) := by decide +kernel
theorem dL_law_943 : decode code 943 = .ok (.iadd, 1) := by decide +kernel
theorem dL_law_944 : decode code 944 = .ok (.iaload, 1) := by decide +kernel
theorem dL_law_945 : decode code 945 = .ok (.aload_n 0, 1) := by decide +kernel
theorem dL_law_946 : decode code 946 = .ok (.iload_n 3, 1) := by decide +kernel
theorem dL_law_947 : decode code 947 = .ok (.iconst 2, 1) := by decide +kernel
theorem dL_law_948 : decode code 948 = .ok (.iadd, 1) := by decide +kernel
theorem dL_law_949 : decode code 949 = .ok (.iaload, 1) := by decide +kernel
theorem dL_law_950 : decode code 950 = .ok (.invokevirtual 119, 3) := by decide +kernel
theorem dL_law_953 : decode code 953 = .ok (.aload_n 2, 1) := by decide +kernel
theorem dL_law_954 : decode code 954 = .ok (.aload_n 0, 1) := by decide +kernel
theorem dL_law_955 : decode code 955 = .ok (.iload_n 3, 1) := by decide +kernel
theorem dL_law_956 : decode code 956 = .ok (.iconst 1, 1) := by decide +kernel
theorem dL_law_957 : decode code 957 = .ok (.iadd, 1) := by decide +kernel
theorem dL_law_958 : decode code 958 = .ok (.iaload, 1) := by decide +kernel
theorem dL_law_959 : decode code 959 = .ok (.aload_n 0, 1) := by decide +kernel
theorem dL_law_960 : decode code 960 = .ok (.iload_n 3, 1) := by decide +kernel
theorem dL_law_961 : decode code 961 = .ok (.iconst 2, 1) := by decide +kernel
theorem dL_law_962 : decode code 962 = .ok (.iadd, 1) := by decide +kernel
theorem dL_law_963 : decode code 963 = .ok (.iaload, 1) := by decide +kernel
theorem dL_law_964 : decode code 964 = .ok (.invokevirtual 122, 3) := by decide +kernel
theorem dL_law_967 : decode code 967 = .ok (.if_icmp .eq 424, 3) := by decide +kernel
theorem dL_law_970 : decode code 970 = .ok (.iconst 0, 1) := by decide +kernel
theorem dL_law_971 : decode code 971 = .ok (.ireturn, 1) := by decide +kernel
theorem dL_law_972 : decode code 972 = .ok (.aload_n 1, 1) := by decide +kernel
theorem dL_law_973 : decode code 973 = .ok (.aload_n 0, 1) := by decide +kernel
theorem dL_law_974 : decode code 974 = .ok (.iload_n 3, 1) := by decide +kernel
theorem dL_law_975 : decode code 975 = .ok (.iconst 1, 1) := by decide +kernel
theorem dL_law_976 : decode code 976 = .ok (.iadd, 1) := by decide +kernel
theorem dL_law_977 : decode code 977 = .ok (.iaload, 1) := by decide +kernel
theorem dL_law_978 : decode code 978 = .ok (.aload_n 0, 1) := by decide +kernel
theorem dL_law_979 : decode code 979 = .ok (.iload_n 3, 1) := by decide +kernel
theorem dL_law_980 : decode code 980 = .ok (.iconst 2, 1) := by decide +kernel
theorem dL_law_981 : decode code 981 = .ok (.iadd, 1) := by decide +kernel
theorem dL_law_982 : decode code 982 = .ok (.iaload, 1) := by decide +kernel
theorem dL_law_983 : decode code 983 = .ok (.aload_n 0, 1) := by decide +kernel
theorem dL_law_984 : decode code 984 = .ok (.iload_n 3, 1) := by decide +kernel
theorem dL_law_985 : decode code 985 = .ok (.iconst 3, 1) := by decide +kernel
theorem dL_law_986 : decode code 986 = .ok (.iadd, 1) := by decide +kernel
theorem dL_law_987 : decode code 987 = .ok (.iaload, 1) := by decide +kernel
theorem dL_law_988 : decode code 988 = .ok (.invokevirtual 123, 3) := by decide +kernel
theorem dL_law_991 : decode code 991 = .ok (.aload_n 2, 1) := by decide +kernel
theorem dL_law_992 : decode code 992 = .ok (.aload_n 0, 1) := by decide +kernel
theorem dL_law_993 : decode code 993 = .ok (.iload_n 3, 1) := by decide +kernel
theorem dL_law_994 : decode code 994 = .ok (.iconst 1, 1) := by decide +kernel
theorem dL_law_995 : decode code 995 = .ok (.iadd, 1) := by decide +kernel
theorem dL_law_996 : decode code 996 = .ok (.iaload, 1) := by decide +kernel
theorem dL_law_997 : decode code 997 = .ok (.aload_n 0, 1) := by decide +kernel
theorem dL_law_998 : decode code 998 = .ok (.iload_n 3, 1) := by decide +kernel
theorem dL_law_999 : decode code 999 = .ok (.iconst 2, 1) := by decide +kernel
theorem dL_law_1000 : decode code 1000 = .ok (.iadd, 1) := by decide +kernel
theorem dL_law_1001 : decode code 1001 = .ok (.iaload, 1) := by decide +kernel
theorem dL_law_1002 : decode code 1002 = .ok (.aload_n 0, 1) := by decide +kernel
theorem dL_law_1003 : decode code 1003 = .ok (.iload_n 3, 1) := by decide +kernel
theorem dL_law_1004 : decode code 1004 = .ok (.iconst 3, 1) := by decide +kernel
theorem dL_law_1005 : decode code 1005 = .ok (.iadd, 1) := by decide +kernel
theorem dL_law_1006 : decode code 1006 = .ok (.iaload, 1) := by decide +kernel
theorem dL_law_1007 : decode code 1007 = .ok (.invokevirtual 126, 3) := by decide +kernel
theorem dL_law_1010 : decode code 1010 = .ok (.if_icmp .eq 381, 3) := by decide +kernel
theorem dL_law_1013 : decode code 1013 = .ok (.iconst 0, 1) := by decide +kernel
theorem dL_law_1014 : decode code 1014 = .ok (.ireturn, 1) := by decide +kernel
theorem dL_law_1015 : decode code 1015 = .ok (.aload_n 1, 1) := by decide +kernel
theorem dL_law_1016 : decode code 1016 = .ok (.aload_n 0, 1) := by decide +kernel
theorem dL_law_1017 : decode code 1017 = .ok (.iload_n 3, 1) := by decide +kernel
theorem dL_law_1018 : decode code 1018 = .ok (.iconst 1, 1) := by decide +kernel
theorem dL_law_1019 : decode code 1019 = .ok (.iadd, 1) := by decide +kernel
theorem dL_law_1020 : decode code 1020 = .ok (.iaload, 1) := by decide +kernel
theorem dL_law_1021 : decode code 1021 = .ok (.aload_n 0, 1) := by decide +kernel
theorem dL_law_1022 : decode code 1022 = .ok (.iload_n 3, 1) := by decide +kernel
theorem dL_law_1023 : decode code 1023 = .ok (.iconst 2, 1) := by decide +kernel
theorem dL_law_1024 : decode code 1024 = .ok (.iadd, 1) := by decide +kernel
theorem dL_law_1025 : decode code 1025 = .ok (.iaload, 1) := by decide +kernel
theorem dL_law_1026 : decode code 1026 = .ok (.aload_n 0, 1) := by decide +kernel
theorem dL_law_1027 : decode code 1027 = .ok (.iload_n 3, 1) := by decide +kernel
theorem dL_law_1028 : decode code 1028 = .ok (.iconst 3, 1) := by decide +kernel
theorem dL_law_1029 : decode code 1029 = .ok (.iadd, 1) := by decide +kernel
theorem dL_law_1030 : decode code 1030 = .ok (.iaload, 1) := by decide +kernel
theorem dL_law_1031 : decode code 1031 = .ok (.aload_n 0, 1) := by decide +kernel
theorem dL_law_1032 : decode code 1032 = .ok (.iload_n 3, 1) := by decide +kernel
theorem dL_law_1033 : decode code 1033 = .ok (.iconst 4, 1) := by decide +kernel
theorem dL_law_1034 : decode code 1034 = .ok (.iadd, 1) := by decide +kernel
theorem dL_law_1035 : decode code 1035 = .ok (.iaload, 1) := by decide +kernel
theorem dL_law_1036 : decode code 1036 = .ok (.invokevirtual 127, 3) := by decide +kernel
theorem dL_law_1039 : decode code 1039 = .ok (.aload_n 2, 1) := by decide +kernel
theorem dL_law_1040 : decode code 1040 = .ok (.aload_n 0, 1) := by decide +kernel
theorem dL_law_1041 : decode code 1041 = .ok (.iload_n 3, 1) := by decide +kernel
theorem dL_law_1042 : decode code 1042 = .ok (.iconst 1, 1) := by decide +kernel
theorem dL_law_1043 : decode code 1043 = .ok (.iadd, 1) := by decide +kernel
theorem dL_law_1044 : decode code 1044 = .ok (.iaload, 1) := by decide +kernel
theorem dL_law_1045 : decode code 1045 = .ok (.aload_n 0, 1) := by decide +kernel
theorem dL_law_1046 : decode code 1046 = .ok (.iload_n 3, 1) := by decide +kernel
theorem dL_law_1047 : decode code 1047 = .ok (.iconst 2, 1) := by decide +kernel
theorem dL_law_1048 : decode code 1048 = .ok (.iadd, 1) := by decide +kernel
theorem dL_law_1049 : decode code 1049 = .ok (.iaload, 1) := by decide +kernel
theorem dL_law_1050 : decode code 1050 = .ok (.aload_n 0, 1) := by decide +kernel
theorem dL_law_1051 : decode code 1051 = .ok (.iload_n 3, 1) := by decide +kernel
theorem dL_law_1052 : decode code 1052 = .ok (.iconst 3, 1) := by decide +kernel
theorem dL_law_1053 : decode code 1053 = .ok (.iadd, 1) := by decide +kernel
theorem dL_law_1054 : decode code 1054 = .ok (.iaload, 1) := by decide +kernel
theorem dL_law_1055 : decode code 1055 = .ok (.aload_n 0, 1) := by decide +kernel
theorem dL_law_1056 : decode code 1056 = .ok (.iload_n 3, 1) := by decide +kernel
theorem dL_law_1057 : decode code 1057 = .ok (.iconst 4, 1) := by decide +kernel
theorem dL_law_1058 : decode code 1058 = .ok (.iadd, 1) := by decide +kernel
theorem dL_law_1059 : decode code 1059 = .ok (.iaload, 1) := by decide +kernel
theorem dL_law_1060 : decode code 1060 = .ok (.invokevirtual 130, 3) := by decide +kernel
theorem dL_law_1063 : decode code 1063 = .ok (.if_icmp .eq 328, 3) := by decide +kernel
theorem dL_law_1066 : decode code 1066 = .ok (.iconst 0, 1) := by decide +kernel
theorem dL_law_1067 : decode code 1067 = .ok (.ireturn, 1) := by decide +kernel
theorem dL_law_1068 : decode code 1068 = .ok (.aload_n 1, 1) := by decide +kernel
theorem dL_law_1069 : decode code 1069 = .ok (.aload_n 0, 1) := by decide +kernel
theorem dL_law_1070 : decode code 1070 = .ok (.iload_n 3, 1) := by decide +kernel
theorem dL_law_1071 : decode code 1071 = .ok (.iconst 1, 1) := by decide +kernel
theorem dL_law_1072 : decode code 1072 = .ok (.iadd, 1) := by decide +kernel
theorem dL_law_1073 : decode code 1073 = .ok (.iaload, 1) := by decide +kernel
theorem dL_law_1074 : decode code 1074 = .ok (.aload_n 0, 1) := by decide +kernel
theorem dL_law_1075 : decode code 1075 = .ok (.iload_n 3, 1) := by decide +kernel
theorem dL_law_1076 : decode code 1076 = .ok (.iconst 2, 1) := by decide +kernel
theorem dL_law_1077 : decode code 1077 = .ok (.iadd, 1) := by decide +kernel
theorem dL_law_1078 : decode code 1078 = .ok (.iaload, 1) := by decide +kernel
theorem dL_law_1079 : decode code 1079 = .ok (.aload_n 0, 1) := by decide +kernel
theorem dL_law_1080 : decode code 1080 = .ok (.iload_n 3, 1) := by decide +kernel
theorem dL_law_1081 : decode code 1081 = .ok (.iconst 3, 1) := by decide +kernel
theorem dL_law_1082 : decode code 1082 = .ok (.iadd, 1) := by decide +kernel
theorem dL_law_1083 : decode code 1083 = .ok (.iaload, 1) := by decide +kernel
theorem dL_law_1084 : decode code 1084 = .ok (.invokevirtual 131, 3) := by decide +kernel
theorem dL_law_1087 : decode code 1087 = .ok (.aload_n 2, 1) := by decide +kernel
theorem dL_law_1088 : decode code 1088 = .ok (.aload_n 0, 1) := by decide +kernel
theorem dL_law_1089 : decode code 1089 = .ok (.iload_n 3, 1) := by decide +kernel
theorem dL_law_1090 : decode code 1090 = .ok (.iconst 1, 1) := by decide +kernel
theorem dL_law_1091 : decode code 1091 = .ok (.iadd, 1) := by decide +kernel
theorem dL_law_1092 : decode code 1092 = .ok (.iaload, 1) := by decide +kernel
theorem dL_law_1093 : decode code 1093 = .ok (.aload_n 0, 1) := by decide +kernel
theorem dL_law_1094 : decode code 1094 = .ok (.iload_n 3, 1) := by decide +kernel
theorem dL_law_1095 : decode code 1095 = .ok (.iconst 2, 1) := by decide +kernel
theorem dL_law_1096 : decode code 1096 = .ok (.iadd, 1) := by decide +kernel
theorem dL_law_1097 : decode code 1097 = .ok (.iaload, 1) := by decide +kernel
theorem dL_law_1098 : decode code 1098 = .ok (.aload_n 0, 1) := by decide +kernel
theorem dL_law_1099 : decode code 1099 = .ok (.iload_n 3, 1) := by decide +kernel
theorem dL_law_1100 : decode code 1100 = .ok (.iconst 3, 1) := by decide +kernel
theorem dL_law_1101 : decode code 1101 = .ok (.iadd, 1) := by decide +kernel
theorem dL_law_1102 : decode code 1102 = .ok (.iaload, 1) := by decide +kernel
theorem dL_law_1103 : decode code 1103 = .ok (.invokevirtual 134, 3) := by decide +kernel
theorem dL_law_1106 : decode code 1106 = .ok (.if_icmp .eq 285, 3) := by decide +kernel
theorem dL_law_1109 : decode code 1109 = .ok (.iconst 0, 1) := by decide +kernel
theorem dL_law_1110 : decode code 1110 = .ok (.ireturn, 1) := by decide +kernel
theorem dL_law_1111 : decode code 1111 = .ok (.aload_n 1, 1) := by decide +kernel
theorem dL_law_1112 : decode code 1112 = .ok (.aload_n 0, 1) := by decide +kernel
theorem dL_law_1113 : decode code 1113 = .ok (.iload_n 3, 1) := by decide +kernel
theorem dL_law_1114 : decode code 1114 = .ok (.iconst 1, 1) := by decide +kernel
theorem dL_law_1115 : decode code 1115 = .ok (.iadd, 1) := by decide +kernel
theorem dL_law_1116 : decode code 1116 = .ok (.iaload, 1) := by decide +kernel
theorem dL_law_1117 : decode code 1117 = .ok (.invokevirtual 135, 3) := by decide +kernel
theorem dL_law_1120 : decode code 1120 = .ok (.aload_n 2, 1) := by decide +kernel
theorem dL_law_1121 : decode code 1121 = .ok (.aload_n 0, 1) := by decide +kernel
theorem dL_law_1122 : decode code 1122 = .ok (.iload_n 3, 1) := by decide +kernel
theorem dL_law_1123 : decode code 1123 = .ok (.iconst 1, 1) := by decide +kernel
theorem dL_law_1124 : decode code 1124 = .ok (.iadd, 1) := by decide +kernel
theorem dL_law_1125 : decode code 1125 = .ok (.iaload, 1) := by decide +kernel
theorem dL_law_1126 : decode code 1126 = .ok (.invokevirtual 138, 3) := by decide +kernel
theorem dL_law_1129 : decode code 1129 = .ok (.if_icmp .eq 262, 3) := by decide +kernel
theorem dL_law_1132 : decode code 1132 = .ok (.iconst 0, 1) := by decide +kernel
theorem dL_law_1133 : decode code 1133 = .ok (.ireturn, 1) := by decide +kernel
theorem dL_law_1134 : decode code 1134 = .ok (.aload_n 1, 1) := by decide +kernel
theorem dL_law_1135 : decode code 1135 = .ok (.aload_n 0, 1) := by decide +kernel
theorem dL_law_1136 : decode code 1136 = .ok (.iload_n 3, 1) := by decide +kernel
theorem dL_law_1137 : decode code 1137 = .ok (.iconst 1, 1) := by decide +kernel
theorem dL_law_1138 : decode code 1138 = .ok (.iadd, 1) := by decide +kernel
theorem dL_law_1139 : decode code 1139 = .ok (.iaload, 1) := by decide +kernel
theorem dL_law_1140 : decode code 1140 = .ok (.aload_n 0, 1) := by decide +kernel
theorem dL_law_1141 : decode code 1141 = .ok (.iload_n 3, 1) := by decide +kernel
theorem dL_law_1142 : decode code 1142 = .ok (.iconst 2, 1) := by decide +kernel
theorem dL_law_1143 : decode code 1143 = .ok (.iadd, 1) := by decide +kernel
theorem dL_law_1144 : decode code 1144 = .ok (.iaload, 1) := by decide +kernel
theorem dL_law_1145 : decode code 1145 = .ok (.invokevirtual 139, 3) := by decide +kernel
theorem dL_law_1148 : decode code 1148 = .ok (.aload_n 2, 1) := by decide +kernel
theorem dL_law_1149 : decode code 1149 = .ok (.aload_n 0, 1) := by decide +kernel
theorem dL_law_1150 : decode code 1150 = .ok (.iload_n 3, 1) := by decide +kernel
theorem dL_law_1151 : decode code 1151 = .ok (.iconst 1, 1) := by decide +kernel
theorem dL_law_1152 : decode code 1152 = .ok (.iadd, 1) := by decide +kernel
theorem dL_law_1153 : decode code 1153 = .ok (.iaload, 1) := by decide +kernel
theorem dL_law_1154 : decode code 1154 = .ok (.aload_n 0, 1) := by decide +kernel
theorem dL_law_1155 : decode code 1155 = .ok (.iload_n 3, 1) := by decide +kernel
theorem dL_law_1156 : decode code 1156 = .ok (.iconst 2, 1) := by decide +kernel
theorem dL_law_1157 : decode code 1157 = .ok (.iadd, 1) := by decide +kernel
theorem dL_law_1158 : decode code 1158 = .ok (.iaload, 1) := by decide +kernel
theorem dL_law_1159 : decode code 1159 = .ok (.invokevirtual 142, 3) := by decide +kernel
theorem dL_law_1162 : decode code 1162 = .ok (.if_icmp .eq 229, 3) := by decide +kernel
theorem dL_law_1165 : decode code 1165 = .ok (.iconst 0, 1) := by decide +kernel
theorem dL_law_1166 : decode code 1166 = .ok (.ireturn, 1) := by decide +kernel
theorem dL_law_1167 : decode code 1167 = .ok (.aload_n 1, 1) := by decide +kernel
theorem dL_law_1168 : decode code 1168 = .ok (.aload_n 0, 1) := by decide +kernel
theorem dL_law_1169 : decode code 1169 = .ok (.iload_n 3, 1) := by decide +kernel
theorem dL_law_1170 : decode code 1170 = .ok (.iconst 1, 1) := by decide +kernel
theorem dL_law_1171 : decode code 1171 = .ok (.iadd, 1) := by decide +kernel
theorem dL_law_1172 : decode code 1172 = .ok (.iaload, 1) := by decide +kernel
theorem dL_law_1173 : decode code 1173 = .ok (.aload_n 0, 1) := by decide +kernel
theorem dL_law_1174 : decode code 1174 = .ok (.iload_n 3, 1) := by decide +kernel
theorem dL_law_1175 : decode code 1175 = .ok (.iconst 2, 1) := by decide +kernel
theorem dL_law_1176 : decode code 1176 = .ok (.iadd, 1) := by decide +kernel
theorem dL_law_1177 : decode code 1177 = .ok (.iaload, 1) := by decide +kernel
theorem dL_law_1178 : decode code 1178 = .ok (.invokevirtual 143, 3) := by decide +kernel
theorem dL_law_1181 : decode code 1181 = .ok (.aload_n 2, 1) := by decide +kernel
theorem dL_law_1182 : decode code 1182 = .ok (.aload_n 0, 1) := by decide +kernel
theorem dL_law_1183 : decode code 1183 = .ok (.iload_n 3, 1) := by decide +kernel
theorem dL_law_1184 : decode code 1184 = .ok (.iconst 1, 1) := by decide +kernel
theorem dL_law_1185 : decode code 1185 = .ok (.iadd, 1) := by decide +kernel
theorem dL_law_1186 : decode code 1186 = .ok (.iaload, 1) := by decide +kernel
theorem dL_law_1187 : decode code 1187 = .ok (.aload_n 0, 1) := by decide +kernel
theorem dL_law_1188 : decode code 1188 = .ok (.iload_n 3, 1) := by decide +kernel
theorem dL_law_1189 : decode code 1189 = .ok (.iconst 2, 1) := by decide +kernel
theorem dL_law_1190 : decode code 1190 = .ok (.iadd, 1) := by decide +kernel
theorem dL_law_1191 : decode code 1191 = .ok (.iaload, 1) := by decide +kernel
theorem dL_law_1192 : decode code 1192 = .ok (.invokevirtual 146, 3) := by decide +kernel
theorem dL_law_1195 : decode code 1195 = .ok (.if_icmp .eq 196, 3) := by decide +kernel
theorem dL_law_1198 : decode code 1198 = .ok (.iconst 0, 1) := by decide +kernel
theorem dL_law_1199 : decode code 1199 = .ok (.ireturn, 1) := by decide +kernel
theorem dL_law_1200 : decode code 1200 = .ok (.aload_n 1, 1) := by decide +kernel
theorem dL_law_1201 : decode code 1201 = .ok (.aload_n 0, 1) := by decide +kernel
theorem dL_law_1202 : decode code 1202 = .ok (.iload_n 3, 1) := by decide +kernel
theorem dL_law_1203 : decode code 1203 = .ok (.iconst 1, 1) := by decide +kernel
theorem dL_law_1204 : decode code 1204 = .ok (.iadd, 1) := by decide +kernel
theorem dL_law_1205 : decode code 1205 = .ok (.iaload, 1) := by decide +kernel
theorem dL_law_1206 : decode code 1206 = .ok (.aload_n 0, 1) := by decide +kernel
theorem dL_law_1207 : decode code 1207 = .ok (.iload_n 3, 1) := by decide +kernel
theorem dL_law_1208 : decode code 1208 = .ok (.iconst 2, 1) := by decide +kernel
theorem dL_law_1209 : decode code 1209 = .ok (.iadd, 1) := by decide +kernel
theorem dL_law_1210 : decode code 1210 = .ok (.iaload, 1) := by decide +kernel
theorem dL_law_1211 : decode code 1211 = .ok (.aload_n 0, 1) := by decide +kernel
theorem dL_law_1212 : decode code 1212 = .ok (.iload_n 3, 1) := by decide +kernel
theorem dL_law_1213 : decode code 1213 = .ok (.iconst 3, 1) := by decide +kernel
theorem dL_law_1214 : decode code 1214 = .ok (.iadd, 1) := by decide +kernel
theorem dL_law_1215 : decode code 1215 = .ok (.iaload, 1) := by decide +kernel
theorem dL_law_1216 : decode code 1216 = .ok (.invokevirtual 147, 3) := by decide +kernel
theorem dL_law_1219 : decode code 1219 = .ok (.aload_n 2, 1) := by decide +kernel
theorem dL_law_1220 : decode code 1220 = .ok (.aload_n 0, 1) := by decide +kernel
theorem dL_law_1221 : decode code 1221 = .ok (.iload_n 3, 1) := by decide +kernel
theorem dL_law_1222 : decode code 1222 = .ok (.iconst 1, 1) := by decide +kernel
theorem dL_law_1223 : decode code 1223 = .ok (.iadd, 1) := by decide +kernel
theorem dL_law_1224 : decode code 1224 = .ok (.iaload, 1) := by decide +kernel
theorem dL_law_1225 : decode code 1225 = .ok (.aload_n 0, 1) := by decide +kernel
theorem dL_law_1226 : decode code 1226 = .ok (.iload_n 3, 1) := by decide +kernel
theorem dL_law_1227 : decode code 1227 = .ok (.iconst 2, 1) := by decide +kernel
theorem dL_law_1228 : decode code 1228 = .ok (.iadd, 1) := by decide +kernel
theorem dL_law_1229 : decode code 1229 = .ok (.iaload, 1) := by decide +kernel
theorem dL_law_1230 : decode code 1230 = .ok (.aload_n 0, 1) := by decide +kernel
theorem dL_law_1231 : decode code 1231 = .ok (.iload_n 3, 1) := by decide +kernel
theorem dL_law_1232 : decode code 1232 = .ok (.iconst 3, 1) := by decide +kernel
theorem dL_law_1233 : decode code 1233 = .ok (.iadd, 1) := by decide +kernel
theorem dL_law_1234 : decode code 1234 = .ok (.iaload, 1) := by decide +kernel
theorem dL_law_1235 : decode code 1235 = .ok (.invokevirtual 150, 3) := by decide +kernel
theorem dL_law_1238 : decode code 1238 = .ok (.if_icmp .eq 153, 3) := by decide +kernel
theorem dL_law_1241 : decode code 1241 = .ok (.iconst 0, 1) := by decide +kernel
theorem dL_law_1242 : decode code 1242 = .ok (.ireturn, 1) := by decide +kernel
theorem dL_law_1243 : decode code 1243 = .ok (.aload_n 1, 1) := by decide +kernel
theorem dL_law_1244 : decode code 1244 = .ok (.aload_n 0, 1) := by decide +kernel
theorem dL_law_1245 : decode code 1245 = .ok (.iload_n 3, 1) := by decide +kernel
theorem dL_law_1246 : decode code 1246 = .ok (.iconst 1, 1) := by decide +kernel
theorem dL_law_1247 : decode code 1247 = .ok (.iadd, 1) := by decide +kernel
theorem dL_law_1248 : decode code 1248 = .ok (.iaload, 1) := by decide +kernel
theorem dL_law_1249 : decode code 1249 = .ok (.aload_n 0, 1) := by decide +kernel
theorem dL_law_1250 : decode code 1250 = .ok (.iload_n 3, 1) := by decide +kernel
theorem dL_law_1251 : decode code 1251 = .ok (.iconst 2, 1) := by decide +kernel
theorem dL_law_1252 : decode code 1252 = .ok (.iadd, 1) := by decide +kernel
theorem dL_law_1253 : decode code 1253 = .ok (.iaload, 1) := by decide +kernel
theorem dL_law_1254 : decode code 1254 = .ok (.invokevirtual 151, 3) := by decide +kernel
theorem dL_law_1257 : decode code 1257 = .ok (.aload_n 2, 1) := by decide +kernel
theorem dL_law_1258 : decode code 1258 = .ok (.aload_n 0, 1) := by decide +kernel
theorem dL_law_1259 : decode code 1259 = .ok (.iload_n 3, 1) := by decide +kernel
theorem dL_law_1260 : decode code 1260 = .ok (.iconst 1, 1) := by decide +kernel
theorem dL_law_1261 : decode code 1261 = .ok (.iadd, 1) := by decide +kernel
theorem dL_law_1262 : decode code 1262 = .ok (.iaload, 1) := by decide +kernel
theorem dL_law_1263 : decode code 1263 = .ok (.aload_n 0, 1) := by decide +kernel
theorem dL_law_1264 : decode code 1264 = .ok (.iload_n 3, 1) := by decide +kernel
theorem dL_law_1265 : decode code 1265 = .ok (.iconst 2, 1) := by decide +kernel
theorem dL_law_1266 : decode code 1266 = .ok (.iadd, 1) := by decide +kernel
theorem dL_law_1267 : decode code 1267 = .ok (.iaload, 1) := by decide +kernel
theorem dL_law_1268 : decode code 1268 = .ok (.invokevirtual 154, 3) := by decide +kernel
theorem dL_law_1271 : decode code 1271 = .ok (.if_icmp .eq 120, 3) := by decide +kernel
theorem dL_law_1274 : decode code 1274 = .ok (.iconst 0, 1) := by decide +kernel
theorem dL_law_1275 : decode code 1275 = .ok (.ireturn, 1) := by decide +kernel
theorem dL_law_1276 : decode code 1276 = .ok (.aload_n 1, 1) := by decide +kernel
theorem dL_law_1277 : decode code 1277 = .ok (.aload_n 0, 1) := by decide +kernel
theorem dL_law_1278 : decode code 1278 = .ok (.iload_n 3, 1) := by decide +kernel
theorem dL_law_1279 : decode code 1279 = .ok (.iconst 1, 1) := by decide +kernel
theorem dL_law_1280 : decode code 1280 = .ok (.iadd, 1) := by decide +kernel
theorem dL_law_1281 : decode code 1281 = .ok (.iaload, 1) := by decide +kernel
theorem dL_law_1282 : decode code 1282 = .ok (.aload_n 0, 1) := by decide +kernel
theorem dL_law_1283 : decode code 1283 = .ok (.iload_n 3, 1) := by decide +kernel
theorem dL_law_1284 : decode code 1284 = .ok (.iconst 2, 1) := by decide +kernel
theorem dL_law_1285 : decode code 1285 = .ok (.iadd, 1) := by decide +kernel
theorem dL_law_1286 : decode code 1286 = .ok (.iaload, 1) := by decide +kernel
theorem dL_law_1287 : decode code 1287 = .ok (.invokevirtual 155, 3) := by decide +kernel
theorem dL_law_1290 : decode code 1290 = .ok (.aload_n 2, 1) := by decide +kernel
theorem dL_law_1291 : decode code 1291 = .ok (.aload_n 0, 1) := by decide +kernel
theorem dL_law_1292 : decode code 1292 = .ok (.iload_n 3, 1) := by decide +kernel
theorem dL_law_1293 : decode code 1293 = .ok (.iconst 1, 1) := by decide +kernel
theorem dL_law_1294 : decode code 1294 = .ok (.iadd, 1) := by decide +kernel
theorem dL_law_1295 : decode code 1295 = .ok (.iaload, 1) := by decide +kernel
theorem dL_law_1296 : decode code 1296 = .ok (.aload_n 0, 1) := by decide +kernel
theorem dL_law_1297 : decode code 1297 = .ok (.iload_n 3, 1) := by decide +kernel
theorem dL_law_1298 : decode code 1298 = .ok (.iconst 2, 1) := by decide +kernel
theorem dL_law_1299 : decode code 1299 = .ok (.iadd, 1) := by decide +kernel
theorem dL_law_1300 : decode code 1300 = .ok (.iaload, 1) := by decide +kernel
theorem dL_law_1301 : decode code 1301 = .ok (.invokevirtual 158, 3) := by decide +kernel
theorem dL_law_1304 : decode code 1304 = .ok (.if_icmp .eq 87, 3) := by decide +kernel
theorem dL_law_1307 : decode code 1307 = .ok (.iconst 0, 1) := by decide +kernel
theorem dL_law_1308 : decode code 1308 = .ok (.ireturn, 1) := by decide +kernel
theorem dL_law_1309 : decode code 1309 = .ok (.aload_n 1, 1) := by decide +kernel
theorem dL_law_1310 : decode code 1310 = .ok (.aload_n 0, 1) := by decide +kernel
theorem dL_law_1311 : decode code 1311 = .ok (.iload_n 3, 1) := by decide +kernel
theorem dL_law_1312 : decode code 1312 = .ok (.iconst 1, 1) := by decide +kernel
theorem dL_law_1313 : decode code 1313 = .ok (.iadd, 1) := by decide +kernel
theorem dL_law_1314 : decode code 1314 = .ok (.iaload, 1) := by decide +kernel
theorem dL_law_1315 : decode code 1315 = .ok (.invokevirtual 159, 3) := by decide +kernel
theorem dL_law_1318 : decode code 1318 = .ok (.aload_n 2, 1) := by decide +kernel
theorem dL_law_1319 : decode code 1319 = .ok (.aload_n 0, 1) := by decide +kernel
theorem dL_law_1320 : decode code 1320 = .ok (.iload_n 3, 1) := by decide +kernel
theorem dL_law_1321 : decode code 1321 = .ok (.iconst 1, 1) := by decide +kernel
theorem dL_law_1322 : decode code 1322 = .ok (.iadd, 1) := by decide +kernel
theorem dL_law_1323 : decode code 1323 = .ok (.iaload, 1) := by decide +kernel
theorem dL_law_1324 : decode code 1324 = .ok (.invokevirtual 162, 3) := by decide +kernel
theorem dL_law_1327 : decode code 1327 = .ok (.if_icmp .eq 64, 3) := by decide +kernel
theorem dL_law_1330 : decode code 1330 = .ok (.iconst 0, 1) := by decide +kernel
theorem dL_law_1331 : decode code 1331 = .ok (.ireturn, 1) := by decide +kernel
theorem dL_law_1332 : decode code 1332 = .ok (.aload_n 1, 1) := by decide +kernel
theorem dL_law_1333 : decode code 1333 = .ok (.aload_n 0, 1) := by decide +kernel
theorem dL_law_1334 : decode code 1334 = .ok (.iload_n 3, 1) := by decide +kernel
theorem dL_law_1335 : decode code 1335 = .ok (.iconst 1, 1) := by decide +kernel
theorem dL_law_1336 : decode code 1336 = .ok (.iadd, 1) := by decide +kernel
theorem dL_law_1337 : decode code 1337 = .ok (.iaload, 1) := by decide +kernel
theorem dL_law_1338 : decode code 1338 = .ok (.invokevirtual 163, 3) := by decide +kernel
theorem dL_law_1341 : decode code 1341 = .ok (.aload_n 2, 1) := by decide +kernel
theorem dL_law_1342 : decode code 1342 = .ok (.aload_n 0, 1) := by decide +kernel
theorem dL_law_1343 : decode code 1343 = .ok (.iload_n 3, 1) := by decide +kernel
theorem dL_law_1344 : decode code 1344 = .ok (.iconst 1, 1) := by decide +kernel
theorem dL_law_1345 : decode code 1345 = .ok (.iadd, 1) := by decide +kernel
theorem dL_law_1346 : decode code 1346 = .ok (.iaload, 1) := by decide +kernel
theorem dL_law_1347 : decode code 1347 = .ok (.invokevirtual 166, 3) := by decide +kernel
theorem dL_law_1350 : decode code 1350 = .ok (.if_icmp .eq 41, 3) := by decide +kernel
theorem dL_law_1353 : decode code 1353 = .ok (.iconst 0, 1) := by decide +kernel
theorem dL_law_1354 : decode code 1354 = .ok (.ireturn, 1) := by decide +kernel
theorem dL_law_1355 : decode code 1355 = .ok (.aload_n 1, 1) := by decide +kernel
theorem dL_law_1356 : decode code 1356 = .ok (.aload_n 0, 1) := by decide +kernel
theorem dL_law_1357 : decode code 1357 = .ok (.iload_n 3, 1) := by decide +kernel
theorem dL_law_1358 : decode code 1358 = .ok (.iconst 1, 1) := by decide +kernel
theorem dL_law_1359 : decode code 1359 = .ok (.iadd, 1) := by decide +kernel
theorem dL_law_1360 : decode code 1360 = .ok (.iaload, 1) := by decide +kernel
theorem dL_law_1361 : decode code 1361 = .ok (.invokevirtual 167, 3) := by decide +kernel
theorem dL_law_1364 : decode code 1364 = .ok (.aload_n 2, 1) := by decide +kernel
theorem dL_law_1365 : decode code 1365 = .ok (.aload_n 0, 1) := by decide +kernel
theorem dL_law_1366 : decode code 1366 = .ok (.iload_n 3, 1) := by decide +kernel
theorem dL_law_1367 : decode code 1367 = .ok (.iconst 1, 1) := by decide +kernel
theorem dL_law_1368 : decode code 1368 = .ok (.iadd, 1) := by decide +kernel
theorem dL_law_1369 : decode code 1369 = .ok (.iaload, 1) := by decide +kernel
theorem dL_law_1370 : decode code 1370 = .ok (.invokevirtual 170, 3) := by decide +kernel
theorem dL_law_1373 : decode code 1373 = .ok (.if_icmp .eq 18, 3) := by decide +kernel
theorem dL_law_1376 : decode code 1376 = .ok (.iconst 0, 1) := by decide +kernel
theorem dL_law_1377 : decode code 1377 = .ok (.ireturn, 1) := by decide +kernel
theorem dL_law_1378 : decode code 1378 = .ok (.aload_n 1, 1) := by decide +kernel
theorem dL_law_1379 : decode code 1379 = .ok (.invokevirtual 171, 3) := by decide +kernel
theorem dL_law_1382 : decode code 1382 = .ok (.aload_n 2, 1) := by decide +kernel
theorem dL_law_1383 : decode code 1383 = .ok (.invokevirtual 174, 3) := by decide +kernel
theorem dL_law_1386 : decode code 1386 = .ok (.if_icmp .eq 5, 3) := by decide +kernel
theorem dL_law_1389 : decode code 1389 = .ok (.iconst 0, 1) := by decide +kernel
theorem dL_law_1390 : decode code 1390 = .ok (.ireturn, 1) := by decide +kernel
theorem dL_law_1391 : decode code 1391 = .ok (.iinc 3 6, 3) := by decide +kernel
theorem dL_law_1394 : decode code 1394 = .ok (.goto (-1376), 3) := by decide +kernel
theorem dL_law_1397 : decode code 1397 = .ok (.iconst 1, 1) := by decide +kernel
theorem dL_law_1398 : decode code 1398 = .ok (.ireturn, 1) := by decide +kernel
theorem wd_151 : Cond.classLink "GiftDuelLaw" 7 "GiftDuel" ∈ lw_g := lw_g1 22 rfl rfl
theorem wd_152 : Cond.instantiable "GiftDuel" 15 ∈ lw_g := lw_g1 23 rfl rfl
theorem wd_153 : Cond.methodLink "GiftDuelLaw" 9 ⟨"GiftDuel", "<init>", "()V"⟩ ∈ lw_g := lw_g1 24 rfl rfl
theorem wd_154 : Cond.instanceMethod ⟨"GiftDuel", "<init>", "()V"⟩ ∈ lw_g := lw_g1 25 rfl rfl
theorem wd_155 : Cond.code ⟨"GiftDuel", "<init>", "()V"⟩ prog_1_method_1_code 1 none ∈ lw_g := lw_g1 26 rfl rfl
theorem wd_508 : Cond.methodLink "GiftDuelLaw" 13 ⟨"GiftDuel", "lord", "(II)I"⟩ ∈ lw_g := lw_g2 139 rfl rfl
theorem wd_509 : Cond.instanceMethod ⟨"GiftDuel", "lord", "(II)I"⟩ ∈ lw_g := lw_g2 140 rfl rfl
theorem wd_510 : Cond.selects "GiftDuel" ⟨"GiftDuel", "lord", "(II)I"⟩ ⟨"GiftDuel", "lord", "(II)I"⟩ ∈ lw_g := lw_g2 141 rfl rfl
theorem wd_511 : Cond.code ⟨"GiftDuel", "lord", "(II)I"⟩ prog_1_method_5_code 3 (some .int) ∈ lw_g := lw_g2 142 rfl rfl
theorem wd_535 : Cond.methodLink "GiftDuelLaw" 18 ⟨"GiftDuel", "of", "(II)I"⟩ ∈ lw_g := lw_g2 166 rfl rfl
theorem wd_536 : Cond.instanceMethod ⟨"GiftDuel", "of", "(II)I"⟩ ∈ lw_g := lw_g2 167 rfl rfl
theorem wd_537 : Cond.selects "GiftDuel" ⟨"GiftDuel", "of", "(II)I"⟩ ⟨"GiftDuel", "of", "(II)I"⟩ ∈ lw_g := lw_g2 168 rfl rfl
theorem wd_538 : Cond.code ⟨"GiftDuel", "of", "(II)I"⟩ prog_1_method_6_code 3 (some .int) ∈ lw_g := lw_g2 169 rfl rfl
theorem wd_611 : Cond.methodLink "GiftDuelLaw" 22 ⟨"GiftDuel", "put", "(III)I"⟩ ∈ lw_g := lw_g3 2 rfl rfl
theorem wd_612 : Cond.instanceMethod ⟨"GiftDuel", "put", "(III)I"⟩ ∈ lw_g := lw_g3 3 rfl rfl
theorem wd_613 : Cond.selects "GiftDuel" ⟨"GiftDuel", "put", "(III)I"⟩ ⟨"GiftDuel", "put", "(III)I"⟩ ∈ lw_g := lw_g3 4 rfl rfl
theorem wd_614 : Cond.code ⟨"GiftDuel", "put", "(III)I"⟩ prog_1_method_7_code 5 (some .int) ∈ lw_g := lw_g3 5 rfl rfl
theorem wd_620 : Cond.methodLink "GiftDuelLaw" 27 ⟨"GiftDuel", "good", "(III)I"⟩ ∈ lw_g := lw_g3 11 rfl rfl
theorem wd_621 : Cond.instanceMethod ⟨"GiftDuel", "good", "(III)I"⟩ ∈ lw_g := lw_g3 12 rfl rfl
theorem wd_622 : Cond.selects "GiftDuel" ⟨"GiftDuel", "good", "(III)I"⟩ ⟨"GiftDuel", "good", "(III)I"⟩ ∈ lw_g := lw_g3 13 rfl rfl
theorem wd_623 : Cond.code ⟨"GiftDuel", "good", "(III)I"⟩ prog_1_method_8_code 4 (some .int) ∈ lw_g := lw_g3 14 rfl rfl
theorem wd_628 : Cond.methodLink "GiftDuelLaw" 31 ⟨"GiftDuel", "at", "(II)I"⟩ ∈ lw_g := lw_g3 19 rfl rfl
theorem wd_629 : Cond.instanceMethod ⟨"GiftDuel", "at", "(II)I"⟩ ∈ lw_g := lw_g3 20 rfl rfl
theorem wd_630 : Cond.selects "GiftDuel" ⟨"GiftDuel", "at", "(II)I"⟩ ⟨"GiftDuel", "at", "(II)I"⟩ ∈ lw_g := lw_g3 21 rfl rfl
theorem wd_631 : Cond.code ⟨"GiftDuel", "at", "(II)I"⟩ prog_1_method_9_code 3 (some .int) ∈ lw_g := lw_g3 22 rfl rfl
theorem wd_641 : Cond.methodLink "GiftDuelLaw" 35 ⟨"GiftDuel", "terms", "(II)I"⟩ ∈ lw_g := lw_g3 32 rfl rfl
theorem wd_642 : Cond.instanceMethod ⟨"GiftDuel", "terms", "(II)I"⟩ ∈ lw_g := lw_g3 33 rfl rfl
theorem wd_643 : Cond.selects "GiftDuel" ⟨"GiftDuel", "terms", "(II)I"⟩ ⟨"GiftDuel", "terms", "(II)I"⟩ ∈ lw_g := lw_g3 34 rfl rfl
theorem wd_644 : Cond.code ⟨"GiftDuel", "terms", "(II)I"⟩ prog_1_method_10_code 5 (some .int) ∈ lw_g := lw_g3 35 rfl rfl
theorem wd_649 : Cond.methodLink "GiftDuelLaw" 39 ⟨"GiftDuel", "feed", "(IIIII)I"⟩ ∈ lw_g := lw_g3 40 rfl rfl
theorem wd_650 : Cond.instanceMethod ⟨"GiftDuel", "feed", "(IIIII)I"⟩ ∈ lw_g := lw_g3 41 rfl rfl
theorem wd_651 : Cond.selects "GiftDuel" ⟨"GiftDuel", "feed", "(IIIII)I"⟩ ⟨"GiftDuel", "feed", "(IIIII)I"⟩ ∈ lw_g := lw_g3 42 rfl rfl
theorem wd_652 : Cond.code ⟨"GiftDuel", "feed", "(IIIII)I"⟩ prog_1_method_11_code 6 (some .int) ∈ lw_g := lw_g3 43 rfl rfl
theorem wd_665 : Cond.methodLink "GiftDuelLaw" 44 ⟨"GiftDuel", "end", "(I)I"⟩ ∈ lw_g := lw_g3 56 rfl rfl
theorem wd_666 : Cond.instanceMethod ⟨"GiftDuel", "end", "(I)I"⟩ ∈ lw_g := lw_g3 57 rfl rfl
theorem wd_667 : Cond.selects "GiftDuel" ⟨"GiftDuel", "end", "(I)I"⟩ ⟨"GiftDuel", "end", "(I)I"⟩ ∈ lw_g := lw_g3 58 rfl rfl
theorem wd_668 : Cond.code ⟨"GiftDuel", "end", "(I)I"⟩ prog_1_method_12_code 2 (some .int) ∈ lw_g := lw_g3 59 rfl rfl
theorem wd_673 : Cond.methodLink "GiftDuelLaw" 49 ⟨"GiftDuel", "row", "()I"⟩ ∈ lw_g := lw_g3 64 rfl rfl
theorem wd_674 : Cond.instanceMethod ⟨"GiftDuel", "row", "()I"⟩ ∈ lw_g := lw_g3 65 rfl rfl
theorem wd_675 : Cond.selects "GiftDuel" ⟨"GiftDuel", "row", "()I"⟩ ⟨"GiftDuel", "row", "()I"⟩ ∈ lw_g := lw_g3 66 rfl rfl
theorem wd_676 : Cond.code ⟨"GiftDuel", "row", "()I"⟩ prog_1_method_13_code 4 (some .int) ∈ lw_g := lw_g3 67 rfl rfl
theorem wd_685 : Cond.methodLink "GiftDuelLaw" 54 ⟨"GiftDuel", "dross", "()I"⟩ ∈ lw_g := lw_g3 76 rfl rfl
theorem wd_686 : Cond.instanceMethod ⟨"GiftDuel", "dross", "()I"⟩ ∈ lw_g := lw_g3 77 rfl rfl
theorem wd_687 : Cond.selects "GiftDuel" ⟨"GiftDuel", "dross", "()I"⟩ ⟨"GiftDuel", "dross", "()I"⟩ ∈ lw_g := lw_g3 78 rfl rfl
theorem wd_688 : Cond.code ⟨"GiftDuel", "dross", "()I"⟩ prog_1_method_15_code 1 (some .int) ∈ lw_g := lw_g3 79 rfl rfl
theorem wd_689 : Cond.methodLink "GiftDuelLaw" 58 ⟨"GiftDuel", "law", "()I"⟩ ∈ lw_g := lw_g3 80 rfl rfl
theorem wd_690 : Cond.instanceMethod ⟨"GiftDuel", "law", "()I"⟩ ∈ lw_g := lw_g3 81 rfl rfl
theorem wd_691 : Cond.selects "GiftDuel" ⟨"GiftDuel", "law", "()I"⟩ ⟨"GiftDuel", "law", "()I"⟩ ∈ lw_g := lw_g3 82 rfl rfl
theorem wd_692 : Cond.code ⟨"GiftDuel", "law", "()I"⟩ prog_1_method_16_code 2 (some .int) ∈ lw_g := lw_g3 83 rfl rfl
theorem wd_876 : Cond.methodLink "GiftDuelLaw" 62 ⟨"GiftDuel", "orders", "()I"⟩ ∈ lw_g := lw_g4 27 rfl rfl
theorem wd_877 : Cond.instanceMethod ⟨"GiftDuel", "orders", "()I"⟩ ∈ lw_g := lw_g4 28 rfl rfl
theorem wd_878 : Cond.selects "GiftDuel" ⟨"GiftDuel", "orders", "()I"⟩ ⟨"GiftDuel", "orders", "()I"⟩ ∈ lw_g := lw_g4 29 rfl rfl
theorem wd_879 : Cond.code ⟨"GiftDuel", "orders", "()I"⟩ prog_1_method_17_code 3 (some .int) ∈ lw_g := lw_g4 30 rfl rfl
theorem wd_996 : Cond.methodLink "GiftDuelLaw" 66 ⟨"GiftDuel", "fault", "()I"⟩ ∈ lw_g := lw_g4 147 rfl rfl
theorem wd_997 : Cond.instanceMethod ⟨"GiftDuel", "fault", "()I"⟩ ∈ lw_g := lw_g4 148 rfl rfl
theorem wd_998 : Cond.selects "GiftDuel" ⟨"GiftDuel", "fault", "()I"⟩ ⟨"GiftDuel", "fault", "()I"⟩ ∈ lw_g := lw_g4 149 rfl rfl
theorem wd_999 : Cond.code ⟨"GiftDuel", "fault", "()I"⟩ prog_1_method_18_code 1 (some .int) ∈ lw_g := lw_g4 150 rfl rfl
theorem wd_1004 : Cond.methodLink "GiftDuelLaw" 70 ⟨"GiftDuel", "stopped", "()I"⟩ ∈ lw_g := lw_g4 155 rfl rfl
theorem wd_1005 : Cond.instanceMethod ⟨"GiftDuel", "stopped", "()I"⟩ ∈ lw_g := lw_g4 156 rfl rfl
theorem wd_1006 : Cond.selects "GiftDuel" ⟨"GiftDuel", "stopped", "()I"⟩ ⟨"GiftDuel", "stopped", "()I"⟩ ∈ lw_g := lw_g4 157 rfl rfl
theorem wd_1007 : Cond.code ⟨"GiftDuel", "stopped", "()I"⟩ prog_1_method_19_code 1 (some .int) ∈ lw_g := lw_g4 158 rfl rfl
theorem wd_1012 : Cond.methodLink "GiftDuelLaw" 74 ⟨"GiftDuel", "force", "(I)I"⟩ ∈ lw_g := lw_g4 163 rfl rfl
theorem wd_1013 : Cond.instanceMethod ⟨"GiftDuel", "force", "(I)I"⟩ ∈ lw_g := lw_g4 164 rfl rfl
theorem wd_1014 : Cond.selects "GiftDuel" ⟨"GiftDuel", "force", "(I)I"⟩ ⟨"GiftDuel", "force", "(I)I"⟩ ∈ lw_g := lw_g4 165 rfl rfl
theorem wd_1015 : Cond.code ⟨"GiftDuel", "force", "(I)I"⟩ prog_1_method_20_code 3 (some .int) ∈ lw_g := lw_g4 166 rfl rfl
theorem wd_1024 : Cond.methodLink "GiftDuelLaw" 78 ⟨"GiftDuel", "asks", "(III)I"⟩ ∈ lw_g := lw_g4 175 rfl rfl
theorem wd_1025 : Cond.instanceMethod ⟨"GiftDuel", "asks", "(III)I"⟩ ∈ lw_g := lw_g4 176 rfl rfl
theorem wd_1026 : Cond.selects "GiftDuel" ⟨"GiftDuel", "asks", "(III)I"⟩ ⟨"GiftDuel", "asks", "(III)I"⟩ ∈ lw_g := lw_g4 177 rfl rfl
theorem wd_1027 : Cond.code ⟨"GiftDuel", "asks", "(III)I"⟩ prog_1_method_21_code 5 (some .int) ∈ lw_g := lw_g4 178 rfl rfl
theorem wd_1030 : Cond.methodLink "GiftDuelLaw" 82 ⟨"GiftDuel", "give", "(II)I"⟩ ∈ lw_g := lw_g4 181 rfl rfl
theorem wd_1031 : Cond.instanceMethod ⟨"GiftDuel", "give", "(II)I"⟩ ∈ lw_g := lw_g4 182 rfl rfl
theorem wd_1032 : Cond.selects "GiftDuel" ⟨"GiftDuel", "give", "(II)I"⟩ ⟨"GiftDuel", "give", "(II)I"⟩ ∈ lw_g := lw_g4 183 rfl rfl
theorem wd_1033 : Cond.code ⟨"GiftDuel", "give", "(II)I"⟩ prog_1_method_22_code 3 (some .int) ∈ lw_g := lw_g4 184 rfl rfl
theorem wd_1037 : Cond.methodLink "GiftDuelLaw" 86 ⟨"GiftDuel", "await", "()I"⟩ ∈ lw_g := lw_g4 188 rfl rfl
theorem wd_1038 : Cond.instanceMethod ⟨"GiftDuel", "await", "()I"⟩ ∈ lw_g := lw_g4 189 rfl rfl
theorem wd_1039 : Cond.selects "GiftDuel" ⟨"GiftDuel", "await", "()I"⟩ ⟨"GiftDuel", "await", "()I"⟩ ∈ lw_g := lw_g4 190 rfl rfl
theorem wd_1040 : Cond.code ⟨"GiftDuel", "await", "()I"⟩ prog_1_method_23_code 1 (some .int) ∈ lw_g := lw_g4 191 rfl rfl
theorem wd_1042 : Cond.methodLink "GiftDuelLaw" 90 ⟨"GiftDuel", "undo", "()I"⟩ ∈ lw_g := lw_g4 193 rfl rfl
theorem wd_1043 : Cond.instanceMethod ⟨"GiftDuel", "undo", "()I"⟩ ∈ lw_g := lw_g4 194 rfl rfl
theorem wd_1044 : Cond.selects "GiftDuel" ⟨"GiftDuel", "undo", "()I"⟩ ⟨"GiftDuel", "undo", "()I"⟩ ∈ lw_g := lw_g4 195 rfl rfl
theorem wd_1045 : Cond.code ⟨"GiftDuel", "undo", "()I"⟩ prog_1_method_24_code 2 (some .int) ∈ lw_g := lw_g4 196 rfl rfl
theorem wd_1054 : Cond.methodLink "GiftDuelLaw" 94 ⟨"GiftDuel", "debt", "(III)I"⟩ ∈ lw_g := lw_g4 205 rfl rfl
theorem wd_1055 : Cond.instanceMethod ⟨"GiftDuel", "debt", "(III)I"⟩ ∈ lw_g := lw_g4 206 rfl rfl
theorem wd_1056 : Cond.selects "GiftDuel" ⟨"GiftDuel", "debt", "(III)I"⟩ ⟨"GiftDuel", "debt", "(III)I"⟩ ∈ lw_g := lw_g4 207 rfl rfl
theorem wd_1057 : Cond.code ⟨"GiftDuel", "debt", "(III)I"⟩ prog_1_method_25_code 4 (some .int) ∈ lw_g := lw_g4 208 rfl rfl
theorem wd_1060 : Cond.methodLink "GiftDuelLaw" 98 ⟨"GiftDuel", "owed", "(II)I"⟩ ∈ lw_g := lw_g4 211 rfl rfl
theorem wd_1061 : Cond.instanceMethod ⟨"GiftDuel", "owed", "(II)I"⟩ ∈ lw_g := lw_g4 212 rfl rfl
theorem wd_1062 : Cond.selects "GiftDuel" ⟨"GiftDuel", "owed", "(II)I"⟩ ⟨"GiftDuel", "owed", "(II)I"⟩ ∈ lw_g := lw_g4 213 rfl rfl
theorem wd_1063 : Cond.code ⟨"GiftDuel", "owed", "(II)I"⟩ prog_1_method_26_code 3 (some .int) ∈ lw_g := lw_g4 214 rfl rfl
theorem wd_1069 : Cond.methodLink "GiftDuelLaw" 102 ⟨"GiftDuel", "duel", "(III)I"⟩ ∈ lw_g := lw_g4 220 rfl rfl
theorem wd_1070 : Cond.instanceMethod ⟨"GiftDuel", "duel", "(III)I"⟩ ∈ lw_g := lw_g4 221 rfl rfl
theorem wd_1071 : Cond.selects "GiftDuel" ⟨"GiftDuel", "duel", "(III)I"⟩ ⟨"GiftDuel", "duel", "(III)I"⟩ ∈ lw_g := lw_g4 222 rfl rfl
theorem wd_1072 : Cond.code ⟨"GiftDuel", "duel", "(III)I"⟩ prog_1_method_27_code 4 (some .int) ∈ lw_g := lw_g4 223 rfl rfl
theorem wd_1115 : Cond.methodLink "GiftDuelLaw" 106 ⟨"GiftDuel", "ruin", "(II)I"⟩ ∈ lw_g := lw_g5 26 rfl rfl
theorem wd_1116 : Cond.instanceMethod ⟨"GiftDuel", "ruin", "(II)I"⟩ ∈ lw_g := lw_g5 27 rfl rfl
theorem wd_1117 : Cond.selects "GiftDuel" ⟨"GiftDuel", "ruin", "(II)I"⟩ ⟨"GiftDuel", "ruin", "(II)I"⟩ ∈ lw_g := lw_g5 28 rfl rfl
theorem wd_1118 : Cond.code ⟨"GiftDuel", "ruin", "(II)I"⟩ prog_1_method_28_code 3 (some .int) ∈ lw_g := lw_g5 29 rfl rfl
theorem wd_1128 : Cond.methodLink "GiftDuelLaw" 110 ⟨"GiftDuel", "siege", "(IIII)I"⟩ ∈ lw_g := lw_g5 39 rfl rfl
theorem wd_1129 : Cond.instanceMethod ⟨"GiftDuel", "siege", "(IIII)I"⟩ ∈ lw_g := lw_g5 40 rfl rfl
theorem wd_1130 : Cond.selects "GiftDuel" ⟨"GiftDuel", "siege", "(IIII)I"⟩ ⟨"GiftDuel", "siege", "(IIII)I"⟩ ∈ lw_g := lw_g5 41 rfl rfl
theorem wd_1131 : Cond.code ⟨"GiftDuel", "siege", "(IIII)I"⟩ prog_1_method_29_code 5 (some .int) ∈ lw_g := lw_g5 42 rfl rfl
theorem wd_1167 : Cond.methodLink "GiftDuelLaw" 115 ⟨"GiftDuel", "herald", "(I)I"⟩ ∈ lw_g := lw_g5 78 rfl rfl
theorem wd_1168 : Cond.instanceMethod ⟨"GiftDuel", "herald", "(I)I"⟩ ∈ lw_g := lw_g5 79 rfl rfl
theorem wd_1169 : Cond.selects "GiftDuel" ⟨"GiftDuel", "herald", "(I)I"⟩ ⟨"GiftDuel", "herald", "(I)I"⟩ ∈ lw_g := lw_g5 80 rfl rfl
theorem wd_1170 : Cond.code ⟨"GiftDuel", "herald", "(I)I"⟩ prog_1_method_30_code 2 (some .int) ∈ lw_g := lw_g5 81 rfl rfl
theorem wd_1175 : Cond.methodLink "GiftDuelLaw" 119 ⟨"GiftDuel", "tells", "(II)I"⟩ ∈ lw_g := lw_g5 86 rfl rfl
theorem wd_1176 : Cond.instanceMethod ⟨"GiftDuel", "tells", "(II)I"⟩ ∈ lw_g := lw_g5 87 rfl rfl
theorem wd_1177 : Cond.selects "GiftDuel" ⟨"GiftDuel", "tells", "(II)I"⟩ ⟨"GiftDuel", "tells", "(II)I"⟩ ∈ lw_g := lw_g5 88 rfl rfl
theorem wd_1178 : Cond.code ⟨"GiftDuel", "tells", "(II)I"⟩ prog_1_method_31_code 4 (some .int) ∈ lw_g := lw_g5 89 rfl rfl
theorem wd_1192 : Cond.methodLink "GiftDuelLaw" 123 ⟨"GiftDuel", "bribe", "(III)I"⟩ ∈ lw_g := lw_g5 103 rfl rfl
theorem wd_1193 : Cond.instanceMethod ⟨"GiftDuel", "bribe", "(III)I"⟩ ∈ lw_g := lw_g5 104 rfl rfl
theorem wd_1194 : Cond.selects "GiftDuel" ⟨"GiftDuel", "bribe", "(III)I"⟩ ⟨"GiftDuel", "bribe", "(III)I"⟩ ∈ lw_g := lw_g5 105 rfl rfl
theorem wd_1195 : Cond.code ⟨"GiftDuel", "bribe", "(III)I"⟩ prog_1_method_32_code 4 (some .int) ∈ lw_g := lw_g5 106 rfl rfl
theorem wd_1205 : Cond.methodLink "GiftDuelLaw" 127 ⟨"GiftDuel", "road", "(IIII)I"⟩ ∈ lw_g := lw_g5 116 rfl rfl
theorem wd_1206 : Cond.instanceMethod ⟨"GiftDuel", "road", "(IIII)I"⟩ ∈ lw_g := lw_g5 117 rfl rfl
theorem wd_1207 : Cond.selects "GiftDuel" ⟨"GiftDuel", "road", "(IIII)I"⟩ ⟨"GiftDuel", "road", "(IIII)I"⟩ ∈ lw_g := lw_g5 118 rfl rfl
theorem wd_1208 : Cond.code ⟨"GiftDuel", "road", "(IIII)I"⟩ prog_1_method_33_code 5 (some .int) ∈ lw_g := lw_g5 119 rfl rfl
theorem wd_1213 : Cond.methodLink "GiftDuelLaw" 131 ⟨"GiftDuel", "way", "(III)I"⟩ ∈ lw_g := lw_g5 124 rfl rfl
theorem wd_1214 : Cond.instanceMethod ⟨"GiftDuel", "way", "(III)I"⟩ ∈ lw_g := lw_g5 125 rfl rfl
theorem wd_1215 : Cond.selects "GiftDuel" ⟨"GiftDuel", "way", "(III)I"⟩ ⟨"GiftDuel", "way", "(III)I"⟩ ∈ lw_g := lw_g5 126 rfl rfl
theorem wd_1216 : Cond.code ⟨"GiftDuel", "way", "(III)I"⟩ prog_1_method_34_code 4 (some .int) ∈ lw_g := lw_g5 127 rfl rfl
theorem wd_1240 : Cond.methodLink "GiftDuelLaw" 135 ⟨"GiftDuel", "ring", "(I)I"⟩ ∈ lw_g := lw_g5 151 rfl rfl
theorem wd_1241 : Cond.instanceMethod ⟨"GiftDuel", "ring", "(I)I"⟩ ∈ lw_g := lw_g5 152 rfl rfl
theorem wd_1242 : Cond.selects "GiftDuel" ⟨"GiftDuel", "ring", "(I)I"⟩ ⟨"GiftDuel", "ring", "(I)I"⟩ ∈ lw_g := lw_g5 153 rfl rfl
theorem wd_1243 : Cond.code ⟨"GiftDuel", "ring", "(I)I"⟩ prog_1_method_35_code 2 (some .int) ∈ lw_g := lw_g5 154 rfl rfl
theorem wd_1258 : Cond.methodLink "GiftDuelLaw" 139 ⟨"GiftDuel", "shelf", "(II)I"⟩ ∈ lw_g := lw_g5 169 rfl rfl
theorem wd_1259 : Cond.instanceMethod ⟨"GiftDuel", "shelf", "(II)I"⟩ ∈ lw_g := lw_g5 170 rfl rfl
theorem wd_1260 : Cond.selects "GiftDuel" ⟨"GiftDuel", "shelf", "(II)I"⟩ ⟨"GiftDuel", "shelf", "(II)I"⟩ ∈ lw_g := lw_g5 171 rfl rfl
theorem wd_1261 : Cond.code ⟨"GiftDuel", "shelf", "(II)I"⟩ prog_1_method_36_code 4 (some .int) ∈ lw_g := lw_g5 172 rfl rfl
theorem wd_1270 : Cond.methodLink "GiftDuelLaw" 143 ⟨"GiftDuel", "found", "(II)I"⟩ ∈ lw_g := lw_g5 181 rfl rfl
theorem wd_1271 : Cond.instanceMethod ⟨"GiftDuel", "found", "(II)I"⟩ ∈ lw_g := lw_g5 182 rfl rfl
theorem wd_1272 : Cond.selects "GiftDuel" ⟨"GiftDuel", "found", "(II)I"⟩ ⟨"GiftDuel", "found", "(II)I"⟩ ∈ lw_g := lw_g5 183 rfl rfl
theorem wd_1273 : Cond.code ⟨"GiftDuel", "found", "(II)I"⟩ prog_1_method_37_code 3 (some .int) ∈ lw_g := lw_g5 184 rfl rfl
theorem wd_1300 : Cond.methodLink "GiftDuelLaw" 147 ⟨"GiftDuel", "beats", "(III)I"⟩ ∈ lw_g := lw_g5 211 rfl rfl
theorem wd_1301 : Cond.instanceMethod ⟨"GiftDuel", "beats", "(III)I"⟩ ∈ lw_g := lw_g5 212 rfl rfl
theorem wd_1302 : Cond.selects "GiftDuel" ⟨"GiftDuel", "beats", "(III)I"⟩ ⟨"GiftDuel", "beats", "(III)I"⟩ ∈ lw_g := lw_g5 213 rfl rfl
theorem wd_1303 : Cond.code ⟨"GiftDuel", "beats", "(III)I"⟩ prog_1_method_38_code 4 (some .int) ∈ lw_g := lw_g5 214 rfl rfl
theorem wd_1310 : Cond.methodLink "GiftDuelLaw" 151 ⟨"GiftDuel", "generation", "(II)I"⟩ ∈ lw_g := lw_g5 221 rfl rfl
theorem wd_1311 : Cond.instanceMethod ⟨"GiftDuel", "generation", "(II)I"⟩ ∈ lw_g := lw_g5 222 rfl rfl
theorem wd_1312 : Cond.selects "GiftDuel" ⟨"GiftDuel", "generation", "(II)I"⟩ ⟨"GiftDuel", "generation", "(II)I"⟩ ∈ lw_g := lw_g5 223 rfl rfl
theorem wd_1313 : Cond.code ⟨"GiftDuel", "generation", "(II)I"⟩ prog_1_method_39_code 3 (some .int) ∈ lw_g := lw_g5 224 rfl rfl
theorem wd_1330 : Cond.methodLink "GiftDuelLaw" 155 ⟨"GiftDuel", "drawn", "(II)I"⟩ ∈ lw_g := lw_g6 1 rfl rfl
theorem wd_1331 : Cond.instanceMethod ⟨"GiftDuel", "drawn", "(II)I"⟩ ∈ lw_g := lw_g6 2 rfl rfl
theorem wd_1332 : Cond.selects "GiftDuel" ⟨"GiftDuel", "drawn", "(II)I"⟩ ⟨"GiftDuel", "drawn", "(II)I"⟩ ∈ lw_g := lw_g6 3 rfl rfl
theorem wd_1333 : Cond.code ⟨"GiftDuel", "drawn", "(II)I"⟩ prog_1_method_40_code 4 (some .int) ∈ lw_g := lw_g6 4 rfl rfl
theorem wd_1338 : Cond.methodLink "GiftDuelLaw" 159 ⟨"GiftDuel", "image", "(I)I"⟩ ∈ lw_g := lw_g6 9 rfl rfl
theorem wd_1339 : Cond.instanceMethod ⟨"GiftDuel", "image", "(I)I"⟩ ∈ lw_g := lw_g6 10 rfl rfl
theorem wd_1340 : Cond.selects "GiftDuel" ⟨"GiftDuel", "image", "(I)I"⟩ ⟨"GiftDuel", "image", "(I)I"⟩ ∈ lw_g := lw_g6 11 rfl rfl
theorem wd_1341 : Cond.code ⟨"GiftDuel", "image", "(I)I"⟩ prog_1_method_41_code 3 (some .int) ∈ lw_g := lw_g6 12 rfl rfl
theorem wd_1347 : Cond.methodLink "GiftDuelLaw" 163 ⟨"GiftDuel", "back", "(I)I"⟩ ∈ lw_g := lw_g6 18 rfl rfl
theorem wd_1348 : Cond.instanceMethod ⟨"GiftDuel", "back", "(I)I"⟩ ∈ lw_g := lw_g6 19 rfl rfl
theorem wd_1349 : Cond.selects "GiftDuel" ⟨"GiftDuel", "back", "(I)I"⟩ ⟨"GiftDuel", "back", "(I)I"⟩ ∈ lw_g := lw_g6 20 rfl rfl
theorem wd_1350 : Cond.code ⟨"GiftDuel", "back", "(I)I"⟩ prog_1_method_42_code 3 (some .int) ∈ lw_g := lw_g6 21 rfl rfl
theorem wd_1355 : Cond.methodLink "GiftDuelLaw" 167 ⟨"GiftDuel", "count", "(I)I"⟩ ∈ lw_g := lw_g6 26 rfl rfl
theorem wd_1356 : Cond.instanceMethod ⟨"GiftDuel", "count", "(I)I"⟩ ∈ lw_g := lw_g6 27 rfl rfl
theorem wd_1357 : Cond.selects "GiftDuel" ⟨"GiftDuel", "count", "(I)I"⟩ ⟨"GiftDuel", "count", "(I)I"⟩ ∈ lw_g := lw_g6 28 rfl rfl
theorem wd_1358 : Cond.code ⟨"GiftDuel", "count", "(I)I"⟩ prog_1_method_43_code 2 (some .int) ∈ lw_g := lw_g6 29 rfl rfl
theorem wd_1368 : Cond.methodLink "GiftDuelLaw" 171 ⟨"GiftDuel", "status", "()I"⟩ ∈ lw_g := lw_g6 39 rfl rfl
theorem wd_1369 : Cond.instanceMethod ⟨"GiftDuel", "status", "()I"⟩ ∈ lw_g := lw_g6 40 rfl rfl
theorem wd_1370 : Cond.selects "GiftDuel" ⟨"GiftDuel", "status", "()I"⟩ ⟨"GiftDuel", "status", "()I"⟩ ∈ lw_g := lw_g6 41 rfl rfl
theorem wd_1371 : Cond.code ⟨"GiftDuel", "status", "()I"⟩ prog_1_method_44_code 1 (some .int) ∈ lw_g := lw_g6 42 rfl rfl
theorem wd_1372 : Cond.classLink "GiftDuelLaw" 10 "GiftDuelModel" ∈ lw_g := lw_g6 43 rfl rfl
theorem wd_1373 : Cond.instantiable "GiftDuelModel" 73 ∈ lw_g := lw_g6 44 rfl rfl
theorem wd_1374 : Cond.methodLink "GiftDuelLaw" 12 ⟨"GiftDuelModel", "<init>", "()V"⟩ ∈ lw_g := lw_g6 45 rfl rfl
theorem wd_1375 : Cond.instanceMethod ⟨"GiftDuelModel", "<init>", "()V"⟩ ∈ lw_g := lw_g6 46 rfl rfl
theorem wd_1376 : Cond.code ⟨"GiftDuelModel", "<init>", "()V"⟩ prog_14_method_1_code 2 none ∈ lw_g := lw_g6 47 rfl rfl
theorem wd_1614 : Cond.methodLink "GiftDuelLaw" 162 ⟨"GiftDuelModel", "image", "(I)I"⟩ ∈ lw_g := lw_g7 45 rfl rfl
theorem wd_1615 : Cond.instanceMethod ⟨"GiftDuelModel", "image", "(I)I"⟩ ∈ lw_g := lw_g7 46 rfl rfl
theorem wd_1616 : Cond.selects "GiftDuelModel" ⟨"GiftDuelModel", "image", "(I)I"⟩ ⟨"GiftDuelModel", "image", "(I)I"⟩ ∈ lw_g := lw_g7 47 rfl rfl
theorem wd_1617 : Cond.code ⟨"GiftDuelModel", "image", "(I)I"⟩ prog_14_method_12_code 3 (some .int) ∈ lw_g := lw_g7 48 rfl rfl
theorem wd_1625 : Cond.methodLink "GiftDuelLaw" 166 ⟨"GiftDuelModel", "back", "(I)I"⟩ ∈ lw_g := lw_g7 56 rfl rfl
theorem wd_1626 : Cond.instanceMethod ⟨"GiftDuelModel", "back", "(I)I"⟩ ∈ lw_g := lw_g7 57 rfl rfl
theorem wd_1627 : Cond.selects "GiftDuelModel" ⟨"GiftDuelModel", "back", "(I)I"⟩ ⟨"GiftDuelModel", "back", "(I)I"⟩ ∈ lw_g := lw_g7 58 rfl rfl
theorem wd_1628 : Cond.code ⟨"GiftDuelModel", "back", "(I)I"⟩ prog_14_method_13_code 3 (some .int) ∈ lw_g := lw_g7 59 rfl rfl
theorem wd_1633 : Cond.methodLink "GiftDuelLaw" 17 ⟨"GiftDuelModel", "lord", "(II)I"⟩ ∈ lw_g := lw_g7 64 rfl rfl
theorem wd_1634 : Cond.instanceMethod ⟨"GiftDuelModel", "lord", "(II)I"⟩ ∈ lw_g := lw_g7 65 rfl rfl
theorem wd_1635 : Cond.selects "GiftDuelModel" ⟨"GiftDuelModel", "lord", "(II)I"⟩ ⟨"GiftDuelModel", "lord", "(II)I"⟩ ∈ lw_g := lw_g7 66 rfl rfl
theorem wd_1636 : Cond.code ⟨"GiftDuelModel", "lord", "(II)I"⟩ prog_14_method_19_code 6 (some .int) ∈ lw_g := lw_g7 67 rfl rfl
theorem wd_1639 : Cond.methodLink "GiftDuelLaw" 21 ⟨"GiftDuelModel", "of", "(II)I"⟩ ∈ lw_g := lw_g7 70 rfl rfl
theorem wd_1640 : Cond.instanceMethod ⟨"GiftDuelModel", "of", "(II)I"⟩ ∈ lw_g := lw_g7 71 rfl rfl
theorem wd_1641 : Cond.selects "GiftDuelModel" ⟨"GiftDuelModel", "of", "(II)I"⟩ ⟨"GiftDuelModel", "of", "(II)I"⟩ ∈ lw_g := lw_g7 72 rfl rfl
theorem wd_1642 : Cond.code ⟨"GiftDuelModel", "of", "(II)I"⟩ prog_14_method_22_code 3 (some .int) ∈ lw_g := lw_g7 73 rfl rfl
theorem wd_1709 : Cond.methodLink "GiftDuelLaw" 26 ⟨"GiftDuelModel", "put", "(III)I"⟩ ∈ lw_g := lw_g7 140 rfl rfl
theorem wd_1710 : Cond.instanceMethod ⟨"GiftDuelModel", "put", "(III)I"⟩ ∈ lw_g := lw_g7 141 rfl rfl
theorem wd_1711 : Cond.selects "GiftDuelModel" ⟨"GiftDuelModel", "put", "(III)I"⟩ ⟨"GiftDuelModel", "put", "(III)I"⟩ ∈ lw_g := lw_g7 142 rfl rfl
theorem wd_1712 : Cond.code ⟨"GiftDuelModel", "put", "(III)I"⟩ prog_14_method_23_code 6 (some .int) ∈ lw_g := lw_g7 143 rfl rfl
theorem wd_1717 : Cond.methodLink "GiftDuelLaw" 30 ⟨"GiftDuelModel", "good", "(III)I"⟩ ∈ lw_g := lw_g7 148 rfl rfl
theorem wd_1718 : Cond.instanceMethod ⟨"GiftDuelModel", "good", "(III)I"⟩ ∈ lw_g := lw_g7 149 rfl rfl
theorem wd_1719 : Cond.selects "GiftDuelModel" ⟨"GiftDuelModel", "good", "(III)I"⟩ ⟨"GiftDuelModel", "good", "(III)I"⟩ ∈ lw_g := lw_g7 150 rfl rfl
theorem wd_1720 : Cond.code ⟨"GiftDuelModel", "good", "(III)I"⟩ prog_14_method_25_code 4 (some .int) ∈ lw_g := lw_g7 151 rfl rfl
theorem wd_1726 : Cond.methodLink "GiftDuelLaw" 34 ⟨"GiftDuelModel", "at", "(II)I"⟩ ∈ lw_g := lw_g7 157 rfl rfl
theorem wd_1727 : Cond.instanceMethod ⟨"GiftDuelModel", "at", "(II)I"⟩ ∈ lw_g := lw_g7 158 rfl rfl
theorem wd_1728 : Cond.selects "GiftDuelModel" ⟨"GiftDuelModel", "at", "(II)I"⟩ ⟨"GiftDuelModel", "at", "(II)I"⟩ ∈ lw_g := lw_g7 159 rfl rfl
theorem wd_1729 : Cond.code ⟨"GiftDuelModel", "at", "(II)I"⟩ prog_14_method_26_code 3 (some .int) ∈ lw_g := lw_g7 160 rfl rfl
theorem wd_1731 : Cond.methodLink "GiftDuelLaw" 38 ⟨"GiftDuelModel", "terms", "(II)I"⟩ ∈ lw_g := lw_g7 162 rfl rfl
theorem wd_1732 : Cond.instanceMethod ⟨"GiftDuelModel", "terms", "(II)I"⟩ ∈ lw_g := lw_g7 163 rfl rfl
theorem wd_1733 : Cond.selects "GiftDuelModel" ⟨"GiftDuelModel", "terms", "(II)I"⟩ ⟨"GiftDuelModel", "terms", "(II)I"⟩ ∈ lw_g := lw_g7 164 rfl rfl
theorem wd_1734 : Cond.code ⟨"GiftDuelModel", "terms", "(II)I"⟩ prog_14_method_27_code 5 (some .int) ∈ lw_g := lw_g7 165 rfl rfl
theorem wd_1738 : Cond.methodLink "GiftDuelLaw" 53 ⟨"GiftDuelModel", "row", "()I"⟩ ∈ lw_g := lw_g7 169 rfl rfl
theorem wd_1739 : Cond.instanceMethod ⟨"GiftDuelModel", "row", "()I"⟩ ∈ lw_g := lw_g7 170 rfl rfl
theorem wd_1740 : Cond.selects "GiftDuelModel" ⟨"GiftDuelModel", "row", "()I"⟩ ⟨"GiftDuelModel", "row", "()I"⟩ ∈ lw_g := lw_g7 171 rfl rfl
theorem wd_1741 : Cond.code ⟨"GiftDuelModel", "row", "()I"⟩ prog_14_method_28_code 4 (some .int) ∈ lw_g := lw_g7 172 rfl rfl
theorem wd_1742 : Cond.methodLink "GiftDuelLaw" 57 ⟨"GiftDuelModel", "dross", "()I"⟩ ∈ lw_g := lw_g7 173 rfl rfl
theorem wd_1743 : Cond.instanceMethod ⟨"GiftDuelModel", "dross", "()I"⟩ ∈ lw_g := lw_g7 174 rfl rfl
theorem wd_1744 : Cond.selects "GiftDuelModel" ⟨"GiftDuelModel", "dross", "()I"⟩ ⟨"GiftDuelModel", "dross", "()I"⟩ ∈ lw_g := lw_g7 175 rfl rfl
theorem wd_1745 : Cond.code ⟨"GiftDuelModel", "dross", "()I"⟩ prog_14_method_29_code 1 (some .int) ∈ lw_g := lw_g7 176 rfl rfl
theorem wd_1746 : Cond.methodLink "GiftDuelLaw" 43 ⟨"GiftDuelModel", "feed", "(IIIII)I"⟩ ∈ lw_g := lw_g7 177 rfl rfl
theorem wd_1747 : Cond.instanceMethod ⟨"GiftDuelModel", "feed", "(IIIII)I"⟩ ∈ lw_g := lw_g7 178 rfl rfl
theorem wd_1748 : Cond.selects "GiftDuelModel" ⟨"GiftDuelModel", "feed", "(IIIII)I"⟩ ⟨"GiftDuelModel", "feed", "(IIIII)I"⟩ ∈ lw_g := lw_g7 179 rfl rfl
theorem wd_1749 : Cond.code ⟨"GiftDuelModel", "feed", "(IIIII)I"⟩ prog_14_method_31_code 6 (some .int) ∈ lw_g := lw_g7 180 rfl rfl
theorem wd_1754 : Cond.methodLink "GiftDuelLaw" 48 ⟨"GiftDuelModel", "end", "(I)I"⟩ ∈ lw_g := lw_g7 185 rfl rfl
theorem wd_1755 : Cond.instanceMethod ⟨"GiftDuelModel", "end", "(I)I"⟩ ∈ lw_g := lw_g7 186 rfl rfl
theorem wd_1756 : Cond.selects "GiftDuelModel" ⟨"GiftDuelModel", "end", "(I)I"⟩ ⟨"GiftDuelModel", "end", "(I)I"⟩ ∈ lw_g := lw_g7 187 rfl rfl
theorem wd_1757 : Cond.code ⟨"GiftDuelModel", "end", "(I)I"⟩ prog_14_method_32_code 2 (some .int) ∈ lw_g := lw_g7 188 rfl rfl
theorem wd_1758 : Cond.methodLink "GiftDuelLaw" 69 ⟨"GiftDuelModel", "fault", "()I"⟩ ∈ lw_g := lw_g7 189 rfl rfl
theorem wd_1759 : Cond.instanceMethod ⟨"GiftDuelModel", "fault", "()I"⟩ ∈ lw_g := lw_g7 190 rfl rfl
theorem wd_1760 : Cond.selects "GiftDuelModel" ⟨"GiftDuelModel", "fault", "()I"⟩ ⟨"GiftDuelModel", "fault", "()I"⟩ ∈ lw_g := lw_g7 191 rfl rfl
theorem wd_1761 : Cond.code ⟨"GiftDuelModel", "fault", "()I"⟩ prog_14_method_41_code 1 (some .int) ∈ lw_g := lw_g7 192 rfl rfl
theorem wd_1762 : Cond.methodLink "GiftDuelLaw" 61 ⟨"GiftDuelModel", "law", "()I"⟩ ∈ lw_g := lw_g7 193 rfl rfl
theorem wd_1763 : Cond.instanceMethod ⟨"GiftDuelModel", "law", "()I"⟩ ∈ lw_g := lw_g7 194 rfl rfl
theorem wd_1764 : Cond.selects "GiftDuelModel" ⟨"GiftDuelModel", "law", "()I"⟩ ⟨"GiftDuelModel", "law", "()I"⟩ ∈ lw_g := lw_g7 195 rfl rfl
theorem wd_1765 : Cond.code ⟨"GiftDuelModel", "law", "()I"⟩ prog_14_method_60_code 3 (some .int) ∈ lw_g := lw_g7 196 rfl rfl
theorem wd_1884 : Cond.methodLink "GiftDuelLaw" 77 ⟨"GiftDuelModel", "force", "(I)I"⟩ ∈ lw_g := lw_g8 75 rfl rfl
theorem wd_1885 : Cond.instanceMethod ⟨"GiftDuelModel", "force", "(I)I"⟩ ∈ lw_g := lw_g8 76 rfl rfl
theorem wd_1886 : Cond.selects "GiftDuelModel" ⟨"GiftDuelModel", "force", "(I)I"⟩ ⟨"GiftDuelModel", "force", "(I)I"⟩ ∈ lw_g := lw_g8 77 rfl rfl
theorem wd_1887 : Cond.code ⟨"GiftDuelModel", "force", "(I)I"⟩ prog_14_method_61_code 3 (some .int) ∈ lw_g := lw_g8 78 rfl rfl
theorem wd_1888 : Cond.methodLink "GiftDuelLaw" 81 ⟨"GiftDuelModel", "asks", "(III)I"⟩ ∈ lw_g := lw_g8 79 rfl rfl
theorem wd_1889 : Cond.instanceMethod ⟨"GiftDuelModel", "asks", "(III)I"⟩ ∈ lw_g := lw_g8 80 rfl rfl
theorem wd_1890 : Cond.selects "GiftDuelModel" ⟨"GiftDuelModel", "asks", "(III)I"⟩ ⟨"GiftDuelModel", "asks", "(III)I"⟩ ∈ lw_g := lw_g8 81 rfl rfl
theorem wd_1891 : Cond.code ⟨"GiftDuelModel", "asks", "(III)I"⟩ prog_14_method_70_code 5 (some .int) ∈ lw_g := lw_g8 82 rfl rfl
theorem wd_1901 : Cond.methodLink "GiftDuelLaw" 85 ⟨"GiftDuelModel", "give", "(II)I"⟩ ∈ lw_g := lw_g8 92 rfl rfl
theorem wd_1902 : Cond.instanceMethod ⟨"GiftDuelModel", "give", "(II)I"⟩ ∈ lw_g := lw_g8 93 rfl rfl
theorem wd_1903 : Cond.selects "GiftDuelModel" ⟨"GiftDuelModel", "give", "(II)I"⟩ ⟨"GiftDuelModel", "give", "(II)I"⟩ ∈ lw_g := lw_g8 94 rfl rfl
theorem wd_1904 : Cond.code ⟨"GiftDuelModel", "give", "(II)I"⟩ prog_14_method_78_code 3 (some .int) ∈ lw_g := lw_g8 95 rfl rfl
theorem wd_1925 : Cond.methodLink "GiftDuelLaw" 89 ⟨"GiftDuelModel", "await", "()I"⟩ ∈ lw_g := lw_g8 116 rfl rfl
theorem wd_1926 : Cond.instanceMethod ⟨"GiftDuelModel", "await", "()I"⟩ ∈ lw_g := lw_g8 117 rfl rfl
theorem wd_1927 : Cond.selects "GiftDuelModel" ⟨"GiftDuelModel", "await", "()I"⟩ ⟨"GiftDuelModel", "await", "()I"⟩ ∈ lw_g := lw_g8 118 rfl rfl
theorem wd_1928 : Cond.code ⟨"GiftDuelModel", "await", "()I"⟩ prog_14_method_79_code 1 (some .int) ∈ lw_g := lw_g8 119 rfl rfl
theorem wd_1940 : Cond.methodLink "GiftDuelLaw" 93 ⟨"GiftDuelModel", "undo", "()I"⟩ ∈ lw_g := lw_g8 131 rfl rfl
theorem wd_1941 : Cond.instanceMethod ⟨"GiftDuelModel", "undo", "()I"⟩ ∈ lw_g := lw_g8 132 rfl rfl
theorem wd_1942 : Cond.selects "GiftDuelModel" ⟨"GiftDuelModel", "undo", "()I"⟩ ⟨"GiftDuelModel", "undo", "()I"⟩ ∈ lw_g := lw_g8 133 rfl rfl
theorem wd_1943 : Cond.code ⟨"GiftDuelModel", "undo", "()I"⟩ prog_14_method_80_code 1 (some .int) ∈ lw_g := lw_g8 134 rfl rfl
theorem wd_1948 : Cond.methodLink "GiftDuelLaw" 97 ⟨"GiftDuelModel", "debt", "(III)I"⟩ ∈ lw_g := lw_g8 139 rfl rfl
theorem wd_1949 : Cond.instanceMethod ⟨"GiftDuelModel", "debt", "(III)I"⟩ ∈ lw_g := lw_g8 140 rfl rfl
theorem wd_1950 : Cond.selects "GiftDuelModel" ⟨"GiftDuelModel", "debt", "(III)I"⟩ ⟨"GiftDuelModel", "debt", "(III)I"⟩ ∈ lw_g := lw_g8 141 rfl rfl
theorem wd_1951 : Cond.code ⟨"GiftDuelModel", "debt", "(III)I"⟩ prog_14_method_82_code 5 (some .int) ∈ lw_g := lw_g8 142 rfl rfl
theorem wd_1952 : Cond.methodLink "GiftDuelLaw" 101 ⟨"GiftDuelModel", "owed", "(II)I"⟩ ∈ lw_g := lw_g8 143 rfl rfl
theorem wd_1953 : Cond.instanceMethod ⟨"GiftDuelModel", "owed", "(II)I"⟩ ∈ lw_g := lw_g8 144 rfl rfl
theorem wd_1954 : Cond.selects "GiftDuelModel" ⟨"GiftDuelModel", "owed", "(II)I"⟩ ⟨"GiftDuelModel", "owed", "(II)I"⟩ ∈ lw_g := lw_g8 145 rfl rfl
theorem wd_1955 : Cond.code ⟨"GiftDuelModel", "owed", "(II)I"⟩ prog_14_method_83_code 7 (some .int) ∈ lw_g := lw_g8 146 rfl rfl
theorem wd_1956 : Cond.methodLink "GiftDuelLaw" 105 ⟨"GiftDuelModel", "duel", "(III)I"⟩ ∈ lw_g := lw_g8 147 rfl rfl
theorem wd_1957 : Cond.instanceMethod ⟨"GiftDuelModel", "duel", "(III)I"⟩ ∈ lw_g := lw_g8 148 rfl rfl
theorem wd_1958 : Cond.selects "GiftDuelModel" ⟨"GiftDuelModel", "duel", "(III)I"⟩ ⟨"GiftDuelModel", "duel", "(III)I"⟩ ∈ lw_g := lw_g8 149 rfl rfl
theorem wd_1959 : Cond.code ⟨"GiftDuelModel", "duel", "(III)I"⟩ prog_14_method_90_code 7 (some .int) ∈ lw_g := lw_g8 150 rfl rfl
theorem wd_1988 : Cond.methodLink "GiftDuelLaw" 109 ⟨"GiftDuelModel", "ruin", "(II)I"⟩ ∈ lw_g := lw_g8 179 rfl rfl
theorem wd_1989 : Cond.instanceMethod ⟨"GiftDuelModel", "ruin", "(II)I"⟩ ∈ lw_g := lw_g8 180 rfl rfl
theorem wd_1990 : Cond.selects "GiftDuelModel" ⟨"GiftDuelModel", "ruin", "(II)I"⟩ ⟨"GiftDuelModel", "ruin", "(II)I"⟩ ∈ lw_g := lw_g8 181 rfl rfl
theorem wd_1991 : Cond.code ⟨"GiftDuelModel", "ruin", "(II)I"⟩ prog_14_method_94_code 4 (some .int) ∈ lw_g := lw_g8 182 rfl rfl
theorem wd_2000 : Cond.methodLink "GiftDuelLaw" 114 ⟨"GiftDuelModel", "siege", "(IIII)I"⟩ ∈ lw_g := lw_g8 191 rfl rfl
theorem wd_2001 : Cond.instanceMethod ⟨"GiftDuelModel", "siege", "(IIII)I"⟩ ∈ lw_g := lw_g8 192 rfl rfl
theorem wd_2002 : Cond.selects "GiftDuelModel" ⟨"GiftDuelModel", "siege", "(IIII)I"⟩ ⟨"GiftDuelModel", "siege", "(IIII)I"⟩ ∈ lw_g := lw_g8 193 rfl rfl
theorem wd_2003 : Cond.code ⟨"GiftDuelModel", "siege", "(IIII)I"⟩ prog_14_method_95_code 13 (some .int) ∈ lw_g := lw_g8 194 rfl rfl
theorem wd_2008 : Cond.methodLink "GiftDuelLaw" 118 ⟨"GiftDuelModel", "herald", "(I)I"⟩ ∈ lw_g := lw_g8 199 rfl rfl
theorem wd_2009 : Cond.instanceMethod ⟨"GiftDuelModel", "herald", "(I)I"⟩ ∈ lw_g := lw_g8 200 rfl rfl
theorem wd_2010 : Cond.selects "GiftDuelModel" ⟨"GiftDuelModel", "herald", "(I)I"⟩ ⟨"GiftDuelModel", "herald", "(I)I"⟩ ∈ lw_g := lw_g8 201 rfl rfl
theorem wd_2011 : Cond.code ⟨"GiftDuelModel", "herald", "(I)I"⟩ prog_14_method_96_code 3 (some .int) ∈ lw_g := lw_g8 202 rfl rfl
theorem wd_2012 : Cond.methodLink "GiftDuelLaw" 122 ⟨"GiftDuelModel", "tells", "(II)I"⟩ ∈ lw_g := lw_g8 203 rfl rfl
theorem wd_2013 : Cond.instanceMethod ⟨"GiftDuelModel", "tells", "(II)I"⟩ ∈ lw_g := lw_g8 204 rfl rfl
theorem wd_2014 : Cond.selects "GiftDuelModel" ⟨"GiftDuelModel", "tells", "(II)I"⟩ ⟨"GiftDuelModel", "tells", "(II)I"⟩ ∈ lw_g := lw_g8 205 rfl rfl
theorem wd_2015 : Cond.code ⟨"GiftDuelModel", "tells", "(II)I"⟩ prog_14_method_99_code 3 (some .int) ∈ lw_g := lw_g8 206 rfl rfl
theorem wd_2024 : Cond.methodLink "GiftDuelLaw" 126 ⟨"GiftDuelModel", "bribe", "(III)I"⟩ ∈ lw_g := lw_g8 215 rfl rfl
theorem wd_2025 : Cond.instanceMethod ⟨"GiftDuelModel", "bribe", "(III)I"⟩ ∈ lw_g := lw_g8 216 rfl rfl
theorem wd_2026 : Cond.selects "GiftDuelModel" ⟨"GiftDuelModel", "bribe", "(III)I"⟩ ⟨"GiftDuelModel", "bribe", "(III)I"⟩ ∈ lw_g := lw_g8 217 rfl rfl
theorem wd_2027 : Cond.code ⟨"GiftDuelModel", "bribe", "(III)I"⟩ prog_14_method_100_code 13 (some .int) ∈ lw_g := lw_g8 218 rfl rfl
theorem wd_2028 : Cond.methodLink "GiftDuelLaw" 130 ⟨"GiftDuelModel", "road", "(IIII)I"⟩ ∈ lw_g := lw_g8 219 rfl rfl
theorem wd_2029 : Cond.instanceMethod ⟨"GiftDuelModel", "road", "(IIII)I"⟩ ∈ lw_g := lw_g8 220 rfl rfl
theorem wd_2030 : Cond.selects "GiftDuelModel" ⟨"GiftDuelModel", "road", "(IIII)I"⟩ ⟨"GiftDuelModel", "road", "(IIII)I"⟩ ∈ lw_g := lw_g8 221 rfl rfl
theorem wd_2031 : Cond.code ⟨"GiftDuelModel", "road", "(IIII)I"⟩ prog_14_method_101_code 7 (some .int) ∈ lw_g := lw_g8 222 rfl rfl
theorem wd_2033 : Cond.methodLink "GiftDuelLaw" 134 ⟨"GiftDuelModel", "way", "(III)I"⟩ ∈ lw_g := lw_g8 224 rfl rfl
theorem wd_2034 : Cond.instanceMethod ⟨"GiftDuelModel", "way", "(III)I"⟩ ∈ lw_g := lw_g8 225 rfl rfl
theorem wd_2035 : Cond.selects "GiftDuelModel" ⟨"GiftDuelModel", "way", "(III)I"⟩ ⟨"GiftDuelModel", "way", "(III)I"⟩ ∈ lw_g := lw_g8 226 rfl rfl
theorem wd_2036 : Cond.code ⟨"GiftDuelModel", "way", "(III)I"⟩ prog_14_method_106_code 4 (some .int) ∈ lw_g := lw_g8 227 rfl rfl
theorem wd_2056 : Cond.methodLink "GiftDuelLaw" 138 ⟨"GiftDuelModel", "ring", "(I)I"⟩ ∈ lw_g := lw_g9 7 rfl rfl
theorem wd_2057 : Cond.instanceMethod ⟨"GiftDuelModel", "ring", "(I)I"⟩ ∈ lw_g := lw_g9 8 rfl rfl
theorem wd_2058 : Cond.selects "GiftDuelModel" ⟨"GiftDuelModel", "ring", "(I)I"⟩ ⟨"GiftDuelModel", "ring", "(I)I"⟩ ∈ lw_g := lw_g9 9 rfl rfl
theorem wd_2059 : Cond.code ⟨"GiftDuelModel", "ring", "(I)I"⟩ prog_14_method_110_code 2 (some .int) ∈ lw_g := lw_g9 10 rfl rfl
theorem wd_2072 : Cond.methodLink "GiftDuelLaw" 142 ⟨"GiftDuelModel", "shelf", "(II)I"⟩ ∈ lw_g := lw_g9 23 rfl rfl
theorem wd_2073 : Cond.instanceMethod ⟨"GiftDuelModel", "shelf", "(II)I"⟩ ∈ lw_g := lw_g9 24 rfl rfl
theorem wd_2074 : Cond.selects "GiftDuelModel" ⟨"GiftDuelModel", "shelf", "(II)I"⟩ ⟨"GiftDuelModel", "shelf", "(II)I"⟩ ∈ lw_g := lw_g9 25 rfl rfl
theorem wd_2075 : Cond.code ⟨"GiftDuelModel", "shelf", "(II)I"⟩ prog_14_method_111_code 4 (some .int) ∈ lw_g := lw_g9 26 rfl rfl
theorem wd_2076 : Cond.methodLink "GiftDuelLaw" 146 ⟨"GiftDuelModel", "found", "(II)I"⟩ ∈ lw_g := lw_g9 27 rfl rfl
theorem wd_2077 : Cond.instanceMethod ⟨"GiftDuelModel", "found", "(II)I"⟩ ∈ lw_g := lw_g9 28 rfl rfl
theorem wd_2078 : Cond.selects "GiftDuelModel" ⟨"GiftDuelModel", "found", "(II)I"⟩ ⟨"GiftDuelModel", "found", "(II)I"⟩ ∈ lw_g := lw_g9 29 rfl rfl
theorem wd_2079 : Cond.code ⟨"GiftDuelModel", "found", "(II)I"⟩ prog_14_method_116_code 4 (some .int) ∈ lw_g := lw_g9 30 rfl rfl
theorem wd_2096 : Cond.methodLink "GiftDuelLaw" 150 ⟨"GiftDuelModel", "beats", "(III)I"⟩ ∈ lw_g := lw_g9 47 rfl rfl
theorem wd_2097 : Cond.instanceMethod ⟨"GiftDuelModel", "beats", "(III)I"⟩ ∈ lw_g := lw_g9 48 rfl rfl
theorem wd_2098 : Cond.selects "GiftDuelModel" ⟨"GiftDuelModel", "beats", "(III)I"⟩ ⟨"GiftDuelModel", "beats", "(III)I"⟩ ∈ lw_g := lw_g9 49 rfl rfl
theorem wd_2099 : Cond.code ⟨"GiftDuelModel", "beats", "(III)I"⟩ prog_14_method_117_code 7 (some .int) ∈ lw_g := lw_g9 50 rfl rfl
theorem wd_2100 : Cond.methodLink "GiftDuelLaw" 65 ⟨"GiftDuelModel", "orders", "()I"⟩ ∈ lw_g := lw_g9 51 rfl rfl
theorem wd_2101 : Cond.instanceMethod ⟨"GiftDuelModel", "orders", "()I"⟩ ∈ lw_g := lw_g9 52 rfl rfl
theorem wd_2102 : Cond.selects "GiftDuelModel" ⟨"GiftDuelModel", "orders", "()I"⟩ ⟨"GiftDuelModel", "orders", "()I"⟩ ∈ lw_g := lw_g9 53 rfl rfl
theorem wd_2103 : Cond.code ⟨"GiftDuelModel", "orders", "()I"⟩ prog_14_method_122_code 5 (some .int) ∈ lw_g := lw_g9 54 rfl rfl
theorem wd_2123 : Cond.methodLink "GiftDuelLaw" 73 ⟨"GiftDuelModel", "stopped", "()I"⟩ ∈ lw_g := lw_g9 74 rfl rfl
theorem wd_2124 : Cond.instanceMethod ⟨"GiftDuelModel", "stopped", "()I"⟩ ∈ lw_g := lw_g9 75 rfl rfl
theorem wd_2125 : Cond.selects "GiftDuelModel" ⟨"GiftDuelModel", "stopped", "()I"⟩ ⟨"GiftDuelModel", "stopped", "()I"⟩ ∈ lw_g := lw_g9 76 rfl rfl
theorem wd_2126 : Cond.code ⟨"GiftDuelModel", "stopped", "()I"⟩ prog_14_method_123_code 1 (some .int) ∈ lw_g := lw_g9 77 rfl rfl
theorem wd_2127 : Cond.methodLink "GiftDuelLaw" 154 ⟨"GiftDuelModel", "generation", "(II)I"⟩ ∈ lw_g := lw_g9 78 rfl rfl
theorem wd_2128 : Cond.instanceMethod ⟨"GiftDuelModel", "generation", "(II)I"⟩ ∈ lw_g := lw_g9 79 rfl rfl
theorem wd_2129 : Cond.selects "GiftDuelModel" ⟨"GiftDuelModel", "generation", "(II)I"⟩ ⟨"GiftDuelModel", "generation", "(II)I"⟩ ∈ lw_g := lw_g9 80 rfl rfl
theorem wd_2130 : Cond.code ⟨"GiftDuelModel", "generation", "(II)I"⟩ prog_14_method_125_code 7 (some .int) ∈ lw_g := lw_g9 81 rfl rfl
theorem wd_2139 : Cond.methodLink "GiftDuelLaw" 158 ⟨"GiftDuelModel", "drawn", "(II)I"⟩ ∈ lw_g := lw_g9 90 rfl rfl
theorem wd_2140 : Cond.instanceMethod ⟨"GiftDuelModel", "drawn", "(II)I"⟩ ∈ lw_g := lw_g9 91 rfl rfl
theorem wd_2141 : Cond.selects "GiftDuelModel" ⟨"GiftDuelModel", "drawn", "(II)I"⟩ ⟨"GiftDuelModel", "drawn", "(II)I"⟩ ∈ lw_g := lw_g9 92 rfl rfl
theorem wd_2142 : Cond.code ⟨"GiftDuelModel", "drawn", "(II)I"⟩ prog_14_method_126_code 3 (some .int) ∈ lw_g := lw_g9 93 rfl rfl
theorem wd_2144 : Cond.methodLink "GiftDuelLaw" 170 ⟨"GiftDuelModel", "count", "(I)I"⟩ ∈ lw_g := lw_g9 95 rfl rfl
theorem wd_2145 : Cond.instanceMethod ⟨"GiftDuelModel", "count", "(I)I"⟩ ∈ lw_g := lw_g9 96 rfl rfl
theorem wd_2146 : Cond.selects "GiftDuelModel" ⟨"GiftDuelModel", "count", "(I)I"⟩ ⟨"GiftDuelModel", "count", "(I)I"⟩ ∈ lw_g := lw_g9 97 rfl rfl
theorem wd_2147 : Cond.code ⟨"GiftDuelModel", "count", "(I)I"⟩ prog_14_method_127_code 2 (some .int) ∈ lw_g := lw_g9 98 rfl rfl
theorem wd_2154 : Cond.methodLink "GiftDuelLaw" 174 ⟨"GiftDuelModel", "status", "()I"⟩ ∈ lw_g := lw_g9 105 rfl rfl
theorem wd_2155 : Cond.instanceMethod ⟨"GiftDuelModel", "status", "()I"⟩ ∈ lw_g := lw_g9 106 rfl rfl
theorem wd_2156 : Cond.selects "GiftDuelModel" ⟨"GiftDuelModel", "status", "()I"⟩ ⟨"GiftDuelModel", "status", "()I"⟩ ∈ lw_g := lw_g9 107 rfl rfl
theorem wd_2157 : Cond.code ⟨"GiftDuelModel", "status", "()I"⟩ prog_14_method_129_code 1 (some .int) ∈ lw_g := lw_g9 108 rfl rfl
theorem ci_RL_12 : m_CI RL 12 yX12_init := ⟨wd_1374, wd_1375, rfl⟩
theorem ci_RL_9 : m_CI RL 9 yX11_init := ⟨wd_153, wd_154, rfl⟩
theorem cv_RL_101 : m_CV RL 101 yX12_owed := ⟨wd_1952, wd_1953, wd_1954⟩
theorem cv_RL_102 : m_CV RL 102 yX11_duel := ⟨wd_1069, wd_1070, wd_1071⟩
theorem cv_RL_105 : m_CV RL 105 yX12_duel := ⟨wd_1956, wd_1957, wd_1958⟩
theorem cv_RL_106 : m_CV RL 106 yX11_ruin := ⟨wd_1115, wd_1116, wd_1117⟩
theorem cv_RL_109 : m_CV RL 109 yX12_ruin := ⟨wd_1988, wd_1989, wd_1990⟩
theorem cv_RL_110 : m_CV RL 110 yX11_siege := ⟨wd_1128, wd_1129, wd_1130⟩
theorem cv_RL_114 : m_CV RL 114 yX12_siege := ⟨wd_2000, wd_2001, wd_2002⟩
theorem cv_RL_115 : m_CV RL 115 yX11_herald := ⟨wd_1167, wd_1168, wd_1169⟩
theorem cv_RL_118 : m_CV RL 118 yX12_herald := ⟨wd_2008, wd_2009, wd_2010⟩
theorem cv_RL_119 : m_CV RL 119 yX11_tells := ⟨wd_1175, wd_1176, wd_1177⟩
theorem cv_RL_122 : m_CV RL 122 yX12_tells := ⟨wd_2012, wd_2013, wd_2014⟩
theorem cv_RL_123 : m_CV RL 123 yX11_bribe := ⟨wd_1192, wd_1193, wd_1194⟩
theorem cv_RL_126 : m_CV RL 126 yX12_bribe := ⟨wd_2024, wd_2025, wd_2026⟩
theorem cv_RL_127 : m_CV RL 127 yX11_road := ⟨wd_1205, wd_1206, wd_1207⟩
theorem cv_RL_13 : m_CV RL 13 yX11_lord := ⟨wd_508, wd_509, wd_510⟩
theorem cv_RL_130 : m_CV RL 130 yX12_road := ⟨wd_2028, wd_2029, wd_2030⟩
theorem cv_RL_131 : m_CV RL 131 yX11_way := ⟨wd_1213, wd_1214, wd_1215⟩
theorem cv_RL_134 : m_CV RL 134 yX12_way := ⟨wd_2033, wd_2034, wd_2035⟩
theorem cv_RL_135 : m_CV RL 135 yX11_ring := ⟨wd_1240, wd_1241, wd_1242⟩
theorem cv_RL_138 : m_CV RL 138 yX12_ring := ⟨wd_2056, wd_2057, wd_2058⟩
theorem cv_RL_139 : m_CV RL 139 yX11_shelf := ⟨wd_1258, wd_1259, wd_1260⟩
theorem cv_RL_142 : m_CV RL 142 yX12_shelf := ⟨wd_2072, wd_2073, wd_2074⟩
theorem cv_RL_143 : m_CV RL 143 yX11_found := ⟨wd_1270, wd_1271, wd_1272⟩
theorem cv_RL_146 : m_CV RL 146 yX12_found := ⟨wd_2076, wd_2077, wd_2078⟩
theorem cv_RL_147 : m_CV RL 147 yX11_beats := ⟨wd_1300, wd_1301, wd_1302⟩
theorem cv_RL_150 : m_CV RL 150 yX12_beats := ⟨wd_2096, wd_2097, wd_2098⟩
theorem cv_RL_151 : m_CV RL 151 yX11_generation := ⟨wd_1310, wd_1311, wd_1312⟩
theorem cv_RL_154 : m_CV RL 154 yX12_generation := ⟨wd_2127, wd_2128, wd_2129⟩
theorem cv_RL_155 : m_CV RL 155 yX11_drawn := ⟨wd_1330, wd_1331, wd_1332⟩
theorem cv_RL_158 : m_CV RL 158 yX12_drawn := ⟨wd_2139, wd_2140, wd_2141⟩
theorem cv_RL_159 : m_CV RL 159 yX11_image := ⟨wd_1338, wd_1339, wd_1340⟩
theorem cv_RL_162 : m_CV RL 162 yX12_image := ⟨wd_1614, wd_1615, wd_1616⟩
theorem cv_RL_163 : m_CV RL 163 yX11_back := ⟨wd_1347, wd_1348, wd_1349⟩
theorem cv_RL_166 : m_CV RL 166 yX12_back := ⟨wd_1625, wd_1626, wd_1627⟩
theorem cv_RL_167 : m_CV RL 167 yX11_count := ⟨wd_1355, wd_1356, wd_1357⟩
theorem cv_RL_17 : m_CV RL 17 yX12_lord := ⟨wd_1633, wd_1634, wd_1635⟩
theorem cv_RL_170 : m_CV RL 170 yX12_count := ⟨wd_2144, wd_2145, wd_2146⟩
theorem cv_RL_171 : m_CV RL 171 yX11_status := ⟨wd_1368, wd_1369, wd_1370⟩
theorem cv_RL_174 : m_CV RL 174 yX12_status := ⟨wd_2154, wd_2155, wd_2156⟩
theorem cv_RL_18 : m_CV RL 18 yX11_of := ⟨wd_535, wd_536, wd_537⟩
theorem cv_RL_21 : m_CV RL 21 yX12_of := ⟨wd_1639, wd_1640, wd_1641⟩
theorem cv_RL_22 : m_CV RL 22 yX11_put := ⟨wd_611, wd_612, wd_613⟩
theorem cv_RL_26 : m_CV RL 26 yX12_put := ⟨wd_1709, wd_1710, wd_1711⟩
theorem cv_RL_27 : m_CV RL 27 yX11_good := ⟨wd_620, wd_621, wd_622⟩
theorem cv_RL_30 : m_CV RL 30 yX12_good := ⟨wd_1717, wd_1718, wd_1719⟩
theorem cv_RL_31 : m_CV RL 31 yX11_at := ⟨wd_628, wd_629, wd_630⟩
theorem cv_RL_34 : m_CV RL 34 yX12_at := ⟨wd_1726, wd_1727, wd_1728⟩
theorem cv_RL_35 : m_CV RL 35 yX11_terms := ⟨wd_641, wd_642, wd_643⟩
theorem cv_RL_38 : m_CV RL 38 yX12_terms := ⟨wd_1731, wd_1732, wd_1733⟩
theorem cv_RL_39 : m_CV RL 39 yX11_feed := ⟨wd_649, wd_650, wd_651⟩
theorem cv_RL_43 : m_CV RL 43 yX12_feed := ⟨wd_1746, wd_1747, wd_1748⟩
theorem cv_RL_44 : m_CV RL 44 yX11_end := ⟨wd_665, wd_666, wd_667⟩
theorem cv_RL_48 : m_CV RL 48 yX12_end := ⟨wd_1754, wd_1755, wd_1756⟩
theorem cv_RL_49 : m_CV RL 49 yX11_row := ⟨wd_673, wd_674, wd_675⟩
theorem cv_RL_53 : m_CV RL 53 yX12_row := ⟨wd_1738, wd_1739, wd_1740⟩
theorem cv_RL_54 : m_CV RL 54 yX11_dross := ⟨wd_685, wd_686, wd_687⟩
theorem cv_RL_57 : m_CV RL 57 yX12_dross := ⟨wd_1742, wd_1743, wd_1744⟩
theorem cv_RL_58 : m_CV RL 58 yX11_law := ⟨wd_689, wd_690, wd_691⟩
theorem cv_RL_61 : m_CV RL 61 yX12_law := ⟨wd_1762, wd_1763, wd_1764⟩
theorem cv_RL_62 : m_CV RL 62 yX11_orders := ⟨wd_876, wd_877, wd_878⟩
theorem cv_RL_65 : m_CV RL 65 yX12_orders := ⟨wd_2100, wd_2101, wd_2102⟩
theorem cv_RL_66 : m_CV RL 66 yX11_fault := ⟨wd_996, wd_997, wd_998⟩
theorem cv_RL_69 : m_CV RL 69 yX12_fault := ⟨wd_1758, wd_1759, wd_1760⟩
theorem cv_RL_70 : m_CV RL 70 yX11_stopped := ⟨wd_1004, wd_1005, wd_1006⟩
theorem cv_RL_73 : m_CV RL 73 yX12_stopped := ⟨wd_2123, wd_2124, wd_2125⟩
theorem cv_RL_74 : m_CV RL 74 yX11_force := ⟨wd_1012, wd_1013, wd_1014⟩
theorem cv_RL_77 : m_CV RL 77 yX12_force := ⟨wd_1884, wd_1885, wd_1886⟩
theorem cv_RL_78 : m_CV RL 78 yX11_asks := ⟨wd_1024, wd_1025, wd_1026⟩
theorem cv_RL_81 : m_CV RL 81 yX12_asks := ⟨wd_1888, wd_1889, wd_1890⟩
theorem cv_RL_82 : m_CV RL 82 yX11_give := ⟨wd_1030, wd_1031, wd_1032⟩
theorem cv_RL_85 : m_CV RL 85 yX12_give := ⟨wd_1901, wd_1902, wd_1903⟩
theorem cv_RL_86 : m_CV RL 86 yX11_await := ⟨wd_1037, wd_1038, wd_1039⟩
theorem cv_RL_89 : m_CV RL 89 yX12_await := ⟨wd_1925, wd_1926, wd_1927⟩
theorem cv_RL_90 : m_CV RL 90 yX11_undo := ⟨wd_1042, wd_1043, wd_1044⟩
theorem cv_RL_93 : m_CV RL 93 yX12_undo := ⟨wd_1940, wd_1941, wd_1942⟩
theorem cv_RL_94 : m_CV RL 94 yX11_debt := ⟨wd_1054, wd_1055, wd_1056⟩
theorem cv_RL_97 : m_CV RL 97 yX12_debt := ⟨wd_1948, wd_1949, wd_1950⟩
theorem cv_RL_98 : m_CV RL 98 yX11_owed := ⟨wd_1060, wd_1061, wd_1062⟩
theorem cw_X11_asks : m_CW yX11_asks cX11_asks 5 (some .int) 3 := ⟨wd_130, wd_1027, by decide +kernel, by decide⟩
theorem cw_X11_at : m_CW yX11_at cX11_at 3 (some .int) 2 := ⟨wd_130, wd_631, by decide +kernel, by decide⟩
theorem cw_X11_await : m_CW yX11_await cX11_await 1 (some .int) 0 := ⟨wd_130, wd_1040, by decide +kernel, by decide⟩
theorem cw_X11_back : m_CW yX11_back cX11_back 3 (some .int) 1 := ⟨wd_130, wd_1350, by decide +kernel, by decide⟩
theorem cw_X11_beats : m_CW yX11_beats cX11_beats 4 (some .int) 3 := ⟨wd_130, wd_1303, by decide +kernel, by decide⟩
theorem cw_X11_bribe : m_CW yX11_bribe cX11_bribe 4 (some .int) 3 := ⟨wd_130, wd_1195, by decide +kernel, by decide⟩
theorem cw_X11_count : m_CW yX11_count cX11_count 2 (some .int) 1 := ⟨wd_130, wd_1358, by decide +kernel, by decide⟩
theorem cw_X11_debt : m_CW yX11_debt cX11_debt 4 (some .int) 3 := ⟨wd_130, wd_1057, by decide +kernel, by decide⟩
theorem cw_X11_drawn : m_CW yX11_drawn cX11_drawn 4 (some .int) 2 := ⟨wd_130, wd_1333, by decide +kernel, by decide⟩
theorem cw_X11_dross : m_CW yX11_dross cX11_dross 1 (some .int) 0 := ⟨wd_130, wd_688, by decide +kernel, by decide⟩
theorem cw_X11_duel : m_CW yX11_duel cX11_duel 4 (some .int) 3 := ⟨wd_130, wd_1072, by decide +kernel, by decide⟩
theorem cw_X11_end : m_CW yX11_end cX11_end 2 (some .int) 1 := ⟨wd_130, wd_668, by decide +kernel, by decide⟩
theorem cw_X11_fault : m_CW yX11_fault cX11_fault 1 (some .int) 0 := ⟨wd_130, wd_999, by decide +kernel, by decide⟩
theorem cw_X11_feed : m_CW yX11_feed cX11_feed 6 (some .int) 5 := ⟨wd_130, wd_652, by decide +kernel, by decide⟩
theorem cw_X11_force : m_CW yX11_force cX11_force 3 (some .int) 1 := ⟨wd_130, wd_1015, by decide +kernel, by decide⟩
theorem cw_X11_found : m_CW yX11_found cX11_found 3 (some .int) 2 := ⟨wd_130, wd_1273, by decide +kernel, by decide⟩
theorem cw_X11_generation : m_CW yX11_generation cX11_generation 3 (some .int) 2 := ⟨wd_130, wd_1313, by decide +kernel, by decide⟩
theorem cw_X11_give : m_CW yX11_give cX11_give 3 (some .int) 2 := ⟨wd_130, wd_1033, by decide +kernel, by decide⟩
theorem cw_X11_good : m_CW yX11_good cX11_good 4 (some .int) 3 := ⟨wd_130, wd_623, by decide +kernel, by decide⟩
theorem cw_X11_herald : m_CW yX11_herald cX11_herald 2 (some .int) 1 := ⟨wd_130, wd_1170, by decide +kernel, by decide⟩
theorem cw_X11_image : m_CW yX11_image cX11_image 3 (some .int) 1 := ⟨wd_130, wd_1341, by decide +kernel, by decide⟩
theorem cw_X11_init : m_CW yX11_init cX11_init 1 none 0 := ⟨wd_130, wd_155, by decide +kernel, by decide⟩
theorem cw_X11_law : m_CW yX11_law cX11_law 2 (some .int) 0 := ⟨wd_130, wd_692, by decide +kernel, by decide⟩
theorem cw_X11_lord : m_CW yX11_lord cX11_lord 3 (some .int) 2 := ⟨wd_130, wd_511, by decide +kernel, by decide⟩
theorem cw_X11_of : m_CW yX11_of cX11_of 3 (some .int) 2 := ⟨wd_130, wd_538, by decide +kernel, by decide⟩
theorem cw_X11_orders : m_CW yX11_orders cX11_orders 3 (some .int) 0 := ⟨wd_130, wd_879, by decide +kernel, by decide⟩
theorem cw_X11_owed : m_CW yX11_owed cX11_owed 3 (some .int) 2 := ⟨wd_130, wd_1063, by decide +kernel, by decide⟩
theorem cw_X11_put : m_CW yX11_put cX11_put 5 (some .int) 3 := ⟨wd_130, wd_614, by decide +kernel, by decide⟩
theorem cw_X11_ring : m_CW yX11_ring cX11_ring 2 (some .int) 1 := ⟨wd_130, wd_1243, by decide +kernel, by decide⟩
theorem cw_X11_road : m_CW yX11_road cX11_road 5 (some .int) 4 := ⟨wd_130, wd_1208, by decide +kernel, by decide⟩
theorem cw_X11_row : m_CW yX11_row cX11_row 4 (some .int) 0 := ⟨wd_130, wd_676, by decide +kernel, by decide⟩
theorem cw_X11_ruin : m_CW yX11_ruin cX11_ruin 3 (some .int) 2 := ⟨wd_130, wd_1118, by decide +kernel, by decide⟩
theorem cw_X11_shelf : m_CW yX11_shelf cX11_shelf 4 (some .int) 2 := ⟨wd_130, wd_1261, by decide +kernel, by decide⟩
theorem cw_X11_siege : m_CW yX11_siege cX11_siege 5 (some .int) 4 := ⟨wd_130, wd_1131, by decide +kernel, by decide⟩
theorem cw_X11_status : m_CW yX11_status cX11_status 1 (some .int) 0 := ⟨wd_130, wd_1371, by decide +kernel, by decide⟩
theorem cw_X11_stopped : m_CW yX11_stopped cX11_stopped 1 (some .int) 0 := ⟨wd_130, wd_1007, by decide +kernel, by decide⟩
theorem cw_X11_tells : m_CW yX11_tells cX11_tells 4 (some .int) 2 := ⟨wd_130, wd_1178, by decide +kernel, by decide⟩
theorem cw_X11_terms : m_CW yX11_terms cX11_terms 5 (some .int) 2 := ⟨wd_130, wd_644, by decide +kernel, by decide⟩
theorem cw_X11_undo : m_CW yX11_undo cX11_undo 2 (some .int) 0 := ⟨wd_130, wd_1045, by decide +kernel, by decide⟩
theorem cw_X11_way : m_CW yX11_way cX11_way 4 (some .int) 3 := ⟨wd_130, wd_1216, by decide +kernel, by decide⟩
theorem cw_X12_asks : m_CW yX12_asks cX12_asks 5 (some .int) 3 := ⟨wd_144, wd_1891, by decide +kernel, by decide⟩
theorem cw_X12_at : m_CW yX12_at cX12_at 3 (some .int) 2 := ⟨wd_144, wd_1729, by decide +kernel, by decide⟩
theorem cw_X12_await : m_CW yX12_await cX12_await 1 (some .int) 0 := ⟨wd_144, wd_1928, by decide +kernel, by decide⟩
theorem cw_X12_back : m_CW yX12_back cX12_back 3 (some .int) 1 := ⟨wd_144, wd_1628, by decide +kernel, by decide⟩
theorem cw_X12_beats : m_CW yX12_beats cX12_beats 7 (some .int) 3 := ⟨wd_144, wd_2099, by decide +kernel, by decide⟩
theorem cw_X12_bribe : m_CW yX12_bribe cX12_bribe 13 (some .int) 3 := ⟨wd_144, wd_2027, by decide +kernel, by decide⟩
theorem cw_X12_count : m_CW yX12_count cX12_count 2 (some .int) 1 := ⟨wd_144, wd_2147, by decide +kernel, by decide⟩
theorem cw_X12_debt : m_CW yX12_debt cX12_debt 5 (some .int) 3 := ⟨wd_144, wd_1951, by decide +kernel, by decide⟩
theorem cw_X12_drawn : m_CW yX12_drawn cX12_drawn 3 (some .int) 2 := ⟨wd_144, wd_2142, by decide +kernel, by decide⟩
theorem cw_X12_dross : m_CW yX12_dross cX12_dross 1 (some .int) 0 := ⟨wd_144, wd_1745, by decide +kernel, by decide⟩
theorem cw_X12_duel : m_CW yX12_duel cX12_duel 7 (some .int) 3 := ⟨wd_144, wd_1959, by decide +kernel, by decide⟩
theorem cw_X12_end : m_CW yX12_end cX12_end 2 (some .int) 1 := ⟨wd_144, wd_1757, by decide +kernel, by decide⟩
theorem cw_X12_fault : m_CW yX12_fault cX12_fault 1 (some .int) 0 := ⟨wd_144, wd_1761, by decide +kernel, by decide⟩
theorem cw_X12_feed : m_CW yX12_feed cX12_feed 6 (some .int) 5 := ⟨wd_144, wd_1749, by decide +kernel, by decide⟩
theorem cw_X12_force : m_CW yX12_force cX12_force 3 (some .int) 1 := ⟨wd_144, wd_1887, by decide +kernel, by decide⟩
theorem cw_X12_found : m_CW yX12_found cX12_found 4 (some .int) 2 := ⟨wd_144, wd_2079, by decide +kernel, by decide⟩
theorem cw_X12_generation : m_CW yX12_generation cX12_generation 7 (some .int) 2 := ⟨wd_144, wd_2130, by decide +kernel, by decide⟩
theorem cw_X12_give : m_CW yX12_give cX12_give 3 (some .int) 2 := ⟨wd_144, wd_1904, by decide +kernel, by decide⟩
theorem cw_X12_good : m_CW yX12_good cX12_good 4 (some .int) 3 := ⟨wd_144, wd_1720, by decide +kernel, by decide⟩
theorem cw_X12_herald : m_CW yX12_herald cX12_herald 3 (some .int) 1 := ⟨wd_144, wd_2011, by decide +kernel, by decide⟩
theorem cw_X12_image : m_CW yX12_image cX12_image 3 (some .int) 1 := ⟨wd_144, wd_1617, by decide +kernel, by decide⟩
theorem cw_X12_init : m_CW yX12_init cX12_init 2 none 0 := ⟨wd_144, wd_1376, by decide +kernel, by decide⟩
theorem cw_X12_law : m_CW yX12_law cX12_law 3 (some .int) 0 := ⟨wd_144, wd_1765, by decide +kernel, by decide⟩
theorem cw_X12_lord : m_CW yX12_lord cX12_lord 6 (some .int) 2 := ⟨wd_144, wd_1636, by decide +kernel, by decide⟩
theorem cw_X12_of : m_CW yX12_of cX12_of 3 (some .int) 2 := ⟨wd_144, wd_1642, by decide +kernel, by decide⟩
theorem cw_X12_orders : m_CW yX12_orders cX12_orders 5 (some .int) 0 := ⟨wd_144, wd_2103, by decide +kernel, by decide⟩
theorem cw_X12_owed : m_CW yX12_owed cX12_owed 7 (some .int) 2 := ⟨wd_144, wd_1955, by decide +kernel, by decide⟩
theorem cw_X12_put : m_CW yX12_put cX12_put 6 (some .int) 3 := ⟨wd_144, wd_1712, by decide +kernel, by decide⟩
theorem cw_X12_ring : m_CW yX12_ring cX12_ring 2 (some .int) 1 := ⟨wd_144, wd_2059, by decide +kernel, by decide⟩
theorem cw_X12_road : m_CW yX12_road cX12_road 7 (some .int) 4 := ⟨wd_144, wd_2031, by decide +kernel, by decide⟩
theorem cw_X12_row : m_CW yX12_row cX12_row 4 (some .int) 0 := ⟨wd_144, wd_1741, by decide +kernel, by decide⟩
theorem cw_X12_ruin : m_CW yX12_ruin cX12_ruin 4 (some .int) 2 := ⟨wd_144, wd_1991, by decide +kernel, by decide⟩
theorem cw_X12_shelf : m_CW yX12_shelf cX12_shelf 4 (some .int) 2 := ⟨wd_144, wd_2075, by decide +kernel, by decide⟩
theorem cw_X12_siege : m_CW yX12_siege cX12_siege 13 (some .int) 4 := ⟨wd_144, wd_2003, by decide +kernel, by decide⟩
theorem cw_X12_status : m_CW yX12_status cX12_status 1 (some .int) 0 := ⟨wd_144, wd_2157, by decide +kernel, by decide⟩
theorem cw_X12_stopped : m_CW yX12_stopped cX12_stopped 1 (some .int) 0 := ⟨wd_144, wd_2126, by decide +kernel, by decide⟩
theorem cw_X12_tells : m_CW yX12_tells cX12_tells 3 (some .int) 2 := ⟨wd_144, wd_2015, by decide +kernel, by decide⟩
theorem cw_X12_terms : m_CW yX12_terms cX12_terms 5 (some .int) 2 := ⟨wd_144, wd_1734, by decide +kernel, by decide⟩
theorem cw_X12_undo : m_CW yX12_undo cX12_undo 1 (some .int) 0 := ⟨wd_144, wd_1943, by decide +kernel, by decide⟩
theorem cw_X12_way : m_CW yX12_way cX12_way 4 (some .int) 3 := ⟨wd_144, wd_2036, by decide +kernel, by decide⟩
