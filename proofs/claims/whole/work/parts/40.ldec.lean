theorem dL_0 : decode code 0 = .ok (.new 7, 3) := by decide +kernel
theorem dL_3 : decode code 3 = .ok (.dup, 1) := by decide +kernel
theorem dL_4 : decode code 4 = .ok (.invokespecial 9, 3) := by decide +kernel
theorem dL_7 : decode code 7 = .ok (.astore_n 1, 1) := by decide +kernel
theorem dL_8 : decode code 8 = .ok (.new 10, 3) := by decide +kernel
theorem dL_11 : decode code 11 = .ok (.dup, 1) := by decide +kernel
theorem dL_12 : decode code 12 = .ok (.invokespecial 12, 3) := by decide +kernel
theorem dL_15 : decode code 15 = .ok (.astore_n 2, 1) := by decide +kernel
theorem dL_16 : decode code 16 = .ok (.iconst 0, 1) := by decide +kernel
theorem dL_17 : decode code 17 = .ok (.istore_n 3, 1) := by decide +kernel
theorem dL_18 : decode code 18 = .ok (.iload_n 3, 1) := by decide +kernel
theorem dL_19 : decode code 19 = .ok (.aload_n 0, 1) := by decide +kernel
theorem dL_20 : decode code 20 = .ok (.arraylength, 1) := by decide +kernel
theorem dL_21 : decode code 21 = .ok (.bipush 7, 2) := by decide +kernel
theorem dL_23 : decode code 23 = .ok (.isub, 1) := by decide +kernel
theorem dL_24 : decode code 24 = .ok (.if_icmp .gt 1471, 3) := by decide +kernel
theorem dL_27 : decode code 27 = .ok (.aload_n 0, 1) := by decide +kernel
theorem dL_28 : decode code 28 = .ok (.iload_n 3, 1) := by decide +kernel
theorem dL_29 : decode code 29 = .ok (.iaload, 1) := by decide +kernel
theorem dL_30 : decode code 30 = .ok (.bipush 63, 2) := by decide +kernel
theorem dL_32 : decode code 32 = .ok (.iand, 1) := by decide +kernel
theorem dL_33 : decode code 33 = .ok (.tableswitch 1456 0 37 #[167, 190, 233, 266, 289, 364, 377, 400, 443, 476, 519, 552, 585, 608, 621, 654, 677, 710, 733, 756, 779, 822, 876, 910, 933, 976, 1019, 1062, 1085, 1108, 1141, 1195, 1208, 1221, 1264, 1307, 1370, 1423], 167) := by decide +kernel
theorem dL_200 : decode code 200 = .ok (.aload_n 1, 1) := by decide +kernel
theorem dL_201 : decode code 201 = .ok (.aload_n 0, 1) := by decide +kernel
theorem dL_202 : decode code 202 = .ok (.iload_n 3, 1) := by decide +kernel
theorem dL_203 : decode code 203 = .ok (.iconst 1, 1) := by decide +kernel
theorem dL_204 : decode code 204 = .ok (.iadd, 1) := by decide +kernel
theorem dL_205 : decode code 205 = .ok (.iaload, 1) := by decide +kernel
theorem dL_206 : decode code 206 = .ok (.invokevirtual 13, 3) := by decide +kernel
theorem dL_209 : decode code 209 = .ok (.aload_n 2, 1) := by decide +kernel
theorem dL_210 : decode code 210 = .ok (.aload_n 0, 1) := by decide +kernel
theorem dL_211 : decode code 211 = .ok (.iload_n 3, 1) := by decide +kernel
theorem dL_212 : decode code 212 = .ok (.iconst 1, 1) := by decide +kernel
theorem dL_213 : decode code 213 = .ok (.iadd, 1) := by decide +kernel
theorem dL_214 : decode code 214 = .ok (.iaload, 1) := by decide +kernel
theorem dL_215 : decode code 215 = .ok (.invokevirtual 17, 3) := by decide +kernel
theorem dL_218 : decode code 218 = .ok (.if_icmp .eq 1271, 3) := by decide +kernel
theorem dL_221 : decode code 221 = .ok (.iconst 0, 1) := by decide +kernel
theorem dL_222 : decode code 222 = .ok (.ireturn, 1) := by decide +kernel
theorem dL_223 : decode code 223 = .ok (.aload_n 1, 1) := by decide +kernel
theorem dL_224 : decode code 224 = .ok (.aload_n 0, 1) := by decide +kernel
theorem dL_225 : decode code 225 = .ok (.iload_n 3, 1) := by decide +kernel
theorem dL_226 : decode code 226 = .ok (.iconst 1, 1) := by decide +kernel
theorem dL_227 : decode code 227 = .ok (.iadd, 1) := by decide +kernel
theorem dL_228 : decode code 228 = .ok (.iaload, 1) := by decide +kernel
theorem dL_229 : decode code 229 = .ok (.aload_n 0, 1) := by decide +kernel
theorem dL_230 : decode code 230 = .ok (.iload_n 3, 1) := by decide +kernel
theorem dL_231 : decode code 231 = .ok (.iconst 2, 1) := by decide +kernel
theorem dL_232 : decode code 232 = .ok (.iadd, 1) := by decide +kernel
theorem dL_233 : decode code 233 = .ok (.iaload, 1) := by decide +kernel
theorem dL_234 : decode code 234 = .ok (.aload_n 0, 1) := by decide +kernel
theorem dL_235 : decode code 235 = .ok (.iload_n 3, 1) := by decide +kernel
theorem dL_236 : decode code 236 = .ok (.iconst 3, 1) := by decide +kernel
theorem dL_237 : decode code 237 = .ok (.iadd, 1) := by decide +kernel
theorem dL_238 : decode code 238 = .ok (.iaload, 1) := by decide +kernel
theorem dL_239 : decode code 239 = .ok (.invokevirtual 18, 3) := by decide +kernel
theorem dL_242 : decode code 242 = .ok (.aload_n 2, 1) := by decide +kernel
theorem dL_243 : decode code 243 = .ok (.aload_n 0, 1) := by decide +kernel
theorem dL_244 : decode code 244 = .ok (.iload_n 3, 1) := by decide +kernel
theorem dL_245 : decode code 245 = .ok (.iconst 1, 1) := by decide +kernel
theorem dL_246 : decode code 246 = .ok (.iadd, 1) := by decide +kernel
theorem dL_247 : decode code 247 = .ok (.iaload, 1) := by decide +kernel
theorem dL_248 : decode code 248 = .ok (.aload_n 0, 1) := by decide +kernel
theorem dL_249 : decode code 249 = .ok (.iload_n 3, 1) := by decide +kernel
theorem dL_250 : decode code 250 = .ok (.iconst 2, 1) := by decide +kernel
theorem dL_251 : decode code 251 = .ok (.iadd, 1) := by decide +kernel
theorem dL_252 : decode code 252 = .ok (.iaload, 1) := by decide +kernel
theorem dL_253 : decode code 253 = .ok (.aload_n 0, 1) := by decide +kernel
theorem dL_254 : decode code 254 = .ok (.iload_n 3, 1) := by decide +kernel
theorem dL_255 : decode code 255 = .ok (.iconst 3, 1) := by decide +kernel
theorem dL_256 : decode code 256 = .ok (.iadd, 1) := by decide +kernel
theorem dL_257 : decode code 257 = .ok (.iaload, 1) := by decide +kernel
theorem dL_258 : decode code 258 = .ok (.invokevirtual 22, 3) := by decide +kernel
theorem dL_261 : decode code 261 = .ok (.if_icmp .eq 1228, 3) := by decide +kernel
theorem dL_264 : decode code 264 = .ok (.iconst 0, 1) := by decide +kernel
theorem dL_265 : decode code 265 = .ok (.ireturn, 1) := by decide +kernel
theorem dL_266 : decode code 266 = .ok (.aload_n 1, 1) := by decide +kernel
theorem dL_267 : decode code 267 = .ok (.aload_n 0, 1) := by decide +kernel
theorem dL_268 : decode code 268 = .ok (.iload_n 3, 1) := by decide +kernel
theorem dL_269 : decode code 269 = .ok (.iconst 1, 1) := by decide +kernel
theorem dL_270 : decode code 270 = .ok (.iadd, 1) := by decide +kernel
theorem dL_271 : decode code 271 = .ok (.iaload, 1) := by decide +kernel
theorem dL_272 : decode code 272 = .ok (.aload_n 0, 1) := by decide +kernel
theorem dL_273 : decode code 273 = .ok (.iload_n 3, 1) := by decide +kernel
theorem dL_274 : decode code 274 = .ok (.iconst 2, 1) := by decide +kernel
theorem dL_275 : decode code 275 = .ok (.iadd, 1) := by decide +kernel
theorem dL_276 : decode code 276 = .ok (.iaload, 1) := by decide +kernel
theorem dL_277 : decode code 277 = .ok (.invokevirtual 23, 3) := by decide +kernel
theorem dL_280 : decode code 280 = .ok (.aload_n 2, 1) := by decide +kernel
theorem dL_281 : decode code 281 = .ok (.aload_n 0, 1) := by decide +kernel
theorem dL_282 : decode code 282 = .ok (.iload_n 3, 1) := by decide +kernel
theorem dL_283 : decode code 283 = .ok (.iconst 1, 1) := by decide +kernel
theorem dL_284 : decode code 284 = .ok (.iadd, 1) := by decide +kernel
theorem dL_285 : decode code 285 = .ok (.iaload, 1) := by decide +kernel
theorem dL_286 : decode code 286 = .ok (.aload_n 0, 1) := by decide +kernel
theorem dL_287 : decode code 287 = .ok (.iload_n 3, 1) := by decide +kernel
theorem dL_288 : decode code 288 = .ok (.iconst 2, 1) := by decide +kernel
theorem dL_289 : decode code 289 = .ok (.iadd, 1) := by decide +kernel
theorem dL_290 : decode code 290 = .ok (.iaload, 1) := by decide +kernel
theorem dL_291 : decode code 291 = .ok (.invokevirtual 27, 3) := by decide +kernel
theorem dL_294 : decode code 294 = .ok (.if_icmp .eq 1195, 3) := by decide +kernel
theorem dL_297 : decode code 297 = .ok (.iconst 0, 1) := by decide +kernel
theorem dL_298 : decode code 298 = .ok (.ireturn, 1) := by decide +kernel
theorem dL_299 : decode code 299 = .ok (.aload_n 1, 1) := by decide +kernel
theorem dL_300 : decode code 300 = .ok (.aload_n 0, 1) := by decide +kernel
theorem dL_301 : decode code 301 = .ok (.iload_n 3, 1) := by decide +kernel
theorem dL_302 : decode code 302 = .ok (.iconst 1, 1) := by decide +kernel
theorem dL_303 : decode code 303 = .ok (.iadd, 1) := by decide +kernel
theorem dL_304 : decode code 304 = .ok (.iaload, 1) := by decide +kernel
theorem dL_305 : decode code 305 = .ok (.invokevirtual 28, 3) := by decide +kernel
theorem dL_308 : decode code 308 = .ok (.aload_n 2, 1) := by decide +kernel
theorem dL_309 : decode code 309 = .ok (.aload_n 0, 1) := by decide +kernel
theorem dL_310 : decode code 310 = .ok (.iload_n 3, 1) := by decide +kernel
theorem dL_311 : decode code 311 = .ok (.iconst 1, 1) := by decide +kernel
theorem dL_312 : decode code 312 = .ok (.iadd, 1) := by decide +kernel
theorem dL_313 : decode code 313 = .ok (.iaload, 1) := by decide +kernel
theorem dL_314 : decode code 314 = .ok (.invokevirtual 31, 3) := by decide +kernel
theorem dL_317 : decode code 317 = .ok (.if_icmp .eq 1172, 3) := by decide +kernel
theorem dL_320 : decode code 320 = .ok (.iconst 0, 1) := by decide +kernel
theorem dL_321 : decode code 321 = .ok (.ireturn, 1) := by decide +kernel
theorem dL_322 : decode code 322 = .ok (.aload_n 1, 1) := by decide +kernel
theorem dL_323 : decode code 323 = .ok (.aload_n 0, 1) := by decide +kernel
theorem dL_324 : decode code 324 = .ok (.iload_n 3, 1) := by decide +kernel
theorem dL_325 : decode code 325 = .ok (.iconst 1, 1) := by decide +kernel
theorem dL_326 : decode code 326 = .ok (.iadd, 1) := by decide +kernel
theorem dL_327 : decode code 327 = .ok (.iaload, 1) := by decide +kernel
theorem dL_328 : decode code 328 = .ok (.aload_n 0, 1) := by decide +kernel
theorem dL_329 : decode code 329 = .ok (.iload_n 3, 1) := by decide +kernel
theorem dL_330 : decode code 330 = .ok (.iconst 2, 1) := by decide +kernel
theorem dL_331 : decode code 331 = .ok (.iadd, 1) := by decide +kernel
theorem dL_332 : decode code 332 = .ok (.iaload, 1) := by decide +kernel
theorem dL_333 : decode code 333 = .ok (.aload_n 0, 1) := by decide +kernel
theorem dL_334 : decode code 334 = .ok (.iload_n 3, 1) := by decide +kernel
theorem dL_335 : decode code 335 = .ok (.iconst 3, 1) := by decide +kernel
theorem dL_336 : decode code 336 = .ok (.iadd, 1) := by decide +kernel
theorem dL_337 : decode code 337 = .ok (.iaload, 1) := by decide +kernel
theorem dL_338 : decode code 338 = .ok (.aload_n 0, 1) := by decide +kernel
theorem dL_339 : decode code 339 = .ok (.iload_n 3, 1) := by decide +kernel
theorem dL_340 : decode code 340 = .ok (.iconst 4, 1) := by decide +kernel
theorem dL_341 : decode code 341 = .ok (.iadd, 1) := by decide +kernel
theorem dL_342 : decode code 342 = .ok (.iaload, 1) := by decide +kernel
theorem dL_343 : decode code 343 = .ok (.aload_n 0, 1) := by decide +kernel
theorem dL_344 : decode code 344 = .ok (.iload_n 3, 1) := by decide +kernel
theorem dL_345 : decode code 345 = .ok (.iconst 5, 1) := by decide +kernel
theorem dL_346 : decode code 346 = .ok (.iadd, 1) := by decide +kernel
theorem dL_347 : decode code 347 = .ok (.iaload, 1) := by decide +kernel
theorem dL_348 : decode code 348 = .ok (.aload_n 0, 1) := by decide +kernel
theorem dL_349 : decode code 349 = .ok (.iload_n 3, 1) := by decide +kernel
theorem dL_350 : decode code 350 = .ok (.bipush 6, 2) := by decide +kernel
theorem dL_352 : decode code 352 = .ok (.iadd, 1) := by decide +kernel
theorem dL_353 : decode code 353 = .ok (.iaload, 1) := by decide +kernel
theorem dL_354 : decode code 354 = .ok (.invokevirtual 32, 3) := by decide +kernel
theorem dL_357 : decode code 357 = .ok (.aload_n 2, 1) := by decide +kernel
theorem dL_358 : decode code 358 = .ok (.aload_n 0, 1) := by decide +kernel
theorem dL_359 : decode code 359 = .ok (.iload_n 3, 1) := by decide +kernel
theorem dL_360 : decode code 360 = .ok (.iconst 1, 1) := by decide +kernel
theorem dL_361 : decode code 361 = .ok (.iadd, 1) := by decide +kernel
theorem dL_362 : decode code 362 = .ok (.iaload, 1) := by decide +kernel
theorem dL_363 : decode code 363 = .ok (.aload_n 0, 1) := by decide +kernel
theorem dL_364 : decode code 364 = .ok (.iload_n 3, 1) := by decide +kernel
theorem dL_365 : decode code 365 = .ok (.iconst 2, 1) := by decide +kernel
theorem dL_366 : decode code 366 = .ok (.iadd, 1) := by decide +kernel
theorem dL_367 : decode code 367 = .ok (.iaload, 1) := by decide +kernel
theorem dL_368 : decode code 368 = .ok (.aload_n 0, 1) := by decide +kernel
theorem dL_369 : decode code 369 = .ok (.iload_n 3, 1) := by decide +kernel
theorem dL_370 : decode code 370 = .ok (.iconst 3, 1) := by decide +kernel
theorem dL_371 : decode code 371 = .ok (.iadd, 1) := by decide +kernel
theorem dL_372 : decode code 372 = .ok (.iaload, 1) := by decide +kernel
theorem dL_373 : decode code 373 = .ok (.aload_n 0, 1) := by decide +kernel
theorem dL_374 : decode code 374 = .ok (.iload_n 3, 1) := by decide +kernel
theorem dL_375 : decode code 375 = .ok (.iconst 4, 1) := by decide +kernel
theorem dL_376 : decode code 376 = .ok (.iadd, 1) := by decide +kernel
theorem dL_377 : decode code 377 = .ok (.iaload, 1) := by decide +kernel
theorem dL_378 : decode code 378 = .ok (.aload_n 0, 1) := by decide +kernel
theorem dL_379 : decode code 379 = .ok (.iload_n 3, 1) := by decide +kernel
theorem dL_380 : decode code 380 = .ok (.iconst 5, 1) := by decide +kernel
theorem dL_381 : decode code 381 = .ok (.iadd, 1) := by decide +kernel
theorem dL_382 : decode code 382 = .ok (.iaload, 1) := by decide +kernel
theorem dL_383 : decode code 383 = .ok (.aload_n 0, 1) := by decide +kernel
theorem dL_384 : decode code 384 = .ok (.iload_n 3, 1) := by decide +kernel
theorem dL_385 : decode code 385 = .ok (.bipush 6, 2) := by decide +kernel
theorem dL_387 : decode code 387 = .ok (.iadd, 1) := by decide +kernel
theorem dL_388 : decode code 388 = .ok (.iaload, 1) := by decide +kernel
theorem dL_389 : decode code 389 = .ok (.invokevirtual 36, 3) := by decide +kernel
theorem dL_392 : decode code 392 = .ok (.if_icmp .eq 1097, 3) := by decide +kernel
theorem dL_395 : decode code 395 = .ok (.iconst 0, 1) := by decide +kernel
theorem dL_396 : decode code 396 = .ok (.ireturn, 1) := by decide +kernel
theorem dL_397 : decode code 397 = .ok (.aload_n 1, 1) := by decide +kernel
theorem dL_398 : decode code 398 = .ok (.invokevirtual 37, 3) := by decide +kernel
theorem dL_401 : decode code 401 = .ok (.aload_n 2, 1) := by decide +kernel
theorem dL_402 : decode code 402 = .ok (.invokevirtual 41, 3) := by decide +kernel
theorem dL_405 : decode code 405 = .ok (.if_icmp .eq 1084, 3) := by decide +kernel
theorem dL_408 : decode code 408 = .ok (.iconst 0, 1) := by decide +kernel
theorem dL_409 : decode code 409 = .ok (.ireturn, 1) := by decide +kernel
theorem dL_410 : decode code 410 = .ok (.aload_n 1, 1) := by decide +kernel
theorem dL_411 : decode code 411 = .ok (.aload_n 0, 1) := by decide +kernel
theorem dL_412 : decode code 412 = .ok (.iload_n 3, 1) := by decide +kernel
theorem dL_413 : decode code 413 = .ok (.iconst 1, 1) := by decide +kernel
theorem dL_414 : decode code 414 = .ok (.iadd, 1) := by decide +kernel
theorem dL_415 : decode code 415 = .ok (.iaload, 1) := by decide +kernel
theorem dL_416 : decode code 416 = .ok (.invokevirtual 42, 3) := by decide +kernel
theorem dL_419 : decode code 419 = .ok (.aload_n 2, 1) := by decide +kernel
theorem dL_420 : decode code 420 = .ok (.aload_n 0, 1) := by decide +kernel
theorem dL_421 : decode code 421 = .ok (.iload_n 3, 1) := by decide +kernel
theorem dL_422 : decode code 422 = .ok (.iconst 1, 1) := by decide +kernel
theorem dL_423 : decode code 423 = .ok (.iadd, 1) := by decide +kernel
theorem dL_424 : decode code 424 = .ok (.iaload, 1) := by decide +kernel
theorem dL_425 : decode code 425 = .ok (.invokevirtual 45, 3) := by decide +kernel
theorem dL_428 : decode code 428 = .ok (.if_icmp .eq 1061, 3) := by decide +kernel
theorem dL_431 : decode code 431 = .ok (.iconst 0, 1) := by decide +kernel
theorem dL_432 : decode code 432 = .ok (.ireturn, 1) := by decide +kernel
theorem dL_433 : decode code 433 = .ok (.aload_n 1, 1) := by decide +kernel
theorem dL_434 : decode code 434 = .ok (.aload_n 0, 1) := by decide +kernel
theorem dL_435 : decode code 435 = .ok (.iload_n 3, 1) := by decide +kernel
theorem dL_436 : decode code 436 = .ok (.iconst 1, 1) := by decide +kernel
theorem dL_437 : decode code 437 = .ok (.iadd, 1) := by decide +kernel
theorem dL_438 : decode code 438 = .ok (.iaload, 1) := by decide +kernel
theorem dL_439 : decode code 439 = .ok (.aload_n 0, 1) := by decide +kernel
theorem dL_440 : decode code 440 = .ok (.iload_n 3, 1) := by decide +kernel
theorem dL_441 : decode code 441 = .ok (.iconst 2, 1) := by decide +kernel
theorem dL_442 : decode code 442 = .ok (.iadd, 1) := by decide +kernel
theorem dL_443 : decode code 443 = .ok (.iaload, 1) := by decide +kernel
theorem dL_444 : decode code 444 = .ok (.aload_n 0, 1) := by decide +kernel
theorem dL_445 : decode code 445 = .ok (.iload_n 3, 1) := by decide +kernel
theorem dL_446 : decode code 446 = .ok (.iconst 3, 1) := by decide +kernel
theorem dL_447 : decode code 447 = .ok (.iadd, 1) := by decide +kernel
theorem dL_448 : decode code 448 = .ok (.iaload, 1) := by decide +kernel
theorem dL_449 : decode code 449 = .ok (.invokevirtual 46, 3) := by decide +kernel
theorem dL_452 : decode code 452 = .ok (.aload_n 2, 1) := by decide +kernel
theorem dL_453 : decode code 453 = .ok (.aload_n 0, 1) := by decide +kernel
theorem dL_454 : decode code 454 = .ok (.iload_n 3, 1) := by decide +kernel
theorem dL_455 : decode code 455 = .ok (.iconst 1, 1) := by decide +kernel
theorem dL_456 : decode code 456 = .ok (.iadd, 1) := by decide +kernel
theorem dL_457 : decode code 457 = .ok (.iaload, 1) := by decide +kernel
theorem dL_458 : decode code 458 = .ok (.aload_n 0, 1) := by decide +kernel
theorem dL_459 : decode code 459 = .ok (.iload_n 3, 1) := by decide +kernel
theorem dL_460 : decode code 460 = .ok (.iconst 2, 1) := by decide +kernel
theorem dL_461 : decode code 461 = .ok (.iadd, 1) := by decide +kernel
theorem dL_462 : decode code 462 = .ok (.iaload, 1) := by decide +kernel
theorem dL_463 : decode code 463 = .ok (.aload_n 0, 1) := by decide +kernel
theorem dL_464 : decode code 464 = .ok (.iload_n 3, 1) := by decide +kernel
theorem dL_465 : decode code 465 = .ok (.iconst 3, 1) := by decide +kernel
theorem dL_466 : decode code 466 = .ok (.iadd, 1) := by decide +kernel
theorem dL_467 : decode code 467 = .ok (.iaload, 1) := by decide +kernel
theorem dL_468 : decode code 468 = .ok (.invokevirtual 49, 3) := by decide +kernel
theorem dL_471 : decode code 471 = .ok (.if_icmp .eq 1018, 3) := by decide +kernel
theorem dL_474 : decode code 474 = .ok (.iconst 0, 1) := by decide +kernel
theorem dL_475 : decode code 475 = .ok (.ireturn, 1) := by decide +kernel
theorem dL_476 : decode code 476 = .ok (.aload_n 1, 1) := by decide +kernel
theorem dL_477 : decode code 477 = .ok (.aload_n 0, 1) := by decide +kernel
theorem dL_478 : decode code 478 = .ok (.iload_n 3, 1) := by decide +kernel
theorem dL_479 : decode code 479 = .ok (.iconst 1, 1) := by decide +kernel
theorem dL_480 : decode code 480 = .ok (.iadd, 1) := by decide +kernel
theorem dL_481 : decode code 481 = .ok (.iaload, 1) := by decide +kernel
theorem dL_482 : decode code 482 = .ok (.aload_n 0, 1) := by decide +kernel
theorem dL_483 : decode code 483 = .ok (.iload_n 3, 1) := by decide +kernel
theorem dL_484 : decode code 484 = .ok (.iconst 2, 1) := by decide +kernel
theorem dL_485 : decode code 485 = .ok (.iadd, 1) := by decide +kernel
theorem dL_486 : decode code 486 = .ok (.iaload, 1) := by decide +kernel
theorem dL_487 : decode code 487 = .ok (.invokevirtual 50, 3) := by decide +kernel
theorem dL_490 : decode code 490 = .ok (.aload_n 2, 1) := by decide +kernel
theorem dL_491 : decode code 491 = .ok (.aload_n 0, 1) := by decide +kernel
theorem dL_492 : decode code 492 = .ok (.iload_n 3, 1) := by decide +kernel
theorem dL_493 : decode code 493 = .ok (.iconst 1, 1) := by decide +kernel
theorem dL_494 : decode code 494 = .ok (.iadd, 1) := by decide +kernel
theorem dL_495 : decode code 495 = .ok (.iaload, 1) := by decide +kernel
theorem dL_496 : decode code 496 = .ok (.aload_n 0, 1) := by decide +kernel
theorem dL_497 : decode code 497 = .ok (.iload_n 3, 1) := by decide +kernel
theorem dL_498 : decode code 498 = .ok (.iconst 2, 1) := by decide +kernel
theorem dL_499 : decode code 499 = .ok (.iadd, 1) := by decide +kernel
theorem dL_500 : decode code 500 = .ok (.iaload, 1) := by decide +kernel
theorem dL_501 : decode code 501 = .ok (.invokevirtual 53, 3) := by decide +kernel
theorem dL_504 : decode code 504 = .ok (.if_icmp .eq 985, 3) := by decide +kernel
theorem dL_507 : decode code 507 = .ok (.iconst 0, 1) := by decide +kernel
theorem dL_508 : decode code 508 = .ok (.ireturn, 1) := by decide +kernel
theorem dL_509 : decode code 509 = .ok (.aload_n 1, 1) := by decide +kernel
theorem dL_510 : decode code 510 = .ok (.aload_n 0, 1) := by decide +kernel
theorem dL_511 : decode code 511 = .ok (.iload_n 3, 1) := by decide +kernel
theorem dL_512 : decode code 512 = .ok (.iconst 1, 1) := by decide +kernel
theorem dL_513 : decode code 513 = .ok (.iadd, 1) := by decide +kernel
theorem dL_514 : decode code 514 = .ok (.iaload, 1) := by decide +kernel
theorem dL_515 : decode code 515 = .ok (.aload_n 0, 1) := by decide +kernel
theorem dL_516 : decode code 516 = .ok (.iload_n 3, 1) := by decide +kernel
theorem dL_517 : decode code 517 = .ok (.iconst 2, 1) := by decide +kernel
theorem dL_518 : decode code 518 = .ok (.iadd, 1) := by decide +kernel
theorem dL_519 : decode code 519 = .ok (.iaload, 1) := by decide +kernel
theorem dL_520 : decode code 520 = .ok (.aload_n 0, 1) := by decide +kernel
theorem dL_521 : decode code 521 = .ok (.iload_n 3, 1) := by decide +kernel
theorem dL_522 : decode code 522 = .ok (.iconst 3, 1) := by decide +kernel
theorem dL_523 : decode code 523 = .ok (.iadd, 1) := by decide +kernel
theorem dL_524 : decode code 524 = .ok (.iaload, 1) := by decide +kernel
theorem dL_525 : decode code 525 = .ok (.invokevirtual 54, 3) := by decide +kernel
theorem dL_528 : decode code 528 = .ok (.aload_n 2, 1) := by decide +kernel
theorem dL_529 : decode code 529 = .ok (.aload_n 0, 1) := by decide +kernel
theorem dL_530 : decode code 530 = .ok (.iload_n 3, 1) := by decide +kernel
theorem dL_531 : decode code 531 = .ok (.iconst 1, 1) := by decide +kernel
theorem dL_532 : decode code 532 = .ok (.iadd, 1) := by decide +kernel
theorem dL_533 : decode code 533 = .ok (.iaload, 1) := by decide +kernel
theorem dL_534 : decode code 534 = .ok (.aload_n 0, 1) := by decide +kernel
theorem dL_535 : decode code 535 = .ok (.iload_n 3, 1) := by decide +kernel
theorem dL_536 : decode code 536 = .ok (.iconst 2, 1) := by decide +kernel
theorem dL_537 : decode code 537 = .ok (.iadd, 1) := by decide +kernel
theorem dL_538 : decode code 538 = .ok (.iaload, 1) := by decide +kernel
theorem dL_539 : decode code 539 = .ok (.aload_n 0, 1) := by decide +kernel
theorem dL_540 : decode code 540 = .ok (.iload_n 3, 1) := by decide +kernel
theorem dL_541 : decode code 541 = .ok (.iconst 3, 1) := by decide +kernel
theorem dL_542 : decode code 542 = .ok (.iadd, 1) := by decide +kernel
theorem dL_543 : decode code 543 = .ok (.iaload, 1) := by decide +kernel
theorem dL_544 : decode code 544 = .ok (.invokevirtual 57, 3) := by decide +kernel
theorem dL_547 : decode code 547 = .ok (.if_icmp .eq 942, 3) := by decide +kernel
theorem dL_550 : decode code 550 = .ok (.iconst 0, 1) := by decide +kernel
theorem dL_551 : decode code 551 = .ok (.ireturn, 1) := by decide +kernel
theorem dL_552 : decode code 552 = .ok (.aload_n 1, 1) := by decide +kernel
theorem dL_553 : decode code 553 = .ok (.aload_n 0, 1) := by decide +kernel
theorem dL_554 : decode code 554 = .ok (.iload_n 3, 1) := by decide +kernel
theorem dL_555 : decode code 555 = .ok (.iconst 1, 1) := by decide +kernel
theorem dL_556 : decode code 556 = .ok (.iadd, 1) := by decide +kernel
theorem dL_557 : decode code 557 = .ok (.iaload, 1) := by decide +kernel
theorem dL_558 : decode code 558 = .ok (.aload_n 0, 1) := by decide +kernel
theorem dL_559 : decode code 559 = .ok (.iload_n 3, 1) := by decide +kernel
theorem dL_560 : decode code 560 = .ok (.iconst 2, 1) := by decide +kernel
theorem dL_561 : decode code 561 = .ok (.iadd, 1) := by decide +kernel
theorem dL_562 : decode code 562 = .ok (.iaload, 1) := by decide +kernel
theorem dL_563 : decode code 563 = .ok (.invokevirtual 58, 3) := by decide +kernel
theorem dL_566 : decode code 566 = .ok (.aload_n 2, 1) := by decide +kernel
theorem dL_567 : decode code 567 = .ok (.aload_n 0, 1) := by decide +kernel
theorem dL_568 : decode code 568 = .ok (.iload_n 3, 1) := by decide +kernel
theorem dL_569 : decode code 569 = .ok (.iconst 1, 1) := by decide +kernel
theorem dL_570 : decode code 570 = .ok (.iadd, 1) := by decide +kernel
theorem dL_571 : decode code 571 = .ok (.iaload, 1) := by decide +kernel
theorem dL_572 : decode code 572 = .ok (.aload_n 0, 1) := by decide +kernel
theorem dL_573 : decode code 573 = .ok (.iload_n 3, 1) := by decide +kernel
theorem dL_574 : decode code 574 = .ok (.iconst 2, 1) := by decide +kernel
theorem dL_575 : decode code 575 = .ok (.iadd, 1) := by decide +kernel
theorem dL_576 : decode code 576 = .ok (.iaload, 1) := by decide +kernel
theorem dL_577 : decode code 577 = .ok (.invokevirtual 61, 3) := by decide +kernel
theorem dL_580 : decode code 580 = .ok (.if_icmp .eq 909, 3) := by decide +kernel
theorem dL_583 : decode code 583 = .ok (.iconst 0, 1) := by decide +kernel
theorem dL_584 : decode code 584 = .ok (.ireturn, 1) := by decide +kernel
theorem dL_585 : decode code 585 = .ok (.aload_n 1, 1) := by decide +kernel
theorem dL_586 : decode code 586 = .ok (.aload_n 0, 1) := by decide +kernel
theorem dL_587 : decode code 587 = .ok (.iload_n 3, 1) := by decide +kernel
theorem dL_588 : decode code 588 = .ok (.iconst 1, 1) := by decide +kernel
theorem dL_589 : decode code 589 = .ok (.iadd, 1) := by decide +kernel
theorem dL_590 : decode code 590 = .ok (.iaload, 1) := by decide +kernel
theorem dL_591 : decode code 591 = .ok (.aload_n 0, 1) := by decide +kernel
theorem dL_592 : decode code 592 = .ok (.iload_n 3, 1) := by decide +kernel
theorem dL_593 : decode code 593 = .ok (.iconst 2, 1) := by decide +kernel
theorem dL_594 : decode code 594 = .ok (.iadd, 1) := by decide +kernel
theorem dL_595 : decode code 595 = .ok (.iaload, 1) := by decide +kernel
theorem dL_596 : decode code 596 = .ok (.invokevirtual 62, 3) := by decide +kernel
theorem dL_599 : decode code 599 = .ok (.aload_n 2, 1) := by decide +kernel
theorem dL_600 : decode code 600 = .ok (.aload_n 0, 1) := by decide +kernel
theorem dL_601 : decode code 601 = .ok (.iload_n 3, 1) := by decide +kernel
theorem dL_602 : decode code 602 = .ok (.iconst 1, 1) := by decide +kernel
theorem dL_603 : decode code 603 = .ok (.iadd, 1) := by decide +kernel
theorem dL_604 : decode code 604 = .ok (.iaload, 1) := by decide +kernel
theorem dL_605 : decode code 605 = .ok (.aload_n 0, 1) := by decide +kernel
theorem dL_606 : decode code 606 = .ok (.iload_n 3, 1) := by decide +kernel
theorem dL_607 : decode code 607 = .ok (.iconst 2, 1) := by decide +kernel
theorem dL_608 : decode code 608 = .ok (.iadd, 1) := by decide +kernel
theorem dL_609 : decode code 609 = .ok (.iaload, 1) := by decide +kernel
theorem dL_610 : decode code 610 = .ok (.invokevirtual 65, 3) := by decide +kernel
theorem dL_613 : decode code 613 = .ok (.if_icmp .eq 876, 3) := by decide +kernel
theorem dL_616 : decode code 616 = .ok (.iconst 0, 1) := by decide +kernel
theorem dL_617 : decode code 617 = .ok (.ireturn, 1) := by decide +kernel
theorem dL_618 : decode code 618 = .ok (.aload_n 1, 1) := by decide +kernel
theorem dL_619 : decode code 619 = .ok (.aload_n 0, 1) := by decide +kernel
theorem dL_620 : decode code 620 = .ok (.iload_n 3, 1) := by decide +kernel
theorem dL_621 : decode code 621 = .ok (.iconst 1, 1) := by decide +kernel
theorem dL_622 : decode code 622 = .ok (.iadd, 1) := by decide +kernel
theorem dL_623 : decode code 623 = .ok (.iaload, 1) := by decide +kernel
theorem dL_624 : decode code 624 = .ok (.invokevirtual 66, 3) := by decide +kernel
theorem dL_627 : decode code 627 = .ok (.aload_n 2, 1) := by decide +kernel
theorem dL_628 : decode code 628 = .ok (.aload_n 0, 1) := by decide +kernel
theorem dL_629 : decode code 629 = .ok (.iload_n 3, 1) := by decide +kernel
theorem dL_630 : decode code 630 = .ok (.iconst 1, 1) := by decide +kernel
theorem dL_631 : decode code 631 = .ok (.iadd, 1) := by decide +kernel
theorem dL_632 : decode code 632 = .ok (.iaload, 1) := by decide +kernel
theorem dL_633 : decode code 633 = .ok (.invokevirtual 69, 3) := by decide +kernel
theorem dL_636 : decode code 636 = .ok (.if_icmp .eq 853, 3) := by decide +kernel
theorem dL_639 : decode code 639 = .ok (.iconst 0, 1) := by decide +kernel
theorem dL_640 : decode code 640 = .ok (.ireturn, 1) := by decide +kernel
theorem dL_641 : decode code 641 = .ok (.aload_n 1, 1) := by decide +kernel
theorem dL_642 : decode code 642 = .ok (.invokevirtual 70, 3) := by decide +kernel
theorem dL_645 : decode code 645 = .ok (.aload_n 2, 1) := by decide +kernel
theorem dL_646 : decode code 646 = .ok (.invokevirtual 73, 3) := by decide +kernel
theorem dL_649 : decode code 649 = .ok (.if_icmp .eq 840, 3) := by decide +kernel
theorem dL_652 : decode code 652 = .ok (.iconst 0, 1) := by decide +kernel
theorem dL_653 : decode code 653 = .ok (.ireturn, 1) := by decide +kernel
theorem dL_654 : decode code 654 = .ok (.aload_n 1, 1) := by decide +kernel
theorem dL_655 : decode code 655 = .ok (.aload_n 0, 1) := by decide +kernel
theorem dL_656 : decode code 656 = .ok (.iload_n 3, 1) := by decide +kernel
theorem dL_657 : decode code 657 = .ok (.iconst 1, 1) := by decide +kernel
theorem dL_658 : decode code 658 = .ok (.iadd, 1) := by decide +kernel
theorem dL_659 : decode code 659 = .ok (.iaload, 1) := by decide +kernel
theorem dL_660 : decode code 660 = .ok (.aload_n 0, 1) := by decide +kernel
theorem dL_661 : decode code 661 = .ok (.iload_n 3, 1) := by decide +kernel
theorem dL_662 : decode code 662 = .ok (.iconst 2, 1) := by decide +kernel
theorem dL_663 : decode code 663 = .ok (.iadd, 1) := by decide +kernel
theorem dL_664 : decode code 664 = .ok (.iaload, 1) := by decide +kernel
theorem dL_665 : decode code 665 = .ok (.invokevirtual 74, 3) := by decide +kernel
theorem dL_668 : decode code 668 = .ok (.aload_n 2, 1) := by decide +kernel
theorem dL_669 : decode code 669 = .ok (.aload_n 0, 1) := by decide +kernel
theorem dL_670 : decode code 670 = .ok (.iload_n 3, 1) := by decide +kernel
theorem dL_671 : decode code 671 = .ok (.iconst 1, 1) := by decide +kernel
theorem dL_672 : decode code 672 = .ok (.iadd, 1) := by decide +kernel
theorem dL_673 : decode code 673 = .ok (.iaload, 1) := by decide +kernel
theorem dL_674 : decode code 674 = .ok (.aload_n 0, 1) := by decide +kernel
theorem dL_675 : decode code 675 = .ok (.iload_n 3, 1) := by decide +kernel
theorem dL_676 : decode code 676 = .ok (.iconst 2, 1) := by decide +kernel
theorem dL_677 : decode code 677 = .ok (.iadd, 1) := by decide +kernel
theorem dL_678 : decode code 678 = .ok (.iaload, 1) := by decide +kernel
theorem dL_679 : decode code 679 = .ok (.invokevirtual 77, 3) := by decide +kernel
theorem dL_682 : decode code 682 = .ok (.if_icmp .eq 807, 3) := by decide +kernel
theorem dL_685 : decode code 685 = .ok (.iconst 0, 1) := by decide +kernel
theorem dL_686 : decode code 686 = .ok (.ireturn, 1) := by decide +kernel
theorem dL_687 : decode code 687 = .ok (.aload_n 1, 1) := by decide +kernel
theorem dL_688 : decode code 688 = .ok (.aload_n 0, 1) := by decide +kernel
theorem dL_689 : decode code 689 = .ok (.iload_n 3, 1) := by decide +kernel
theorem dL_690 : decode code 690 = .ok (.iconst 1, 1) := by decide +kernel
theorem dL_691 : decode code 691 = .ok (.iadd, 1) := by decide +kernel
theorem dL_692 : decode code 692 = .ok (.iaload, 1) := by decide +kernel
theorem dL_693 : decode code 693 = .ok (.invokevirtual 78, 3) := by decide +kernel
theorem dL_696 : decode code 696 = .ok (.aload_n 2, 1) := by decide +kernel
theorem dL_697 : decode code 697 = .ok (.aload_n 0, 1) := by decide +kernel
theorem dL_698 : decode code 698 = .ok (.iload_n 3, 1) := by decide +kernel
theorem dL_699 : decode code 699 = .ok (.iconst 1, 1) := by decide +kernel
theorem dL_700 : decode code 700 = .ok (.iadd, 1) := by decide +kernel
theorem dL_701 : decode code 701 = .ok (.iaload, 1) := by decide +kernel
theorem dL_702 : decode code 702 = .ok (.invokevirtual 81, 3) := by decide +kernel
theorem dL_705 : decode code 705 = .ok (.if_icmp .eq 784, 3) := by decide +kernel
theorem dL_708 : decode code 708 = .ok (.iconst 0, 1) := by decide +kernel
theorem dL_709 : decode code 709 = .ok (.ireturn, 1) := by decide +kernel
theorem dL_710 : decode code 710 = .ok (.aload_n 1, 1) := by decide +kernel
theorem dL_711 : decode code 711 = .ok (.aload_n 0, 1) := by decide +kernel
theorem dL_712 : decode code 712 = .ok (.iload_n 3, 1) := by decide +kernel
theorem dL_713 : decode code 713 = .ok (.iconst 1, 1) := by decide +kernel
theorem dL_714 : decode code 714 = .ok (.iadd, 1) := by decide +kernel
theorem dL_715 : decode code 715 = .ok (.iaload, 1) := by decide +kernel
theorem dL_716 : decode code 716 = .ok (.aload_n 0, 1) := by decide +kernel
theorem dL_717 : decode code 717 = .ok (.iload_n 3, 1) := by decide +kernel
theorem dL_718 : decode code 718 = .ok (.iconst 2, 1) := by decide +kernel
theorem dL_719 : decode code 719 = .ok (.iadd, 1) := by decide +kernel
theorem dL_720 : decode code 720 = .ok (.iaload, 1) := by decide +kernel
theorem dL_721 : decode code 721 = .ok (.invokevirtual 82, 3) := by decide +kernel
theorem dL_724 : decode code 724 = .ok (.aload_n 2, 1) := by decide +kernel
theorem dL_725 : decode code 725 = .ok (.aload_n 0, 1) := by decide +kernel
theorem dL_726 : decode code 726 = .ok (.iload_n 3, 1) := by decide +kernel
theorem dL_727 : decode code 727 = .ok (.iconst 1, 1) := by decide +kernel
theorem dL_728 : decode code 728 = .ok (.iadd, 1) := by decide +kernel
theorem dL_729 : decode code 729 = .ok (.iaload, 1) := by decide +kernel
theorem dL_730 : decode code 730 = .ok (.aload_n 0, 1) := by decide +kernel
theorem dL_731 : decode code 731 = .ok (.iload_n 3, 1) := by decide +kernel
theorem dL_732 : decode code 732 = .ok (.iconst 2, 1) := by decide +kernel
theorem dL_733 : decode code 733 = .ok (.iadd, 1) := by decide +kernel
theorem dL_734 : decode code 734 = .ok (.iaload, 1) := by decide +kernel
theorem dL_735 : decode code 735 = .ok (.invokevirtual 85, 3) := by decide +kernel
theorem dL_738 : decode code 738 = .ok (.if_icmp .eq 751, 3) := by decide +kernel
theorem dL_741 : decode code 741 = .ok (.iconst 0, 1) := by decide +kernel
theorem dL_742 : decode code 742 = .ok (.ireturn, 1) := by decide +kernel
theorem dL_743 : decode code 743 = .ok (.aload_n 1, 1) := by decide +kernel
theorem dL_744 : decode code 744 = .ok (.aload_n 0, 1) := by decide +kernel
theorem dL_745 : decode code 745 = .ok (.iload_n 3, 1) := by decide +kernel
theorem dL_746 : decode code 746 = .ok (.iconst 1, 1) := by decide +kernel
theorem dL_747 : decode code 747 = .ok (.iadd, 1) := by decide +kernel
theorem dL_748 : decode code 748 = .ok (.iaload, 1) := by decide +kernel
theorem dL_749 : decode code 749 = .ok (.invokevirtual 86, 3) := by decide +kernel
theorem dL_752 : decode code 752 = .ok (.aload_n 2, 1) := by decide +kernel
theorem dL_753 : decode code 753 = .ok (.aload_n 0, 1) := by decide +kernel
theorem dL_754 : decode code 754 = .ok (.iload_n 3, 1) := by decide +kernel
theorem dL_755 : decode code 755 = .ok (.iconst 1, 1) := by decide +kernel
theorem dL_756 : decode code 756 = .ok (.iadd, 1) := by decide +kernel
theorem dL_757 : decode code 757 = .ok (.iaload, 1) := by decide +kernel
theorem dL_758 : decode code 758 = .ok (.invokevirtual 89, 3) := by decide +kernel
theorem dL_761 : decode code 761 = .ok (.if_icmp .eq 728, 3) := by decide +kernel
theorem dL_764 : decode code 764 = .ok (.iconst 0, 1) := by decide +kernel
theorem dL_765 : decode code 765 = .ok (.ireturn, 1) := by decide +kernel
theorem dL_766 : decode code 766 = .ok (.aload_n 1, 1) := by decide +kernel
theorem dL_767 : decode code 767 = .ok (.aload_n 0, 1) := by decide +kernel
theorem dL_768 : decode code 768 = .ok (.iload_n 3, 1) := by decide +kernel
theorem dL_769 : decode code 769 = .ok (.iconst 1, 1) := by decide +kernel
theorem dL_770 : decode code 770 = .ok (.iadd, 1) := by decide +kernel
theorem dL_771 : decode code 771 = .ok (.iaload, 1) := by decide +kernel
theorem dL_772 : decode code 772 = .ok (.invokevirtual 90, 3) := by decide +kernel
theorem dL_775 : decode code 775 = .ok (.aload_n 2, 1) := by decide +kernel
theorem dL_776 : decode code 776 = .ok (.aload_n 0, 1) := by decide +kernel
theorem dL_777 : decode code 777 = .ok (.iload_n 3, 1) := by decide +kernel
theorem dL_778 : decode code 778 = .ok (.iconst 1, 1) := by decide +kernel
theorem dL_779 : decode code 779 = .ok (.iadd, 1) := by decide +kernel
theorem dL_780 : decode code 780 = .ok (.iaload, 1) := by decide +kernel
theorem dL_781 : decode code 781 = .ok (.invokevirtual 93, 3) := by decide +kernel
theorem dL_784 : decode code 784 = .ok (.if_icmp .eq 705, 3) := by decide +kernel
theorem dL_787 : decode code 787 = .ok (.iconst 0, 1) := by decide +kernel
theorem dL_788 : decode code 788 = .ok (.ireturn, 1) := by decide +kernel
theorem dL_789 : decode code 789 = .ok (.aload_n 1, 1) := by decide +kernel
theorem dL_790 : decode code 790 = .ok (.aload_n 0, 1) := by decide +kernel
theorem dL_791 : decode code 791 = .ok (.iload_n 3, 1) := by decide +kernel
theorem dL_792 : decode code 792 = .ok (.iconst 1, 1) := by decide +kernel
theorem dL_793 : decode code 793 = .ok (.iadd, 1) := by decide +kernel
theorem dL_794 : decode code 794 = .ok (.iaload, 1) := by decide +kernel
theorem dL_795 : decode code 795 = .ok (.invokevirtual 94, 3) := by decide +kernel
theorem dL_798 : decode code 798 = .ok (.aload_n 2, 1) := by decide +kernel
theorem dL_799 : decode code 799 = .ok (.aload_n 0, 1) := by decide +kernel
theorem dL_800 : decode code 800 = .ok (.iload_n 3, 1) := by decide +kernel
theorem dL_801 : decode code 801 = .ok (.iconst 1, 1) := by decide +kernel
theorem dL_802 : decode code 802 = .ok (.iadd, 1) := by decide +kernel
theorem dL_803 : decode code 803 = .ok (.iaload, 1) := by decide +kernel
theorem dL_804 : decode code 804 = .ok (.invokevirtual 97, 3) := by decide +kernel
theorem dL_807 : decode code 807 = .ok (.if_icmp .eq 682, 3) := by decide +kernel
theorem dL_810 : decode code 810 = .ok (.iconst 0, 1) := by decide +kernel
theorem dL_811 : decode code 811 = .ok (.ireturn, 1) := by decide +kernel
theorem dL_812 : decode code 812 = .ok (.aload_n 1, 1) := by decide +kernel
theorem dL_813 : decode code 813 = .ok (.aload_n 0, 1) := by decide +kernel
theorem dL_814 : decode code 814 = .ok (.iload_n 3, 1) := by decide +kernel
theorem dL_815 : decode code 815 = .ok (.iconst 1, 1) := by decide +kernel
theorem dL_816 : decode code 816 = .ok (.iadd, 1) := by decide +kernel
theorem dL_817 : decode code 817 = .ok (.iaload, 1) := by decide +kernel
theorem dL_818 : decode code 818 = .ok (.aload_n 0, 1) := by decide +kernel
theorem dL_819 : decode code 819 = .ok (.iload_n 3, 1) := by decide +kernel
theorem dL_820 : decode code 820 = .ok (.iconst 2, 1) := by decide +kernel
theorem dL_821 : decode code 821 = .ok (.iadd, 1) := by decide +kernel
theorem dL_822 : decode code 822 = .ok (.iaload, 1) := by decide +kernel
theorem dL_823 : decode code 823 = .ok (.aload_n 0, 1) := by decide +kernel
theorem dL_824 : decode code 824 = .ok (.iload_n 3, 1) := by decide +kernel
theorem dL_825 : decode code 825 = .ok (.iconst 3, 1) := by decide +kernel
theorem dL_826 : decode code 826 = .ok (.iadd, 1) := by decide +kernel
theorem dL_827 : decode code 827 = .ok (.iaload, 1) := by decide +kernel
theorem dL_828 : decode code 828 = .ok (.invokevirtual 98, 3) := by decide +kernel
theorem dL_831 : decode code 831 = .ok (.aload_n 2, 1) := by decide +kernel
theorem dL_832 : decode code 832 = .ok (.aload_n 0, 1) := by decide +kernel
theorem dL_833 : decode code 833 = .ok (.iload_n 3, 1) := by decide +kernel
theorem dL_834 : decode code 834 = .ok (.iconst 1, 1) := by decide +kernel
theorem dL_835 : decode code 835 = .ok (.iadd, 1) := by decide +kernel
theorem dL_836 : decode code 836 = .ok (.iaload, 1) := by decide +kernel
theorem dL_837 : decode code 837 = .ok (.aload_n 0, 1) := by decide +kernel
theorem dL_838 : decode code 838 = .ok (.iload_n 3, 1) := by decide +kernel
theorem dL_839 : decode code 839 = .ok (.iconst 2, 1) := by decide +kernel
theorem dL_840 : decode code 840 = .ok (.iadd, 1) := by decide +kernel
theorem dL_841 : decode code 841 = .ok (.iaload, 1) := by decide +kernel
theorem dL_842 : decode code 842 = .ok (.aload_n 0, 1) := by decide +kernel
theorem dL_843 : decode code 843 = .ok (.iload_n 3, 1) := by decide +kernel
theorem dL_844 : decode code 844 = .ok (.iconst 3, 1) := by decide +kernel
theorem dL_845 : decode code 845 = .ok (.iadd, 1) := by decide +kernel
theorem dL_846 : decode code 846 = .ok (.iaload, 1) := by decide +kernel
theorem dL_847 : decode code 847 = .ok (.invokevirtual 101, 3) := by decide +kernel
theorem dL_850 : decode code 850 = .ok (.if_icmp .eq 639, 3) := by decide +kernel
theorem dL_853 : decode code 853 = .ok (.iconst 0, 1) := by decide +kernel
theorem dL_854 : decode code 854 = .ok (.ireturn, 1) := by decide +kernel
theorem dL_855 : decode code 855 = .ok (.aload_n 1, 1) := by decide +kernel
theorem dL_856 : decode code 856 = .ok (.aload_n 0, 1) := by decide +kernel
theorem dL_857 : decode code 857 = .ok (.iload_n 3, 1) := by decide +kernel
theorem dL_858 : decode code 858 = .ok (.iconst 1, 1) := by decide +kernel
theorem dL_859 : decode code 859 = .ok (.iadd, 1) := by decide +kernel
theorem dL_860 : decode code 860 = .ok (.iaload, 1) := by decide +kernel
theorem dL_861 : decode code 861 = .ok (.aload_n 0, 1) := by decide +kernel
theorem dL_862 : decode code 862 = .ok (.iload_n 3, 1) := by decide +kernel
theorem dL_863 : decode code 863 = .ok (.iconst 2, 1) := by decide +kernel
theorem dL_864 : decode code 864 = .ok (.iadd, 1) := by decide +kernel
theorem dL_865 : decode code 865 = .ok (.iaload, 1) := by decide +kernel
theorem dL_866 : decode code 866 = .ok (.aload_n 0, 1) := by decide +kernel
theorem dL_867 : decode code 867 = .ok (.iload_n 3, 1) := by decide +kernel
theorem dL_868 : decode code 868 = .ok (.iconst 3, 1) := by decide +kernel
theorem dL_869 : decode code 869 = .ok (.iadd, 1) := by decide +kernel
theorem dL_870 : decode code 870 = .ok (.iaload, 1) := by decide +kernel
theorem dL_871 : decode code 871 = .ok (.aload_n 0, 1) := by decide +kernel
theorem dL_872 : decode code 872 = .ok (.iload_n 3, 1) := by decide +kernel
theorem dL_873 : decode code 873 = .ok (.iconst 4, 1) := by decide +kernel
theorem dL_874 : decode code 874 = .ok (.iadd, 1) := by decide +kernel
theorem dL_875 : decode code 875 = .ok (.iaload, 1) := by decide +kernel
theorem dL_876 : decode code 876 = .ok (.invokevirtual 102, 3) := by decide +kernel
theorem dL_879 : decode code 879 = .ok (.aload_n 2, 1) := by decide +kernel
theorem dL_880 : decode code 880 = .ok (.aload_n 0, 1) := by decide +kernel
theorem dL_881 : decode code 881 = .ok (.iload_n 3, 1) := by decide +kernel
theorem dL_882 : decode code 882 = .ok (.iconst 1, 1) := by decide +kernel
theorem dL_883 : decode code 883 = .ok (.iadd, 1) := by decide +kernel
theorem dL_884 : decode code 884 = .ok (.iaload, 1) := by decide +kernel
theorem dL_885 : decode code 885 = .ok (.aload_n 0, 1) := by decide +kernel
theorem dL_886 : decode code 886 = .ok (.iload_n 3, 1) := by decide +kernel
theorem dL_887 : decode code 887 = .ok (.iconst 2, 1) := by decide +kernel
theorem dL_888 : decode code 888 = .ok (.iadd, 1) := by decide +kernel
theorem dL_889 : decode code 889 = .ok (.iaload, 1) := by decide +kernel
theorem dL_890 : decode code 890 = .ok (.aload_n 0, 1) := by decide +kernel
theorem dL_891 : decode code 891 = .ok (.iload_n 3, 1) := by decide +kernel
theorem dL_892 : decode code 892 = .ok (.iconst 3, 1) := by decide +kernel
theorem dL_893 : decode code 893 = .ok (.iadd, 1) := by decide +kernel
theorem dL_894 : decode code 894 = .ok (.iaload, 1) := by decide +kernel
theorem dL_895 : decode code 895 = .ok (.aload_n 0, 1) := by decide +kernel
theorem dL_896 : decode code 896 = .ok (.iload_n 3, 1) := by decide +kernel
theorem dL_897 : decode code 897 = .ok (.iconst 4, 1) := by decide +kernel
theorem dL_898 : decode code 898 = .ok (.iadd, 1) := by decide +kernel
theorem dL_899 : decode code 899 = .ok (.iaload, 1) := by decide +kernel
theorem dL_900 : decode code 900 = .ok (.invokevirtual 106, 3) := by decide +kernel
theorem dL_903 : decode code 903 = .ok (.lcmp, 1) := by decide +kernel
theorem dL_904 : decode code 904 = .ok (.ifCond .eq 585, 3) := by decide +kernel
theorem dL_907 : decode code 907 = .ok (.iconst 0, 1) := by decide +kernel
theorem dL_908 : decode code 908 = .ok (.ireturn, 1) := by decide +kernel
theorem dL_909 : decode code 909 = .ok (.aload_n 1, 1) := by decide +kernel
theorem dL_910 : decode code 910 = .ok (.aload_n 0, 1) := by decide +kernel
theorem dL_911 : decode code 911 = .ok (.iload_n 3, 1) := by decide +kernel
theorem dL_912 : decode code 912 = .ok (.iconst 1, 1) := by decide +kernel
theorem dL_913 : decode code 913 = .ok (.iadd, 1) := by decide +kernel
theorem dL_914 : decode code 914 = .ok (.iaload, 1) := by decide +kernel
theorem dL_915 : decode code 915 = .ok (.aload_n 0, 1) := by decide +kernel
theorem dL_916 : decode code 916 = .ok (.iload_n 3, 1) := by decide +kernel
theorem dL_917 : decode code 917 = .ok (.iconst 2, 1) := by decide +kernel
theorem dL_918 : decode code 918 = .ok (.iadd, 1) := by decide +kernel
theorem dL_919 : decode code 919 = .ok (.iaload, 1) := by decide +kernel
theorem dL_920 : decode code 920 = .ok (.invokevirtual 107, 3) := by decide +kernel
theorem dL_923 : decode code 923 = .ok (.aload_n 2, 1) := by decide +kernel
theorem dL_924 : decode code 924 = .ok (.aload_n 0, 1) := by decide +kernel
theorem dL_925 : decode code 925 = .ok (.iload_n 3, 1) := by decide +kernel
theorem dL_926 : decode code 926 = .ok (.iconst 1, 1) := by decide +kernel
theorem dL_927 : decode code 927 = .ok (.iadd, 1) := by decide +kernel
theorem dL_928 : decode code 928 = .ok (.iaload, 1) := by decide +kernel
theorem dL_929 : decode code 929 = .ok (.aload_n 0, 1) := by decide +kernel
theorem dL_930 : decode code 930 = .ok (.iload_n 3, 1) := by decide +kernel
theorem dL_931 : decode code 931 = .ok (.iconst 2, 1) := by decide +kernel
theorem dL_932 : decode code 932 = .ok (.iadd, 1) := by decide +kernel
theorem dL_933 : decode code 933 = .ok (.iaload, 1) := by decide +kernel
theorem dL_934 : decode code 934 = .ok (.invokevirtual 111, 3) := by decide +kernel
theorem dL_937 : decode code 937 = .ok (.lcmp, 1) := by decide +kernel
theorem dL_938 : decode code 938 = .ok (.ifCond .eq 551, 3) := by decide +kernel
theorem dL_941 : decode code 941 = .ok (.iconst 0, 1) := by decide +kernel
theorem dL_942 : decode code 942 = .ok (.ireturn, 1) := by decide +kernel
theorem dL_943 : decode code 943 = .ok (.aload_n 1, 1) := by decide +kernel
theorem dL_944 : decode code 944 = .ok (.aload_n 0, 1) := by decide +kernel
theorem dL_945 : decode code 945 = .ok (.iload_n 3, 1) := by decide +kernel
theorem dL_946 : decode code 946 = .ok (.iconst 1, 1) := by decide +kernel
theorem dL_947 : decode code 947 = .ok (.iadd, 1) := by decide +kernel
theorem dL_948 : decode code 948 = .ok (.iaload, 1) := by decide +kernel
theorem dL_949 : decode code 949 = .ok (.invokevirtual 112, 3) := by decide +kernel
theorem dL_952 : decode code 952 = .ok (.aload_n 2, 1) := by decide +kernel
theorem dL_953 : decode code 953 = .ok (.aload_n 0, 1) := by decide +kernel
theorem dL_954 : decode code 954 = .ok (.iload_n 3, 1) := by decide +kernel
theorem dL_955 : decode code 955 = .ok (.iconst 1, 1) := by decide +kernel
theorem dL_956 : decode code 956 = .ok (.iadd, 1) := by decide +kernel
theorem dL_957 : decode code 957 = .ok (.iaload, 1) := by decide +kernel
theorem dL_958 : decode code 958 = .ok (.invokevirtual 115, 3) := by decide +kernel
theorem dL_961 : decode code 961 = .ok (.if_icmp .eq 528, 3) := by decide +kernel
theorem dL_964 : decode code 964 = .ok (.iconst 0, 1) := by decide +kernel
theorem dL_965 : decode code 965 = .ok (.ireturn, 1) := by decide +kernel
theorem dL_966 : decode code 966 = .ok (.aload_n 1, 1) := by decide +kernel
theorem dL_967 : decode code 967 = .ok (.aload_n 0, 1) := by decide +kernel
theorem dL_968 : decode code 968 = .ok (.iload_n 3, 1) := by decide +kernel
theorem dL_969 : decode code 969 = .ok (.iconst 1, 1) := by decide +kernel
theorem dL_970 : decode code 970 = .ok (.iadd, 1) := by decide +kernel
theorem dL_971 : decode code 971 = .ok (.iaload, 1) := by decide +kernel
theorem dL_972 : decode code 972 = .ok (.aload_n 0, 1) := by decide +kernel
theorem dL_973 : decode code 973 = .ok (.iload_n 3, 1) := by decide +kernel
theorem dL_974 : decode code 974 = .ok (.iconst 2, 1) := by decide +kernel
theorem dL_975 : decode code 975 = .ok (.iadd, 1) := by decide +kernel
theorem dL_976 : decode code 976 = .ok (.iaload, 1) := by decide +kernel
theorem dL_977 : decode code 977 = .ok (.aload_n 0, 1) := by decide +kernel
theorem dL_978 : decode code 978 = .ok (.iload_n 3, 1) := by decide +kernel
theorem dL_979 : decode code 979 = .ok (.iconst 3, 1) := by decide +kernel
theorem dL_980 : decode code 980 = .ok (.iadd, 1) := by decide +kernel
theorem dL_981 : decode code 981 = .ok (.iaload, 1) := by decide +kernel
theorem dL_982 : decode code 982 = .ok (.invokevirtual 116, 3) := by decide +kernel
theorem dL_985 : decode code 985 = .ok (.aload_n 2, 1) := by decide +kernel
theorem dL_986 : decode code 986 = .ok (.aload_n 0, 1) := by decide +kernel
theorem dL_987 : decode code 987 = .ok (.iload_n 3, 1) := by decide +kernel
theorem dL_988 : decode code 988 = .ok (.iconst 1, 1) := by decide +kernel
theorem dL_989 : decode code 989 = .ok (.iadd, 1) := by decide +kernel
theorem dL_990 : decode code 990 = .ok (.iaload, 1) := by decide +kernel
theorem dL_991 : decode code 991 = .ok (.aload_n 0, 1) := by decide +kernel
theorem dL_992 : decode code 992 = .ok (.iload_n 3, 1) := by decide +kernel
theorem dL_993 : decode code 993 = .ok (.iconst 2, 1) := by decide +kernel
theorem dL_994 : decode code 994 = .ok (.iadd, 1) := by decide +kernel
theorem dL_995 : decode code 995 = .ok (.iaload, 1) := by decide +kernel
theorem dL_996 : decode code 996 = .ok (.aload_n 0, 1) := by decide +kernel
theorem dL_997 : decode code 997 = .ok (.iload_n 3, 1) := by decide +kernel
theorem dL_998 : decode code 998 = .ok (.iconst 3, 1) := by decide +kernel
theorem dL_999 : decode code 999 = .ok (.iadd, 1) := by decide +kernel
theorem dL_1000 : decode code 1000 = .ok (.iaload, 1) := by decide +kernel
theorem dL_1001 : decode code 1001 = .ok (.invokevirtual 119, 3) := by decide +kernel
theorem dL_1004 : decode code 1004 = .ok (.if_icmp .eq 485, 3) := by decide +kernel
theorem dL_1007 : decode code 1007 = .ok (.iconst 0, 1) := by decide +kernel
theorem dL_1008 : decode code 1008 = .ok (.ireturn, 1) := by decide +kernel
theorem dL_1009 : decode code 1009 = .ok (.aload_n 1, 1) := by decide +kernel
theorem dL_1010 : decode code 1010 = .ok (.aload_n 0, 1) := by decide +kernel
theorem dL_1011 : decode code 1011 = .ok (.iload_n 3, 1) := by decide +kernel
theorem dL_1012 : decode code 1012 = .ok (.iconst 1, 1) := by decide +kernel
theorem dL_1013 : decode code 1013 = .ok (.iadd, 1) := by decide +kernel
theorem dL_1014 : decode code 1014 = .ok (.iaload, 1) := by decide +kernel
theorem dL_1015 : decode code 1015 = .ok (.aload_n 0, 1) := by decide +kernel
theorem dL_1016 : decode code 1016 = .ok (.iload_n 3, 1) := by decide +kernel
theorem dL_1017 : decode code 1017 = .ok (.iconst 2, 1) := by decide +kernel
theorem dL_1018 : decode code 1018 = .ok (.iadd, 1) := by decide +kernel
theorem dL_1019 : decode code 1019 = .ok (.iaload, 1) := by decide +kernel
theorem dL_1020 : decode code 1020 = .ok (.aload_n 0, 1) := by decide +kernel
theorem dL_1021 : decode code 1021 = .ok (.iload_n 3, 1) := by decide +kernel
theorem dL_1022 : decode code 1022 = .ok (.iconst 3, 1) := by decide +kernel
theorem dL_1023 : decode code 1023 = .ok (.iadd, 1) := by decide +kernel
theorem dL_1024 : decode code 1024 = .ok (.iaload, 1) := by decide +kernel
theorem dL_1025 : decode code 1025 = .ok (.invokevirtual 120, 3) := by decide +kernel
theorem dL_1028 : decode code 1028 = .ok (.aload_n 2, 1) := by decide +kernel
theorem dL_1029 : decode code 1029 = .ok (.aload_n 0, 1) := by decide +kernel
theorem dL_1030 : decode code 1030 = .ok (.iload_n 3, 1) := by decide +kernel
theorem dL_1031 : decode code 1031 = .ok (.iconst 1, 1) := by decide +kernel
theorem dL_1032 : decode code 1032 = .ok (.iadd, 1) := by decide +kernel
theorem dL_1033 : decode code 1033 = .ok (.iaload, 1) := by decide +kernel
theorem dL_1034 : decode code 1034 = .ok (.aload_n 0, 1) := by decide +kernel
theorem dL_1035 : decode code 1035 = .ok (.iload_n 3, 1) := by decide +kernel
theorem dL_1036 : decode code 1036 = .ok (.iconst 2, 1) := by decide +kernel
theorem dL_1037 : decode code 1037 = .ok (.iadd, 1) := by decide +kernel
theorem dL_1038 : decode code 1038 = .ok (.iaload, 1) := by decide +kernel
theorem dL_1039 : decode code 1039 = .ok (.aload_n 0, 1) := by decide +kernel
theorem dL_1040 : decode code 1040 = .ok (.iload_n 3, 1) := by decide +kernel
theorem dL_1041 : decode code 1041 = .ok (.iconst 3, 1) := by decide +kernel
theorem dL_1042 : decode code 1042 = .ok (.iadd, 1) := by decide +kernel
theorem dL_1043 : decode code 1043 = .ok (.iaload, 1) := by decide +kernel
theorem dL_1044 : decode code 1044 = .ok (.invokevirtual 123, 3) := by decide +kernel
theorem dL_1047 : decode code 1047 = .ok (.if_icmp .eq 442, 3) := by decide +kernel
theorem dL_1050 : decode code 1050 = .ok (.iconst 0, 1) := by decide +kernel
theorem dL_1051 : decode code 1051 = .ok (.ireturn, 1) := by decide +kernel
theorem dL_1052 : decode code 1052 = .ok (.aload_n 1, 1) := by decide +kernel
theorem dL_1053 : decode code 1053 = .ok (.aload_n 0, 1) := by decide +kernel
theorem dL_1054 : decode code 1054 = .ok (.iload_n 3, 1) := by decide +kernel
theorem dL_1055 : decode code 1055 = .ok (.iconst 1, 1) := by decide +kernel
theorem dL_1056 : decode code 1056 = .ok (.iadd, 1) := by decide +kernel
theorem dL_1057 : decode code 1057 = .ok (.iaload, 1) := by decide +kernel
theorem dL_1058 : decode code 1058 = .ok (.aload_n 0, 1) := by decide +kernel
theorem dL_1059 : decode code 1059 = .ok (.iload_n 3, 1) := by decide +kernel
theorem dL_1060 : decode code 1060 = .ok (.iconst 2, 1) := by decide +kernel
theorem dL_1061 : decode code 1061 = .ok (.iadd, 1) := by decide +kernel
theorem dL_1062 : decode code 1062 = .ok (.iaload, 1) := by decide +kernel
theorem dL_1063 : decode code 1063 = .ok (.aload_n 0, 1) := by decide +kernel
theorem dL_1064 : decode code 1064 = .ok (.iload_n 3, 1) := by decide +kernel
theorem dL_1065 : decode code 1065 = .ok (.iconst 3, 1) := by decide +kernel
theorem dL_1066 : decode code 1066 = .ok (.iadd, 1) := by decide +kernel
theorem dL_1067 : decode code 1067 = .ok (.iaload, 1) := by decide +kernel
theorem dL_1068 : decode code 1068 = .ok (.invokevirtual 124, 3) := by decide +kernel
theorem dL_1071 : decode code 1071 = .ok (.aload_n 2, 1) := by decide +kernel
theorem dL_1072 : decode code 1072 = .ok (.aload_n 0, 1) := by decide +kernel
theorem dL_1073 : decode code 1073 = .ok (.iload_n 3, 1) := by decide +kernel
theorem dL_1074 : decode code 1074 = .ok (.iconst 1, 1) := by decide +kernel
theorem dL_1075 : decode code 1075 = .ok (.iadd, 1) := by decide +kernel
theorem dL_1076 : decode code 1076 = .ok (.iaload, 1) := by decide +kernel
theorem dL_1077 : decode code 1077 = .ok (.aload_n 0, 1) := by decide +kernel
theorem dL_1078 : decode code 1078 = .ok (.iload_n 3, 1) := by decide +kernel
theorem dL_1079 : decode code 1079 = .ok (.iconst 2, 1) := by decide +kernel
theorem dL_1080 : decode code 1080 = .ok (.iadd, 1) := by decide +kernel
theorem dL_1081 : decode code 1081 = .ok (.iaload, 1) := by decide +kernel
theorem dL_1082 : decode code 1082 = .ok (.aload_n 0, 1) := by decide +kernel
theorem dL_1083 : decode code 1083 = .ok (.iload_n 3, 1) := by decide +kernel
theorem dL_1084 : decode code 1084 = .ok (.iconst 3, 1) := by decide +kernel
theorem dL_1085 : decode code 1085 = .ok (.iadd, 1) := by decide +kernel
theorem dL_1086 : decode code 1086 = .ok (.iaload, 1) := by decide +kernel
theorem dL_1087 : decode code 1087 = .ok (.invokevirtual 127, 3) := by decide +kernel
theorem dL_1090 : decode code 1090 = .ok (.if_icmp .eq 399, 3) := by decide +kernel
theorem dL_1093 : decode code 1093 = .ok (.iconst 0, 1) := by decide +kernel
theorem dL_1094 : decode code 1094 = .ok (.ireturn, 1) := by decide +kernel
theorem dL_1095 : decode code 1095 = .ok (.aload_n 1, 1) := by decide +kernel
theorem dL_1096 : decode code 1096 = .ok (.aload_n 0, 1) := by decide +kernel
theorem dL_1097 : decode code 1097 = .ok (.iload_n 3, 1) := by decide +kernel
theorem dL_1098 : decode code 1098 = .ok (.iconst 1, 1) := by decide +kernel
theorem dL_1099 : decode code 1099 = .ok (.iadd, 1) := by decide +kernel
theorem dL_1100 : decode code 1100 = .ok (.iaload, 1) := by decide +kernel
theorem dL_1101 : decode code 1101 = .ok (.invokevirtual 128, 3) := by decide +kernel
theorem dL_1104 : decode code 1104 = .ok (.aload_n 2, 1) := by decide +kernel
theorem dL_1105 : decode code 1105 = .ok (.aload_n 0, 1) := by decide +kernel
theorem dL_1106 : decode code 1106 = .ok (.iload_n 3, 1) := by decide +kernel
theorem dL_1107 : decode code 1107 = .ok (.iconst 1, 1) := by decide +kernel
theorem dL_1108 : decode code 1108 = .ok (.iadd, 1) := by decide +kernel
theorem dL_1109 : decode code 1109 = .ok (.iaload, 1) := by decide +kernel
theorem dL_1110 : decode code 1110 = .ok (.invokevirtual 131, 3) := by decide +kernel
theorem dL_1113 : decode code 1113 = .ok (.if_icmp .eq 376, 3) := by decide +kernel
theorem dL_1116 : decode code 1116 = .ok (.iconst 0, 1) := by decide +kernel
theorem dL_1117 : decode code 1117 = .ok (.ireturn, 1) := by decide +kernel
theorem dL_1118 : decode code 1118 = .ok (.aload_n 1, 1) := by decide +kernel
theorem dL_1119 : decode code 1119 = .ok (.aload_n 0, 1) := by decide +kernel
theorem dL_1120 : decode code 1120 = .ok (.iload_n 3, 1) := by decide +kernel
theorem dL_1121 : decode code 1121 = .ok (.iconst 1, 1) := by decide +kernel
theorem dL_1122 : decode code 1122 = .ok (.iadd, 1) := by decide +kernel
theorem dL_1123 : decode code 1123 = .ok (.iaload, 1) := by decide +kernel
theorem dL_1124 : decode code 1124 = .ok (.invokevirtual 132, 3) := by decide +kernel
theorem dL_1127 : decode code 1127 = .ok (.aload_n 2, 1) := by decide +kernel
theorem dL_1128 : decode code 1128 = .ok (.aload_n 0, 1) := by decide +kernel
theorem dL_1129 : decode code 1129 = .ok (.iload_n 3, 1) := by decide +kernel
theorem dL_1130 : decode code 1130 = .ok (.iconst 1, 1) := by decide +kernel
theorem dL_1131 : decode code 1131 = .ok (.iadd, 1) := by decide +kernel
theorem dL_1132 : decode code 1132 = .ok (.iaload, 1) := by decide +kernel
theorem dL_1133 : decode code 1133 = .ok (.invokevirtual 135, 3) := by decide +kernel
theorem dL_1136 : decode code 1136 = .ok (.if_icmp .eq 353, 3) := by decide +kernel
theorem dL_1139 : decode code 1139 = .ok (.iconst 0, 1) := by decide +kernel
theorem dL_1140 : decode code 1140 = .ok (.ireturn, 1) := by decide +kernel
theorem dL_1141 : decode code 1141 = .ok (.aload_n 1, 1) := by decide +kernel
theorem dL_1142 : decode code 1142 = .ok (.aload_n 0, 1) := by decide +kernel
theorem dL_1143 : decode code 1143 = .ok (.iload_n 3, 1) := by decide +kernel
theorem dL_1144 : decode code 1144 = .ok (.iconst 1, 1) := by decide +kernel
theorem dL_1145 : decode code 1145 = .ok (.iadd, 1) := by decide +kernel
theorem dL_1146 : decode code 1146 = .ok (.iaload, 1) := by decide +kernel
theorem dL_1147 : decode code 1147 = .ok (.aload_n 0, 1) := by decide +kernel
theorem dL_1148 : decode code 1148 = .ok (.iload_n 3, 1) := by decide +kernel
theorem dL_1149 : decode code 1149 = .ok (.iconst 2, 1) := by decide +kernel
theorem dL_1150 : decode code 1150 = .ok (.iadd, 1) := by decide +kernel
theorem dL_1151 : decode code 1151 = .ok (.iaload, 1) := by decide +kernel
theorem dL_1152 : decode code 1152 = .ok (.invokevirtual 136, 3) := by decide +kernel
theorem dL_1155 : decode code 1155 = .ok (.aload_n 2, 1) := by decide +kernel
theorem dL_1156 : decode code 1156 = .ok (.aload_n 0, 1) := by decide +kernel
theorem dL_1157 : decode code 1157 = .ok (.iload_n 3, 1) := by decide +kernel
theorem dL_1158 : decode code 1158 = .ok (.iconst 1, 1) := by decide +kernel
theorem dL_1159 : decode code 1159 = .ok (.iadd, 1) := by decide +kernel
theorem dL_1160 : decode code 1160 = .ok (.iaload, 1) := by decide +kernel
theorem dL_1161 : decode code 1161 = .ok (.aload_n 0, 1) := by decide +kernel
theorem dL_1162 : decode code 1162 = .ok (.iload_n 3, 1) := by decide +kernel
theorem dL_1163 : decode code 1163 = .ok (.iconst 2, 1) := by decide +kernel
theorem dL_1164 : decode code 1164 = .ok (.iadd, 1) := by decide +kernel
theorem dL_1165 : decode code 1165 = .ok (.iaload, 1) := by decide +kernel
theorem dL_1166 : decode code 1166 = .ok (.invokevirtual 139, 3) := by decide +kernel
theorem dL_1169 : decode code 1169 = .ok (.if_icmp .eq 320, 3) := by decide +kernel
theorem dL_1172 : decode code 1172 = .ok (.iconst 0, 1) := by decide +kernel
theorem dL_1173 : decode code 1173 = .ok (.ireturn, 1) := by decide +kernel
theorem dL_1174 : decode code 1174 = .ok (.aload_n 1, 1) := by decide +kernel
theorem dL_1175 : decode code 1175 = .ok (.aload_n 0, 1) := by decide +kernel
theorem dL_1176 : decode code 1176 = .ok (.iload_n 3, 1) := by decide +kernel
theorem dL_1177 : decode code 1177 = .ok (.iconst 1, 1) := by decide +kernel
theorem dL_1178 : decode code 1178 = .ok (.iadd, 1) := by decide +kernel
theorem dL_1179 : decode code 1179 = .ok (.iaload, 1) := by decide +kernel
theorem dL_1180 : decode code 1180 = .ok (.aload_n 0, 1) := by decide +kernel
theorem dL_1181 : decode code 1181 = .ok (.iload_n 3, 1) := by decide +kernel
theorem dL_1182 : decode code 1182 = .ok (.iconst 2, 1) := by decide +kernel
theorem dL_1183 : decode code 1183 = .ok (.iadd, 1) := by decide +kernel
theorem dL_1184 : decode code 1184 = .ok (.iaload, 1) := by decide +kernel
theorem dL_1185 : decode code 1185 = .ok (.aload_n 0, 1) := by decide +kernel
theorem dL_1186 : decode code 1186 = .ok (.iload_n 3, 1) := by decide +kernel
theorem dL_1187 : decode code 1187 = .ok (.iconst 3, 1) := by decide +kernel
theorem dL_1188 : decode code 1188 = .ok (.iadd, 1) := by decide +kernel
theorem dL_1189 : decode code 1189 = .ok (.iaload, 1) := by decide +kernel
theorem dL_1190 : decode code 1190 = .ok (.aload_n 0, 1) := by decide +kernel
theorem dL_1191 : decode code 1191 = .ok (.iload_n 3, 1) := by decide +kernel
theorem dL_1192 : decode code 1192 = .ok (.iconst 4, 1) := by decide +kernel
theorem dL_1193 : decode code 1193 = .ok (.iadd, 1) := by decide +kernel
theorem dL_1194 : decode code 1194 = .ok (.iaload, 1) := by decide +kernel
theorem dL_1195 : decode code 1195 = .ok (.invokevirtual 140, 3) := by decide +kernel
theorem dL_1198 : decode code 1198 = .ok (.aload_n 2, 1) := by decide +kernel
theorem dL_1199 : decode code 1199 = .ok (.aload_n 0, 1) := by decide +kernel
theorem dL_1200 : decode code 1200 = .ok (.iload_n 3, 1) := by decide +kernel
theorem dL_1201 : decode code 1201 = .ok (.iconst 1, 1) := by decide +kernel
theorem dL_1202 : decode code 1202 = .ok (.iadd, 1) := by decide +kernel
theorem dL_1203 : decode code 1203 = .ok (.iaload, 1) := by decide +kernel
theorem dL_1204 : decode code 1204 = .ok (.aload_n 0, 1) := by decide +kernel
theorem dL_1205 : decode code 1205 = .ok (.iload_n 3, 1) := by decide +kernel
theorem dL_1206 : decode code 1206 = .ok (.iconst 2, 1) := by decide +kernel
theorem dL_1207 : decode code 1207 = .ok (.iadd, 1) := by decide +kernel
theorem dL_1208 : decode code 1208 = .ok (.iaload, 1) := by decide +kernel
theorem dL_1209 : decode code 1209 = .ok (.aload_n 0, 1) := by decide +kernel
theorem dL_1210 : decode code 1210 = .ok (.iload_n 3, 1) := by decide +kernel
theorem dL_1211 : decode code 1211 = .ok (.iconst 3, 1) := by decide +kernel
theorem dL_1212 : decode code 1212 = .ok (.iadd, 1) := by decide +kernel
theorem dL_1213 : decode code 1213 = .ok (.iaload, 1) := by decide +kernel
theorem dL_1214 : decode code 1214 = .ok (.aload_n 0, 1) := by decide +kernel
theorem dL_1215 : decode code 1215 = .ok (.iload_n 3, 1) := by decide +kernel
theorem dL_1216 : decode code 1216 = .ok (.iconst 4, 1) := by decide +kernel
theorem dL_1217 : decode code 1217 = .ok (.iadd, 1) := by decide +kernel
theorem dL_1218 : decode code 1218 = .ok (.iaload, 1) := by decide +kernel
theorem dL_1219 : decode code 1219 = .ok (.invokevirtual 143, 3) := by decide +kernel
theorem dL_1222 : decode code 1222 = .ok (.lcmp, 1) := by decide +kernel
theorem dL_1223 : decode code 1223 = .ok (.ifCond .eq 266, 3) := by decide +kernel
theorem dL_1226 : decode code 1226 = .ok (.iconst 0, 1) := by decide +kernel
theorem dL_1227 : decode code 1227 = .ok (.ireturn, 1) := by decide +kernel
theorem dL_1228 : decode code 1228 = .ok (.aload_n 1, 1) := by decide +kernel
theorem dL_1229 : decode code 1229 = .ok (.invokevirtual 144, 3) := by decide +kernel
theorem dL_1232 : decode code 1232 = .ok (.aload_n 2, 1) := by decide +kernel
theorem dL_1233 : decode code 1233 = .ok (.invokevirtual 147, 3) := by decide +kernel
theorem dL_1236 : decode code 1236 = .ok (.if_icmp .eq 253, 3) := by decide +kernel
theorem dL_1239 : decode code 1239 = .ok (.iconst 0, 1) := by decide +kernel
theorem dL_1240 : decode code 1240 = .ok (.ireturn, 1) := by decide +kernel
theorem dL_1241 : decode code 1241 = .ok (.aload_n 1, 1) := by decide +kernel
theorem dL_1242 : decode code 1242 = .ok (.invokevirtual 148, 3) := by decide +kernel
theorem dL_1245 : decode code 1245 = .ok (.aload_n 2, 1) := by decide +kernel
theorem dL_1246 : decode code 1246 = .ok (.invokevirtual 151, 3) := by decide +kernel
theorem dL_1249 : decode code 1249 = .ok (.if_icmp .eq 240, 3) := by decide +kernel
theorem dL_1252 : decode code 1252 = .ok (.iconst 0, 1) := by decide +kernel
theorem dL_1253 : decode code 1253 = .ok (.ireturn, 1) := by decide +kernel
theorem dL_1254 : decode code 1254 = .ok (.aload_n 1, 1) := by decide +kernel
theorem dL_1255 : decode code 1255 = .ok (.aload_n 0, 1) := by decide +kernel
theorem dL_1256 : decode code 1256 = .ok (.iload_n 3, 1) := by decide +kernel
theorem dL_1257 : decode code 1257 = .ok (.iconst 1, 1) := by decide +kernel
theorem dL_1258 : decode code 1258 = .ok (.iadd, 1) := by decide +kernel
theorem dL_1259 : decode code 1259 = .ok (.iaload, 1) := by decide +kernel
theorem dL_1260 : decode code 1260 = .ok (.aload_n 0, 1) := by decide +kernel
theorem dL_1261 : decode code 1261 = .ok (.iload_n 3, 1) := by decide +kernel
theorem dL_1262 : decode code 1262 = .ok (.iconst 2, 1) := by decide +kernel
theorem dL_1263 : decode code 1263 = .ok (.iadd, 1) := by decide +kernel
theorem dL_1264 : decode code 1264 = .ok (.iaload, 1) := by decide +kernel
theorem dL_1265 : decode code 1265 = .ok (.aload_n 0, 1) := by decide +kernel
theorem dL_1266 : decode code 1266 = .ok (.iload_n 3, 1) := by decide +kernel
theorem dL_1267 : decode code 1267 = .ok (.iconst 3, 1) := by decide +kernel
theorem dL_1268 : decode code 1268 = .ok (.iadd, 1) := by decide +kernel
theorem dL_1269 : decode code 1269 = .ok (.iaload, 1) := by decide +kernel
theorem dL_1270 : decode code 1270 = .ok (.invokevirtual 152, 3) := by decide +kernel
theorem dL_1273 : decode code 1273 = .ok (.aload_n 2, 1) := by decide +kernel
theorem dL_1274 : decode code 1274 = .ok (.aload_n 0, 1) := by decide +kernel
theorem dL_1275 : decode code 1275 = .ok (.iload_n 3, 1) := by decide +kernel
theorem dL_1276 : decode code 1276 = .ok (.iconst 1, 1) := by decide +kernel
theorem dL_1277 : decode code 1277 = .ok (.iadd, 1) := by decide +kernel
theorem dL_1278 : decode code 1278 = .ok (.iaload, 1) := by decide +kernel
theorem dL_1279 : decode code 1279 = .ok (.aload_n 0, 1) := by decide +kernel
theorem dL_1280 : decode code 1280 = .ok (.iload_n 3, 1) := by decide +kernel
theorem dL_1281 : decode code 1281 = .ok (.iconst 2, 1) := by decide +kernel
theorem dL_1282 : decode code 1282 = .ok (.iadd, 1) := by decide +kernel
theorem dL_1283 : decode code 1283 = .ok (.iaload, 1) := by decide +kernel
theorem dL_1284 : decode code 1284 = .ok (.aload_n 0, 1) := by decide +kernel
theorem dL_1285 : decode code 1285 = .ok (.iload_n 3, 1) := by decide +kernel
theorem dL_1286 : decode code 1286 = .ok (.iconst 3, 1) := by decide +kernel
theorem dL_1287 : decode code 1287 = .ok (.iadd, 1) := by decide +kernel
theorem dL_1288 : decode code 1288 = .ok (.iaload, 1) := by decide +kernel
theorem dL_1289 : decode code 1289 = .ok (.invokevirtual 155, 3) := by decide +kernel
theorem dL_1292 : decode code 1292 = .ok (.if_icmp .eq 197, 3) := by decide +kernel
theorem dL_1295 : decode code 1295 = .ok (.iconst 0, 1) := by decide +kernel
theorem dL_1296 : decode code 1296 = .ok (.ireturn, 1) := by decide +kernel
theorem dL_1297 : decode code 1297 = .ok (.aload_n 1, 1) := by decide +kernel
theorem dL_1298 : decode code 1298 = .ok (.aload_n 0, 1) := by decide +kernel
theorem dL_1299 : decode code 1299 = .ok (.iload_n 3, 1) := by decide +kernel
theorem dL_1300 : decode code 1300 = .ok (.iconst 1, 1) := by decide +kernel
theorem dL_1301 : decode code 1301 = .ok (.iadd, 1) := by decide +kernel
theorem dL_1302 : decode code 1302 = .ok (.iaload, 1) := by decide +kernel
theorem dL_1303 : decode code 1303 = .ok (.aload_n 0, 1) := by decide +kernel
theorem dL_1304 : decode code 1304 = .ok (.iload_n 3, 1) := by decide +kernel
theorem dL_1305 : decode code 1305 = .ok (.iconst 2, 1) := by decide +kernel
theorem dL_1306 : decode code 1306 = .ok (.iadd, 1) := by decide +kernel
theorem dL_1307 : decode code 1307 = .ok (.iaload, 1) := by decide +kernel
theorem dL_1308 : decode code 1308 = .ok (.aload_n 0, 1) := by decide +kernel
theorem dL_1309 : decode code 1309 = .ok (.iload_n 3, 1) := by decide +kernel
theorem dL_1310 : decode code 1310 = .ok (.iconst 3, 1) := by decide +kernel
theorem dL_1311 : decode code 1311 = .ok (.iadd, 1) := by decide +kernel
theorem dL_1312 : decode code 1312 = .ok (.iaload, 1) := by decide +kernel
theorem dL_1313 : decode code 1313 = .ok (.invokevirtual 156, 3) := by decide +kernel
theorem dL_1316 : decode code 1316 = .ok (.aload_n 2, 1) := by decide +kernel
theorem dL_1317 : decode code 1317 = .ok (.aload_n 0, 1) := by decide +kernel
theorem dL_1318 : decode code 1318 = .ok (.iload_n 3, 1) := by decide +kernel
theorem dL_1319 : decode code 1319 = .ok (.iconst 1, 1) := by decide +kernel
theorem dL_1320 : decode code 1320 = .ok (.iadd, 1) := by decide +kernel
theorem dL_1321 : decode code 1321 = .ok (.iaload, 1) := by decide +kernel
theorem dL_1322 : decode code 1322 = .ok (.aload_n 0, 1) := by decide +kernel
theorem dL_1323 : decode code 1323 = .ok (.iload_n 3, 1) := by decide +kernel
theorem dL_1324 : decode code 1324 = .ok (.iconst 2, 1) := by decide +kernel
theorem dL_1325 : decode code 1325 = .ok (.iadd, 1) := by decide +kernel
theorem dL_1326 : decode code 1326 = .ok (.iaload, 1) := by decide +kernel
theorem dL_1327 : decode code 1327 = .ok (.aload_n 0, 1) := by decide +kernel
theorem dL_1328 : decode code 1328 = .ok (.iload_n 3, 1) := by decide +kernel
theorem dL_1329 : decode code 1329 = .ok (.iconst 3, 1) := by decide +kernel
theorem dL_1330 : decode code 1330 = .ok (.iadd, 1) := by decide +kernel
theorem dL_1331 : decode code 1331 = .ok (.iaload, 1) := by decide +kernel
theorem dL_1332 : decode code 1332 = .ok (.invokevirtual 159, 3) := by decide +kernel
theorem dL_1335 : decode code 1335 = .ok (.if_icmp .eq 154, 3) := by decide +kernel
theorem dL_1338 : decode code 1338 = .ok (.iconst 0, 1) := by decide +kernel
theorem dL_1339 : decode code 1339 = .ok (.ireturn, 1) := by decide +kernel
theorem dL_1340 : decode code 1340 = .ok (.aload_n 1, 1) := by decide +kernel
theorem dL_1341 : decode code 1341 = .ok (.aload_n 0, 1) := by decide +kernel
theorem dL_1342 : decode code 1342 = .ok (.iload_n 3, 1) := by decide +kernel
theorem dL_1343 : decode code 1343 = .ok (.iconst 1, 1) := by decide +kernel
theorem dL_1344 : decode code 1344 = .ok (.iadd, 1) := by decide +kernel
theorem dL_1345 : decode code 1345 = .ok (.iaload, 1) := by decide +kernel
theorem dL_1346 : decode code 1346 = .ok (.aload_n 0, 1) := by decide +kernel
theorem dL_1347 : decode code 1347 = .ok (.iload_n 3, 1) := by decide +kernel
theorem dL_1348 : decode code 1348 = .ok (.iconst 2, 1) := by decide +kernel
theorem dL_1349 : decode code 1349 = .ok (.iadd, 1) := by decide +kernel
theorem dL_1350 : decode code 1350 = .ok (.iaload, 1) := by decide +kernel
theorem dL_1351 : decode code 1351 = .ok (.aload_n 0, 1) := by decide +kernel
theorem dL_1352 : decode code 1352 = .ok (.iload_n 3, 1) := by decide +kernel
theorem dL_1353 : decode code 1353 = .ok (.iconst 3, 1) := by decide +kernel
theorem dL_1354 : decode code 1354 = .ok (.iadd, 1) := by decide +kernel
theorem dL_1355 : decode code 1355 = .ok (.iaload, 1) := by decide +kernel
theorem dL_1356 : decode code 1356 = .ok (.aload_n 0, 1) := by decide +kernel
theorem dL_1357 : decode code 1357 = .ok (.iload_n 3, 1) := by decide +kernel
theorem dL_1358 : decode code 1358 = .ok (.iconst 4, 1) := by decide +kernel
theorem dL_1359 : decode code 1359 = .ok (.iadd, 1) := by decide +kernel
theorem dL_1360 : decode code 1360 = .ok (.iaload, 1) := by decide +kernel
theorem dL_1361 : decode code 1361 = .ok (.aload_n 0, 1) := by decide +kernel
theorem dL_1362 : decode code 1362 = .ok (.iload_n 3, 1) := by decide +kernel
theorem dL_1363 : decode code 1363 = .ok (.iconst 5, 1) := by decide +kernel
theorem dL_1364 : decode code 1364 = .ok (.iadd, 1) := by decide +kernel
theorem dL_1365 : decode code 1365 = .ok (.iaload, 1) := by decide +kernel
theorem dL_1366 : decode code 1366 = .ok (.invokevirtual 160, 3) := by decide +kernel
theorem dL_1369 : decode code 1369 = .ok (.aload_n 2, 1) := by decide +kernel
theorem dL_1370 : decode code 1370 = .ok (.aload_n 0, 1) := by decide +kernel
theorem dL_1371 : decode code 1371 = .ok (.iload_n 3, 1) := by decide +kernel
theorem dL_1372 : decode code 1372 = .ok (.iconst 1, 1) := by decide +kernel
theorem dL_1373 : decode code 1373 = .ok (.iadd, 1) := by decide +kernel
theorem dL_1374 : decode code 1374 = .ok (.iaload, 1) := by decide +kernel
theorem dL_1375 : decode code 1375 = .ok (.aload_n 0, 1) := by decide +kernel
theorem dL_1376 : decode code 1376 = .ok (.iload_n 3, 1) := by decide +kernel
theorem dL_1377 : decode code 1377 = .ok (.iconst 2, 1) := by decide +kernel
theorem dL_1378 : decode code 1378 = .ok (.iadd, 1) := by decide +kernel
theorem dL_1379 : decode code 1379 = .ok (.iaload, 1) := by decide +kernel
theorem dL_1380 : decode code 1380 = .ok (.aload_n 0, 1) := by decide +kernel
theorem dL_1381 : decode code 1381 = .ok (.iload_n 3, 1) := by decide +kernel
theorem dL_1382 : decode code 1382 = .ok (.iconst 3, 1) := by decide +kernel
theorem dL_1383 : decode code 1383 = .ok (.iadd, 1) := by decide +kernel
theorem dL_1384 : decode code 1384 = .ok (.iaload, 1) := by decide +kernel
theorem dL_1385 : decode code 1385 = .ok (.aload_n 0, 1) := by decide +kernel
theorem dL_1386 : decode code 1386 = .ok (.iload_n 3, 1) := by decide +kernel
theorem dL_1387 : decode code 1387 = .ok (.iconst 4, 1) := by decide +kernel
theorem dL_1388 : decode code 1388 = .ok (.iadd, 1) := by decide +kernel
theorem dL_1389 : decode code 1389 = .ok (.iaload, 1) := by decide +kernel
theorem dL_1390 : decode code 1390 = .ok (.aload_n 0, 1) := by decide +kernel
theorem dL_1391 : decode code 1391 = .ok (.iload_n 3, 1) := by decide +kernel
theorem dL_1392 : decode code 1392 = .ok (.iconst 5, 1) := by decide +kernel
theorem dL_1393 : decode code 1393 = .ok (.iadd, 1) := by decide +kernel
theorem dL_1394 : decode code 1394 = .ok (.iaload, 1) := by decide +kernel
theorem dL_1395 : decode code 1395 = .ok (.invokevirtual 164, 3) := by decide +kernel
theorem dL_1398 : decode code 1398 = .ok (.if_icmp .eq 91, 3) := by decide +kernel
theorem dL_1401 : decode code 1401 = .ok (.iconst 0, 1) := by decide +kernel
theorem dL_1402 : decode code 1402 = .ok (.ireturn, 1) := by decide +kernel
theorem dL_1403 : decode code 1403 = .ok (.aload_n 1, 1) := by decide +kernel
theorem dL_1404 : decode code 1404 = .ok (.aload_n 0, 1) := by decide +kernel
theorem dL_1405 : decode code 1405 = .ok (.iload_n 3, 1) := by decide +kernel
theorem dL_1406 : decode code 1406 = .ok (.iconst 1, 1) := by decide +kernel
theorem dL_1407 : decode code 1407 = .ok (.iadd, 1) := by decide +kernel
theorem dL_1408 : decode code 1408 = .ok (.iaload, 1) := by decide +kernel
theorem dL_1409 : decode code 1409 = .ok (.aload_n 0, 1) := by decide +kernel
theorem dL_1410 : decode code 1410 = .ok (.iload_n 3, 1) := by decide +kernel
theorem dL_1411 : decode code 1411 = .ok (.iconst 2, 1) := by decide +kernel
theorem dL_1412 : decode code 1412 = .ok (.iadd, 1) := by decide +kernel
theorem dL_1413 : decode code 1413 = .ok (.iaload, 1) := by decide +kernel
theorem dL_1414 : decode code 1414 = .ok (.aload_n 0, 1) := by decide +kernel
theorem dL_1415 : decode code 1415 = .ok (.iload_n 3, 1) := by decide +kernel
theorem dL_1416 : decode code 1416 = .ok (.iconst 3, 1) := by decide +kernel
theorem dL_1417 : decode code 1417 = .ok (.iadd, 1) := by decide +kernel
theorem dL_1418 : decode code 1418 = .ok (.iaload, 1) := by decide +kernel
theorem dL_1419 : decode code 1419 = .ok (.aload_n 0, 1) := by decide +kernel
theorem dL_1420 : decode code 1420 = .ok (.iload_n 3, 1) := by decide +kernel
theorem dL_1421 : decode code 1421 = .ok (.iconst 4, 1) := by decide +kernel
theorem dL_1422 : decode code 1422 = .ok (.iadd, 1) := by decide +kernel
theorem dL_1423 : decode code 1423 = .ok (.iaload, 1) := by decide +kernel
theorem dL_1424 : decode code 1424 = .ok (.invokevirtual 165, 3) := by decide +kernel
theorem dL_1427 : decode code 1427 = .ok (.aload_n 2, 1) := by decide +kernel
theorem dL_1428 : decode code 1428 = .ok (.aload_n 0, 1) := by decide +kernel
theorem dL_1429 : decode code 1429 = .ok (.iload_n 3, 1) := by decide +kernel
theorem dL_1430 : decode code 1430 = .ok (.iconst 1, 1) := by decide +kernel
theorem dL_1431 : decode code 1431 = .ok (.iadd, 1) := by decide +kernel
theorem dL_1432 : decode code 1432 = .ok (.iaload, 1) := by decide +kernel
theorem dL_1433 : decode code 1433 = .ok (.aload_n 0, 1) := by decide +kernel
theorem dL_1434 : decode code 1434 = .ok (.iload_n 3, 1) := by decide +kernel
theorem dL_1435 : decode code 1435 = .ok (.iconst 2, 1) := by decide +kernel
theorem dL_1436 : decode code 1436 = .ok (.iadd, 1) := by decide +kernel
theorem dL_1437 : decode code 1437 = .ok (.iaload, 1) := by decide +kernel
theorem dL_1438 : decode code 1438 = .ok (.aload_n 0, 1) := by decide +kernel
theorem dL_1439 : decode code 1439 = .ok (.iload_n 3, 1) := by decide +kernel
theorem dL_1440 : decode code 1440 = .ok (.iconst 3, 1) := by decide +kernel
theorem dL_1441 : decode code 1441 = .ok (.iadd, 1) := by decide +kernel
theorem dL_1442 : decode code 1442 = .ok (.iaload, 1) := by decide +kernel
theorem dL_1443 : decode code 1443 = .ok (.aload_n 0, 1) := by decide +kernel
theorem dL_1444 : decode code 1444 = .ok (.iload_n 3, 1) := by decide +kernel
theorem dL_1445 : decode code 1445 = .ok (.iconst 4, 1) := by decide +kernel
theorem dL_1446 : decode code 1446 = .ok (.iadd, 1) := by decide +kernel
theorem dL_1447 : decode code 1447 = .ok (.iaload, 1) := by decide +kernel
theorem dL_1448 : decode code 1448 = .ok (.invokevirtual 169, 3) := by decide +kernel
theorem dL_1451 : decode code 1451 = .ok (.if_icmp .eq 38, 3) := by decide +kernel
theorem dL_1454 : decode code 1454 = .ok (.iconst 0, 1) := by decide +kernel
theorem dL_1455 : decode code 1455 = .ok (.ireturn, 1) := by decide +kernel
theorem dL_1456 : decode code 1456 = .ok (.aload_n 1, 1) := by decide +kernel
theorem dL_1457 : decode code 1457 = .ok (.aload_n 0, 1) := by decide +kernel
theorem dL_1458 : decode code 1458 = .ok (.iload_n 3, 1) := by decide +kernel
theorem dL_1459 : decode code 1459 = .ok (.iconst 1, 1) := by decide +kernel
theorem dL_1460 : decode code 1460 = .ok (.iadd, 1) := by decide +kernel
theorem dL_1461 : decode code 1461 = .ok (.iaload, 1) := by decide +kernel
theorem dL_1462 : decode code 1462 = .ok (.aload_n 0, 1) := by decide +kernel
theorem dL_1463 : decode code 1463 = .ok (.iload_n 3, 1) := by decide +kernel
theorem dL_1464 : decode code 1464 = .ok (.iconst 2, 1) := by decide +kernel
theorem dL_1465 : decode code 1465 = .ok (.iadd, 1) := by decide +kernel
theorem dL_1466 : decode code 1466 = .ok (.iaload, 1) := by decide +kernel
theorem dL_1467 : decode code 1467 = .ok (.invokevirtual 170, 3) := by decide +kernel
theorem dL_1470 : decode code 1470 = .ok (.aload_n 2, 1) := by decide +kernel
theorem dL_1471 : decode code 1471 = .ok (.aload_n 0, 1) := by decide +kernel
theorem dL_1472 : decode code 1472 = .ok (.iload_n 3, 1) := by decide +kernel
theorem dL_1473 : decode code 1473 = .ok (.iconst 1, 1) := by decide +kernel
theorem dL_1474 : decode code 1474 = .ok (.iadd, 1) := by decide +kernel
theorem dL_1475 : decode code 1475 = .ok (.iaload, 1) := by decide +kernel
theorem dL_1476 : decode code 1476 = .ok (.aload_n 0, 1) := by decide +kernel
theorem dL_1477 : decode code 1477 = .ok (.iload_n 3, 1) := by decide +kernel
theorem dL_1478 : decode code 1478 = .ok (.iconst 2, 1) := by decide +kernel
theorem dL_1479 : decode code 1479 = .ok (.iadd, 1) := by decide +kernel
theorem dL_1480 : decode code 1480 = .ok (.iaload, 1) := by decide +kernel
theorem dL_1481 : decode code 1481 = .ok (.invokevirtual 173, 3) := by decide +kernel
theorem dL_1484 : decode code 1484 = .ok (.if_icmp .eq 5, 3) := by decide +kernel
theorem dL_1487 : decode code 1487 = .ok (.iconst 0, 1) := by decide +kernel
theorem dL_1488 : decode code 1488 = .ok (.ireturn, 1) := by decide +kernel
theorem dL_1489 : decode code 1489 = .ok (.iinc 3 7, 3) := by decide +kernel
theorem dL_1492 : decode code 1492 = .ok (.goto (-1474), 3) := by decide +kernel
theorem dL_1495 : decode code 1495 = .ok (.iconst 1, 1) := by decide +kernel
theorem dL_1496 : decode code 1496 = .ok (.ireturn, 1) := by decide +kernel
