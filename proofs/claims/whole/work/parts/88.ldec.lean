theorem dw_0 : decode code 0 = .ok (.new 7, 3) := by decide +kernel
theorem dw_3 : decode code 3 = .ok (.dup, 1) := by decide +kernel
theorem dw_4 : decode code 4 = .ok (.invokespecial 9, 3) := by decide +kernel
theorem dw_7 : decode code 7 = .ok (.astore_n 1, 1) := by decide +kernel
theorem dw_8 : decode code 8 = .ok (.new 10, 3) := by decide +kernel
theorem dw_11 : decode code 11 = .ok (.dup, 1) := by decide +kernel
theorem dw_12 : decode code 12 = .ok (.invokespecial 12, 3) := by decide +kernel
theorem dw_15 : decode code 15 = .ok (.astore_n 2, 1) := by decide +kernel
theorem dw_16 : decode code 16 = .ok (.iconst 0, 1) := by decide +kernel
theorem dw_17 : decode code 17 = .ok (.istore_n 3, 1) := by decide +kernel
theorem dw_18 : decode code 18 = .ok (.iload_n 3, 1) := by decide +kernel
theorem dw_19 : decode code 19 = .ok (.aload_n 0, 1) := by decide +kernel
theorem dw_20 : decode code 20 = .ok (.arraylength, 1) := by decide +kernel
theorem dw_21 : decode code 21 = .ok (.bipush 8, 2) := by decide +kernel
theorem dw_23 : decode code 23 = .ok (.isub, 1) := by decide +kernel
theorem dw_24 : decode code 24 = .ok (.if_icmp .gt 1527, 3) := by decide +kernel
theorem dw_27 : decode code 27 = .ok (.aload_n 0, 1) := by decide +kernel
theorem dw_28 : decode code 28 = .ok (.iload_n 3, 1) := by decide +kernel
theorem dw_29 : decode code 29 = .ok (.iaload, 1) := by decide +kernel
theorem dw_30 : decode code 30 = .ok (.bipush 63, 2) := by decide +kernel
theorem dw_32 : decode code 32 = .ok (.iand, 1) := by decide +kernel
theorem dw_33 : decode code 33 = .ok (.tableswitch 1512 0 35 #[159, 182, 225, 268, 321, 374, 407, 494, 537, 590, 633, 686, 709, 722, 735, 778, 821, 864, 877, 920, 973, 1006, 1039, 1072, 1095, 1128, 1151, 1184, 1227, 1260, 1313, 1347, 1360, 1403, 1446, 1489], 159) := by decide +kernel
theorem dw_192 : decode code 192 = .ok (.aload_n 1, 1) := by decide +kernel
theorem dw_193 : decode code 193 = .ok (.aload_n 0, 1) := by decide +kernel
theorem dw_194 : decode code 194 = .ok (.iload_n 3, 1) := by decide +kernel
theorem dw_195 : decode code 195 = .ok (.iconst 1, 1) := by decide +kernel
theorem dw_196 : decode code 196 = .ok (.iadd, 1) := by decide +kernel
theorem dw_197 : decode code 197 = .ok (.iaload, 1) := by decide +kernel
theorem dw_198 : decode code 198 = .ok (.invokevirtual 13, 3) := by decide +kernel
theorem dw_201 : decode code 201 = .ok (.aload_n 2, 1) := by decide +kernel
theorem dw_202 : decode code 202 = .ok (.aload_n 0, 1) := by decide +kernel
theorem dw_203 : decode code 203 = .ok (.iload_n 3, 1) := by decide +kernel
theorem dw_204 : decode code 204 = .ok (.iconst 1, 1) := by decide +kernel
theorem dw_205 : decode code 205 = .ok (.iadd, 1) := by decide +kernel
theorem dw_206 : decode code 206 = .ok (.iaload, 1) := by decide +kernel
theorem dw_207 : decode code 207 = .ok (.invokevirtual 17, 3) := by decide +kernel
theorem dw_210 : decode code 210 = .ok (.if_icmp .eq 1335, 3) := by decide +kernel
theorem dw_215 : decode code 215 = .ok (.aload_n 1, 1) := by decide +kernel
theorem dw_216 : decode code 216 = .ok (.aload_n 0, 1) := by decide +kernel
theorem dw_217 : decode code 217 = .ok (.iload_n 3, 1) := by decide +kernel
theorem dw_218 : decode code 218 = .ok (.iconst 1, 1) := by decide +kernel
theorem dw_219 : decode code 219 = .ok (.iadd, 1) := by decide +kernel
theorem dw_220 : decode code 220 = .ok (.iaload, 1) := by decide +kernel
theorem dw_221 : decode code 221 = .ok (.aload_n 0, 1) := by decide +kernel
theorem dw_222 : decode code 222 = .ok (.iload_n 3, 1) := by decide +kernel
theorem dw_223 : decode code 223 = .ok (.iconst 2, 1) := by decide +kernel
theorem dw_224 : decode code 224 = .ok (.iadd, 1) := by decide +kernel
theorem dw_225 : decode code 225 = .ok (.iaload, 1) := by decide +kernel
theorem dw_226 : decode code 226 = .ok (.aload_n 0, 1) := by decide +kernel
theorem dw_227 : decode code 227 = .ok (.iload_n 3, 1) := by decide +kernel
theorem dw_228 : decode code 228 = .ok (.iconst 3, 1) := by decide +kernel
theorem dw_229 : decode code 229 = .ok (.iadd, 1) := by decide +kernel
theorem dw_230 : decode code 230 = .ok (.iaload, 1) := by decide +kernel
theorem dw_231 : decode code 231 = .ok (.invokevirtual 18, 3) := by decide +kernel
theorem dw_234 : decode code 234 = .ok (.aload_n 2, 1) := by decide +kernel
theorem dw_235 : decode code 235 = .ok (.aload_n 0, 1) := by decide +kernel
theorem dw_236 : decode code 236 = .ok (.iload_n 3, 1) := by decide +kernel
theorem dw_237 : decode code 237 = .ok (.iconst 1, 1) := by decide +kernel
theorem dw_238 : decode code 238 = .ok (.iadd, 1) := by decide +kernel
theorem dw_239 : decode code 239 = .ok (.iaload, 1) := by decide +kernel
theorem dw_240 : decode code 240 = .ok (.aload_n 0, 1) := by decide +kernel
theorem dw_241 : decode code 241 = .ok (.iload_n 3, 1) := by decide +kernel
theorem dw_242 : decode code 242 = .ok (.iconst 2, 1) := by decide +kernel
theorem dw_243 : decode code 243 = .ok (.iadd, 1) := by decide +kernel
theorem dw_244 : decode code 244 = .ok (.iaload, 1) := by decide +kernel
theorem dw_245 : decode code 245 = .ok (.aload_n 0, 1) := by decide +kernel
theorem dw_246 : decode code 246 = .ok (.iload_n 3, 1) := by decide +kernel
theorem dw_247 : decode code 247 = .ok (.iconst 3, 1) := by decide +kernel
theorem dw_248 : decode code 248 = .ok (.iadd, 1) := by decide +kernel
theorem dw_249 : decode code 249 = .ok (.iaload, 1) := by decide +kernel
theorem dw_250 : decode code 250 = .ok (.invokevirtual 22, 3) := by decide +kernel
theorem dw_253 : decode code 253 = .ok (.if_icmp .eq 1292, 3) := by decide +kernel
theorem dw_258 : decode code 258 = .ok (.aload_n 1, 1) := by decide +kernel
theorem dw_259 : decode code 259 = .ok (.aload_n 0, 1) := by decide +kernel
theorem dw_260 : decode code 260 = .ok (.iload_n 3, 1) := by decide +kernel
theorem dw_261 : decode code 261 = .ok (.iconst 1, 1) := by decide +kernel
theorem dw_262 : decode code 262 = .ok (.iadd, 1) := by decide +kernel
theorem dw_263 : decode code 263 = .ok (.iaload, 1) := by decide +kernel
theorem dw_264 : decode code 264 = .ok (.aload_n 0, 1) := by decide +kernel
theorem dw_265 : decode code 265 = .ok (.iload_n 3, 1) := by decide +kernel
theorem dw_266 : decode code 266 = .ok (.iconst 2, 1) := by decide +kernel
theorem dw_267 : decode code 267 = .ok (.iadd, 1) := by decide +kernel
theorem dw_268 : decode code 268 = .ok (.iaload, 1) := by decide +kernel
theorem dw_269 : decode code 269 = .ok (.aload_n 0, 1) := by decide +kernel
theorem dw_270 : decode code 270 = .ok (.iload_n 3, 1) := by decide +kernel
theorem dw_271 : decode code 271 = .ok (.iconst 3, 1) := by decide +kernel
theorem dw_272 : decode code 272 = .ok (.iadd, 1) := by decide +kernel
theorem dw_273 : decode code 273 = .ok (.iaload, 1) := by decide +kernel
theorem dw_274 : decode code 274 = .ok (.invokevirtual 23, 3) := by decide +kernel
theorem dw_277 : decode code 277 = .ok (.aload_n 2, 1) := by decide +kernel
theorem dw_278 : decode code 278 = .ok (.aload_n 0, 1) := by decide +kernel
theorem dw_279 : decode code 279 = .ok (.iload_n 3, 1) := by decide +kernel
theorem dw_280 : decode code 280 = .ok (.iconst 1, 1) := by decide +kernel
theorem dw_281 : decode code 281 = .ok (.iadd, 1) := by decide +kernel
theorem dw_282 : decode code 282 = .ok (.iaload, 1) := by decide +kernel
theorem dw_283 : decode code 283 = .ok (.aload_n 0, 1) := by decide +kernel
theorem dw_284 : decode code 284 = .ok (.iload_n 3, 1) := by decide +kernel
theorem dw_285 : decode code 285 = .ok (.iconst 2, 1) := by decide +kernel
theorem dw_286 : decode code 286 = .ok (.iadd, 1) := by decide +kernel
theorem dw_287 : decode code 287 = .ok (.iaload, 1) := by decide +kernel
theorem dw_288 : decode code 288 = .ok (.aload_n 0, 1) := by decide +kernel
theorem dw_289 : decode code 289 = .ok (.iload_n 3, 1) := by decide +kernel
theorem dw_290 : decode code 290 = .ok (.iconst 3, 1) := by decide +kernel
theorem dw_291 : decode code 291 = .ok (.iadd, 1) := by decide +kernel
theorem dw_292 : decode code 292 = .ok (.iaload, 1) := by decide +kernel
theorem dw_293 : decode code 293 = .ok (.invokevirtual 26, 3) := by decide +kernel
theorem dw_296 : decode code 296 = .ok (.if_icmp .eq 1249, 3) := by decide +kernel
theorem dw_301 : decode code 301 = .ok (.aload_n 1, 1) := by decide +kernel
theorem dw_302 : decode code 302 = .ok (.aload_n 0, 1) := by decide +kernel
theorem dw_303 : decode code 303 = .ok (.iload_n 3, 1) := by decide +kernel
theorem dw_304 : decode code 304 = .ok (.iconst 1, 1) := by decide +kernel
theorem dw_305 : decode code 305 = .ok (.iadd, 1) := by decide +kernel
theorem dw_306 : decode code 306 = .ok (.iaload, 1) := by decide +kernel
theorem dw_307 : decode code 307 = .ok (.aload_n 0, 1) := by decide +kernel
theorem dw_308 : decode code 308 = .ok (.iload_n 3, 1) := by decide +kernel
theorem dw_309 : decode code 309 = .ok (.iconst 2, 1) := by decide +kernel
theorem dw_310 : decode code 310 = .ok (.iadd, 1) := by decide +kernel
theorem dw_311 : decode code 311 = .ok (.iaload, 1) := by decide +kernel
theorem dw_312 : decode code 312 = .ok (.aload_n 0, 1) := by decide +kernel
theorem dw_313 : decode code 313 = .ok (.iload_n 3, 1) := by decide +kernel
theorem dw_314 : decode code 314 = .ok (.iconst 3, 1) := by decide +kernel
theorem dw_315 : decode code 315 = .ok (.iadd, 1) := by decide +kernel
theorem dw_316 : decode code 316 = .ok (.iaload, 1) := by decide +kernel
theorem dw_317 : decode code 317 = .ok (.aload_n 0, 1) := by decide +kernel
theorem dw_318 : decode code 318 = .ok (.iload_n 3, 1) := by decide +kernel
theorem dw_319 : decode code 319 = .ok (.iconst 4, 1) := by decide +kernel
theorem dw_320 : decode code 320 = .ok (.iadd, 1) := by decide +kernel
theorem dw_321 : decode code 321 = .ok (.iaload, 1) := by decide +kernel
theorem dw_322 : decode code 322 = .ok (.invokevirtual 27, 3) := by decide +kernel
theorem dw_325 : decode code 325 = .ok (.aload_n 2, 1) := by decide +kernel
theorem dw_326 : decode code 326 = .ok (.aload_n 0, 1) := by decide +kernel
theorem dw_327 : decode code 327 = .ok (.iload_n 3, 1) := by decide +kernel
theorem dw_328 : decode code 328 = .ok (.iconst 1, 1) := by decide +kernel
theorem dw_329 : decode code 329 = .ok (.iadd, 1) := by decide +kernel
theorem dw_330 : decode code 330 = .ok (.iaload, 1) := by decide +kernel
theorem dw_331 : decode code 331 = .ok (.aload_n 0, 1) := by decide +kernel
theorem dw_332 : decode code 332 = .ok (.iload_n 3, 1) := by decide +kernel
theorem dw_333 : decode code 333 = .ok (.iconst 2, 1) := by decide +kernel
theorem dw_334 : decode code 334 = .ok (.iadd, 1) := by decide +kernel
theorem dw_335 : decode code 335 = .ok (.iaload, 1) := by decide +kernel
theorem dw_336 : decode code 336 = .ok (.aload_n 0, 1) := by decide +kernel
theorem dw_337 : decode code 337 = .ok (.iload_n 3, 1) := by decide +kernel
theorem dw_338 : decode code 338 = .ok (.iconst 3, 1) := by decide +kernel
theorem dw_339 : decode code 339 = .ok (.iadd, 1) := by decide +kernel
theorem dw_340 : decode code 340 = .ok (.iaload, 1) := by decide +kernel
theorem dw_341 : decode code 341 = .ok (.aload_n 0, 1) := by decide +kernel
theorem dw_342 : decode code 342 = .ok (.iload_n 3, 1) := by decide +kernel
theorem dw_343 : decode code 343 = .ok (.iconst 4, 1) := by decide +kernel
theorem dw_344 : decode code 344 = .ok (.iadd, 1) := by decide +kernel
theorem dw_345 : decode code 345 = .ok (.iaload, 1) := by decide +kernel
theorem dw_346 : decode code 346 = .ok (.invokevirtual 31, 3) := by decide +kernel
theorem dw_349 : decode code 349 = .ok (.if_icmp .eq 1196, 3) := by decide +kernel
theorem dw_354 : decode code 354 = .ok (.aload_n 1, 1) := by decide +kernel
theorem dw_355 : decode code 355 = .ok (.aload_n 0, 1) := by decide +kernel
theorem dw_356 : decode code 356 = .ok (.iload_n 3, 1) := by decide +kernel
theorem dw_357 : decode code 357 = .ok (.iconst 1, 1) := by decide +kernel
theorem dw_358 : decode code 358 = .ok (.iadd, 1) := by decide +kernel
theorem dw_359 : decode code 359 = .ok (.iaload, 1) := by decide +kernel
theorem dw_360 : decode code 360 = .ok (.aload_n 0, 1) := by decide +kernel
theorem dw_361 : decode code 361 = .ok (.iload_n 3, 1) := by decide +kernel
theorem dw_362 : decode code 362 = .ok (.iconst 2, 1) := by decide +kernel
theorem dw_363 : decode code 363 = .ok (.iadd, 1) := by decide +kernel
theorem dw_364 : decode code 364 = .ok (.iaload, 1) := by decide +kernel
theorem dw_365 : decode code 365 = .ok (.aload_n 0, 1) := by decide +kernel
theorem dw_366 : decode code 366 = .ok (.iload_n 3, 1) := by decide +kernel
theorem dw_367 : decode code 367 = .ok (.iconst 3, 1) := by decide +kernel
theorem dw_368 : decode code 368 = .ok (.iadd, 1) := by decide +kernel
theorem dw_369 : decode code 369 = .ok (.iaload, 1) := by decide +kernel
theorem dw_370 : decode code 370 = .ok (.aload_n 0, 1) := by decide +kernel
theorem dw_371 : decode code 371 = .ok (.iload_n 3, 1) := by decide +kernel
theorem dw_372 : decode code 372 = .ok (.iconst 4, 1) := by decide +kernel
theorem dw_373 : decode code 373 = .ok (.iadd, 1) := by decide +kernel
theorem dw_374 : decode code 374 = .ok (.iaload, 1) := by decide +kernel
theorem dw_375 : decode code 375 = .ok (.invokevirtual 32, 3) := by decide +kernel
theorem dw_378 : decode code 378 = .ok (.aload_n 2, 1) := by decide +kernel
theorem dw_379 : decode code 379 = .ok (.aload_n 0, 1) := by decide +kernel
theorem dw_380 : decode code 380 = .ok (.iload_n 3, 1) := by decide +kernel
theorem dw_381 : decode code 381 = .ok (.iconst 1, 1) := by decide +kernel
theorem dw_382 : decode code 382 = .ok (.iadd, 1) := by decide +kernel
theorem dw_383 : decode code 383 = .ok (.iaload, 1) := by decide +kernel
theorem dw_384 : decode code 384 = .ok (.aload_n 0, 1) := by decide +kernel
theorem dw_385 : decode code 385 = .ok (.iload_n 3, 1) := by decide +kernel
theorem dw_386 : decode code 386 = .ok (.iconst 2, 1) := by decide +kernel
theorem dw_387 : decode code 387 = .ok (.iadd, 1) := by decide +kernel
theorem dw_388 : decode code 388 = .ok (.iaload, 1) := by decide +kernel
theorem dw_389 : decode code 389 = .ok (.aload_n 0, 1) := by decide +kernel
theorem dw_390 : decode code 390 = .ok (.iload_n 3, 1) := by decide +kernel
theorem dw_391 : decode code 391 = .ok (.iconst 3, 1) := by decide +kernel
theorem dw_392 : decode code 392 = .ok (.iadd, 1) := by decide +kernel
theorem dw_393 : decode code 393 = .ok (.iaload, 1) := by decide +kernel
theorem dw_394 : decode code 394 = .ok (.aload_n 0, 1) := by decide +kernel
theorem dw_395 : decode code 395 = .ok (.iload_n 3, 1) := by decide +kernel
theorem dw_396 : decode code 396 = .ok (.iconst 4, 1) := by decide +kernel
theorem dw_397 : decode code 397 = .ok (.iadd, 1) := by decide +kernel
theorem dw_398 : decode code 398 = .ok (.iaload, 1) := by decide +kernel
theorem dw_399 : decode code 399 = .ok (.invokevirtual 35, 3) := by decide +kernel
theorem dw_402 : decode code 402 = .ok (.if_icmp .eq 1143, 3) := by decide +kernel
theorem dw_407 : decode code 407 = .ok (.aload_n 1, 1) := by decide +kernel
theorem dw_408 : decode code 408 = .ok (.aload_n 0, 1) := by decide +kernel
theorem dw_409 : decode code 409 = .ok (.iload_n 3, 1) := by decide +kernel
theorem dw_410 : decode code 410 = .ok (.iconst 1, 1) := by decide +kernel
theorem dw_411 : decode code 411 = .ok (.iadd, 1) := by decide +kernel
theorem dw_412 : decode code 412 = .ok (.iaload, 1) := by decide +kernel
theorem dw_413 : decode code 413 = .ok (.aload_n 0, 1) := by decide +kernel
theorem dw_414 : decode code 414 = .ok (.iload_n 3, 1) := by decide +kernel
theorem dw_415 : decode code 415 = .ok (.iconst 2, 1) := by decide +kernel
theorem dw_416 : decode code 416 = .ok (.iadd, 1) := by decide +kernel
theorem dw_417 : decode code 417 = .ok (.iaload, 1) := by decide +kernel
theorem dw_418 : decode code 418 = .ok (.invokevirtual 36, 3) := by decide +kernel
theorem dw_421 : decode code 421 = .ok (.aload_n 2, 1) := by decide +kernel
theorem dw_422 : decode code 422 = .ok (.aload_n 0, 1) := by decide +kernel
theorem dw_423 : decode code 423 = .ok (.iload_n 3, 1) := by decide +kernel
theorem dw_424 : decode code 424 = .ok (.iconst 1, 1) := by decide +kernel
theorem dw_425 : decode code 425 = .ok (.iadd, 1) := by decide +kernel
theorem dw_426 : decode code 426 = .ok (.iaload, 1) := by decide +kernel
theorem dw_427 : decode code 427 = .ok (.aload_n 0, 1) := by decide +kernel
theorem dw_428 : decode code 428 = .ok (.iload_n 3, 1) := by decide +kernel
theorem dw_429 : decode code 429 = .ok (.iconst 2, 1) := by decide +kernel
theorem dw_430 : decode code 430 = .ok (.iadd, 1) := by decide +kernel
theorem dw_431 : decode code 431 = .ok (.iaload, 1) := by decide +kernel
theorem dw_432 : decode code 432 = .ok (.invokevirtual 40, 3) := by decide +kernel
theorem dw_435 : decode code 435 = .ok (.if_icmp .eq 1110, 3) := by decide +kernel
theorem dw_440 : decode code 440 = .ok (.aload_n 1, 1) := by decide +kernel
theorem dw_441 : decode code 441 = .ok (.aload_n 0, 1) := by decide +kernel
theorem dw_442 : decode code 442 = .ok (.iload_n 3, 1) := by decide +kernel
theorem dw_443 : decode code 443 = .ok (.iconst 1, 1) := by decide +kernel
theorem dw_444 : decode code 444 = .ok (.iadd, 1) := by decide +kernel
theorem dw_445 : decode code 445 = .ok (.iaload, 1) := by decide +kernel
theorem dw_446 : decode code 446 = .ok (.aload_n 0, 1) := by decide +kernel
theorem dw_447 : decode code 447 = .ok (.iload_n 3, 1) := by decide +kernel
theorem dw_448 : decode code 448 = .ok (.iconst 2, 1) := by decide +kernel
theorem dw_449 : decode code 449 = .ok (.iadd, 1) := by decide +kernel
theorem dw_450 : decode code 450 = .ok (.iaload, 1) := by decide +kernel
theorem dw_451 : decode code 451 = .ok (.aload_n 0, 1) := by decide +kernel
theorem dw_452 : decode code 452 = .ok (.iload_n 3, 1) := by decide +kernel
theorem dw_453 : decode code 453 = .ok (.iconst 3, 1) := by decide +kernel
theorem dw_454 : decode code 454 = .ok (.iadd, 1) := by decide +kernel
theorem dw_455 : decode code 455 = .ok (.iaload, 1) := by decide +kernel
theorem dw_456 : decode code 456 = .ok (.aload_n 0, 1) := by decide +kernel
theorem dw_457 : decode code 457 = .ok (.iload_n 3, 1) := by decide +kernel
theorem dw_458 : decode code 458 = .ok (.iconst 4, 1) := by decide +kernel
theorem dw_459 : decode code 459 = .ok (.iadd, 1) := by decide +kernel
theorem dw_460 : decode code 460 = .ok (.iaload, 1) := by decide +kernel
theorem dw_461 : decode code 461 = .ok (.aload_n 0, 1) := by decide +kernel
theorem dw_462 : decode code 462 = .ok (.iload_n 3, 1) := by decide +kernel
theorem dw_463 : decode code 463 = .ok (.iconst 5, 1) := by decide +kernel
theorem dw_464 : decode code 464 = .ok (.iadd, 1) := by decide +kernel
theorem dw_465 : decode code 465 = .ok (.iaload, 1) := by decide +kernel
theorem dw_466 : decode code 466 = .ok (.aload_n 0, 1) := by decide +kernel
theorem dw_467 : decode code 467 = .ok (.iload_n 3, 1) := by decide +kernel
theorem dw_468 : decode code 468 = .ok (.bipush 6, 2) := by decide +kernel
theorem dw_470 : decode code 470 = .ok (.iadd, 1) := by decide +kernel
theorem dw_471 : decode code 471 = .ok (.iaload, 1) := by decide +kernel
theorem dw_472 : decode code 472 = .ok (.aload_n 0, 1) := by decide +kernel
theorem dw_473 : decode code 473 = .ok (.iload_n 3, 1) := by decide +kernel
theorem dw_474 : decode code 474 = .ok (.bipush 7, 2) := by decide +kernel
theorem dw_476 : decode code 476 = .ok (.iadd, 1) := by decide +kernel
theorem dw_477 : decode code 477 = .ok (.iaload, 1) := by decide +kernel
theorem dw_478 : decode code 478 = .ok (.invokevirtual 41, 3) := by decide +kernel
theorem dw_481 : decode code 481 = .ok (.aload_n 2, 1) := by decide +kernel
theorem dw_482 : decode code 482 = .ok (.aload_n 0, 1) := by decide +kernel
theorem dw_483 : decode code 483 = .ok (.iload_n 3, 1) := by decide +kernel
theorem dw_484 : decode code 484 = .ok (.iconst 1, 1) := by decide +kernel
theorem dw_485 : decode code 485 = .ok (.iadd, 1) := by decide +kernel
theorem dw_486 : decode code 486 = .ok (.iaload, 1) := by decide +kernel
theorem dw_487 : decode code 487 = .ok (.aload_n 0, 1) := by decide +kernel
theorem dw_488 : decode code 488 = .ok (.iload_n 3, 1) := by decide +kernel
theorem dw_489 : decode code 489 = .ok (.iconst 2, 1) := by decide +kernel
theorem dw_490 : decode code 490 = .ok (.iadd, 1) := by decide +kernel
theorem dw_491 : decode code 491 = .ok (.iaload, 1) := by decide +kernel
theorem dw_492 : decode code 492 = .ok (.aload_n 0, 1) := by decide +kernel
theorem dw_493 : decode code 493 = .ok (.iload_n 3, 1) := by decide +kernel
theorem dw_494 : decode code 494 = .ok (.iconst 3, 1) := by decide +kernel
theorem dw_495 : decode code 495 = .ok (.iadd, 1) := by decide +kernel
theorem dw_496 : decode code 496 = .ok (.iaload, 1) := by decide +kernel
theorem dw_497 : decode code 497 = .ok (.aload_n 0, 1) := by decide +kernel
theorem dw_498 : decode code 498 = .ok (.iload_n 3, 1) := by decide +kernel
theorem dw_499 : decode code 499 = .ok (.iconst 4, 1) := by decide +kernel
theorem dw_500 : decode code 500 = .ok (.iadd, 1) := by decide +kernel
theorem dw_501 : decode code 501 = .ok (.iaload, 1) := by decide +kernel
theorem dw_502 : decode code 502 = .ok (.aload_n 0, 1) := by decide +kernel
theorem dw_503 : decode code 503 = .ok (.iload_n 3, 1) := by decide +kernel
theorem dw_504 : decode code 504 = .ok (.iconst 5, 1) := by decide +kernel
theorem dw_505 : decode code 505 = .ok (.iadd, 1) := by decide +kernel
theorem dw_506 : decode code 506 = .ok (.iaload, 1) := by decide +kernel
theorem dw_507 : decode code 507 = .ok (.aload_n 0, 1) := by decide +kernel
theorem dw_508 : decode code 508 = .ok (.iload_n 3, 1) := by decide +kernel
theorem dw_509 : decode code 509 = .ok (.bipush 6, 2) := by decide +kernel
theorem dw_511 : decode code 511 = .ok (.iadd, 1) := by decide +kernel
theorem dw_512 : decode code 512 = .ok (.iaload, 1) := by decide +kernel
theorem dw_513 : decode code 513 = .ok (.aload_n 0, 1) := by decide +kernel
theorem dw_514 : decode code 514 = .ok (.iload_n 3, 1) := by decide +kernel
theorem dw_515 : decode code 515 = .ok (.bipush 7, 2) := by decide +kernel
theorem dw_517 : decode code 517 = .ok (.iadd, 1) := by decide +kernel
theorem dw_518 : decode code 518 = .ok (.iaload, 1) := by decide +kernel
theorem dw_519 : decode code 519 = .ok (.invokevirtual 45, 3) := by decide +kernel
theorem dw_522 : decode code 522 = .ok (.if_icmp .eq 1023, 3) := by decide +kernel
theorem dw_527 : decode code 527 = .ok (.aload_n 1, 1) := by decide +kernel
theorem dw_528 : decode code 528 = .ok (.aload_n 0, 1) := by decide +kernel
theorem dw_529 : decode code 529 = .ok (.iload_n 3, 1) := by decide +kernel
theorem dw_530 : decode code 530 = .ok (.iconst 1, 1) := by decide +kernel
theorem dw_531 : decode code 531 = .ok (.iadd, 1) := by decide +kernel
theorem dw_532 : decode code 532 = .ok (.iaload, 1) := by decide +kernel
theorem dw_533 : decode code 533 = .ok (.aload_n 0, 1) := by decide +kernel
theorem dw_534 : decode code 534 = .ok (.iload_n 3, 1) := by decide +kernel
theorem dw_535 : decode code 535 = .ok (.iconst 2, 1) := by decide +kernel
theorem dw_536 : decode code 536 = .ok (.iadd, 1) := by decide +kernel
theorem dw_537 : decode code 537 = .ok (.iaload, 1) := by decide +kernel
theorem dw_538 : decode code 538 = .ok (.aload_n 0, 1) := by decide +kernel
theorem dw_539 : decode code 539 = .ok (.iload_n 3, 1) := by decide +kernel
theorem dw_540 : decode code 540 = .ok (.iconst 3, 1) := by decide +kernel
theorem dw_541 : decode code 541 = .ok (.iadd, 1) := by decide +kernel
theorem dw_542 : decode code 542 = .ok (.iaload, 1) := by decide +kernel
theorem dw_543 : decode code 543 = .ok (.invokevirtual 46, 3) := by decide +kernel
theorem dw_546 : decode code 546 = .ok (.aload_n 2, 1) := by decide +kernel
theorem dw_547 : decode code 547 = .ok (.aload_n 0, 1) := by decide +kernel
theorem dw_548 : decode code 548 = .ok (.iload_n 3, 1) := by decide +kernel
theorem dw_549 : decode code 549 = .ok (.iconst 1, 1) := by decide +kernel
theorem dw_550 : decode code 550 = .ok (.iadd, 1) := by decide +kernel
theorem dw_551 : decode code 551 = .ok (.iaload, 1) := by decide +kernel
theorem dw_552 : decode code 552 = .ok (.aload_n 0, 1) := by decide +kernel
theorem dw_553 : decode code 553 = .ok (.iload_n 3, 1) := by decide +kernel
theorem dw_554 : decode code 554 = .ok (.iconst 2, 1) := by decide +kernel
theorem dw_555 : decode code 555 = .ok (.iadd, 1) := by decide +kernel
theorem dw_556 : decode code 556 = .ok (.iaload, 1) := by decide +kernel
theorem dw_557 : decode code 557 = .ok (.aload_n 0, 1) := by decide +kernel
theorem dw_558 : decode code 558 = .ok (.iload_n 3, 1) := by decide +kernel
theorem dw_559 : decode code 559 = .ok (.iconst 3, 1) := by decide +kernel
theorem dw_560 : decode code 560 = .ok (.iadd, 1) := by decide +kernel
theorem dw_561 : decode code 561 = .ok (.iaload, 1) := by decide +kernel
theorem dw_562 : decode code 562 = .ok (.invokevirtual 49, 3) := by decide +kernel
theorem dw_565 : decode code 565 = .ok (.if_icmp .eq 980, 3) := by decide +kernel
theorem dw_570 : decode code 570 = .ok (.aload_n 1, 1) := by decide +kernel
theorem dw_571 : decode code 571 = .ok (.aload_n 0, 1) := by decide +kernel
theorem dw_572 : decode code 572 = .ok (.iload_n 3, 1) := by decide +kernel
theorem dw_573 : decode code 573 = .ok (.iconst 1, 1) := by decide +kernel
theorem dw_574 : decode code 574 = .ok (.iadd, 1) := by decide +kernel
theorem dw_575 : decode code 575 = .ok (.iaload, 1) := by decide +kernel
theorem dw_576 : decode code 576 = .ok (.aload_n 0, 1) := by decide +kernel
theorem dw_577 : decode code 577 = .ok (.iload_n 3, 1) := by decide +kernel
theorem dw_578 : decode code 578 = .ok (.iconst 2, 1) := by decide +kernel
theorem dw_579 : decode code 579 = .ok (.iadd, 1) := by decide +kernel
theorem dw_580 : decode code 580 = .ok (.iaload, 1) := by decide +kernel
theorem dw_581 : decode code 581 = .ok (.aload_n 0, 1) := by decide +kernel
theorem dw_582 : decode code 582 = .ok (.iload_n 3, 1) := by decide +kernel
theorem dw_583 : decode code 583 = .ok (.iconst 3, 1) := by decide +kernel
theorem dw_584 : decode code 584 = .ok (.iadd, 1) := by decide +kernel
theorem dw_585 : decode code 585 = .ok (.iaload, 1) := by decide +kernel
theorem dw_586 : decode code 586 = .ok (.aload_n 0, 1) := by decide +kernel
theorem dw_587 : decode code 587 = .ok (.iload_n 3, 1) := by decide +kernel
theorem dw_588 : decode code 588 = .ok (.iconst 4, 1) := by decide +kernel
theorem dw_589 : decode code 589 = .ok (.iadd, 1) := by decide +kernel
theorem dw_590 : decode code 590 = .ok (.iaload, 1) := by decide +kernel
theorem dw_591 : decode code 591 = .ok (.invokevirtual 50, 3) := by decide +kernel
theorem dw_594 : decode code 594 = .ok (.aload_n 2, 1) := by decide +kernel
theorem dw_595 : decode code 595 = .ok (.aload_n 0, 1) := by decide +kernel
theorem dw_596 : decode code 596 = .ok (.iload_n 3, 1) := by decide +kernel
theorem dw_597 : decode code 597 = .ok (.iconst 1, 1) := by decide +kernel
theorem dw_598 : decode code 598 = .ok (.iadd, 1) := by decide +kernel
theorem dw_599 : decode code 599 = .ok (.iaload, 1) := by decide +kernel
theorem dw_600 : decode code 600 = .ok (.aload_n 0, 1) := by decide +kernel
theorem dw_601 : decode code 601 = .ok (.iload_n 3, 1) := by decide +kernel
theorem dw_602 : decode code 602 = .ok (.iconst 2, 1) := by decide +kernel
theorem dw_603 : decode code 603 = .ok (.iadd, 1) := by decide +kernel
theorem dw_604 : decode code 604 = .ok (.iaload, 1) := by decide +kernel
theorem dw_605 : decode code 605 = .ok (.aload_n 0, 1) := by decide +kernel
theorem dw_606 : decode code 606 = .ok (.iload_n 3, 1) := by decide +kernel
theorem dw_607 : decode code 607 = .ok (.iconst 3, 1) := by decide +kernel
theorem dw_608 : decode code 608 = .ok (.iadd, 1) := by decide +kernel
theorem dw_609 : decode code 609 = .ok (.iaload, 1) := by decide +kernel
theorem dw_610 : decode code 610 = .ok (.aload_n 0, 1) := by decide +kernel
theorem dw_611 : decode code 611 = .ok (.iload_n 3, 1) := by decide +kernel
theorem dw_612 : decode code 612 = .ok (.iconst 4, 1) := by decide +kernel
theorem dw_613 : decode code 613 = .ok (.iadd, 1) := by decide +kernel
theorem dw_614 : decode code 614 = .ok (.iaload, 1) := by decide +kernel
theorem dw_615 : decode code 615 = .ok (.invokevirtual 53, 3) := by decide +kernel
theorem dw_618 : decode code 618 = .ok (.if_icmp .eq 927, 3) := by decide +kernel
theorem dw_623 : decode code 623 = .ok (.aload_n 1, 1) := by decide +kernel
theorem dw_624 : decode code 624 = .ok (.aload_n 0, 1) := by decide +kernel
theorem dw_625 : decode code 625 = .ok (.iload_n 3, 1) := by decide +kernel
theorem dw_626 : decode code 626 = .ok (.iconst 1, 1) := by decide +kernel
theorem dw_627 : decode code 627 = .ok (.iadd, 1) := by decide +kernel
theorem dw_628 : decode code 628 = .ok (.iaload, 1) := by decide +kernel
theorem dw_629 : decode code 629 = .ok (.aload_n 0, 1) := by decide +kernel
theorem dw_630 : decode code 630 = .ok (.iload_n 3, 1) := by decide +kernel
theorem dw_631 : decode code 631 = .ok (.iconst 2, 1) := by decide +kernel
theorem dw_632 : decode code 632 = .ok (.iadd, 1) := by decide +kernel
theorem dw_633 : decode code 633 = .ok (.iaload, 1) := by decide +kernel
theorem dw_634 : decode code 634 = .ok (.aload_n 0, 1) := by decide +kernel
theorem dw_635 : decode code 635 = .ok (.iload_n 3, 1) := by decide +kernel
theorem dw_636 : decode code 636 = .ok (.iconst 3, 1) := by decide +kernel
theorem dw_637 : decode code 637 = .ok (.iadd, 1) := by decide +kernel
theorem dw_638 : decode code 638 = .ok (.iaload, 1) := by decide +kernel
theorem dw_639 : decode code 639 = .ok (.invokevirtual 54, 3) := by decide +kernel
theorem dw_642 : decode code 642 = .ok (.aload_n 2, 1) := by decide +kernel
theorem dw_643 : decode code 643 = .ok (.aload_n 0, 1) := by decide +kernel
theorem dw_644 : decode code 644 = .ok (.iload_n 3, 1) := by decide +kernel
theorem dw_645 : decode code 645 = .ok (.iconst 1, 1) := by decide +kernel
theorem dw_646 : decode code 646 = .ok (.iadd, 1) := by decide +kernel
theorem dw_647 : decode code 647 = .ok (.iaload, 1) := by decide +kernel
theorem dw_648 : decode code 648 = .ok (.aload_n 0, 1) := by decide +kernel
theorem dw_649 : decode code 649 = .ok (.iload_n 3, 1) := by decide +kernel
theorem dw_650 : decode code 650 = .ok (.iconst 2, 1) := by decide +kernel
theorem dw_651 : decode code 651 = .ok (.iadd, 1) := by decide +kernel
theorem dw_652 : decode code 652 = .ok (.iaload, 1) := by decide +kernel
theorem dw_653 : decode code 653 = .ok (.aload_n 0, 1) := by decide +kernel
theorem dw_654 : decode code 654 = .ok (.iload_n 3, 1) := by decide +kernel
theorem dw_655 : decode code 655 = .ok (.iconst 3, 1) := by decide +kernel
theorem dw_656 : decode code 656 = .ok (.iadd, 1) := by decide +kernel
theorem dw_657 : decode code 657 = .ok (.iaload, 1) := by decide +kernel
theorem dw_658 : decode code 658 = .ok (.invokevirtual 57, 3) := by decide +kernel
theorem dw_661 : decode code 661 = .ok (.if_icmp .eq 884, 3) := by decide +kernel
theorem dw_666 : decode code 666 = .ok (.aload_n 1, 1) := by decide +kernel
theorem dw_667 : decode code 667 = .ok (.aload_n 0, 1) := by decide +kernel
theorem dw_668 : decode code 668 = .ok (.iload_n 3, 1) := by decide +kernel
theorem dw_669 : decode code 669 = .ok (.iconst 1, 1) := by decide +kernel
theorem dw_670 : decode code 670 = .ok (.iadd, 1) := by decide +kernel
theorem dw_671 : decode code 671 = .ok (.iaload, 1) := by decide +kernel
theorem dw_672 : decode code 672 = .ok (.i2l, 1) := by decide +kernel
theorem dw_673 : decode code 673 = .ok (.bipush 32, 2) := by decide +kernel
theorem dw_675 : decode code 675 = .ok (.lshl, 1) := by decide +kernel
theorem dw_676 : decode code 676 = .ok (.aload_n 0, 1) := by decide +kernel
theorem dw_677 : decode code 677 = .ok (.iload_n 3, 1) := by decide +kernel
theorem dw_678 : decode code 678 = .ok (.iconst 2, 1) := by decide +kernel
theorem dw_679 : decode code 679 = .ok (.iadd, 1) := by decide +kernel
theorem dw_680 : decode code 680 = .ok (.iaload, 1) := by decide +kernel
theorem dw_681 : decode code 681 = .ok (.i2l, 1) := by decide +kernel
theorem dw_682 : decode code 682 = .ok (.ldc2_w 58, 3) := by decide +kernel
theorem dw_685 : decode code 685 = .ok (.land, 1) := by decide +kernel
theorem dw_686 : decode code 686 = .ok (.lor, 1) := by decide +kernel
theorem dw_687 : decode code 687 = .ok (.invokevirtual 60, 3) := by decide +kernel
theorem dw_690 : decode code 690 = .ok (.aload_n 2, 1) := by decide +kernel
theorem dw_691 : decode code 691 = .ok (.aload_n 0, 1) := by decide +kernel
theorem dw_692 : decode code 692 = .ok (.iload_n 3, 1) := by decide +kernel
theorem dw_693 : decode code 693 = .ok (.iconst 1, 1) := by decide +kernel
theorem dw_694 : decode code 694 = .ok (.iadd, 1) := by decide +kernel
theorem dw_695 : decode code 695 = .ok (.iaload, 1) := by decide +kernel
theorem dw_696 : decode code 696 = .ok (.i2l, 1) := by decide +kernel
theorem dw_697 : decode code 697 = .ok (.bipush 32, 2) := by decide +kernel
theorem dw_699 : decode code 699 = .ok (.lshl, 1) := by decide +kernel
theorem dw_700 : decode code 700 = .ok (.aload_n 0, 1) := by decide +kernel
theorem dw_701 : decode code 701 = .ok (.iload_n 3, 1) := by decide +kernel
theorem dw_702 : decode code 702 = .ok (.iconst 2, 1) := by decide +kernel
theorem dw_703 : decode code 703 = .ok (.iadd, 1) := by decide +kernel
theorem dw_704 : decode code 704 = .ok (.iaload, 1) := by decide +kernel
theorem dw_705 : decode code 705 = .ok (.i2l, 1) := by decide +kernel
theorem dw_706 : decode code 706 = .ok (.ldc2_w 58, 3) := by decide +kernel
theorem dw_709 : decode code 709 = .ok (.land, 1) := by decide +kernel
theorem dw_710 : decode code 710 = .ok (.lor, 1) := by decide +kernel
theorem dw_711 : decode code 711 = .ok (.invokevirtual 64, 3) := by decide +kernel
theorem dw_714 : decode code 714 = .ok (.if_icmp .eq 831, 3) := by decide +kernel
theorem dw_719 : decode code 719 = .ok (.aload_n 1, 1) := by decide +kernel
theorem dw_720 : decode code 720 = .ok (.aload_n 0, 1) := by decide +kernel
theorem dw_721 : decode code 721 = .ok (.iload_n 3, 1) := by decide +kernel
theorem dw_722 : decode code 722 = .ok (.iconst 1, 1) := by decide +kernel
theorem dw_723 : decode code 723 = .ok (.iadd, 1) := by decide +kernel
theorem dw_724 : decode code 724 = .ok (.iaload, 1) := by decide +kernel
theorem dw_725 : decode code 725 = .ok (.invokevirtual 65, 3) := by decide +kernel
theorem dw_728 : decode code 728 = .ok (.aload_n 2, 1) := by decide +kernel
theorem dw_729 : decode code 729 = .ok (.aload_n 0, 1) := by decide +kernel
theorem dw_730 : decode code 730 = .ok (.iload_n 3, 1) := by decide +kernel
theorem dw_731 : decode code 731 = .ok (.iconst 1, 1) := by decide +kernel
theorem dw_732 : decode code 732 = .ok (.iadd, 1) := by decide +kernel
theorem dw_733 : decode code 733 = .ok (.iaload, 1) := by decide +kernel
theorem dw_734 : decode code 734 = .ok (.invokevirtual 68, 3) := by decide +kernel
theorem dw_737 : decode code 737 = .ok (.if_icmp .eq 808, 3) := by decide +kernel
theorem dw_742 : decode code 742 = .ok (.aload_n 1, 1) := by decide +kernel
theorem dw_743 : decode code 743 = .ok (.invokevirtual 69, 3) := by decide +kernel
theorem dw_746 : decode code 746 = .ok (.aload_n 2, 1) := by decide +kernel
theorem dw_747 : decode code 747 = .ok (.invokevirtual 73, 3) := by decide +kernel
theorem dw_750 : decode code 750 = .ok (.if_icmp .eq 795, 3) := by decide +kernel
theorem dw_755 : decode code 755 = .ok (.aload_n 1, 1) := by decide +kernel
theorem dw_756 : decode code 756 = .ok (.invokevirtual 74, 3) := by decide +kernel
theorem dw_759 : decode code 759 = .ok (.aload_n 2, 1) := by decide +kernel
theorem dw_760 : decode code 760 = .ok (.invokevirtual 77, 3) := by decide +kernel
theorem dw_763 : decode code 763 = .ok (.if_icmp .eq 782, 3) := by decide +kernel
theorem dw_768 : decode code 768 = .ok (.aload_n 1, 1) := by decide +kernel
theorem dw_769 : decode code 769 = .ok (.aload_n 0, 1) := by decide +kernel
theorem dw_770 : decode code 770 = .ok (.iload_n 3, 1) := by decide +kernel
theorem dw_771 : decode code 771 = .ok (.iconst 1, 1) := by decide +kernel
theorem dw_772 : decode code 772 = .ok (.iadd, 1) := by decide +kernel
theorem dw_773 : decode code 773 = .ok (.iaload, 1) := by decide +kernel
theorem dw_774 : decode code 774 = .ok (.aload_n 0, 1) := by decide +kernel
theorem dw_775 : decode code 775 = .ok (.iload_n 3, 1) := by decide +kernel
theorem dw_776 : decode code 776 = .ok (.iconst 2, 1) := by decide +kernel
theorem dw_777 : decode code 777 = .ok (.iadd, 1) := by decide +kernel
theorem dw_778 : decode code 778 = .ok (.iaload, 1) := by decide +kernel
theorem dw_779 : decode code 779 = .ok (.aload_n 0, 1) := by decide +kernel
theorem dw_780 : decode code 780 = .ok (.iload_n 3, 1) := by decide +kernel
theorem dw_781 : decode code 781 = .ok (.iconst 3, 1) := by decide +kernel
theorem dw_782 : decode code 782 = .ok (.iadd, 1) := by decide +kernel
theorem dw_783 : decode code 783 = .ok (.iaload, 1) := by decide +kernel
theorem dw_784 : decode code 784 = .ok (.invokevirtual 78, 3) := by decide +kernel
theorem dw_787 : decode code 787 = .ok (.aload_n 2, 1) := by decide +kernel
theorem dw_788 : decode code 788 = .ok (.aload_n 0, 1) := by decide +kernel
theorem dw_789 : decode code 789 = .ok (.iload_n 3, 1) := by decide +kernel
theorem dw_790 : decode code 790 = .ok (.iconst 1, 1) := by decide +kernel
theorem dw_791 : decode code 791 = .ok (.iadd, 1) := by decide +kernel
theorem dw_792 : decode code 792 = .ok (.iaload, 1) := by decide +kernel
theorem dw_793 : decode code 793 = .ok (.aload_n 0, 1) := by decide +kernel
theorem dw_794 : decode code 794 = .ok (.iload_n 3, 1) := by decide +kernel
theorem dw_795 : decode code 795 = .ok (.iconst 2, 1) := by decide +kernel
theorem dw_796 : decode code 796 = .ok (.iadd, 1) := by decide +kernel
theorem dw_797 : decode code 797 = .ok (.iaload, 1) := by decide +kernel
theorem dw_798 : decode code 798 = .ok (.aload_n 0, 1) := by decide +kernel
theorem dw_799 : decode code 799 = .ok (.iload_n 3, 1) := by decide +kernel
theorem dw_800 : decode code 800 = .ok (.iconst 3, 1) := by decide +kernel
theorem dw_801 : decode code 801 = .ok (.iadd, 1) := by decide +kernel
theorem dw_802 : decode code 802 = .ok (.iaload, 1) := by decide +kernel
theorem dw_803 : decode code 803 = .ok (.invokevirtual 81, 3) := by decide +kernel
theorem dw_806 : decode code 806 = .ok (.if_icmp .eq 739, 3) := by decide +kernel
theorem dw_811 : decode code 811 = .ok (.aload_n 1, 1) := by decide +kernel
theorem dw_812 : decode code 812 = .ok (.aload_n 0, 1) := by decide +kernel
theorem dw_813 : decode code 813 = .ok (.iload_n 3, 1) := by decide +kernel
theorem dw_814 : decode code 814 = .ok (.iconst 1, 1) := by decide +kernel
theorem dw_815 : decode code 815 = .ok (.iadd, 1) := by decide +kernel
theorem dw_816 : decode code 816 = .ok (.iaload, 1) := by decide +kernel
theorem dw_817 : decode code 817 = .ok (.aload_n 0, 1) := by decide +kernel
theorem dw_818 : decode code 818 = .ok (.iload_n 3, 1) := by decide +kernel
theorem dw_819 : decode code 819 = .ok (.iconst 2, 1) := by decide +kernel
theorem dw_820 : decode code 820 = .ok (.iadd, 1) := by decide +kernel
theorem dw_821 : decode code 821 = .ok (.iaload, 1) := by decide +kernel
theorem dw_822 : decode code 822 = .ok (.aload_n 0, 1) := by decide +kernel
theorem dw_823 : decode code 823 = .ok (.iload_n 3, 1) := by decide +kernel
theorem dw_824 : decode code 824 = .ok (.iconst 3, 1) := by decide +kernel
theorem dw_825 : decode code 825 = .ok (.iadd, 1) := by decide +kernel
theorem dw_826 : decode code 826 = .ok (.iaload, 1) := by decide +kernel
theorem dw_827 : decode code 827 = .ok (.invokevirtual 82, 3) := by decide +kernel
theorem dw_830 : decode code 830 = .ok (.aload_n 2, 1) := by decide +kernel
theorem dw_831 : decode code 831 = .ok (.aload_n 0, 1) := by decide +kernel
theorem dw_832 : decode code 832 = .ok (.iload_n 3, 1) := by decide +kernel
theorem dw_833 : decode code 833 = .ok (.iconst 1, 1) := by decide +kernel
theorem dw_834 : decode code 834 = .ok (.iadd, 1) := by decide +kernel
theorem dw_835 : decode code 835 = .ok (.iaload, 1) := by decide +kernel
theorem dw_836 : decode code 836 = .ok (.aload_n 0, 1) := by decide +kernel
theorem dw_837 : decode code 837 = .ok (.iload_n 3, 1) := by decide +kernel
theorem dw_838 : decode code 838 = .ok (.iconst 2, 1) := by decide +kernel
theorem dw_839 : decode code 839 = .ok (.iadd, 1) := by decide +kernel
theorem dw_840 : decode code 840 = .ok (.iaload, 1) := by decide +kernel
theorem dw_841 : decode code 841 = .ok (.aload_n 0, 1) := by decide +kernel
theorem dw_842 : decode code 842 = .ok (.iload_n 3, 1) := by decide +kernel
theorem dw_843 : decode code 843 = .ok (.iconst 3, 1) := by decide +kernel
theorem dw_844 : decode code 844 = .ok (.iadd, 1) := by decide +kernel
theorem dw_845 : decode code 845 = .ok (.iaload, 1) := by decide +kernel
theorem dw_846 : decode code 846 = .ok (.invokevirtual 85, 3) := by decide +kernel
theorem dw_849 : decode code 849 = .ok (.if_icmp .eq 696, 3) := by decide +kernel
theorem dw_854 : decode code 854 = .ok (.aload_n 1, 1) := by decide +kernel
theorem dw_855 : decode code 855 = .ok (.aload_n 0, 1) := by decide +kernel
theorem dw_856 : decode code 856 = .ok (.iload_n 3, 1) := by decide +kernel
theorem dw_857 : decode code 857 = .ok (.iconst 1, 1) := by decide +kernel
theorem dw_858 : decode code 858 = .ok (.iadd, 1) := by decide +kernel
theorem dw_859 : decode code 859 = .ok (.iaload, 1) := by decide +kernel
theorem dw_860 : decode code 860 = .ok (.aload_n 0, 1) := by decide +kernel
theorem dw_861 : decode code 861 = .ok (.iload_n 3, 1) := by decide +kernel
theorem dw_862 : decode code 862 = .ok (.iconst 2, 1) := by decide +kernel
theorem dw_863 : decode code 863 = .ok (.iadd, 1) := by decide +kernel
theorem dw_864 : decode code 864 = .ok (.iaload, 1) := by decide +kernel
theorem dw_865 : decode code 865 = .ok (.aload_n 0, 1) := by decide +kernel
theorem dw_866 : decode code 866 = .ok (.iload_n 3, 1) := by decide +kernel
theorem dw_867 : decode code 867 = .ok (.iconst 3, 1) := by decide +kernel
theorem dw_868 : decode code 868 = .ok (.iadd, 1) := by decide +kernel
theorem dw_869 : decode code 869 = .ok (.iaload, 1) := by decide +kernel
theorem dw_870 : decode code 870 = .ok (.invokevirtual 86, 3) := by decide +kernel
theorem dw_873 : decode code 873 = .ok (.aload_n 2, 1) := by decide +kernel
theorem dw_874 : decode code 874 = .ok (.aload_n 0, 1) := by decide +kernel
theorem dw_875 : decode code 875 = .ok (.iload_n 3, 1) := by decide +kernel
theorem dw_876 : decode code 876 = .ok (.iconst 1, 1) := by decide +kernel
theorem dw_877 : decode code 877 = .ok (.iadd, 1) := by decide +kernel
theorem dw_878 : decode code 878 = .ok (.iaload, 1) := by decide +kernel
theorem dw_879 : decode code 879 = .ok (.aload_n 0, 1) := by decide +kernel
theorem dw_880 : decode code 880 = .ok (.iload_n 3, 1) := by decide +kernel
theorem dw_881 : decode code 881 = .ok (.iconst 2, 1) := by decide +kernel
theorem dw_882 : decode code 882 = .ok (.iadd, 1) := by decide +kernel
theorem dw_883 : decode code 883 = .ok (.iaload, 1) := by decide +kernel
theorem dw_884 : decode code 884 = .ok (.aload_n 0, 1) := by decide +kernel
theorem dw_885 : decode code 885 = .ok (.iload_n 3, 1) := by decide +kernel
theorem dw_886 : decode code 886 = .ok (.iconst 3, 1) := by decide +kernel
theorem dw_887 : decode code 887 = .ok (.iadd, 1) := by decide +kernel
theorem dw_888 : decode code 888 = .ok (.iaload, 1) := by decide +kernel
theorem dw_889 : decode code 889 = .ok (.invokevirtual 89, 3) := by decide +kernel
theorem dw_892 : decode code 892 = .ok (.if_icmp .eq 653, 3) := by decide +kernel
theorem dw_897 : decode code 897 = .ok (.aload_n 1, 1) := by decide +kernel
theorem dw_898 : decode code 898 = .ok (.invokevirtual 90, 3) := by decide +kernel
theorem dw_901 : decode code 901 = .ok (.aload_n 2, 1) := by decide +kernel
theorem dw_902 : decode code 902 = .ok (.invokevirtual 93, 3) := by decide +kernel
theorem dw_905 : decode code 905 = .ok (.if_icmp .eq 640, 3) := by decide +kernel
theorem dw_910 : decode code 910 = .ok (.aload_n 1, 1) := by decide +kernel
theorem dw_911 : decode code 911 = .ok (.aload_n 0, 1) := by decide +kernel
theorem dw_912 : decode code 912 = .ok (.iload_n 3, 1) := by decide +kernel
theorem dw_913 : decode code 913 = .ok (.iconst 1, 1) := by decide +kernel
theorem dw_914 : decode code 914 = .ok (.iadd, 1) := by decide +kernel
theorem dw_915 : decode code 915 = .ok (.iaload, 1) := by decide +kernel
theorem dw_916 : decode code 916 = .ok (.aload_n 0, 1) := by decide +kernel
theorem dw_917 : decode code 917 = .ok (.iload_n 3, 1) := by decide +kernel
theorem dw_918 : decode code 918 = .ok (.iconst 2, 1) := by decide +kernel
theorem dw_919 : decode code 919 = .ok (.iadd, 1) := by decide +kernel
theorem dw_920 : decode code 920 = .ok (.iaload, 1) := by decide +kernel
theorem dw_921 : decode code 921 = .ok (.aload_n 0, 1) := by decide +kernel
theorem dw_922 : decode code 922 = .ok (.iload_n 3, 1) := by decide +kernel
theorem dw_923 : decode code 923 = .ok (.iconst 3, 1) := by decide +kernel
theorem dw_924 : decode code 924 = .ok (.iadd, 1) := by decide +kernel
theorem dw_925 : decode code 925 = .ok (.iaload, 1) := by decide +kernel
theorem dw_926 : decode code 926 = .ok (.invokevirtual 94, 3) := by decide +kernel
theorem dw_929 : decode code 929 = .ok (.aload_n 2, 1) := by decide +kernel
theorem dw_930 : decode code 930 = .ok (.aload_n 0, 1) := by decide +kernel
theorem dw_931 : decode code 931 = .ok (.iload_n 3, 1) := by decide +kernel
theorem dw_932 : decode code 932 = .ok (.iconst 1, 1) := by decide +kernel
theorem dw_933 : decode code 933 = .ok (.iadd, 1) := by decide +kernel
theorem dw_934 : decode code 934 = .ok (.iaload, 1) := by decide +kernel
theorem dw_935 : decode code 935 = .ok (.aload_n 0, 1) := by decide +kernel
theorem dw_936 : decode code 936 = .ok (.iload_n 3, 1) := by decide +kernel
theorem dw_937 : decode code 937 = .ok (.iconst 2, 1) := by decide +kernel
theorem dw_938 : decode code 938 = .ok (.iadd, 1) := by decide +kernel
theorem dw_939 : decode code 939 = .ok (.iaload, 1) := by decide +kernel
theorem dw_940 : decode code 940 = .ok (.aload_n 0, 1) := by decide +kernel
theorem dw_941 : decode code 941 = .ok (.iload_n 3, 1) := by decide +kernel
theorem dw_942 : decode code 942 = .ok (.iconst 3, 1) := by decide +kernel
theorem dw_943 : decode code 943 = .ok (.iadd, 1) := by decide +kernel
theorem dw_944 : decode code 944 = .ok (.iaload, 1) := by decide +kernel
theorem dw_945 : decode code 945 = .ok (.invokevirtual 97, 3) := by decide +kernel
theorem dw_948 : decode code 948 = .ok (.if_icmp .eq 597, 3) := by decide +kernel
theorem dw_953 : decode code 953 = .ok (.aload_n 1, 1) := by decide +kernel
theorem dw_954 : decode code 954 = .ok (.aload_n 0, 1) := by decide +kernel
theorem dw_955 : decode code 955 = .ok (.iload_n 3, 1) := by decide +kernel
theorem dw_956 : decode code 956 = .ok (.iconst 1, 1) := by decide +kernel
theorem dw_957 : decode code 957 = .ok (.iadd, 1) := by decide +kernel
theorem dw_958 : decode code 958 = .ok (.iaload, 1) := by decide +kernel
theorem dw_959 : decode code 959 = .ok (.aload_n 0, 1) := by decide +kernel
theorem dw_960 : decode code 960 = .ok (.iload_n 3, 1) := by decide +kernel
theorem dw_961 : decode code 961 = .ok (.iconst 2, 1) := by decide +kernel
theorem dw_962 : decode code 962 = .ok (.iadd, 1) := by decide +kernel
theorem dw_963 : decode code 963 = .ok (.iaload, 1) := by decide +kernel
theorem dw_964 : decode code 964 = .ok (.aload_n 0, 1) := by decide +kernel
theorem dw_965 : decode code 965 = .ok (.iload_n 3, 1) := by decide +kernel
theorem dw_966 : decode code 966 = .ok (.iconst 3, 1) := by decide +kernel
theorem dw_967 : decode code 967 = .ok (.iadd, 1) := by decide +kernel
theorem dw_968 : decode code 968 = .ok (.iaload, 1) := by decide +kernel
theorem dw_969 : decode code 969 = .ok (.aload_n 0, 1) := by decide +kernel
theorem dw_970 : decode code 970 = .ok (.iload_n 3, 1) := by decide +kernel
theorem dw_971 : decode code 971 = .ok (.iconst 4, 1) := by decide +kernel
theorem dw_972 : decode code 972 = .ok (.iadd, 1) := by decide +kernel
theorem dw_973 : decode code 973 = .ok (.iaload, 1) := by decide +kernel
theorem dw_974 : decode code 974 = .ok (.invokevirtual 98, 3) := by decide +kernel
theorem dw_977 : decode code 977 = .ok (.aload_n 2, 1) := by decide +kernel
theorem dw_978 : decode code 978 = .ok (.aload_n 0, 1) := by decide +kernel
theorem dw_979 : decode code 979 = .ok (.iload_n 3, 1) := by decide +kernel
theorem dw_980 : decode code 980 = .ok (.iconst 1, 1) := by decide +kernel
theorem dw_981 : decode code 981 = .ok (.iadd, 1) := by decide +kernel
theorem dw_982 : decode code 982 = .ok (.iaload, 1) := by decide +kernel
theorem dw_983 : decode code 983 = .ok (.aload_n 0, 1) := by decide +kernel
theorem dw_984 : decode code 984 = .ok (.iload_n 3, 1) := by decide +kernel
theorem dw_985 : decode code 985 = .ok (.iconst 2, 1) := by decide +kernel
theorem dw_986 : decode code 986 = .ok (.iadd, 1) := by decide +kernel
theorem dw_987 : decode code 987 = .ok (.iaload, 1) := by decide +kernel
theorem dw_988 : decode code 988 = .ok (.aload_n 0, 1) := by decide +kernel
theorem dw_989 : decode code 989 = .ok (.iload_n 3, 1) := by decide +kernel
theorem dw_990 : decode code 990 = .ok (.iconst 3, 1) := by decide +kernel
theorem dw_991 : decode code 991 = .ok (.iadd, 1) := by decide +kernel
theorem dw_992 : decode code 992 = .ok (.iaload, 1) := by decide +kernel
theorem dw_993 : decode code 993 = .ok (.aload_n 0, 1) := by decide +kernel
theorem dw_994 : decode code 994 = .ok (.iload_n 3, 1) := by decide +kernel
theorem dw_995 : decode code 995 = .ok (.iconst 4, 1) := by decide +kernel
theorem dw_996 : decode code 996 = .ok (.iadd, 1) := by decide +kernel
theorem dw_997 : decode code 997 = .ok (.iaload, 1) := by decide +kernel
theorem dw_998 : decode code 998 = .ok (.invokevirtual 101, 3) := by decide +kernel
theorem dw_1001 : decode code 1001 = .ok (.if_icmp .eq 544, 3) := by decide +kernel
theorem dw_1006 : decode code 1006 = .ok (.aload_n 1, 1) := by decide +kernel
theorem dw_1007 : decode code 1007 = .ok (.aload_n 0, 1) := by decide +kernel
theorem dw_1008 : decode code 1008 = .ok (.iload_n 3, 1) := by decide +kernel
theorem dw_1009 : decode code 1009 = .ok (.iconst 1, 1) := by decide +kernel
theorem dw_1010 : decode code 1010 = .ok (.iadd, 1) := by decide +kernel
theorem dw_1011 : decode code 1011 = .ok (.iaload, 1) := by decide +kernel
theorem dw_1012 : decode code 1012 = .ok (.aload_n 0, 1) := by decide +kernel
theorem dw_1013 : decode code 1013 = .ok (.iload_n 3, 1) := by decide +kernel
theorem dw_1014 : decode code 1014 = .ok (.iconst 2, 1) := by decide +kernel
theorem dw_1015 : decode code 1015 = .ok (.iadd, 1) := by decide +kernel
theorem dw_1016 : decode code 1016 = .ok (.iaload, 1) := by decide +kernel
theorem dw_1017 : decode code 1017 = .ok (.invokevirtual 102, 3) := by decide +kernel
theorem dw_1020 : decode code 1020 = .ok (.aload_n 2, 1) := by decide +kernel
theorem dw_1021 : decode code 1021 = .ok (.aload_n 0, 1) := by decide +kernel
theorem dw_1022 : decode code 1022 = .ok (.iload_n 3, 1) := by decide +kernel
theorem dw_1023 : decode code 1023 = .ok (.iconst 1, 1) := by decide +kernel
theorem dw_1024 : decode code 1024 = .ok (.iadd, 1) := by decide +kernel
theorem dw_1025 : decode code 1025 = .ok (.iaload, 1) := by decide +kernel
theorem dw_1026 : decode code 1026 = .ok (.aload_n 0, 1) := by decide +kernel
theorem dw_1027 : decode code 1027 = .ok (.iload_n 3, 1) := by decide +kernel
theorem dw_1028 : decode code 1028 = .ok (.iconst 2, 1) := by decide +kernel
theorem dw_1029 : decode code 1029 = .ok (.iadd, 1) := by decide +kernel
theorem dw_1030 : decode code 1030 = .ok (.iaload, 1) := by decide +kernel
theorem dw_1031 : decode code 1031 = .ok (.invokevirtual 105, 3) := by decide +kernel
theorem dw_1034 : decode code 1034 = .ok (.if_icmp .eq 511, 3) := by decide +kernel
theorem dw_1039 : decode code 1039 = .ok (.aload_n 1, 1) := by decide +kernel
theorem dw_1040 : decode code 1040 = .ok (.aload_n 0, 1) := by decide +kernel
theorem dw_1041 : decode code 1041 = .ok (.iload_n 3, 1) := by decide +kernel
theorem dw_1042 : decode code 1042 = .ok (.iconst 1, 1) := by decide +kernel
theorem dw_1043 : decode code 1043 = .ok (.iadd, 1) := by decide +kernel
theorem dw_1044 : decode code 1044 = .ok (.iaload, 1) := by decide +kernel
theorem dw_1045 : decode code 1045 = .ok (.aload_n 0, 1) := by decide +kernel
theorem dw_1046 : decode code 1046 = .ok (.iload_n 3, 1) := by decide +kernel
theorem dw_1047 : decode code 1047 = .ok (.iconst 2, 1) := by decide +kernel
theorem dw_1048 : decode code 1048 = .ok (.iadd, 1) := by decide +kernel
theorem dw_1049 : decode code 1049 = .ok (.iaload, 1) := by decide +kernel
theorem dw_1050 : decode code 1050 = .ok (.invokevirtual 106, 3) := by decide +kernel
theorem dw_1053 : decode code 1053 = .ok (.aload_n 2, 1) := by decide +kernel
theorem dw_1054 : decode code 1054 = .ok (.aload_n 0, 1) := by decide +kernel
theorem dw_1055 : decode code 1055 = .ok (.iload_n 3, 1) := by decide +kernel
theorem dw_1056 : decode code 1056 = .ok (.iconst 1, 1) := by decide +kernel
theorem dw_1057 : decode code 1057 = .ok (.iadd, 1) := by decide +kernel
theorem dw_1058 : decode code 1058 = .ok (.iaload, 1) := by decide +kernel
theorem dw_1059 : decode code 1059 = .ok (.aload_n 0, 1) := by decide +kernel
theorem dw_1060 : decode code 1060 = .ok (.iload_n 3, 1) := by decide +kernel
theorem dw_1061 : decode code 1061 = .ok (.iconst 2, 1) := by decide +kernel
theorem dw_1062 : decode code 1062 = .ok (.iadd, 1) := by decide +kernel
theorem dw_1063 : decode code 1063 = .ok (.iaload, 1) := by decide +kernel
theorem dw_1064 : decode code 1064 = .ok (.invokevirtual 109, 3) := by decide +kernel
theorem dw_1067 : decode code 1067 = .ok (.if_icmp .eq 478, 3) := by decide +kernel
theorem dw_1072 : decode code 1072 = .ok (.aload_n 1, 1) := by decide +kernel
theorem dw_1073 : decode code 1073 = .ok (.aload_n 0, 1) := by decide +kernel
theorem dw_1074 : decode code 1074 = .ok (.iload_n 3, 1) := by decide +kernel
theorem dw_1075 : decode code 1075 = .ok (.iconst 1, 1) := by decide +kernel
theorem dw_1076 : decode code 1076 = .ok (.iadd, 1) := by decide +kernel
theorem dw_1077 : decode code 1077 = .ok (.iaload, 1) := by decide +kernel
theorem dw_1078 : decode code 1078 = .ok (.aload_n 0, 1) := by decide +kernel
theorem dw_1079 : decode code 1079 = .ok (.iload_n 3, 1) := by decide +kernel
theorem dw_1080 : decode code 1080 = .ok (.iconst 2, 1) := by decide +kernel
theorem dw_1081 : decode code 1081 = .ok (.iadd, 1) := by decide +kernel
theorem dw_1082 : decode code 1082 = .ok (.iaload, 1) := by decide +kernel
theorem dw_1083 : decode code 1083 = .ok (.invokevirtual 110, 3) := by decide +kernel
theorem dw_1086 : decode code 1086 = .ok (.aload_n 2, 1) := by decide +kernel
theorem dw_1087 : decode code 1087 = .ok (.aload_n 0, 1) := by decide +kernel
theorem dw_1088 : decode code 1088 = .ok (.iload_n 3, 1) := by decide +kernel
theorem dw_1089 : decode code 1089 = .ok (.iconst 1, 1) := by decide +kernel
theorem dw_1090 : decode code 1090 = .ok (.iadd, 1) := by decide +kernel
theorem dw_1091 : decode code 1091 = .ok (.iaload, 1) := by decide +kernel
theorem dw_1092 : decode code 1092 = .ok (.aload_n 0, 1) := by decide +kernel
theorem dw_1093 : decode code 1093 = .ok (.iload_n 3, 1) := by decide +kernel
theorem dw_1094 : decode code 1094 = .ok (.iconst 2, 1) := by decide +kernel
theorem dw_1095 : decode code 1095 = .ok (.iadd, 1) := by decide +kernel
theorem dw_1096 : decode code 1096 = .ok (.iaload, 1) := by decide +kernel
theorem dw_1097 : decode code 1097 = .ok (.invokevirtual 113, 3) := by decide +kernel
theorem dw_1100 : decode code 1100 = .ok (.if_icmp .eq 445, 3) := by decide +kernel
theorem dw_1105 : decode code 1105 = .ok (.aload_n 1, 1) := by decide +kernel
theorem dw_1106 : decode code 1106 = .ok (.aload_n 0, 1) := by decide +kernel
theorem dw_1107 : decode code 1107 = .ok (.iload_n 3, 1) := by decide +kernel
theorem dw_1108 : decode code 1108 = .ok (.iconst 1, 1) := by decide +kernel
theorem dw_1109 : decode code 1109 = .ok (.iadd, 1) := by decide +kernel
theorem dw_1110 : decode code 1110 = .ok (.iaload, 1) := by decide +kernel
theorem dw_1111 : decode code 1111 = .ok (.invokevirtual 114, 3) := by decide +kernel
theorem dw_1114 : decode code 1114 = .ok (.aload_n 2, 1) := by decide +kernel
theorem dw_1115 : decode code 1115 = .ok (.aload_n 0, 1) := by decide +kernel
theorem dw_1116 : decode code 1116 = .ok (.iload_n 3, 1) := by decide +kernel
theorem dw_1117 : decode code 1117 = .ok (.iconst 1, 1) := by decide +kernel
theorem dw_1118 : decode code 1118 = .ok (.iadd, 1) := by decide +kernel
theorem dw_1119 : decode code 1119 = .ok (.iaload, 1) := by decide +kernel
theorem dw_1120 : decode code 1120 = .ok (.invokevirtual 117, 3) := by decide +kernel
theorem dw_1123 : decode code 1123 = .ok (.if_icmp .eq 422, 3) := by decide +kernel
theorem dw_1128 : decode code 1128 = .ok (.aload_n 1, 1) := by decide +kernel
theorem dw_1129 : decode code 1129 = .ok (.aload_n 0, 1) := by decide +kernel
theorem dw_1130 : decode code 1130 = .ok (.iload_n 3, 1) := by decide +kernel
theorem dw_1131 : decode code 1131 = .ok (.iconst 1, 1) := by decide +kernel
theorem dw_1132 : decode code 1132 = .ok (.iadd, 1) := by decide +kernel
theorem dw_1133 : decode code 1133 = .ok (.iaload, 1) := by decide +kernel
theorem dw_1134 : decode code 1134 = .ok (.aload_n 0, 1) := by decide +kernel
theorem dw_1135 : decode code 1135 = .ok (.iload_n 3, 1) := by decide +kernel
theorem dw_1136 : decode code 1136 = .ok (.iconst 2, 1) := by decide +kernel
theorem dw_1137 : decode code 1137 = .ok (.iadd, 1) := by decide +kernel
theorem dw_1138 : decode code 1138 = .ok (.iaload, 1) := by decide +kernel
theorem dw_1139 : decode code 1139 = .ok (.invokevirtual 118, 3) := by decide +kernel
theorem dw_1142 : decode code 1142 = .ok (.aload_n 2, 1) := by decide +kernel
theorem dw_1143 : decode code 1143 = .ok (.aload_n 0, 1) := by decide +kernel
theorem dw_1144 : decode code 1144 = .ok (.iload_n 3, 1) := by decide +kernel
theorem dw_1145 : decode code 1145 = .ok (.iconst 1, 1) := by decide +kernel
theorem dw_1146 : decode code 1146 = .ok (.iadd, 1) := by decide +kernel
theorem dw_1147 : decode code 1147 = .ok (.iaload, 1) := by decide +kernel
theorem dw_1148 : decode code 1148 = .ok (.aload_n 0, 1) := by decide +kernel
theorem dw_1149 : decode code 1149 = .ok (.iload_n 3, 1) := by decide +kernel
theorem dw_1150 : decode code 1150 = .ok (.iconst 2, 1) := by decide +kernel
theorem dw_1151 : decode code 1151 = .ok (.iadd, 1) := by decide +kernel
theorem dw_1152 : decode code 1152 = .ok (.iaload, 1) := by decide +kernel
theorem dw_1153 : decode code 1153 = .ok (.invokevirtual 121, 3) := by decide +kernel
theorem dw_1156 : decode code 1156 = .ok (.if_icmp .eq 389, 3) := by decide +kernel
theorem dw_1161 : decode code 1161 = .ok (.aload_n 1, 1) := by decide +kernel
theorem dw_1162 : decode code 1162 = .ok (.aload_n 0, 1) := by decide +kernel
theorem dw_1163 : decode code 1163 = .ok (.iload_n 3, 1) := by decide +kernel
theorem dw_1164 : decode code 1164 = .ok (.iconst 1, 1) := by decide +kernel
theorem dw_1165 : decode code 1165 = .ok (.iadd, 1) := by decide +kernel
theorem dw_1166 : decode code 1166 = .ok (.iaload, 1) := by decide +kernel
theorem dw_1167 : decode code 1167 = .ok (.invokevirtual 122, 3) := by decide +kernel
theorem dw_1170 : decode code 1170 = .ok (.aload_n 2, 1) := by decide +kernel
theorem dw_1171 : decode code 1171 = .ok (.aload_n 0, 1) := by decide +kernel
theorem dw_1172 : decode code 1172 = .ok (.iload_n 3, 1) := by decide +kernel
theorem dw_1173 : decode code 1173 = .ok (.iconst 1, 1) := by decide +kernel
theorem dw_1174 : decode code 1174 = .ok (.iadd, 1) := by decide +kernel
theorem dw_1175 : decode code 1175 = .ok (.iaload, 1) := by decide +kernel
theorem dw_1176 : decode code 1176 = .ok (.invokevirtual 125, 3) := by decide +kernel
theorem dw_1179 : decode code 1179 = .ok (.if_icmp .eq 366, 3) := by decide +kernel
theorem dw_1184 : decode code 1184 = .ok (.aload_n 1, 1) := by decide +kernel
theorem dw_1185 : decode code 1185 = .ok (.aload_n 0, 1) := by decide +kernel
theorem dw_1186 : decode code 1186 = .ok (.iload_n 3, 1) := by decide +kernel
theorem dw_1187 : decode code 1187 = .ok (.iconst 1, 1) := by decide +kernel
theorem dw_1188 : decode code 1188 = .ok (.iadd, 1) := by decide +kernel
theorem dw_1189 : decode code 1189 = .ok (.iaload, 1) := by decide +kernel
theorem dw_1190 : decode code 1190 = .ok (.aload_n 0, 1) := by decide +kernel
theorem dw_1191 : decode code 1191 = .ok (.iload_n 3, 1) := by decide +kernel
theorem dw_1192 : decode code 1192 = .ok (.iconst 2, 1) := by decide +kernel
theorem dw_1193 : decode code 1193 = .ok (.iadd, 1) := by decide +kernel
theorem dw_1194 : decode code 1194 = .ok (.iaload, 1) := by decide +kernel
theorem dw_1195 : decode code 1195 = .ok (.invokevirtual 126, 3) := by decide +kernel
theorem dw_1198 : decode code 1198 = .ok (.aload_n 2, 1) := by decide +kernel
theorem dw_1199 : decode code 1199 = .ok (.aload_n 0, 1) := by decide +kernel
theorem dw_1200 : decode code 1200 = .ok (.iload_n 3, 1) := by decide +kernel
theorem dw_1201 : decode code 1201 = .ok (.iconst 1, 1) := by decide +kernel
theorem dw_1202 : decode code 1202 = .ok (.iadd, 1) := by decide +kernel
theorem dw_1203 : decode code 1203 = .ok (.iaload, 1) := by decide +kernel
theorem dw_1204 : decode code 1204 = .ok (.aload_n 0, 1) := by decide +kernel
theorem dw_1205 : decode code 1205 = .ok (.iload_n 3, 1) := by decide +kernel
theorem dw_1206 : decode code 1206 = .ok (.iconst 2, 1) := by decide +kernel
theorem dw_1207 : decode code 1207 = .ok (.iadd, 1) := by decide +kernel
theorem dw_1208 : decode code 1208 = .ok (.iaload, 1) := by decide +kernel
theorem dw_1209 : decode code 1209 = .ok (.invokevirtual 129, 3) := by decide +kernel
theorem dw_1212 : decode code 1212 = .ok (.if_icmp .eq 333, 3) := by decide +kernel
theorem dw_1217 : decode code 1217 = .ok (.aload_n 1, 1) := by decide +kernel
theorem dw_1218 : decode code 1218 = .ok (.aload_n 0, 1) := by decide +kernel
theorem dw_1219 : decode code 1219 = .ok (.iload_n 3, 1) := by decide +kernel
theorem dw_1220 : decode code 1220 = .ok (.iconst 1, 1) := by decide +kernel
theorem dw_1221 : decode code 1221 = .ok (.iadd, 1) := by decide +kernel
theorem dw_1222 : decode code 1222 = .ok (.iaload, 1) := by decide +kernel
theorem dw_1223 : decode code 1223 = .ok (.aload_n 0, 1) := by decide +kernel
theorem dw_1224 : decode code 1224 = .ok (.iload_n 3, 1) := by decide +kernel
theorem dw_1225 : decode code 1225 = .ok (.iconst 2, 1) := by decide +kernel
theorem dw_1226 : decode code 1226 = .ok (.iadd, 1) := by decide +kernel
theorem dw_1227 : decode code 1227 = .ok (.iaload, 1) := by decide +kernel
theorem dw_1228 : decode code 1228 = .ok (.aload_n 0, 1) := by decide +kernel
theorem dw_1229 : decode code 1229 = .ok (.iload_n 3, 1) := by decide +kernel
theorem dw_1230 : decode code 1230 = .ok (.iconst 3, 1) := by decide +kernel
theorem dw_1231 : decode code 1231 = .ok (.iadd, 1) := by decide +kernel
theorem dw_1232 : decode code 1232 = .ok (.iaload, 1) := by decide +kernel
theorem dw_1233 : decode code 1233 = .ok (.invokevirtual 130, 3) := by decide +kernel
theorem dw_1236 : decode code 1236 = .ok (.aload_n 2, 1) := by decide +kernel
theorem dw_1237 : decode code 1237 = .ok (.aload_n 0, 1) := by decide +kernel
theorem dw_1238 : decode code 1238 = .ok (.iload_n 3, 1) := by decide +kernel
theorem dw_1239 : decode code 1239 = .ok (.iconst 1, 1) := by decide +kernel
theorem dw_1240 : decode code 1240 = .ok (.iadd, 1) := by decide +kernel
theorem dw_1241 : decode code 1241 = .ok (.iaload, 1) := by decide +kernel
theorem dw_1242 : decode code 1242 = .ok (.aload_n 0, 1) := by decide +kernel
theorem dw_1243 : decode code 1243 = .ok (.iload_n 3, 1) := by decide +kernel
theorem dw_1244 : decode code 1244 = .ok (.iconst 2, 1) := by decide +kernel
theorem dw_1245 : decode code 1245 = .ok (.iadd, 1) := by decide +kernel
theorem dw_1246 : decode code 1246 = .ok (.iaload, 1) := by decide +kernel
theorem dw_1247 : decode code 1247 = .ok (.aload_n 0, 1) := by decide +kernel
theorem dw_1248 : decode code 1248 = .ok (.iload_n 3, 1) := by decide +kernel
theorem dw_1249 : decode code 1249 = .ok (.iconst 3, 1) := by decide +kernel
theorem dw_1250 : decode code 1250 = .ok (.iadd, 1) := by decide +kernel
theorem dw_1251 : decode code 1251 = .ok (.iaload, 1) := by decide +kernel
theorem dw_1252 : decode code 1252 = .ok (.invokevirtual 133, 3) := by decide +kernel
theorem dw_1255 : decode code 1255 = .ok (.if_icmp .eq 290, 3) := by decide +kernel
theorem dw_1260 : decode code 1260 = .ok (.aload_n 1, 1) := by decide +kernel
theorem dw_1261 : decode code 1261 = .ok (.aload_n 0, 1) := by decide +kernel
theorem dw_1262 : decode code 1262 = .ok (.iload_n 3, 1) := by decide +kernel
theorem dw_1263 : decode code 1263 = .ok (.iconst 1, 1) := by decide +kernel
theorem dw_1264 : decode code 1264 = .ok (.iadd, 1) := by decide +kernel
theorem dw_1265 : decode code 1265 = .ok (.iaload, 1) := by decide +kernel
theorem dw_1266 : decode code 1266 = .ok (.aload_n 0, 1) := by decide +kernel
theorem dw_1267 : decode code 1267 = .ok (.iload_n 3, 1) := by decide +kernel
theorem dw_1268 : decode code 1268 = .ok (.iconst 2, 1) := by decide +kernel
theorem dw_1269 : decode code 1269 = .ok (.iadd, 1) := by decide +kernel
theorem dw_1270 : decode code 1270 = .ok (.iaload, 1) := by decide +kernel
theorem dw_1271 : decode code 1271 = .ok (.invokevirtual 134, 3) := by decide +kernel
theorem dw_1274 : decode code 1274 = .ok (.aload_n 2, 1) := by decide +kernel
theorem dw_1275 : decode code 1275 = .ok (.aload_n 0, 1) := by decide +kernel
theorem dw_1276 : decode code 1276 = .ok (.iload_n 3, 1) := by decide +kernel
theorem dw_1277 : decode code 1277 = .ok (.iconst 1, 1) := by decide +kernel
theorem dw_1278 : decode code 1278 = .ok (.iadd, 1) := by decide +kernel
theorem dw_1279 : decode code 1279 = .ok (.iaload, 1) := by decide +kernel
theorem dw_1280 : decode code 1280 = .ok (.aload_n 0, 1) := by decide +kernel
theorem dw_1281 : decode code 1281 = .ok (.iload_n 3, 1) := by decide +kernel
theorem dw_1282 : decode code 1282 = .ok (.iconst 2, 1) := by decide +kernel
theorem dw_1283 : decode code 1283 = .ok (.iadd, 1) := by decide +kernel
theorem dw_1284 : decode code 1284 = .ok (.iaload, 1) := by decide +kernel
theorem dw_1285 : decode code 1285 = .ok (.invokevirtual 137, 3) := by decide +kernel
theorem dw_1288 : decode code 1288 = .ok (.if_icmp .eq 257, 3) := by decide +kernel
theorem dw_1293 : decode code 1293 = .ok (.aload_n 1, 1) := by decide +kernel
theorem dw_1294 : decode code 1294 = .ok (.aload_n 0, 1) := by decide +kernel
theorem dw_1295 : decode code 1295 = .ok (.iload_n 3, 1) := by decide +kernel
theorem dw_1296 : decode code 1296 = .ok (.iconst 1, 1) := by decide +kernel
theorem dw_1297 : decode code 1297 = .ok (.iadd, 1) := by decide +kernel
theorem dw_1298 : decode code 1298 = .ok (.iaload, 1) := by decide +kernel
theorem dw_1299 : decode code 1299 = .ok (.aload_n 0, 1) := by decide +kernel
theorem dw_1300 : decode code 1300 = .ok (.iload_n 3, 1) := by decide +kernel
theorem dw_1301 : decode code 1301 = .ok (.iconst 2, 1) := by decide +kernel
theorem dw_1302 : decode code 1302 = .ok (.iadd, 1) := by decide +kernel
theorem dw_1303 : decode code 1303 = .ok (.iaload, 1) := by decide +kernel
theorem dw_1304 : decode code 1304 = .ok (.aload_n 0, 1) := by decide +kernel
theorem dw_1305 : decode code 1305 = .ok (.iload_n 3, 1) := by decide +kernel
theorem dw_1306 : decode code 1306 = .ok (.iconst 3, 1) := by decide +kernel
theorem dw_1307 : decode code 1307 = .ok (.iadd, 1) := by decide +kernel
theorem dw_1308 : decode code 1308 = .ok (.iaload, 1) := by decide +kernel
theorem dw_1309 : decode code 1309 = .ok (.aload_n 0, 1) := by decide +kernel
theorem dw_1310 : decode code 1310 = .ok (.iload_n 3, 1) := by decide +kernel
theorem dw_1311 : decode code 1311 = .ok (.iconst 4, 1) := by decide +kernel
theorem dw_1312 : decode code 1312 = .ok (.iadd, 1) := by decide +kernel
theorem dw_1313 : decode code 1313 = .ok (.iaload, 1) := by decide +kernel
theorem dw_1314 : decode code 1314 = .ok (.invokevirtual 138, 3) := by decide +kernel
theorem dw_1317 : decode code 1317 = .ok (.aload_n 2, 1) := by decide +kernel
theorem dw_1318 : decode code 1318 = .ok (.aload_n 0, 1) := by decide +kernel
theorem dw_1319 : decode code 1319 = .ok (.iload_n 3, 1) := by decide +kernel
theorem dw_1320 : decode code 1320 = .ok (.iconst 1, 1) := by decide +kernel
theorem dw_1321 : decode code 1321 = .ok (.iadd, 1) := by decide +kernel
theorem dw_1322 : decode code 1322 = .ok (.iaload, 1) := by decide +kernel
theorem dw_1323 : decode code 1323 = .ok (.aload_n 0, 1) := by decide +kernel
theorem dw_1324 : decode code 1324 = .ok (.iload_n 3, 1) := by decide +kernel
theorem dw_1325 : decode code 1325 = .ok (.iconst 2, 1) := by decide +kernel
theorem dw_1326 : decode code 1326 = .ok (.iadd, 1) := by decide +kernel
theorem dw_1327 : decode code 1327 = .ok (.iaload, 1) := by decide +kernel
theorem dw_1328 : decode code 1328 = .ok (.aload_n 0, 1) := by decide +kernel
theorem dw_1329 : decode code 1329 = .ok (.iload_n 3, 1) := by decide +kernel
theorem dw_1330 : decode code 1330 = .ok (.iconst 3, 1) := by decide +kernel
theorem dw_1331 : decode code 1331 = .ok (.iadd, 1) := by decide +kernel
theorem dw_1332 : decode code 1332 = .ok (.iaload, 1) := by decide +kernel
theorem dw_1333 : decode code 1333 = .ok (.aload_n 0, 1) := by decide +kernel
theorem dw_1334 : decode code 1334 = .ok (.iload_n 3, 1) := by decide +kernel
theorem dw_1335 : decode code 1335 = .ok (.iconst 4, 1) := by decide +kernel
theorem dw_1336 : decode code 1336 = .ok (.iadd, 1) := by decide +kernel
theorem dw_1337 : decode code 1337 = .ok (.iaload, 1) := by decide +kernel
theorem dw_1338 : decode code 1338 = .ok (.invokevirtual 141, 3) := by decide +kernel
theorem dw_1341 : decode code 1341 = .ok (.if_icmp .eq 204, 3) := by decide +kernel
theorem dw_1346 : decode code 1346 = .ok (.aload_n 1, 1) := by decide +kernel
theorem dw_1347 : decode code 1347 = .ok (.aload_n 0, 1) := by decide +kernel
theorem dw_1348 : decode code 1348 = .ok (.iload_n 3, 1) := by decide +kernel
theorem dw_1349 : decode code 1349 = .ok (.iconst 1, 1) := by decide +kernel
theorem dw_1350 : decode code 1350 = .ok (.iadd, 1) := by decide +kernel
theorem dw_1351 : decode code 1351 = .ok (.iaload, 1) := by decide +kernel
theorem dw_1352 : decode code 1352 = .ok (.aload_n 0, 1) := by decide +kernel
theorem dw_1353 : decode code 1353 = .ok (.iload_n 3, 1) := by decide +kernel
theorem dw_1354 : decode code 1354 = .ok (.iconst 2, 1) := by decide +kernel
theorem dw_1355 : decode code 1355 = .ok (.iadd, 1) := by decide +kernel
theorem dw_1356 : decode code 1356 = .ok (.iaload, 1) := by decide +kernel
theorem dw_1357 : decode code 1357 = .ok (.invokevirtual 142, 3) := by decide +kernel
theorem dw_1360 : decode code 1360 = .ok (.aload_n 2, 1) := by decide +kernel
theorem dw_1361 : decode code 1361 = .ok (.aload_n 0, 1) := by decide +kernel
theorem dw_1362 : decode code 1362 = .ok (.iload_n 3, 1) := by decide +kernel
theorem dw_1363 : decode code 1363 = .ok (.iconst 1, 1) := by decide +kernel
theorem dw_1364 : decode code 1364 = .ok (.iadd, 1) := by decide +kernel
theorem dw_1365 : decode code 1365 = .ok (.iaload, 1) := by decide +kernel
theorem dw_1366 : decode code 1366 = .ok (.aload_n 0, 1) := by decide +kernel
theorem dw_1367 : decode code 1367 = .ok (.iload_n 3, 1) := by decide +kernel
theorem dw_1368 : decode code 1368 = .ok (.iconst 2, 1) := by decide +kernel
theorem dw_1369 : decode code 1369 = .ok (.iadd, 1) := by decide +kernel
theorem dw_1370 : decode code 1370 = .ok (.iaload, 1) := by decide +kernel
theorem dw_1371 : decode code 1371 = .ok (.invokevirtual 146, 3) := by decide +kernel
theorem dw_1374 : decode code 1374 = .ok (.lcmp, 1) := by decide +kernel
theorem dw_1375 : decode code 1375 = .ok (.ifCond .eq 170, 3) := by decide +kernel
theorem dw_1380 : decode code 1380 = .ok (.aload_n 1, 1) := by decide +kernel
theorem dw_1381 : decode code 1381 = .ok (.invokevirtual 147, 3) := by decide +kernel
theorem dw_1384 : decode code 1384 = .ok (.aload_n 2, 1) := by decide +kernel
theorem dw_1385 : decode code 1385 = .ok (.invokevirtual 150, 3) := by decide +kernel
theorem dw_1388 : decode code 1388 = .ok (.if_icmp .eq 157, 3) := by decide +kernel
theorem dw_1393 : decode code 1393 = .ok (.aload_n 1, 1) := by decide +kernel
theorem dw_1394 : decode code 1394 = .ok (.aload_n 0, 1) := by decide +kernel
theorem dw_1395 : decode code 1395 = .ok (.iload_n 3, 1) := by decide +kernel
theorem dw_1396 : decode code 1396 = .ok (.iconst 1, 1) := by decide +kernel
theorem dw_1397 : decode code 1397 = .ok (.iadd, 1) := by decide +kernel
theorem dw_1398 : decode code 1398 = .ok (.iaload, 1) := by decide +kernel
theorem dw_1399 : decode code 1399 = .ok (.aload_n 0, 1) := by decide +kernel
theorem dw_1400 : decode code 1400 = .ok (.iload_n 3, 1) := by decide +kernel
theorem dw_1401 : decode code 1401 = .ok (.iconst 2, 1) := by decide +kernel
theorem dw_1402 : decode code 1402 = .ok (.iadd, 1) := by decide +kernel
theorem dw_1403 : decode code 1403 = .ok (.iaload, 1) := by decide +kernel
theorem dw_1404 : decode code 1404 = .ok (.aload_n 0, 1) := by decide +kernel
theorem dw_1405 : decode code 1405 = .ok (.iload_n 3, 1) := by decide +kernel
theorem dw_1406 : decode code 1406 = .ok (.iconst 3, 1) := by decide +kernel
theorem dw_1407 : decode code 1407 = .ok (.iadd, 1) := by decide +kernel
theorem dw_1408 : decode code 1408 = .ok (.iaload, 1) := by decide +kernel
theorem dw_1409 : decode code 1409 = .ok (.invokevirtual 151, 3) := by decide +kernel
theorem dw_1412 : decode code 1412 = .ok (.aload_n 2, 1) := by decide +kernel
theorem dw_1413 : decode code 1413 = .ok (.aload_n 0, 1) := by decide +kernel
theorem dw_1414 : decode code 1414 = .ok (.iload_n 3, 1) := by decide +kernel
theorem dw_1415 : decode code 1415 = .ok (.iconst 1, 1) := by decide +kernel
theorem dw_1416 : decode code 1416 = .ok (.iadd, 1) := by decide +kernel
theorem dw_1417 : decode code 1417 = .ok (.iaload, 1) := by decide +kernel
theorem dw_1418 : decode code 1418 = .ok (.aload_n 0, 1) := by decide +kernel
theorem dw_1419 : decode code 1419 = .ok (.iload_n 3, 1) := by decide +kernel
theorem dw_1420 : decode code 1420 = .ok (.iconst 2, 1) := by decide +kernel
theorem dw_1421 : decode code 1421 = .ok (.iadd, 1) := by decide +kernel
theorem dw_1422 : decode code 1422 = .ok (.iaload, 1) := by decide +kernel
theorem dw_1423 : decode code 1423 = .ok (.aload_n 0, 1) := by decide +kernel
theorem dw_1424 : decode code 1424 = .ok (.iload_n 3, 1) := by decide +kernel
theorem dw_1425 : decode code 1425 = .ok (.iconst 3, 1) := by decide +kernel
theorem dw_1426 : decode code 1426 = .ok (.iadd, 1) := by decide +kernel
theorem dw_1427 : decode code 1427 = .ok (.iaload, 1) := by decide +kernel
theorem dw_1428 : decode code 1428 = .ok (.invokevirtual 154, 3) := by decide +kernel
theorem dw_1431 : decode code 1431 = .ok (.if_icmp .eq 114, 3) := by decide +kernel
theorem dw_1436 : decode code 1436 = .ok (.aload_n 1, 1) := by decide +kernel
theorem dw_1437 : decode code 1437 = .ok (.aload_n 0, 1) := by decide +kernel
theorem dw_1438 : decode code 1438 = .ok (.iload_n 3, 1) := by decide +kernel
theorem dw_1439 : decode code 1439 = .ok (.iconst 1, 1) := by decide +kernel
theorem dw_1440 : decode code 1440 = .ok (.iadd, 1) := by decide +kernel
theorem dw_1441 : decode code 1441 = .ok (.iaload, 1) := by decide +kernel
theorem dw_1442 : decode code 1442 = .ok (.aload_n 0, 1) := by decide +kernel
theorem dw_1443 : decode code 1443 = .ok (.iload_n 3, 1) := by decide +kernel
theorem dw_1444 : decode code 1444 = .ok (.iconst 2, 1) := by decide +kernel
theorem dw_1445 : decode code 1445 = .ok (.iadd, 1) := by decide +kernel
theorem dw_1446 : decode code 1446 = .ok (.iaload, 1) := by decide +kernel
theorem dw_1447 : decode code 1447 = .ok (.aload_n 0, 1) := by decide +kernel
theorem dw_1448 : decode code 1448 = .ok (.iload_n 3, 1) := by decide +kernel
theorem dw_1449 : decode code 1449 = .ok (.iconst 3, 1) := by decide +kernel
theorem dw_1450 : decode code 1450 = .ok (.iadd, 1) := by decide +kernel
theorem dw_1451 : decode code 1451 = .ok (.iaload, 1) := by decide +kernel
theorem dw_1452 : decode code 1452 = .ok (.invokevirtual 155, 3) := by decide +kernel
theorem dw_1455 : decode code 1455 = .ok (.aload_n 2, 1) := by decide +kernel
theorem dw_1456 : decode code 1456 = .ok (.aload_n 0, 1) := by decide +kernel
theorem dw_1457 : decode code 1457 = .ok (.iload_n 3, 1) := by decide +kernel
theorem dw_1458 : decode code 1458 = .ok (.iconst 1, 1) := by decide +kernel
theorem dw_1459 : decode code 1459 = .ok (.iadd, 1) := by decide +kernel
theorem dw_1460 : decode code 1460 = .ok (.iaload, 1) := by decide +kernel
theorem dw_1461 : decode code 1461 = .ok (.aload_n 0, 1) := by decide +kernel
theorem dw_1462 : decode code 1462 = .ok (.iload_n 3, 1) := by decide +kernel
theorem dw_1463 : decode code 1463 = .ok (.iconst 2, 1) := by decide +kernel
theorem dw_1464 : decode code 1464 = .ok (.iadd, 1) := by decide +kernel
theorem dw_1465 : decode code 1465 = .ok (.iaload, 1) := by decide +kernel
theorem dw_1466 : decode code 1466 = .ok (.aload_n 0, 1) := by decide +kernel
theorem dw_1467 : decode code 1467 = .ok (.iload_n 3, 1) := by decide +kernel
theorem dw_1468 : decode code 1468 = .ok (.iconst 3, 1) := by decide +kernel
theorem dw_1469 : decode code 1469 = .ok (.iadd, 1) := by decide +kernel
theorem dw_1470 : decode code 1470 = .ok (.iaload, 1) := by decide +kernel
theorem dw_1471 : decode code 1471 = .ok (.invokevirtual 158, 3) := by decide +kernel
theorem dw_1474 : decode code 1474 = .ok (.if_icmp .eq 71, 3) := by decide +kernel
theorem dw_1479 : decode code 1479 = .ok (.aload_n 1, 1) := by decide +kernel
theorem dw_1480 : decode code 1480 = .ok (.aload_n 0, 1) := by decide +kernel
theorem dw_1481 : decode code 1481 = .ok (.iload_n 3, 1) := by decide +kernel
theorem dw_1482 : decode code 1482 = .ok (.iconst 1, 1) := by decide +kernel
theorem dw_1483 : decode code 1483 = .ok (.iadd, 1) := by decide +kernel
theorem dw_1484 : decode code 1484 = .ok (.iaload, 1) := by decide +kernel
theorem dw_1485 : decode code 1485 = .ok (.aload_n 0, 1) := by decide +kernel
theorem dw_1486 : decode code 1486 = .ok (.iload_n 3, 1) := by decide +kernel
theorem dw_1487 : decode code 1487 = .ok (.iconst 2, 1) := by decide +kernel
theorem dw_1488 : decode code 1488 = .ok (.iadd, 1) := by decide +kernel
theorem dw_1489 : decode code 1489 = .ok (.iaload, 1) := by decide +kernel
theorem dw_1490 : decode code 1490 = .ok (.aload_n 0, 1) := by decide +kernel
theorem dw_1491 : decode code 1491 = .ok (.iload_n 3, 1) := by decide +kernel
theorem dw_1492 : decode code 1492 = .ok (.iconst 3, 1) := by decide +kernel
theorem dw_1493 : decode code 1493 = .ok (.iadd, 1) := by decide +kernel
theorem dw_1494 : decode code 1494 = .ok (.iaload, 1) := by decide +kernel
theorem dw_1495 : decode code 1495 = .ok (.invokevirtual 159, 3) := by decide +kernel
theorem dw_1498 : decode code 1498 = .ok (.aload_n 2, 1) := by decide +kernel
theorem dw_1499 : decode code 1499 = .ok (.aload_n 0, 1) := by decide +kernel
theorem dw_1500 : decode code 1500 = .ok (.iload_n 3, 1) := by decide +kernel
theorem dw_1501 : decode code 1501 = .ok (.iconst 1, 1) := by decide +kernel
theorem dw_1502 : decode code 1502 = .ok (.iadd, 1) := by decide +kernel
theorem dw_1503 : decode code 1503 = .ok (.iaload, 1) := by decide +kernel
theorem dw_1504 : decode code 1504 = .ok (.aload_n 0, 1) := by decide +kernel
theorem dw_1505 : decode code 1505 = .ok (.iload_n 3, 1) := by decide +kernel
theorem dw_1506 : decode code 1506 = .ok (.iconst 2, 1) := by decide +kernel
theorem dw_1507 : decode code 1507 = .ok (.iadd, 1) := by decide +kernel
theorem dw_1508 : decode code 1508 = .ok (.iaload, 1) := by decide +kernel
theorem dw_1509 : decode code 1509 = .ok (.aload_n 0, 1) := by decide +kernel
theorem dw_1510 : decode code 1510 = .ok (.iload_n 3, 1) := by decide +kernel
theorem dw_1511 : decode code 1511 = .ok (.iconst 3, 1) := by decide +kernel
theorem dw_1512 : decode code 1512 = .ok (.iadd, 1) := by decide +kernel
theorem dw_1513 : decode code 1513 = .ok (.iaload, 1) := by decide +kernel
theorem dw_1514 : decode code 1514 = .ok (.invokevirtual 162, 3) := by decide +kernel
theorem dw_1517 : decode code 1517 = .ok (.if_icmp .eq 28, 3) := by decide +kernel
theorem dw_1522 : decode code 1522 = .ok (.aload_n 1, 1) := by decide +kernel
theorem dw_1523 : decode code 1523 = .ok (.aload_n 0, 1) := by decide +kernel
theorem dw_1524 : decode code 1524 = .ok (.iload_n 3, 1) := by decide +kernel
theorem dw_1525 : decode code 1525 = .ok (.iconst 1, 1) := by decide +kernel
theorem dw_1526 : decode code 1526 = .ok (.iadd, 1) := by decide +kernel
theorem dw_1527 : decode code 1527 = .ok (.iaload, 1) := by decide +kernel
theorem dw_1528 : decode code 1528 = .ok (.invokevirtual 163, 3) := by decide +kernel
theorem dw_1531 : decode code 1531 = .ok (.aload_n 2, 1) := by decide +kernel
theorem dw_1532 : decode code 1532 = .ok (.aload_n 0, 1) := by decide +kernel
theorem dw_1533 : decode code 1533 = .ok (.iload_n 3, 1) := by decide +kernel
theorem dw_1534 : decode code 1534 = .ok (.iconst 1, 1) := by decide +kernel
theorem dw_1535 : decode code 1535 = .ok (.iadd, 1) := by decide +kernel
theorem dw_1536 : decode code 1536 = .ok (.iaload, 1) := by decide +kernel
theorem dw_1537 : decode code 1537 = .ok (.invokevirtual 166, 3) := by decide +kernel
theorem dw_1540 : decode code 1540 = .ok (.if_icmp .eq 5, 3) := by decide +kernel
theorem dw_1545 : decode code 1545 = .ok (.iinc 3 8, 3) := by decide +kernel
theorem dw_1548 : decode code 1548 = .ok (.goto (-1530), 3) := by decide +kernel
theorem dw_1551 : decode code 1551 = .ok (.iconst 1, 1) := by decide +kernel
theorem dw_1552 : decode code 1552 = .ok (.ireturn, 1) := by decide +kernel
