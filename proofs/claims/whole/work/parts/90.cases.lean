section CASES
variable {p : Program} {e : Env} {s : State} {m : MethodId} {below : List Frame} {meth : Method} {c : Code} {b L j : Nat} {xs : Nat → Int32} {x : vv_E} {hc hr : vv_H}
set_option maxHeartbeats 2000000 in
theorem lc_0 (A : ll_A p s m meth c b L xs x) (hj : 8 * j + 8 ≤ L) (HR : RR hc hr) (IH : ∀ hc' hr', RR hc' hr' → ll_V p e s m below meth c b x 1545 (ll_lo b x (nI (8 * j))) [] hc' hr') : ll_V p e s m below meth c b x 192 (ll_lo b x (nI (8 * j))) [] hc hr := by
  obtain ⟨o, c1, r1, e1, e2, R1⟩ := e_day HR (xs (8 * j + 1))
  refine rl_aload_n (q := 193) A dw_192 rfl rfl ?_
  refine rl_arg (q := 198) (k := 1) A hj (by decide) dw_193 dw_194 dw_195 rfl dw_196 dw_197 rfl ?_
  refine rl_callC (q := 201) (M' := mm_X11_day) (As := [.int (xs (8 * j + 1))]) (v0 := .int o) (hc' := c1) A (cc_X11_day e1) rfl rfl vy_X11_day (by decide +kernel) ⟨Nat.le_of_ble_eq_true rfl, Nat.le_of_ble_eq_true rfl⟩ (Nat.le_of_ble_eq_true rfl) dw_198 rfl ?_
  refine rl_aload_n (q := 202) A dw_201 rfl rfl ?_
  refine rl_arg (q := 207) (k := 1) A hj (by decide) dw_202 dw_203 dw_204 rfl dw_205 dw_206 rfl ?_
  refine rl_callR (q := 210) (M' := mm_X12_day) (As := [.int (xs (8 * j + 1))]) (v0 := .int o) (hr' := r1) A (cc_X12_day e2) rfl rfl vy_X12_day (by decide +kernel) ⟨Nat.le_of_ble_eq_true rfl, Nat.le_of_ble_eq_true rfl⟩ (Nat.le_of_ble_eq_true rfl) dw_207 rfl ?_
  refine rl_icmp_eq (tgt := 1545) A dw_210 (by decide) ?_
  exact IH _ _ R1
set_option maxHeartbeats 2000000 in
theorem lc_1 (A : ll_A p s m meth c b L xs x) (hj : 8 * j + 8 ≤ L) (HR : RR hc hr) (IH : ∀ hc' hr', RR hc' hr' → ll_V p e s m below meth c b x 1545 (ll_lo b x (nI (8 * j))) [] hc' hr') : ll_V p e s m below meth c b x 215 (ll_lo b x (nI (8 * j))) [] hc hr := by
  obtain ⟨o, c1, r1, e1, e2, R1⟩ := e_body HR (xs (8 * j + 1)) (xs (8 * j + 2)) (xs (8 * j + 3))
  refine rl_aload_n (q := 216) A dw_215 rfl rfl ?_
  refine rl_arg (q := 221) (k := 1) A hj (by decide) dw_216 dw_217 dw_218 rfl dw_219 dw_220 rfl ?_
  refine rl_arg (q := 226) (k := 2) A hj (by decide) dw_221 dw_222 dw_223 rfl dw_224 dw_225 rfl ?_
  refine rl_arg (q := 231) (k := 3) A hj (by decide) dw_226 dw_227 dw_228 rfl dw_229 dw_230 rfl ?_
  refine rl_callC (q := 234) (M' := mm_X11_body) (As := [.int (xs (8 * j + 1)), .int (xs (8 * j + 2)), .int (xs (8 * j + 3))]) (v0 := .int o) (hc' := c1) A (cc_X11_body e1) rfl rfl vy_X11_body (by decide +kernel) ⟨Nat.le_of_ble_eq_true rfl, Nat.le_of_ble_eq_true rfl⟩ (Nat.le_of_ble_eq_true rfl) dw_231 rfl ?_
  refine rl_aload_n (q := 235) A dw_234 rfl rfl ?_
  refine rl_arg (q := 240) (k := 1) A hj (by decide) dw_235 dw_236 dw_237 rfl dw_238 dw_239 rfl ?_
  refine rl_arg (q := 245) (k := 2) A hj (by decide) dw_240 dw_241 dw_242 rfl dw_243 dw_244 rfl ?_
  refine rl_arg (q := 250) (k := 3) A hj (by decide) dw_245 dw_246 dw_247 rfl dw_248 dw_249 rfl ?_
  refine rl_callR (q := 253) (M' := mm_X12_body) (As := [.int (xs (8 * j + 1)), .int (xs (8 * j + 2)), .int (xs (8 * j + 3))]) (v0 := .int o) (hr' := r1) A (cc_X12_body e2) rfl rfl vy_X12_body (by decide +kernel) ⟨Nat.le_of_ble_eq_true rfl, Nat.le_of_ble_eq_true rfl⟩ (Nat.le_of_ble_eq_true rfl) dw_250 rfl ?_
  refine rl_icmp_eq (tgt := 1545) A dw_253 (by decide) ?_
  exact IH _ _ R1
set_option maxHeartbeats 2000000 in
theorem lc_2 (A : ll_A p s m meth c b L xs x) (hj : 8 * j + 8 ≤ L) (HR : RR hc hr) (IH : ∀ hc' hr', RR hc' hr' → ll_V p e s m below meth c b x 1545 (ll_lo b x (nI (8 * j))) [] hc' hr') : ll_V p e s m below meth c b x 258 (ll_lo b x (nI (8 * j))) [] hc hr := by
  obtain ⟨o, c1, r1, e1, e2, R1⟩ := e_becomes HR (xs (8 * j + 1)) (xs (8 * j + 2)) (xs (8 * j + 3))
  refine rl_aload_n (q := 259) A dw_258 rfl rfl ?_
  refine rl_arg (q := 264) (k := 1) A hj (by decide) dw_259 dw_260 dw_261 rfl dw_262 dw_263 rfl ?_
  refine rl_arg (q := 269) (k := 2) A hj (by decide) dw_264 dw_265 dw_266 rfl dw_267 dw_268 rfl ?_
  refine rl_arg (q := 274) (k := 3) A hj (by decide) dw_269 dw_270 dw_271 rfl dw_272 dw_273 rfl ?_
  refine rl_callC (q := 277) (M' := mm_X11_becomes) (As := [.int (xs (8 * j + 1)), .int (xs (8 * j + 2)), .int (xs (8 * j + 3))]) (v0 := .int o) (hc' := c1) A (cc_X11_becomes e1) rfl rfl vy_X11_becomes (by decide +kernel) ⟨Nat.le_of_ble_eq_true rfl, Nat.le_of_ble_eq_true rfl⟩ (Nat.le_of_ble_eq_true rfl) dw_274 rfl ?_
  refine rl_aload_n (q := 278) A dw_277 rfl rfl ?_
  refine rl_arg (q := 283) (k := 1) A hj (by decide) dw_278 dw_279 dw_280 rfl dw_281 dw_282 rfl ?_
  refine rl_arg (q := 288) (k := 2) A hj (by decide) dw_283 dw_284 dw_285 rfl dw_286 dw_287 rfl ?_
  refine rl_arg (q := 293) (k := 3) A hj (by decide) dw_288 dw_289 dw_290 rfl dw_291 dw_292 rfl ?_
  refine rl_callR (q := 296) (M' := mm_X12_becomes) (As := [.int (xs (8 * j + 1)), .int (xs (8 * j + 2)), .int (xs (8 * j + 3))]) (v0 := .int o) (hr' := r1) A (cc_X12_becomes e2) rfl rfl vy_X12_becomes (by decide +kernel) ⟨Nat.le_of_ble_eq_true rfl, Nat.le_of_ble_eq_true rfl⟩ (Nat.le_of_ble_eq_true rfl) dw_293 rfl ?_
  refine rl_icmp_eq (tgt := 1545) A dw_296 (by decide) ?_
  exact IH _ _ R1
set_option maxHeartbeats 2000000 in
theorem lc_3 (A : ll_A p s m meth c b L xs x) (hj : 8 * j + 8 ≤ L) (HR : RR hc hr) (IH : ∀ hc' hr', RR hc' hr' → ll_V p e s m below meth c b x 1545 (ll_lo b x (nI (8 * j))) [] hc' hr') : ll_V p e s m below meth c b x 301 (ll_lo b x (nI (8 * j))) [] hc hr := by
  obtain ⟨o, c1, r1, e1, e2, R1⟩ := e_measure HR (xs (8 * j + 1)) (xs (8 * j + 2)) (xs (8 * j + 3)) (xs (8 * j + 4))
  refine rl_aload_n (q := 302) A dw_301 rfl rfl ?_
  refine rl_arg (q := 307) (k := 1) A hj (by decide) dw_302 dw_303 dw_304 rfl dw_305 dw_306 rfl ?_
  refine rl_arg (q := 312) (k := 2) A hj (by decide) dw_307 dw_308 dw_309 rfl dw_310 dw_311 rfl ?_
  refine rl_arg (q := 317) (k := 3) A hj (by decide) dw_312 dw_313 dw_314 rfl dw_315 dw_316 rfl ?_
  refine rl_arg (q := 322) (k := 4) A hj (by decide) dw_317 dw_318 dw_319 rfl dw_320 dw_321 rfl ?_
  refine rl_callC (q := 325) (M' := mm_X11_measure) (As := [.int (xs (8 * j + 1)), .int (xs (8 * j + 2)), .int (xs (8 * j + 3)), .int (xs (8 * j + 4))]) (v0 := .int o) (hc' := c1) A (cc_X11_measure e1) rfl rfl vy_X11_measure (by decide +kernel) ⟨Nat.le_of_ble_eq_true rfl, Nat.le_of_ble_eq_true rfl⟩ (Nat.le_of_ble_eq_true rfl) dw_322 rfl ?_
  refine rl_aload_n (q := 326) A dw_325 rfl rfl ?_
  refine rl_arg (q := 331) (k := 1) A hj (by decide) dw_326 dw_327 dw_328 rfl dw_329 dw_330 rfl ?_
  refine rl_arg (q := 336) (k := 2) A hj (by decide) dw_331 dw_332 dw_333 rfl dw_334 dw_335 rfl ?_
  refine rl_arg (q := 341) (k := 3) A hj (by decide) dw_336 dw_337 dw_338 rfl dw_339 dw_340 rfl ?_
  refine rl_arg (q := 346) (k := 4) A hj (by decide) dw_341 dw_342 dw_343 rfl dw_344 dw_345 rfl ?_
  refine rl_callR (q := 349) (M' := mm_X12_measure) (As := [.int (xs (8 * j + 1)), .int (xs (8 * j + 2)), .int (xs (8 * j + 3)), .int (xs (8 * j + 4))]) (v0 := .int o) (hr' := r1) A (cc_X12_measure e2) rfl rfl vy_X12_measure (by decide +kernel) ⟨Nat.le_of_ble_eq_true rfl, Nat.le_of_ble_eq_true rfl⟩ (Nat.le_of_ble_eq_true rfl) dw_346 rfl ?_
  refine rl_icmp_eq (tgt := 1545) A dw_349 (by decide) ?_
  exact IH _ _ R1
set_option maxHeartbeats 2000000 in
theorem lc_4 (A : ll_A p s m meth c b L xs x) (hj : 8 * j + 8 ≤ L) (HR : RR hc hr) (IH : ∀ hc' hr', RR hc' hr' → ll_V p e s m below meth c b x 1545 (ll_lo b x (nI (8 * j))) [] hc' hr') : ll_V p e s m below meth c b x 354 (ll_lo b x (nI (8 * j))) [] hc hr := by
  obtain ⟨o, e1, e2⟩ := e_known HR (xs (8 * j + 1)) (xs (8 * j + 2)) (xs (8 * j + 3)) (xs (8 * j + 4))
  refine rl_aload_n (q := 355) A dw_354 rfl rfl ?_
  refine rl_arg (q := 360) (k := 1) A hj (by decide) dw_355 dw_356 dw_357 rfl dw_358 dw_359 rfl ?_
  refine rl_arg (q := 365) (k := 2) A hj (by decide) dw_360 dw_361 dw_362 rfl dw_363 dw_364 rfl ?_
  refine rl_arg (q := 370) (k := 3) A hj (by decide) dw_365 dw_366 dw_367 rfl dw_368 dw_369 rfl ?_
  refine rl_arg (q := 375) (k := 4) A hj (by decide) dw_370 dw_371 dw_372 rfl dw_373 dw_374 rfl ?_
  refine rl_callC (q := 378) (M' := mm_X11_known) (As := [.int (xs (8 * j + 1)), .int (xs (8 * j + 2)), .int (xs (8 * j + 3)), .int (xs (8 * j + 4))]) (v0 := .int o) (hc' := hc) A (cc_X11_known e1) rfl rfl vy_X11_known (by decide +kernel) ⟨Nat.le_of_ble_eq_true rfl, Nat.le_of_ble_eq_true rfl⟩ (Nat.le_of_ble_eq_true rfl) dw_375 rfl ?_
  refine rl_aload_n (q := 379) A dw_378 rfl rfl ?_
  refine rl_arg (q := 384) (k := 1) A hj (by decide) dw_379 dw_380 dw_381 rfl dw_382 dw_383 rfl ?_
  refine rl_arg (q := 389) (k := 2) A hj (by decide) dw_384 dw_385 dw_386 rfl dw_387 dw_388 rfl ?_
  refine rl_arg (q := 394) (k := 3) A hj (by decide) dw_389 dw_390 dw_391 rfl dw_392 dw_393 rfl ?_
  refine rl_arg (q := 399) (k := 4) A hj (by decide) dw_394 dw_395 dw_396 rfl dw_397 dw_398 rfl ?_
  refine rl_callR (q := 402) (M' := mm_X12_known) (As := [.int (xs (8 * j + 1)), .int (xs (8 * j + 2)), .int (xs (8 * j + 3)), .int (xs (8 * j + 4))]) (v0 := .int o) (hr' := hr) A (cc_X12_known e2) rfl rfl vy_X12_known (by decide +kernel) ⟨Nat.le_of_ble_eq_true rfl, Nat.le_of_ble_eq_true rfl⟩ (Nat.le_of_ble_eq_true rfl) dw_399 rfl ?_
  refine rl_icmp_eq (tgt := 1545) A dw_402 (by decide) ?_
  exact IH _ _ HR
set_option maxHeartbeats 2000000 in
theorem lc_5 (A : ll_A p s m meth c b L xs x) (hj : 8 * j + 8 ≤ L) (HR : RR hc hr) (IH : ∀ hc' hr', RR hc' hr' → ll_V p e s m below meth c b x 1545 (ll_lo b x (nI (8 * j))) [] hc' hr') : ll_V p e s m below meth c b x 407 (ll_lo b x (nI (8 * j))) [] hc hr := by
  obtain ⟨o, r1, e1, e2, R1⟩ := e_told HR (xs (8 * j + 1)) (xs (8 * j + 2))
  refine rl_aload_n (q := 408) A dw_407 rfl rfl ?_
  refine rl_arg (q := 413) (k := 1) A hj (by decide) dw_408 dw_409 dw_410 rfl dw_411 dw_412 rfl ?_
  refine rl_arg (q := 418) (k := 2) A hj (by decide) dw_413 dw_414 dw_415 rfl dw_416 dw_417 rfl ?_
  refine rl_callC (q := 421) (M' := mm_X11_told) (As := [.int (xs (8 * j + 1)), .int (xs (8 * j + 2))]) (v0 := .int o) (hc' := hc) A (cc_X11_told e1) rfl rfl vy_X11_told (by decide +kernel) ⟨Nat.le_of_ble_eq_true rfl, Nat.le_of_ble_eq_true rfl⟩ (Nat.le_of_ble_eq_true rfl) dw_418 rfl ?_
  refine rl_aload_n (q := 422) A dw_421 rfl rfl ?_
  refine rl_arg (q := 427) (k := 1) A hj (by decide) dw_422 dw_423 dw_424 rfl dw_425 dw_426 rfl ?_
  refine rl_arg (q := 432) (k := 2) A hj (by decide) dw_427 dw_428 dw_429 rfl dw_430 dw_431 rfl ?_
  refine rl_callR (q := 435) (M' := mm_X12_told) (As := [.int (xs (8 * j + 1)), .int (xs (8 * j + 2))]) (v0 := .int o) (hr' := r1) A (cc_X12_told e2) rfl rfl vy_X12_told (by decide +kernel) ⟨Nat.le_of_ble_eq_true rfl, Nat.le_of_ble_eq_true rfl⟩ (Nat.le_of_ble_eq_true rfl) dw_432 rfl ?_
  refine rl_icmp_eq (tgt := 1545) A dw_435 (by decide) ?_
  exact IH _ _ R1
set_option maxHeartbeats 2000000 in
theorem lc_6 (A : ll_A p s m meth c b L xs x) (hj : 8 * j + 8 ≤ L) (HR : RR hc hr) (IH : ∀ hc' hr', RR hc' hr' → ll_V p e s m below meth c b x 1545 (ll_lo b x (nI (8 * j))) [] hc' hr') : ll_V p e s m below meth c b x 440 (ll_lo b x (nI (8 * j))) [] hc hr := by
  obtain ⟨o, c1, r1, e1, e2, R1⟩ := e_size HR (xs (8 * j + 1)) (xs (8 * j + 2)) (xs (8 * j + 3)) (xs (8 * j + 4)) (xs (8 * j + 5)) (xs (8 * j + 6)) (xs (8 * j + 7))
  refine rl_aload_n (q := 441) A dw_440 rfl rfl ?_
  refine rl_arg (q := 446) (k := 1) A hj (by decide) dw_441 dw_442 dw_443 rfl dw_444 dw_445 rfl ?_
  refine rl_arg (q := 451) (k := 2) A hj (by decide) dw_446 dw_447 dw_448 rfl dw_449 dw_450 rfl ?_
  refine rl_arg (q := 456) (k := 3) A hj (by decide) dw_451 dw_452 dw_453 rfl dw_454 dw_455 rfl ?_
  refine rl_arg (q := 461) (k := 4) A hj (by decide) dw_456 dw_457 dw_458 rfl dw_459 dw_460 rfl ?_
  refine rl_arg (q := 466) (k := 5) A hj (by decide) dw_461 dw_462 dw_463 rfl dw_464 dw_465 rfl ?_
  refine rl_argb (q := 472) (k := 6) A hj (by decide) dw_466 dw_467 dw_468 (by decide) dw_470 dw_471 rfl ?_
  refine rl_argb (q := 478) (k := 7) A hj (by decide) dw_472 dw_473 dw_474 (by decide) dw_476 dw_477 rfl ?_
  refine rl_callC (q := 481) (M' := mm_X11_size) (As := [.int (xs (8 * j + 1)), .int (xs (8 * j + 2)), .int (xs (8 * j + 3)), .int (xs (8 * j + 4)), .int (xs (8 * j + 5)), .int (xs (8 * j + 6)), .int (xs (8 * j + 7))]) (v0 := .int o) (hc' := c1) A (cc_X11_size e1) rfl rfl vy_X11_size (by decide +kernel) ⟨Nat.le_of_ble_eq_true rfl, Nat.le_of_ble_eq_true rfl⟩ (Nat.le_of_ble_eq_true rfl) dw_478 rfl ?_
  refine rl_aload_n (q := 482) A dw_481 rfl rfl ?_
  refine rl_arg (q := 487) (k := 1) A hj (by decide) dw_482 dw_483 dw_484 rfl dw_485 dw_486 rfl ?_
  refine rl_arg (q := 492) (k := 2) A hj (by decide) dw_487 dw_488 dw_489 rfl dw_490 dw_491 rfl ?_
  refine rl_arg (q := 497) (k := 3) A hj (by decide) dw_492 dw_493 dw_494 rfl dw_495 dw_496 rfl ?_
  refine rl_arg (q := 502) (k := 4) A hj (by decide) dw_497 dw_498 dw_499 rfl dw_500 dw_501 rfl ?_
  refine rl_arg (q := 507) (k := 5) A hj (by decide) dw_502 dw_503 dw_504 rfl dw_505 dw_506 rfl ?_
  refine rl_argb (q := 513) (k := 6) A hj (by decide) dw_507 dw_508 dw_509 (by decide) dw_511 dw_512 rfl ?_
  refine rl_argb (q := 519) (k := 7) A hj (by decide) dw_513 dw_514 dw_515 (by decide) dw_517 dw_518 rfl ?_
  refine rl_callR (q := 522) (M' := mm_X12_size) (As := [.int (xs (8 * j + 1)), .int (xs (8 * j + 2)), .int (xs (8 * j + 3)), .int (xs (8 * j + 4)), .int (xs (8 * j + 5)), .int (xs (8 * j + 6)), .int (xs (8 * j + 7))]) (v0 := .int o) (hr' := r1) A (cc_X12_size e2) rfl rfl vy_X12_size (by decide +kernel) ⟨Nat.le_of_ble_eq_true rfl, Nat.le_of_ble_eq_true rfl⟩ (Nat.le_of_ble_eq_true rfl) dw_519 rfl ?_
  refine rl_icmp_eq (tgt := 1545) A dw_522 (by decide) ?_
  exact IH _ _ R1
set_option maxHeartbeats 2000000 in
theorem lc_7 (A : ll_A p s m meth c b L xs x) (hj : 8 * j + 8 ≤ L) (HR : RR hc hr) (IH : ∀ hc' hr', RR hc' hr' → ll_V p e s m below meth c b x 1545 (ll_lo b x (nI (8 * j))) [] hc' hr') : ll_V p e s m below meth c b x 527 (ll_lo b x (nI (8 * j))) [] hc hr := by
  obtain ⟨o, e1, e2⟩ := e_fits HR (xs (8 * j + 1)) (xs (8 * j + 2)) (xs (8 * j + 3))
  refine rl_aload_n (q := 528) A dw_527 rfl rfl ?_
  refine rl_arg (q := 533) (k := 1) A hj (by decide) dw_528 dw_529 dw_530 rfl dw_531 dw_532 rfl ?_
  refine rl_arg (q := 538) (k := 2) A hj (by decide) dw_533 dw_534 dw_535 rfl dw_536 dw_537 rfl ?_
  refine rl_arg (q := 543) (k := 3) A hj (by decide) dw_538 dw_539 dw_540 rfl dw_541 dw_542 rfl ?_
  refine rl_callC (q := 546) (M' := mm_X11_fits) (As := [.int (xs (8 * j + 1)), .int (xs (8 * j + 2)), .int (xs (8 * j + 3))]) (v0 := .int o) (hc' := hc) A (cc_X11_fits e1) rfl rfl vy_X11_fits (by decide +kernel) ⟨Nat.le_of_ble_eq_true rfl, Nat.le_of_ble_eq_true rfl⟩ (Nat.le_of_ble_eq_true rfl) dw_543 rfl ?_
  refine rl_aload_n (q := 547) A dw_546 rfl rfl ?_
  refine rl_arg (q := 552) (k := 1) A hj (by decide) dw_547 dw_548 dw_549 rfl dw_550 dw_551 rfl ?_
  refine rl_arg (q := 557) (k := 2) A hj (by decide) dw_552 dw_553 dw_554 rfl dw_555 dw_556 rfl ?_
  refine rl_arg (q := 562) (k := 3) A hj (by decide) dw_557 dw_558 dw_559 rfl dw_560 dw_561 rfl ?_
  refine rl_callR (q := 565) (M' := mm_X12_fits) (As := [.int (xs (8 * j + 1)), .int (xs (8 * j + 2)), .int (xs (8 * j + 3))]) (v0 := .int o) (hr' := hr) A (cc_X12_fits e2) rfl rfl vy_X12_fits (by decide +kernel) ⟨Nat.le_of_ble_eq_true rfl, Nat.le_of_ble_eq_true rfl⟩ (Nat.le_of_ble_eq_true rfl) dw_562 rfl ?_
  refine rl_icmp_eq (tgt := 1545) A dw_565 (by decide) ?_
  exact IH _ _ HR
set_option maxHeartbeats 2000000 in
theorem lc_8 (A : ll_A p s m meth c b L xs x) (hj : 8 * j + 8 ≤ L) (HR : RR hc hr) (IH : ∀ hc' hr', RR hc' hr' → ll_V p e s m below meth c b x 1545 (ll_lo b x (nI (8 * j))) [] hc' hr') : ll_V p e s m below meth c b x 570 (ll_lo b x (nI (8 * j))) [] hc hr := by
  obtain ⟨o, e1, e2⟩ := e_sized HR (xs (8 * j + 1)) (xs (8 * j + 2)) (xs (8 * j + 3)) (xs (8 * j + 4))
  refine rl_aload_n (q := 571) A dw_570 rfl rfl ?_
  refine rl_arg (q := 576) (k := 1) A hj (by decide) dw_571 dw_572 dw_573 rfl dw_574 dw_575 rfl ?_
  refine rl_arg (q := 581) (k := 2) A hj (by decide) dw_576 dw_577 dw_578 rfl dw_579 dw_580 rfl ?_
  refine rl_arg (q := 586) (k := 3) A hj (by decide) dw_581 dw_582 dw_583 rfl dw_584 dw_585 rfl ?_
  refine rl_arg (q := 591) (k := 4) A hj (by decide) dw_586 dw_587 dw_588 rfl dw_589 dw_590 rfl ?_
  refine rl_callC (q := 594) (M' := mm_X11_sized) (As := [.int (xs (8 * j + 1)), .int (xs (8 * j + 2)), .int (xs (8 * j + 3)), .int (xs (8 * j + 4))]) (v0 := .int o) (hc' := hc) A (cc_X11_sized e1) rfl rfl vy_X11_sized (by decide +kernel) ⟨Nat.le_of_ble_eq_true rfl, Nat.le_of_ble_eq_true rfl⟩ (Nat.le_of_ble_eq_true rfl) dw_591 rfl ?_
  refine rl_aload_n (q := 595) A dw_594 rfl rfl ?_
  refine rl_arg (q := 600) (k := 1) A hj (by decide) dw_595 dw_596 dw_597 rfl dw_598 dw_599 rfl ?_
  refine rl_arg (q := 605) (k := 2) A hj (by decide) dw_600 dw_601 dw_602 rfl dw_603 dw_604 rfl ?_
  refine rl_arg (q := 610) (k := 3) A hj (by decide) dw_605 dw_606 dw_607 rfl dw_608 dw_609 rfl ?_
  refine rl_arg (q := 615) (k := 4) A hj (by decide) dw_610 dw_611 dw_612 rfl dw_613 dw_614 rfl ?_
  refine rl_callR (q := 618) (M' := mm_X12_sized) (As := [.int (xs (8 * j + 1)), .int (xs (8 * j + 2)), .int (xs (8 * j + 3)), .int (xs (8 * j + 4))]) (v0 := .int o) (hr' := hr) A (cc_X12_sized e2) rfl rfl vy_X12_sized (by decide +kernel) ⟨Nat.le_of_ble_eq_true rfl, Nat.le_of_ble_eq_true rfl⟩ (Nat.le_of_ble_eq_true rfl) dw_615 rfl ?_
  refine rl_icmp_eq (tgt := 1545) A dw_618 (by decide) ?_
  exact IH _ _ HR
set_option maxHeartbeats 2000000 in
theorem lc_9 (A : ll_A p s m meth c b L xs x) (hj : 8 * j + 8 ≤ L) (HR : RR hc hr) (IH : ∀ hc' hr', RR hc' hr' → ll_V p e s m below meth c b x 1545 (ll_lo b x (nI (8 * j))) [] hc' hr') : ll_V p e s m below meth c b x 623 (ll_lo b x (nI (8 * j))) [] hc hr := by
  obtain ⟨o, c1, r1, e1, e2, R1⟩ := e_chosen HR (xs (8 * j + 1)) (xs (8 * j + 2)) (xs (8 * j + 3))
  refine rl_aload_n (q := 624) A dw_623 rfl rfl ?_
  refine rl_arg (q := 629) (k := 1) A hj (by decide) dw_624 dw_625 dw_626 rfl dw_627 dw_628 rfl ?_
  refine rl_arg (q := 634) (k := 2) A hj (by decide) dw_629 dw_630 dw_631 rfl dw_632 dw_633 rfl ?_
  refine rl_arg (q := 639) (k := 3) A hj (by decide) dw_634 dw_635 dw_636 rfl dw_637 dw_638 rfl ?_
  refine rl_callC (q := 642) (M' := mm_X11_chosen) (As := [.int (xs (8 * j + 1)), .int (xs (8 * j + 2)), .int (xs (8 * j + 3))]) (v0 := .int o) (hc' := c1) A (cc_X11_chosen e1) rfl rfl vy_X11_chosen (by decide +kernel) ⟨Nat.le_of_ble_eq_true rfl, Nat.le_of_ble_eq_true rfl⟩ (Nat.le_of_ble_eq_true rfl) dw_639 rfl ?_
  refine rl_aload_n (q := 643) A dw_642 rfl rfl ?_
  refine rl_arg (q := 648) (k := 1) A hj (by decide) dw_643 dw_644 dw_645 rfl dw_646 dw_647 rfl ?_
  refine rl_arg (q := 653) (k := 2) A hj (by decide) dw_648 dw_649 dw_650 rfl dw_651 dw_652 rfl ?_
  refine rl_arg (q := 658) (k := 3) A hj (by decide) dw_653 dw_654 dw_655 rfl dw_656 dw_657 rfl ?_
  refine rl_callR (q := 661) (M' := mm_X12_chosen) (As := [.int (xs (8 * j + 1)), .int (xs (8 * j + 2)), .int (xs (8 * j + 3))]) (v0 := .int o) (hr' := r1) A (cc_X12_chosen e2) rfl rfl vy_X12_chosen (by decide +kernel) ⟨Nat.le_of_ble_eq_true rfl, Nat.le_of_ble_eq_true rfl⟩ (Nat.le_of_ble_eq_true rfl) dw_658 rfl ?_
  refine rl_icmp_eq (tgt := 1545) A dw_661 (by decide) ?_
  exact IH _ _ R1
set_option maxHeartbeats 2000000 in
theorem lc_10 (A : ll_A p s m meth c b L xs x) (hj : 8 * j + 8 ≤ L) (HR : RR hc hr) (IH : ∀ hc' hr', RR hc' hr' → ll_V p e s m below meth c b x 1545 (ll_lo b x (nI (8 * j))) [] hc' hr') : ll_V p e s m below meth c b x 666 (ll_lo b x (nI (8 * j))) [] hc hr := by
  obtain ⟨o, c1, r1, e1, e2, R1⟩ := e_feed HR ((((xs (8 * j + 1)).toInt64 <<< (((32 : Int32)).toInt64 &&& 63)) ||| ((xs (8 * j + 2)).toInt64 &&& (4294967295 : Int64))))
  refine rl_aload_n (q := 667) A dw_666 rfl rfl ?_
  refine rl_arg (q := 672) (k := 1) A hj (by decide) dw_667 dw_668 dw_669 rfl dw_670 dw_671 rfl ?_
  refine rl_i2l (q := 673) A dw_672 rfl ?_
  refine rl_bipush (q := 675) (v := 32) A dw_673 rfl (by decide) ?_
  refine rl_lshl (q := 676) A dw_675 rfl ?_
  refine rl_arg (q := 681) (k := 2) A hj (by decide) dw_676 dw_677 dw_678 rfl dw_679 dw_680 rfl ?_
  refine rl_i2l (q := 682) A dw_681 rfl ?_
  refine rl_ldc2 (q := 685) (v := 4294967295) A (by decide +kernel) dw_682 rfl ?_
  refine rl_land (q := 686) A dw_685 rfl ?_
  refine rl_lor (q := 687) A dw_686 rfl ?_
  refine rl_callC (q := 690) (M' := mm_X11_feed) (As := [.long ((((xs (8 * j + 1)).toInt64 <<< (((32 : Int32)).toInt64 &&& 63)) ||| ((xs (8 * j + 2)).toInt64 &&& (4294967295 : Int64))))]) (v0 := .int o) (hc' := c1) A (cc_X11_feed e1) rfl rfl vy_X11_feed (by decide +kernel) ⟨Nat.le_of_ble_eq_true rfl, Nat.le_of_ble_eq_true rfl⟩ (Nat.le_of_ble_eq_true rfl) dw_687 rfl ?_
  refine rl_aload_n (q := 691) A dw_690 rfl rfl ?_
  refine rl_arg (q := 696) (k := 1) A hj (by decide) dw_691 dw_692 dw_693 rfl dw_694 dw_695 rfl ?_
  refine rl_i2l (q := 697) A dw_696 rfl ?_
  refine rl_bipush (q := 699) (v := 32) A dw_697 rfl (by decide) ?_
  refine rl_lshl (q := 700) A dw_699 rfl ?_
  refine rl_arg (q := 705) (k := 2) A hj (by decide) dw_700 dw_701 dw_702 rfl dw_703 dw_704 rfl ?_
  refine rl_i2l (q := 706) A dw_705 rfl ?_
  refine rl_ldc2 (q := 709) (v := 4294967295) A (by decide +kernel) dw_706 rfl ?_
  refine rl_land (q := 710) A dw_709 rfl ?_
  refine rl_lor (q := 711) A dw_710 rfl ?_
  refine rl_callR (q := 714) (M' := mm_X12_feed) (As := [.long ((((xs (8 * j + 1)).toInt64 <<< (((32 : Int32)).toInt64 &&& 63)) ||| ((xs (8 * j + 2)).toInt64 &&& (4294967295 : Int64))))]) (v0 := .int o) (hr' := r1) A (cc_X12_feed e2) rfl rfl vy_X12_feed (by decide +kernel) ⟨Nat.le_of_ble_eq_true rfl, Nat.le_of_ble_eq_true rfl⟩ (Nat.le_of_ble_eq_true rfl) dw_711 rfl ?_
  refine rl_icmp_eq (tgt := 1545) A dw_714 (by decide) ?_
  exact IH _ _ R1
set_option maxHeartbeats 2000000 in
theorem lc_11 (A : ll_A p s m meth c b L xs x) (hj : 8 * j + 8 ≤ L) (HR : RR hc hr) (IH : ∀ hc' hr', RR hc' hr' → ll_V p e s m below meth c b x 1545 (ll_lo b x (nI (8 * j))) [] hc' hr') : ll_V p e s m below meth c b x 719 (ll_lo b x (nI (8 * j))) [] hc hr := by
  obtain ⟨o, c1, r1, e1, e2, R1⟩ := e_end HR (xs (8 * j + 1))
  refine rl_aload_n (q := 720) A dw_719 rfl rfl ?_
  refine rl_arg (q := 725) (k := 1) A hj (by decide) dw_720 dw_721 dw_722 rfl dw_723 dw_724 rfl ?_
  refine rl_callC (q := 728) (M' := mm_X11_end) (As := [.int (xs (8 * j + 1))]) (v0 := .int o) (hc' := c1) A (cc_X11_end e1) rfl rfl vy_X11_end (by decide +kernel) ⟨Nat.le_of_ble_eq_true rfl, Nat.le_of_ble_eq_true rfl⟩ (Nat.le_of_ble_eq_true rfl) dw_725 rfl ?_
  refine rl_aload_n (q := 729) A dw_728 rfl rfl ?_
  refine rl_arg (q := 734) (k := 1) A hj (by decide) dw_729 dw_730 dw_731 rfl dw_732 dw_733 rfl ?_
  refine rl_callR (q := 737) (M' := mm_X12_end) (As := [.int (xs (8 * j + 1))]) (v0 := .int o) (hr' := r1) A (cc_X12_end e2) rfl rfl vy_X12_end (by decide +kernel) ⟨Nat.le_of_ble_eq_true rfl, Nat.le_of_ble_eq_true rfl⟩ (Nat.le_of_ble_eq_true rfl) dw_734 rfl ?_
  refine rl_icmp_eq (tgt := 1545) A dw_737 (by decide) ?_
  exact IH _ _ R1
set_option maxHeartbeats 2000000 in
theorem lc_12 (A : ll_A p s m meth c b L xs x) (hj : 8 * j + 8 ≤ L) (HR : RR hc hr) (IH : ∀ hc' hr', RR hc' hr' → ll_V p e s m below meth c b x 1545 (ll_lo b x (nI (8 * j))) [] hc' hr') : ll_V p e s m below meth c b x 742 (ll_lo b x (nI (8 * j))) [] hc hr := by
  obtain ⟨o, c1, r1, e1, e2, R1⟩ := e_text HR 
  refine rl_aload_n (q := 743) A dw_742 rfl rfl ?_
  refine rl_callC (q := 746) (M' := mm_X11_text) (As := []) (v0 := .int o) (hc' := c1) A (cc_X11_text e1) rfl rfl vy_X11_text (by decide +kernel) ⟨Nat.le_of_ble_eq_true rfl, Nat.le_of_ble_eq_true rfl⟩ (Nat.le_of_ble_eq_true rfl) dw_743 rfl ?_
  refine rl_aload_n (q := 747) A dw_746 rfl rfl ?_
  refine rl_callR (q := 750) (M' := mm_X12_text) (As := []) (v0 := .int o) (hr' := r1) A (cc_X12_text e2) rfl rfl vy_X12_text (by decide +kernel) ⟨Nat.le_of_ble_eq_true rfl, Nat.le_of_ble_eq_true rfl⟩ (Nat.le_of_ble_eq_true rfl) dw_747 rfl ?_
  refine rl_icmp_eq (tgt := 1545) A dw_750 (by decide) ?_
  exact IH _ _ R1
set_option maxHeartbeats 2000000 in
theorem lc_13 (A : ll_A p s m meth c b L xs x) (hj : 8 * j + 8 ≤ L) (HR : RR hc hr) (IH : ∀ hc' hr', RR hc' hr' → ll_V p e s m below meth c b x 1545 (ll_lo b x (nI (8 * j))) [] hc' hr') : ll_V p e s m below meth c b x 755 (ll_lo b x (nI (8 * j))) [] hc hr := by
  obtain ⟨o, e1, e2⟩ := e_fault HR 
  refine rl_aload_n (q := 756) A dw_755 rfl rfl ?_
  refine rl_callC (q := 759) (M' := mm_X11_fault) (As := []) (v0 := .int o) (hc' := hc) A (cc_X11_fault e1) rfl rfl vy_X11_fault (by decide +kernel) ⟨Nat.le_of_ble_eq_true rfl, Nat.le_of_ble_eq_true rfl⟩ (Nat.le_of_ble_eq_true rfl) dw_756 rfl ?_
  refine rl_aload_n (q := 760) A dw_759 rfl rfl ?_
  refine rl_callR (q := 763) (M' := mm_X12_fault) (As := []) (v0 := .int o) (hr' := hr) A (cc_X12_fault e2) rfl rfl vy_X12_fault (by decide +kernel) ⟨Nat.le_of_ble_eq_true rfl, Nat.le_of_ble_eq_true rfl⟩ (Nat.le_of_ble_eq_true rfl) dw_760 rfl ?_
  refine rl_icmp_eq (tgt := 1545) A dw_763 (by decide) ?_
  exact IH _ _ HR
set_option maxHeartbeats 2000000 in
theorem lc_14 (A : ll_A p s m meth c b L xs x) (hj : 8 * j + 8 ≤ L) (HR : RR hc hr) (IH : ∀ hc' hr', RR hc' hr' → ll_V p e s m below meth c b x 1545 (ll_lo b x (nI (8 * j))) [] hc' hr') : ll_V p e s m below meth c b x 768 (ll_lo b x (nI (8 * j))) [] hc hr := by
  obtain ⟨o, r1, e1, e2, R1⟩ := e_due HR (xs (8 * j + 1)) (xs (8 * j + 2)) (xs (8 * j + 3))
  refine rl_aload_n (q := 769) A dw_768 rfl rfl ?_
  refine rl_arg (q := 774) (k := 1) A hj (by decide) dw_769 dw_770 dw_771 rfl dw_772 dw_773 rfl ?_
  refine rl_arg (q := 779) (k := 2) A hj (by decide) dw_774 dw_775 dw_776 rfl dw_777 dw_778 rfl ?_
  refine rl_arg (q := 784) (k := 3) A hj (by decide) dw_779 dw_780 dw_781 rfl dw_782 dw_783 rfl ?_
  refine rl_callC (q := 787) (M' := mm_X11_due) (As := [.int (xs (8 * j + 1)), .int (xs (8 * j + 2)), .int (xs (8 * j + 3))]) (v0 := .int o) (hc' := hc) A (cc_X11_due e1) rfl rfl vy_X11_due (by decide +kernel) ⟨Nat.le_of_ble_eq_true rfl, Nat.le_of_ble_eq_true rfl⟩ (Nat.le_of_ble_eq_true rfl) dw_784 rfl ?_
  refine rl_aload_n (q := 788) A dw_787 rfl rfl ?_
  refine rl_arg (q := 793) (k := 1) A hj (by decide) dw_788 dw_789 dw_790 rfl dw_791 dw_792 rfl ?_
  refine rl_arg (q := 798) (k := 2) A hj (by decide) dw_793 dw_794 dw_795 rfl dw_796 dw_797 rfl ?_
  refine rl_arg (q := 803) (k := 3) A hj (by decide) dw_798 dw_799 dw_800 rfl dw_801 dw_802 rfl ?_
  refine rl_callR (q := 806) (M' := mm_X12_due) (As := [.int (xs (8 * j + 1)), .int (xs (8 * j + 2)), .int (xs (8 * j + 3))]) (v0 := .int o) (hr' := r1) A (cc_X12_due e2) rfl rfl vy_X12_due (by decide +kernel) ⟨Nat.le_of_ble_eq_true rfl, Nat.le_of_ble_eq_true rfl⟩ (Nat.le_of_ble_eq_true rfl) dw_803 rfl ?_
  refine rl_icmp_eq (tgt := 1545) A dw_806 (by decide) ?_
  exact IH _ _ R1
set_option maxHeartbeats 2000000 in
theorem lc_15 (A : ll_A p s m meth c b L xs x) (hj : 8 * j + 8 ≤ L) (HR : RR hc hr) (IH : ∀ hc' hr', RR hc' hr' → ll_V p e s m below meth c b x 1545 (ll_lo b x (nI (8 * j))) [] hc' hr') : ll_V p e s m below meth c b x 811 (ll_lo b x (nI (8 * j))) [] hc hr := by
  obtain ⟨o, r1, e1, e2, R1⟩ := e_why HR (xs (8 * j + 1)) (xs (8 * j + 2)) (xs (8 * j + 3))
  refine rl_aload_n (q := 812) A dw_811 rfl rfl ?_
  refine rl_arg (q := 817) (k := 1) A hj (by decide) dw_812 dw_813 dw_814 rfl dw_815 dw_816 rfl ?_
  refine rl_arg (q := 822) (k := 2) A hj (by decide) dw_817 dw_818 dw_819 rfl dw_820 dw_821 rfl ?_
  refine rl_arg (q := 827) (k := 3) A hj (by decide) dw_822 dw_823 dw_824 rfl dw_825 dw_826 rfl ?_
  refine rl_callC (q := 830) (M' := mm_X11_why) (As := [.int (xs (8 * j + 1)), .int (xs (8 * j + 2)), .int (xs (8 * j + 3))]) (v0 := .int o) (hc' := hc) A (cc_X11_why e1) rfl rfl vy_X11_why (by decide +kernel) ⟨Nat.le_of_ble_eq_true rfl, Nat.le_of_ble_eq_true rfl⟩ (Nat.le_of_ble_eq_true rfl) dw_827 rfl ?_
  refine rl_aload_n (q := 831) A dw_830 rfl rfl ?_
  refine rl_arg (q := 836) (k := 1) A hj (by decide) dw_831 dw_832 dw_833 rfl dw_834 dw_835 rfl ?_
  refine rl_arg (q := 841) (k := 2) A hj (by decide) dw_836 dw_837 dw_838 rfl dw_839 dw_840 rfl ?_
  refine rl_arg (q := 846) (k := 3) A hj (by decide) dw_841 dw_842 dw_843 rfl dw_844 dw_845 rfl ?_
  refine rl_callR (q := 849) (M' := mm_X12_why) (As := [.int (xs (8 * j + 1)), .int (xs (8 * j + 2)), .int (xs (8 * j + 3))]) (v0 := .int o) (hr' := r1) A (cc_X12_why e2) rfl rfl vy_X12_why (by decide +kernel) ⟨Nat.le_of_ble_eq_true rfl, Nat.le_of_ble_eq_true rfl⟩ (Nat.le_of_ble_eq_true rfl) dw_846 rfl ?_
  refine rl_icmp_eq (tgt := 1545) A dw_849 (by decide) ?_
  exact IH _ _ R1
set_option maxHeartbeats 2000000 in
theorem lc_16 (A : ll_A p s m meth c b L xs x) (hj : 8 * j + 8 ≤ L) (HR : RR hc hr) (IH : ∀ hc' hr', RR hc' hr' → ll_V p e s m below meth c b x 1545 (ll_lo b x (nI (8 * j))) [] hc' hr') : ll_V p e s m below meth c b x 854 (ll_lo b x (nI (8 * j))) [] hc hr := by
  obtain ⟨o, e1, e2⟩ := e_rule HR (xs (8 * j + 1)) (xs (8 * j + 2)) (xs (8 * j + 3))
  refine rl_aload_n (q := 855) A dw_854 rfl rfl ?_
  refine rl_arg (q := 860) (k := 1) A hj (by decide) dw_855 dw_856 dw_857 rfl dw_858 dw_859 rfl ?_
  refine rl_arg (q := 865) (k := 2) A hj (by decide) dw_860 dw_861 dw_862 rfl dw_863 dw_864 rfl ?_
  refine rl_arg (q := 870) (k := 3) A hj (by decide) dw_865 dw_866 dw_867 rfl dw_868 dw_869 rfl ?_
  refine rl_callC (q := 873) (M' := mm_X11_rule) (As := [.int (xs (8 * j + 1)), .int (xs (8 * j + 2)), .int (xs (8 * j + 3))]) (v0 := .int o) (hc' := hc) A (cc_X11_rule e1) rfl rfl vy_X11_rule (by decide +kernel) ⟨Nat.le_of_ble_eq_true rfl, Nat.le_of_ble_eq_true rfl⟩ (Nat.le_of_ble_eq_true rfl) dw_870 rfl ?_
  refine rl_aload_n (q := 874) A dw_873 rfl rfl ?_
  refine rl_arg (q := 879) (k := 1) A hj (by decide) dw_874 dw_875 dw_876 rfl dw_877 dw_878 rfl ?_
  refine rl_arg (q := 884) (k := 2) A hj (by decide) dw_879 dw_880 dw_881 rfl dw_882 dw_883 rfl ?_
  refine rl_arg (q := 889) (k := 3) A hj (by decide) dw_884 dw_885 dw_886 rfl dw_887 dw_888 rfl ?_
  refine rl_callR (q := 892) (M' := mm_X12_rule) (As := [.int (xs (8 * j + 1)), .int (xs (8 * j + 2)), .int (xs (8 * j + 3))]) (v0 := .int o) (hr' := hr) A (cc_X12_rule e2) rfl rfl vy_X12_rule (by decide +kernel) ⟨Nat.le_of_ble_eq_true rfl, Nat.le_of_ble_eq_true rfl⟩ (Nat.le_of_ble_eq_true rfl) dw_889 rfl ?_
  refine rl_icmp_eq (tgt := 1545) A dw_892 (by decide) ?_
  exact IH _ _ HR
set_option maxHeartbeats 2000000 in
theorem lc_17 (A : ll_A p s m meth c b L xs x) (hj : 8 * j + 8 ≤ L) (HR : RR hc hr) (IH : ∀ hc' hr', RR hc' hr' → ll_V p e s m below meth c b x 1545 (ll_lo b x (nI (8 * j))) [] hc' hr') : ll_V p e s m below meth c b x 897 (ll_lo b x (nI (8 * j))) [] hc hr := by
  obtain ⟨o, c1, r1, e1, e2, R1⟩ := e_store HR 
  replace e1 : ff_X11_store hc = some (o, c1) := by
    unfold ff_X11_store
    simp only [e1, Option.bind_some]
  refine rl_aload_n (q := 898) A dw_897 rfl rfl ?_
  refine rl_callC (q := 901) (M' := mm_X11_store) (As := []) (v0 := .int o) (hc' := c1) A (cc_X11_store e1) rfl rfl vy_X11_store (by decide +kernel) ⟨Nat.le_of_ble_eq_true rfl, Nat.le_of_ble_eq_true rfl⟩ (Nat.le_of_ble_eq_true rfl) dw_898 rfl ?_
  refine rl_aload_n (q := 902) A dw_901 rfl rfl ?_
  refine rl_callR (q := 905) (M' := mm_X12_store) (As := []) (v0 := .int o) (hr' := r1) A (cc_X12_store e2) rfl rfl vy_X12_store (by decide +kernel) ⟨Nat.le_of_ble_eq_true rfl, Nat.le_of_ble_eq_true rfl⟩ (Nat.le_of_ble_eq_true rfl) dw_902 rfl ?_
  refine rl_icmp_eq (tgt := 1545) A dw_905 (by decide) ?_
  exact IH _ _ R1
set_option maxHeartbeats 2000000 in
theorem lc_18 (A : ll_A p s m meth c b L xs x) (hj : 8 * j + 8 ≤ L) (HR : RR hc hr) (IH : ∀ hc' hr', RR hc' hr' → ll_V p e s m below meth c b x 1545 (ll_lo b x (nI (8 * j))) [] hc' hr') : ll_V p e s m below meth c b x 910 (ll_lo b x (nI (8 * j))) [] hc hr := by
  obtain ⟨o, c1, r1, e1, e2, R1⟩ := e_road HR (xs (8 * j + 1)) (xs (8 * j + 2)) (xs (8 * j + 3))
  refine rl_aload_n (q := 911) A dw_910 rfl rfl ?_
  refine rl_arg (q := 916) (k := 1) A hj (by decide) dw_911 dw_912 dw_913 rfl dw_914 dw_915 rfl ?_
  refine rl_arg (q := 921) (k := 2) A hj (by decide) dw_916 dw_917 dw_918 rfl dw_919 dw_920 rfl ?_
  refine rl_arg (q := 926) (k := 3) A hj (by decide) dw_921 dw_922 dw_923 rfl dw_924 dw_925 rfl ?_
  refine rl_callC (q := 929) (M' := mm_X11_road) (As := [.int (xs (8 * j + 1)), .int (xs (8 * j + 2)), .int (xs (8 * j + 3))]) (v0 := .int o) (hc' := c1) A (cc_X11_road e1) rfl rfl vy_X11_road (by decide +kernel) ⟨Nat.le_of_ble_eq_true rfl, Nat.le_of_ble_eq_true rfl⟩ (Nat.le_of_ble_eq_true rfl) dw_926 rfl ?_
  refine rl_aload_n (q := 930) A dw_929 rfl rfl ?_
  refine rl_arg (q := 935) (k := 1) A hj (by decide) dw_930 dw_931 dw_932 rfl dw_933 dw_934 rfl ?_
  refine rl_arg (q := 940) (k := 2) A hj (by decide) dw_935 dw_936 dw_937 rfl dw_938 dw_939 rfl ?_
  refine rl_arg (q := 945) (k := 3) A hj (by decide) dw_940 dw_941 dw_942 rfl dw_943 dw_944 rfl ?_
  refine rl_callR (q := 948) (M' := mm_X12_road) (As := [.int (xs (8 * j + 1)), .int (xs (8 * j + 2)), .int (xs (8 * j + 3))]) (v0 := .int o) (hr' := r1) A (cc_X12_road e2) rfl rfl vy_X12_road (by decide +kernel) ⟨Nat.le_of_ble_eq_true rfl, Nat.le_of_ble_eq_true rfl⟩ (Nat.le_of_ble_eq_true rfl) dw_945 rfl ?_
  refine rl_icmp_eq (tgt := 1545) A dw_948 (by decide) ?_
  exact IH _ _ R1
set_option maxHeartbeats 2000000 in
theorem lc_19 (A : ll_A p s m meth c b L xs x) (hj : 8 * j + 8 ≤ L) (HR : RR hc hr) (IH : ∀ hc' hr', RR hc' hr' → ll_V p e s m below meth c b x 1545 (ll_lo b x (nI (8 * j))) [] hc' hr') : ll_V p e s m below meth c b x 953 (ll_lo b x (nI (8 * j))) [] hc hr := by
  obtain ⟨o, c1, r1, e1, e2, R1⟩ := e_piece HR (xs (8 * j + 1)) (xs (8 * j + 2)) (xs (8 * j + 3)) (xs (8 * j + 4))
  refine rl_aload_n (q := 954) A dw_953 rfl rfl ?_
  refine rl_arg (q := 959) (k := 1) A hj (by decide) dw_954 dw_955 dw_956 rfl dw_957 dw_958 rfl ?_
  refine rl_arg (q := 964) (k := 2) A hj (by decide) dw_959 dw_960 dw_961 rfl dw_962 dw_963 rfl ?_
  refine rl_arg (q := 969) (k := 3) A hj (by decide) dw_964 dw_965 dw_966 rfl dw_967 dw_968 rfl ?_
  refine rl_arg (q := 974) (k := 4) A hj (by decide) dw_969 dw_970 dw_971 rfl dw_972 dw_973 rfl ?_
  refine rl_callC (q := 977) (M' := mm_X11_piece) (As := [.int (xs (8 * j + 1)), .int (xs (8 * j + 2)), .int (xs (8 * j + 3)), .int (xs (8 * j + 4))]) (v0 := .int o) (hc' := c1) A (cc_X11_piece e1) rfl rfl vy_X11_piece (by decide +kernel) ⟨Nat.le_of_ble_eq_true rfl, Nat.le_of_ble_eq_true rfl⟩ (Nat.le_of_ble_eq_true rfl) dw_974 rfl ?_
  refine rl_aload_n (q := 978) A dw_977 rfl rfl ?_
  refine rl_arg (q := 983) (k := 1) A hj (by decide) dw_978 dw_979 dw_980 rfl dw_981 dw_982 rfl ?_
  refine rl_arg (q := 988) (k := 2) A hj (by decide) dw_983 dw_984 dw_985 rfl dw_986 dw_987 rfl ?_
  refine rl_arg (q := 993) (k := 3) A hj (by decide) dw_988 dw_989 dw_990 rfl dw_991 dw_992 rfl ?_
  refine rl_arg (q := 998) (k := 4) A hj (by decide) dw_993 dw_994 dw_995 rfl dw_996 dw_997 rfl ?_
  refine rl_callR (q := 1001) (M' := mm_X12_piece) (As := [.int (xs (8 * j + 1)), .int (xs (8 * j + 2)), .int (xs (8 * j + 3)), .int (xs (8 * j + 4))]) (v0 := .int o) (hr' := r1) A (cc_X12_piece e2) rfl rfl vy_X12_piece (by decide +kernel) ⟨Nat.le_of_ble_eq_true rfl, Nat.le_of_ble_eq_true rfl⟩ (Nat.le_of_ble_eq_true rfl) dw_998 rfl ?_
  refine rl_icmp_eq (tgt := 1545) A dw_1001 (by decide) ?_
  exact IH _ _ R1
set_option maxHeartbeats 2000000 in
theorem lc_20 (A : ll_A p s m meth c b L xs x) (hj : 8 * j + 8 ≤ L) (HR : RR hc hr) (IH : ∀ hc' hr', RR hc' hr' → ll_V p e s m below meth c b x 1545 (ll_lo b x (nI (8 * j))) [] hc' hr') : ll_V p e s m below meth c b x 1006 (ll_lo b x (nI (8 * j))) [] hc hr := by
  obtain ⟨o, e1, e2⟩ := e_pieceOf HR (xs (8 * j + 1)) (xs (8 * j + 2))
  refine rl_aload_n (q := 1007) A dw_1006 rfl rfl ?_
  refine rl_arg (q := 1012) (k := 1) A hj (by decide) dw_1007 dw_1008 dw_1009 rfl dw_1010 dw_1011 rfl ?_
  refine rl_arg (q := 1017) (k := 2) A hj (by decide) dw_1012 dw_1013 dw_1014 rfl dw_1015 dw_1016 rfl ?_
  refine rl_callC (q := 1020) (M' := mm_X11_pieceOf) (As := [.int (xs (8 * j + 1)), .int (xs (8 * j + 2))]) (v0 := .int o) (hc' := hc) A (cc_X11_pieceOf e1) rfl rfl vy_X11_pieceOf (by decide +kernel) ⟨Nat.le_of_ble_eq_true rfl, Nat.le_of_ble_eq_true rfl⟩ (Nat.le_of_ble_eq_true rfl) dw_1017 rfl ?_
  refine rl_aload_n (q := 1021) A dw_1020 rfl rfl ?_
  refine rl_arg (q := 1026) (k := 1) A hj (by decide) dw_1021 dw_1022 dw_1023 rfl dw_1024 dw_1025 rfl ?_
  refine rl_arg (q := 1031) (k := 2) A hj (by decide) dw_1026 dw_1027 dw_1028 rfl dw_1029 dw_1030 rfl ?_
  refine rl_callR (q := 1034) (M' := mm_X12_pieceOf) (As := [.int (xs (8 * j + 1)), .int (xs (8 * j + 2))]) (v0 := .int o) (hr' := hr) A (cc_X12_pieceOf e2) rfl rfl vy_X12_pieceOf (by decide +kernel) ⟨Nat.le_of_ble_eq_true rfl, Nat.le_of_ble_eq_true rfl⟩ (Nat.le_of_ble_eq_true rfl) dw_1031 rfl ?_
  refine rl_icmp_eq (tgt := 1545) A dw_1034 (by decide) ?_
  exact IH _ _ HR
set_option maxHeartbeats 2000000 in
theorem lc_21 (A : ll_A p s m meth c b L xs x) (hj : 8 * j + 8 ≤ L) (HR : RR hc hr) (IH : ∀ hc' hr', RR hc' hr' → ll_V p e s m below meth c b x 1545 (ll_lo b x (nI (8 * j))) [] hc' hr') : ll_V p e s m below meth c b x 1039 (ll_lo b x (nI (8 * j))) [] hc hr := by
  obtain ⟨o, c1, r1, e1, e2, R1⟩ := e_issue HR (xs (8 * j + 1)) (xs (8 * j + 2))
  refine rl_aload_n (q := 1040) A dw_1039 rfl rfl ?_
  refine rl_arg (q := 1045) (k := 1) A hj (by decide) dw_1040 dw_1041 dw_1042 rfl dw_1043 dw_1044 rfl ?_
  refine rl_arg (q := 1050) (k := 2) A hj (by decide) dw_1045 dw_1046 dw_1047 rfl dw_1048 dw_1049 rfl ?_
  refine rl_callC (q := 1053) (M' := mm_X11_issue) (As := [.int (xs (8 * j + 1)), .int (xs (8 * j + 2))]) (v0 := .int o) (hc' := c1) A (cc_X11_issue e1) rfl rfl vy_X11_issue (by decide +kernel) ⟨Nat.le_of_ble_eq_true rfl, Nat.le_of_ble_eq_true rfl⟩ (Nat.le_of_ble_eq_true rfl) dw_1050 rfl ?_
  refine rl_aload_n (q := 1054) A dw_1053 rfl rfl ?_
  refine rl_arg (q := 1059) (k := 1) A hj (by decide) dw_1054 dw_1055 dw_1056 rfl dw_1057 dw_1058 rfl ?_
  refine rl_arg (q := 1064) (k := 2) A hj (by decide) dw_1059 dw_1060 dw_1061 rfl dw_1062 dw_1063 rfl ?_
  refine rl_callR (q := 1067) (M' := mm_X12_issue) (As := [.int (xs (8 * j + 1)), .int (xs (8 * j + 2))]) (v0 := .int o) (hr' := r1) A (cc_X12_issue e2) rfl rfl vy_X12_issue (by decide +kernel) ⟨Nat.le_of_ble_eq_true rfl, Nat.le_of_ble_eq_true rfl⟩ (Nat.le_of_ble_eq_true rfl) dw_1064 rfl ?_
  refine rl_icmp_eq (tgt := 1545) A dw_1067 (by decide) ?_
  exact IH _ _ R1
set_option maxHeartbeats 2000000 in
theorem lc_22 (A : ll_A p s m meth c b L xs x) (hj : 8 * j + 8 ≤ L) (HR : RR hc hr) (IH : ∀ hc' hr', RR hc' hr' → ll_V p e s m below meth c b x 1545 (ll_lo b x (nI (8 * j))) [] hc' hr') : ll_V p e s m below meth c b x 1072 (ll_lo b x (nI (8 * j))) [] hc hr := by
  obtain ⟨o, c1, r1, e1, e2, R1⟩ := e_back HR (xs (8 * j + 1)) (xs (8 * j + 2))
  refine rl_aload_n (q := 1073) A dw_1072 rfl rfl ?_
  refine rl_arg (q := 1078) (k := 1) A hj (by decide) dw_1073 dw_1074 dw_1075 rfl dw_1076 dw_1077 rfl ?_
  refine rl_arg (q := 1083) (k := 2) A hj (by decide) dw_1078 dw_1079 dw_1080 rfl dw_1081 dw_1082 rfl ?_
  refine rl_callC (q := 1086) (M' := mm_X11_back) (As := [.int (xs (8 * j + 1)), .int (xs (8 * j + 2))]) (v0 := .int o) (hc' := c1) A (cc_X11_back e1) rfl rfl vy_X11_back (by decide +kernel) ⟨Nat.le_of_ble_eq_true rfl, Nat.le_of_ble_eq_true rfl⟩ (Nat.le_of_ble_eq_true rfl) dw_1083 rfl ?_
  refine rl_aload_n (q := 1087) A dw_1086 rfl rfl ?_
  refine rl_arg (q := 1092) (k := 1) A hj (by decide) dw_1087 dw_1088 dw_1089 rfl dw_1090 dw_1091 rfl ?_
  refine rl_arg (q := 1097) (k := 2) A hj (by decide) dw_1092 dw_1093 dw_1094 rfl dw_1095 dw_1096 rfl ?_
  refine rl_callR (q := 1100) (M' := mm_X12_back) (As := [.int (xs (8 * j + 1)), .int (xs (8 * j + 2))]) (v0 := .int o) (hr' := r1) A (cc_X12_back e2) rfl rfl vy_X12_back (by decide +kernel) ⟨Nat.le_of_ble_eq_true rfl, Nat.le_of_ble_eq_true rfl⟩ (Nat.le_of_ble_eq_true rfl) dw_1097 rfl ?_
  refine rl_icmp_eq (tgt := 1545) A dw_1100 (by decide) ?_
  exact IH _ _ R1
set_option maxHeartbeats 2000000 in
theorem lc_23 (A : ll_A p s m meth c b L xs x) (hj : 8 * j + 8 ≤ L) (HR : RR hc hr) (IH : ∀ hc' hr', RR hc' hr' → ll_V p e s m below meth c b x 1545 (ll_lo b x (nI (8 * j))) [] hc' hr') : ll_V p e s m below meth c b x 1105 (ll_lo b x (nI (8 * j))) [] hc hr := by
  obtain ⟨o, c1, r1, e1, e2, R1⟩ := e_lost HR (xs (8 * j + 1))
  refine rl_aload_n (q := 1106) A dw_1105 rfl rfl ?_
  refine rl_arg (q := 1111) (k := 1) A hj (by decide) dw_1106 dw_1107 dw_1108 rfl dw_1109 dw_1110 rfl ?_
  refine rl_callC (q := 1114) (M' := mm_X11_lost) (As := [.int (xs (8 * j + 1))]) (v0 := .int o) (hc' := c1) A (cc_X11_lost e1) rfl rfl vy_X11_lost (by decide +kernel) ⟨Nat.le_of_ble_eq_true rfl, Nat.le_of_ble_eq_true rfl⟩ (Nat.le_of_ble_eq_true rfl) dw_1111 rfl ?_
  refine rl_aload_n (q := 1115) A dw_1114 rfl rfl ?_
  refine rl_arg (q := 1120) (k := 1) A hj (by decide) dw_1115 dw_1116 dw_1117 rfl dw_1118 dw_1119 rfl ?_
  refine rl_callR (q := 1123) (M' := mm_X12_lost) (As := [.int (xs (8 * j + 1))]) (v0 := .int o) (hr' := r1) A (cc_X12_lost e2) rfl rfl vy_X12_lost (by decide +kernel) ⟨Nat.le_of_ble_eq_true rfl, Nat.le_of_ble_eq_true rfl⟩ (Nat.le_of_ble_eq_true rfl) dw_1120 rfl ?_
  refine rl_icmp_eq (tgt := 1545) A dw_1123 (by decide) ?_
  exact IH _ _ R1
set_option maxHeartbeats 2000000 in
theorem lc_24 (A : ll_A p s m meth c b L xs x) (hj : 8 * j + 8 ≤ L) (HR : RR hc hr) (IH : ∀ hc' hr', RR hc' hr' → ll_V p e s m below meth c b x 1545 (ll_lo b x (nI (8 * j))) [] hc' hr') : ll_V p e s m below meth c b x 1128 (ll_lo b x (nI (8 * j))) [] hc hr := by
  obtain ⟨o, c1, r1, e1, e2, R1⟩ := e_move HR (xs (8 * j + 1)) (xs (8 * j + 2))
  refine rl_aload_n (q := 1129) A dw_1128 rfl rfl ?_
  refine rl_arg (q := 1134) (k := 1) A hj (by decide) dw_1129 dw_1130 dw_1131 rfl dw_1132 dw_1133 rfl ?_
  refine rl_arg (q := 1139) (k := 2) A hj (by decide) dw_1134 dw_1135 dw_1136 rfl dw_1137 dw_1138 rfl ?_
  refine rl_callC (q := 1142) (M' := mm_X11_move) (As := [.int (xs (8 * j + 1)), .int (xs (8 * j + 2))]) (v0 := .int o) (hc' := c1) A (cc_X11_move e1) rfl rfl vy_X11_move (by decide +kernel) ⟨Nat.le_of_ble_eq_true rfl, Nat.le_of_ble_eq_true rfl⟩ (Nat.le_of_ble_eq_true rfl) dw_1139 rfl ?_
  refine rl_aload_n (q := 1143) A dw_1142 rfl rfl ?_
  refine rl_arg (q := 1148) (k := 1) A hj (by decide) dw_1143 dw_1144 dw_1145 rfl dw_1146 dw_1147 rfl ?_
  refine rl_arg (q := 1153) (k := 2) A hj (by decide) dw_1148 dw_1149 dw_1150 rfl dw_1151 dw_1152 rfl ?_
  refine rl_callR (q := 1156) (M' := mm_X12_move) (As := [.int (xs (8 * j + 1)), .int (xs (8 * j + 2))]) (v0 := .int o) (hr' := r1) A (cc_X12_move e2) rfl rfl vy_X12_move (by decide +kernel) ⟨Nat.le_of_ble_eq_true rfl, Nat.le_of_ble_eq_true rfl⟩ (Nat.le_of_ble_eq_true rfl) dw_1153 rfl ?_
  refine rl_icmp_eq (tgt := 1545) A dw_1156 (by decide) ?_
  exact IH _ _ R1
set_option maxHeartbeats 2000000 in
theorem lc_25 (A : ll_A p s m meth c b L xs x) (hj : 8 * j + 8 ≤ L) (HR : RR hc hr) (IH : ∀ hc' hr', RR hc' hr' → ll_V p e s m below meth c b x 1545 (ll_lo b x (nI (8 * j))) [] hc' hr') : ll_V p e s m below meth c b x 1161 (ll_lo b x (nI (8 * j))) [] hc hr := by
  obtain ⟨o, c1, r1, e1, e2, R1⟩ := e_fail HR (xs (8 * j + 1))
  refine rl_aload_n (q := 1162) A dw_1161 rfl rfl ?_
  refine rl_arg (q := 1167) (k := 1) A hj (by decide) dw_1162 dw_1163 dw_1164 rfl dw_1165 dw_1166 rfl ?_
  refine rl_callC (q := 1170) (M' := mm_X11_fail) (As := [.int (xs (8 * j + 1))]) (v0 := .int o) (hc' := c1) A (cc_X11_fail e1) rfl rfl vy_X11_fail (by decide +kernel) ⟨Nat.le_of_ble_eq_true rfl, Nat.le_of_ble_eq_true rfl⟩ (Nat.le_of_ble_eq_true rfl) dw_1167 rfl ?_
  refine rl_aload_n (q := 1171) A dw_1170 rfl rfl ?_
  refine rl_arg (q := 1176) (k := 1) A hj (by decide) dw_1171 dw_1172 dw_1173 rfl dw_1174 dw_1175 rfl ?_
  refine rl_callR (q := 1179) (M' := mm_X12_fail) (As := [.int (xs (8 * j + 1))]) (v0 := .int o) (hr' := r1) A (cc_X12_fail e2) rfl rfl vy_X12_fail (by decide +kernel) ⟨Nat.le_of_ble_eq_true rfl, Nat.le_of_ble_eq_true rfl⟩ (Nat.le_of_ble_eq_true rfl) dw_1176 rfl ?_
  refine rl_icmp_eq (tgt := 1545) A dw_1179 (by decide) ?_
  exact IH _ _ R1
set_option maxHeartbeats 2000000 in
theorem lc_26 (A : ll_A p s m meth c b L xs x) (hj : 8 * j + 8 ≤ L) (HR : RR hc hr) (IH : ∀ hc' hr', RR hc' hr' → ll_V p e s m below meth c b x 1545 (ll_lo b x (nI (8 * j))) [] hc' hr') : ll_V p e s m below meth c b x 1184 (ll_lo b x (nI (8 * j))) [] hc hr := by
  obtain ⟨o, e1, e2⟩ := e_stock HR (xs (8 * j + 1)) (xs (8 * j + 2))
  refine rl_aload_n (q := 1185) A dw_1184 rfl rfl ?_
  refine rl_arg (q := 1190) (k := 1) A hj (by decide) dw_1185 dw_1186 dw_1187 rfl dw_1188 dw_1189 rfl ?_
  refine rl_arg (q := 1195) (k := 2) A hj (by decide) dw_1190 dw_1191 dw_1192 rfl dw_1193 dw_1194 rfl ?_
  refine rl_callC (q := 1198) (M' := mm_X11_stock) (As := [.int (xs (8 * j + 1)), .int (xs (8 * j + 2))]) (v0 := .int o) (hc' := hc) A (cc_X11_stock e1) rfl rfl vy_X11_stock (by decide +kernel) ⟨Nat.le_of_ble_eq_true rfl, Nat.le_of_ble_eq_true rfl⟩ (Nat.le_of_ble_eq_true rfl) dw_1195 rfl ?_
  refine rl_aload_n (q := 1199) A dw_1198 rfl rfl ?_
  refine rl_arg (q := 1204) (k := 1) A hj (by decide) dw_1199 dw_1200 dw_1201 rfl dw_1202 dw_1203 rfl ?_
  refine rl_arg (q := 1209) (k := 2) A hj (by decide) dw_1204 dw_1205 dw_1206 rfl dw_1207 dw_1208 rfl ?_
  refine rl_callR (q := 1212) (M' := mm_X12_stock) (As := [.int (xs (8 * j + 1)), .int (xs (8 * j + 2))]) (v0 := .int o) (hr' := hr) A (cc_X12_stock e2) rfl rfl vy_X12_stock (by decide +kernel) ⟨Nat.le_of_ble_eq_true rfl, Nat.le_of_ble_eq_true rfl⟩ (Nat.le_of_ble_eq_true rfl) dw_1209 rfl ?_
  refine rl_icmp_eq (tgt := 1545) A dw_1212 (by decide) ?_
  exact IH _ _ HR
set_option maxHeartbeats 2000000 in
theorem lc_27 (A : ll_A p s m meth c b L xs x) (hj : 8 * j + 8 ≤ L) (HR : RR hc hr) (IH : ∀ hc' hr', RR hc' hr' → ll_V p e s m below meth c b x 1545 (ll_lo b x (nI (8 * j))) [] hc' hr') : ll_V p e s m below meth c b x 1217 (ll_lo b x (nI (8 * j))) [] hc hr := by
  obtain ⟨o, c1, r1, e1, e2, R1⟩ := e_parade HR (xs (8 * j + 1)) (xs (8 * j + 2)) (xs (8 * j + 3))
  refine rl_aload_n (q := 1218) A dw_1217 rfl rfl ?_
  refine rl_arg (q := 1223) (k := 1) A hj (by decide) dw_1218 dw_1219 dw_1220 rfl dw_1221 dw_1222 rfl ?_
  refine rl_arg (q := 1228) (k := 2) A hj (by decide) dw_1223 dw_1224 dw_1225 rfl dw_1226 dw_1227 rfl ?_
  refine rl_arg (q := 1233) (k := 3) A hj (by decide) dw_1228 dw_1229 dw_1230 rfl dw_1231 dw_1232 rfl ?_
  refine rl_callC (q := 1236) (M' := mm_X11_parade) (As := [.int (xs (8 * j + 1)), .int (xs (8 * j + 2)), .int (xs (8 * j + 3))]) (v0 := .int o) (hc' := c1) A (cc_X11_parade e1) rfl rfl vy_X11_parade (by decide +kernel) ⟨Nat.le_of_ble_eq_true rfl, Nat.le_of_ble_eq_true rfl⟩ (Nat.le_of_ble_eq_true rfl) dw_1233 rfl ?_
  refine rl_aload_n (q := 1237) A dw_1236 rfl rfl ?_
  refine rl_arg (q := 1242) (k := 1) A hj (by decide) dw_1237 dw_1238 dw_1239 rfl dw_1240 dw_1241 rfl ?_
  refine rl_arg (q := 1247) (k := 2) A hj (by decide) dw_1242 dw_1243 dw_1244 rfl dw_1245 dw_1246 rfl ?_
  refine rl_arg (q := 1252) (k := 3) A hj (by decide) dw_1247 dw_1248 dw_1249 rfl dw_1250 dw_1251 rfl ?_
  refine rl_callR (q := 1255) (M' := mm_X12_parade) (As := [.int (xs (8 * j + 1)), .int (xs (8 * j + 2)), .int (xs (8 * j + 3))]) (v0 := .int o) (hr' := r1) A (cc_X12_parade e2) rfl rfl vy_X12_parade (by decide +kernel) ⟨Nat.le_of_ble_eq_true rfl, Nat.le_of_ble_eq_true rfl⟩ (Nat.le_of_ble_eq_true rfl) dw_1252 rfl ?_
  refine rl_icmp_eq (tgt := 1545) A dw_1255 (by decide) ?_
  exact IH _ _ R1
set_option maxHeartbeats 2000000 in
theorem lc_28 (A : ll_A p s m meth c b L xs x) (hj : 8 * j + 8 ≤ L) (HR : RR hc hr) (IH : ∀ hc' hr', RR hc' hr' → ll_V p e s m below meth c b x 1545 (ll_lo b x (nI (8 * j))) [] hc' hr') : ll_V p e s m below meth c b x 1260 (ll_lo b x (nI (8 * j))) [] hc hr := by
  obtain ⟨o, c1, r1, e1, e2, R1⟩ := e_order HR (xs (8 * j + 1)) (xs (8 * j + 2))
  refine rl_aload_n (q := 1261) A dw_1260 rfl rfl ?_
  refine rl_arg (q := 1266) (k := 1) A hj (by decide) dw_1261 dw_1262 dw_1263 rfl dw_1264 dw_1265 rfl ?_
  refine rl_arg (q := 1271) (k := 2) A hj (by decide) dw_1266 dw_1267 dw_1268 rfl dw_1269 dw_1270 rfl ?_
  refine rl_callC (q := 1274) (M' := mm_X11_order) (As := [.int (xs (8 * j + 1)), .int (xs (8 * j + 2))]) (v0 := .int o) (hc' := c1) A (cc_X11_order e1) rfl rfl vy_X11_order (by decide +kernel) ⟨Nat.le_of_ble_eq_true rfl, Nat.le_of_ble_eq_true rfl⟩ (Nat.le_of_ble_eq_true rfl) dw_1271 rfl ?_
  refine rl_aload_n (q := 1275) A dw_1274 rfl rfl ?_
  refine rl_arg (q := 1280) (k := 1) A hj (by decide) dw_1275 dw_1276 dw_1277 rfl dw_1278 dw_1279 rfl ?_
  refine rl_arg (q := 1285) (k := 2) A hj (by decide) dw_1280 dw_1281 dw_1282 rfl dw_1283 dw_1284 rfl ?_
  refine rl_callR (q := 1288) (M' := mm_X12_order) (As := [.int (xs (8 * j + 1)), .int (xs (8 * j + 2))]) (v0 := .int o) (hr' := r1) A (cc_X12_order e2) rfl rfl vy_X12_order (by decide +kernel) ⟨Nat.le_of_ble_eq_true rfl, Nat.le_of_ble_eq_true rfl⟩ (Nat.le_of_ble_eq_true rfl) dw_1285 rfl ?_
  refine rl_icmp_eq (tgt := 1545) A dw_1288 (by decide) ?_
  exact IH _ _ R1
set_option maxHeartbeats 2000000 in
theorem lc_29 (A : ll_A p s m meth c b L xs x) (hj : 8 * j + 8 ≤ L) (HR : RR hc hr) (IH : ∀ hc' hr', RR hc' hr' → ll_V p e s m below meth c b x 1545 (ll_lo b x (nI (8 * j))) [] hc' hr') : ll_V p e s m below meth c b x 1293 (ll_lo b x (nI (8 * j))) [] hc hr := by
  obtain ⟨o, c1, r1, e1, e2, R1⟩ := e_ordered HR (xs (8 * j + 1)) (xs (8 * j + 2)) (xs (8 * j + 3)) (xs (8 * j + 4))
  refine rl_aload_n (q := 1294) A dw_1293 rfl rfl ?_
  refine rl_arg (q := 1299) (k := 1) A hj (by decide) dw_1294 dw_1295 dw_1296 rfl dw_1297 dw_1298 rfl ?_
  refine rl_arg (q := 1304) (k := 2) A hj (by decide) dw_1299 dw_1300 dw_1301 rfl dw_1302 dw_1303 rfl ?_
  refine rl_arg (q := 1309) (k := 3) A hj (by decide) dw_1304 dw_1305 dw_1306 rfl dw_1307 dw_1308 rfl ?_
  refine rl_arg (q := 1314) (k := 4) A hj (by decide) dw_1309 dw_1310 dw_1311 rfl dw_1312 dw_1313 rfl ?_
  refine rl_callC (q := 1317) (M' := mm_X11_ordered) (As := [.int (xs (8 * j + 1)), .int (xs (8 * j + 2)), .int (xs (8 * j + 3)), .int (xs (8 * j + 4))]) (v0 := .int o) (hc' := c1) A (cc_X11_ordered e1) rfl rfl vy_X11_ordered (by decide +kernel) ⟨Nat.le_of_ble_eq_true rfl, Nat.le_of_ble_eq_true rfl⟩ (Nat.le_of_ble_eq_true rfl) dw_1314 rfl ?_
  refine rl_aload_n (q := 1318) A dw_1317 rfl rfl ?_
  refine rl_arg (q := 1323) (k := 1) A hj (by decide) dw_1318 dw_1319 dw_1320 rfl dw_1321 dw_1322 rfl ?_
  refine rl_arg (q := 1328) (k := 2) A hj (by decide) dw_1323 dw_1324 dw_1325 rfl dw_1326 dw_1327 rfl ?_
  refine rl_arg (q := 1333) (k := 3) A hj (by decide) dw_1328 dw_1329 dw_1330 rfl dw_1331 dw_1332 rfl ?_
  refine rl_arg (q := 1338) (k := 4) A hj (by decide) dw_1333 dw_1334 dw_1335 rfl dw_1336 dw_1337 rfl ?_
  refine rl_callR (q := 1341) (M' := mm_X12_ordered) (As := [.int (xs (8 * j + 1)), .int (xs (8 * j + 2)), .int (xs (8 * j + 3)), .int (xs (8 * j + 4))]) (v0 := .int o) (hr' := r1) A (cc_X12_ordered e2) rfl rfl vy_X12_ordered (by decide +kernel) ⟨Nat.le_of_ble_eq_true rfl, Nat.le_of_ble_eq_true rfl⟩ (Nat.le_of_ble_eq_true rfl) dw_1338 rfl ?_
  refine rl_icmp_eq (tgt := 1545) A dw_1341 (by decide) ?_
  exact IH _ _ R1
set_option maxHeartbeats 2000000 in
theorem lc_30 (A : ll_A p s m meth c b L xs x) (hj : 8 * j + 8 ≤ L) (HR : RR hc hr) (IH : ∀ hc' hr', RR hc' hr' → ll_V p e s m below meth c b x 1545 (ll_lo b x (nI (8 * j))) [] hc' hr') : ll_V p e s m below meth c b x 1346 (ll_lo b x (nI (8 * j))) [] hc hr := by
  obtain ⟨o, r1, e1, e2, R1⟩ := e_lot HR (xs (8 * j + 1)) (xs (8 * j + 2))
  refine rl_aload_n (q := 1347) A dw_1346 rfl rfl ?_
  refine rl_arg (q := 1352) (k := 1) A hj (by decide) dw_1347 dw_1348 dw_1349 rfl dw_1350 dw_1351 rfl ?_
  refine rl_arg (q := 1357) (k := 2) A hj (by decide) dw_1352 dw_1353 dw_1354 rfl dw_1355 dw_1356 rfl ?_
  refine rl_callC (q := 1360) (M' := mm_X11_lot) (As := [.int (xs (8 * j + 1)), .int (xs (8 * j + 2))]) (v0 := .long o) (hc' := hc) A (cc_X11_lot e1) rfl rfl vy_X11_lot (by decide +kernel) ⟨Nat.le_of_ble_eq_true rfl, Nat.le_of_ble_eq_true rfl⟩ (Nat.le_of_ble_eq_true rfl) dw_1357 rfl ?_
  refine rl_aload_n (q := 1361) A dw_1360 rfl rfl ?_
  refine rl_arg (q := 1366) (k := 1) A hj (by decide) dw_1361 dw_1362 dw_1363 rfl dw_1364 dw_1365 rfl ?_
  refine rl_arg (q := 1371) (k := 2) A hj (by decide) dw_1366 dw_1367 dw_1368 rfl dw_1369 dw_1370 rfl ?_
  refine rl_callR (q := 1374) (M' := mm_X12_lot) (As := [.int (xs (8 * j + 1)), .int (xs (8 * j + 2))]) (v0 := .long o) (hr' := r1) A (cc_X12_lot e2) rfl rfl vy_X12_lot (by decide +kernel) ⟨Nat.le_of_ble_eq_true rfl, Nat.le_of_ble_eq_true rfl⟩ (Nat.le_of_ble_eq_true rfl) dw_1371 rfl ?_
  refine rl_lcmp_eq (tgt := 1545) A dw_1374 dw_1375 (by decide) ?_
  exact IH _ _ R1
set_option maxHeartbeats 2000000 in
theorem lc_31 (A : ll_A p s m meth c b L xs x) (hj : 8 * j + 8 ≤ L) (HR : RR hc hr) (IH : ∀ hc' hr', RR hc' hr' → ll_V p e s m below meth c b x 1545 (ll_lo b x (nI (8 * j))) [] hc' hr') : ll_V p e s m below meth c b x 1380 (ll_lo b x (nI (8 * j))) [] hc hr := by
  obtain ⟨o, r1, e1, e2, R1⟩ := e_worst HR 
  refine rl_aload_n (q := 1381) A dw_1380 rfl rfl ?_
  refine rl_callC (q := 1384) (M' := mm_X11_worst) (As := []) (v0 := .int o) (hc' := hc) A (cc_X11_worst e1) rfl rfl vy_X11_worst (by decide +kernel) ⟨Nat.le_of_ble_eq_true rfl, Nat.le_of_ble_eq_true rfl⟩ (Nat.le_of_ble_eq_true rfl) dw_1381 rfl ?_
  refine rl_aload_n (q := 1385) A dw_1384 rfl rfl ?_
  refine rl_callR (q := 1388) (M' := mm_X12_worst) (As := []) (v0 := .int o) (hr' := r1) A (cc_X12_worst e2) rfl rfl vy_X12_worst (by decide +kernel) ⟨Nat.le_of_ble_eq_true rfl, Nat.le_of_ble_eq_true rfl⟩ (Nat.le_of_ble_eq_true rfl) dw_1385 rfl ?_
  refine rl_icmp_eq (tgt := 1545) A dw_1388 (by decide) ?_
  exact IH _ _ R1
set_option maxHeartbeats 2000000 in
theorem lc_32 (A : ll_A p s m meth c b L xs x) (hj : 8 * j + 8 ≤ L) (HR : RR hc hr) (IH : ∀ hc' hr', RR hc' hr' → ll_V p e s m below meth c b x 1545 (ll_lo b x (nI (8 * j))) [] hc' hr') : ll_V p e s m below meth c b x 1393 (ll_lo b x (nI (8 * j))) [] hc hr := by
  obtain ⟨o, c1, r1, e1, e2, R1⟩ := e_sheet HR (xs (8 * j + 1)) (xs (8 * j + 2)) (xs (8 * j + 3))
  refine rl_aload_n (q := 1394) A dw_1393 rfl rfl ?_
  refine rl_arg (q := 1399) (k := 1) A hj (by decide) dw_1394 dw_1395 dw_1396 rfl dw_1397 dw_1398 rfl ?_
  refine rl_arg (q := 1404) (k := 2) A hj (by decide) dw_1399 dw_1400 dw_1401 rfl dw_1402 dw_1403 rfl ?_
  refine rl_arg (q := 1409) (k := 3) A hj (by decide) dw_1404 dw_1405 dw_1406 rfl dw_1407 dw_1408 rfl ?_
  refine rl_callC (q := 1412) (M' := mm_X11_sheet) (As := [.int (xs (8 * j + 1)), .int (xs (8 * j + 2)), .int (xs (8 * j + 3))]) (v0 := .int o) (hc' := c1) A (cc_X11_sheet e1) rfl rfl vy_X11_sheet (by decide +kernel) ⟨Nat.le_of_ble_eq_true rfl, Nat.le_of_ble_eq_true rfl⟩ (Nat.le_of_ble_eq_true rfl) dw_1409 rfl ?_
  refine rl_aload_n (q := 1413) A dw_1412 rfl rfl ?_
  refine rl_arg (q := 1418) (k := 1) A hj (by decide) dw_1413 dw_1414 dw_1415 rfl dw_1416 dw_1417 rfl ?_
  refine rl_arg (q := 1423) (k := 2) A hj (by decide) dw_1418 dw_1419 dw_1420 rfl dw_1421 dw_1422 rfl ?_
  refine rl_arg (q := 1428) (k := 3) A hj (by decide) dw_1423 dw_1424 dw_1425 rfl dw_1426 dw_1427 rfl ?_
  refine rl_callR (q := 1431) (M' := mm_X12_sheet) (As := [.int (xs (8 * j + 1)), .int (xs (8 * j + 2)), .int (xs (8 * j + 3))]) (v0 := .int o) (hr' := r1) A (cc_X12_sheet e2) rfl rfl vy_X12_sheet (by decide +kernel) ⟨Nat.le_of_ble_eq_true rfl, Nat.le_of_ble_eq_true rfl⟩ (Nat.le_of_ble_eq_true rfl) dw_1428 rfl ?_
  refine rl_icmp_eq (tgt := 1545) A dw_1431 (by decide) ?_
  exact IH _ _ R1
set_option maxHeartbeats 2000000 in
theorem lc_33 (A : ll_A p s m meth c b L xs x) (hj : 8 * j + 8 ≤ L) (HR : RR hc hr) (IH : ∀ hc' hr', RR hc' hr' → ll_V p e s m below meth c b x 1545 (ll_lo b x (nI (8 * j))) [] hc' hr') : ll_V p e s m below meth c b x 1436 (ll_lo b x (nI (8 * j))) [] hc hr := by
  obtain ⟨o, c1, r1, e1, e2, R1⟩ := e_lay HR (xs (8 * j + 1)) (xs (8 * j + 2)) (xs (8 * j + 3))
  refine rl_aload_n (q := 1437) A dw_1436 rfl rfl ?_
  refine rl_arg (q := 1442) (k := 1) A hj (by decide) dw_1437 dw_1438 dw_1439 rfl dw_1440 dw_1441 rfl ?_
  refine rl_arg (q := 1447) (k := 2) A hj (by decide) dw_1442 dw_1443 dw_1444 rfl dw_1445 dw_1446 rfl ?_
  refine rl_arg (q := 1452) (k := 3) A hj (by decide) dw_1447 dw_1448 dw_1449 rfl dw_1450 dw_1451 rfl ?_
  refine rl_callC (q := 1455) (M' := mm_X11_lay) (As := [.int (xs (8 * j + 1)), .int (xs (8 * j + 2)), .int (xs (8 * j + 3))]) (v0 := .int o) (hc' := c1) A (cc_X11_lay e1) rfl rfl vy_X11_lay (by decide +kernel) ⟨Nat.le_of_ble_eq_true rfl, Nat.le_of_ble_eq_true rfl⟩ (Nat.le_of_ble_eq_true rfl) dw_1452 rfl ?_
  refine rl_aload_n (q := 1456) A dw_1455 rfl rfl ?_
  refine rl_arg (q := 1461) (k := 1) A hj (by decide) dw_1456 dw_1457 dw_1458 rfl dw_1459 dw_1460 rfl ?_
  refine rl_arg (q := 1466) (k := 2) A hj (by decide) dw_1461 dw_1462 dw_1463 rfl dw_1464 dw_1465 rfl ?_
  refine rl_arg (q := 1471) (k := 3) A hj (by decide) dw_1466 dw_1467 dw_1468 rfl dw_1469 dw_1470 rfl ?_
  refine rl_callR (q := 1474) (M' := mm_X12_lay) (As := [.int (xs (8 * j + 1)), .int (xs (8 * j + 2)), .int (xs (8 * j + 3))]) (v0 := .int o) (hr' := r1) A (cc_X12_lay e2) rfl rfl vy_X12_lay (by decide +kernel) ⟨Nat.le_of_ble_eq_true rfl, Nat.le_of_ble_eq_true rfl⟩ (Nat.le_of_ble_eq_true rfl) dw_1471 rfl ?_
  refine rl_icmp_eq (tgt := 1545) A dw_1474 (by decide) ?_
  exact IH _ _ R1
set_option maxHeartbeats 2000000 in
theorem lc_34 (A : ll_A p s m meth c b L xs x) (hj : 8 * j + 8 ≤ L) (HR : RR hc hr) (IH : ∀ hc' hr', RR hc' hr' → ll_V p e s m below meth c b x 1545 (ll_lo b x (nI (8 * j))) [] hc' hr') : ll_V p e s m below meth c b x 1479 (ll_lo b x (nI (8 * j))) [] hc hr := by
  obtain ⟨o, c1, r1, e1, e2, R1⟩ := e_scan HR (xs (8 * j + 1)) (xs (8 * j + 2)) (xs (8 * j + 3))
  refine rl_aload_n (q := 1480) A dw_1479 rfl rfl ?_
  refine rl_arg (q := 1485) (k := 1) A hj (by decide) dw_1480 dw_1481 dw_1482 rfl dw_1483 dw_1484 rfl ?_
  refine rl_arg (q := 1490) (k := 2) A hj (by decide) dw_1485 dw_1486 dw_1487 rfl dw_1488 dw_1489 rfl ?_
  refine rl_arg (q := 1495) (k := 3) A hj (by decide) dw_1490 dw_1491 dw_1492 rfl dw_1493 dw_1494 rfl ?_
  refine rl_callC (q := 1498) (M' := mm_X11_scan) (As := [.int (xs (8 * j + 1)), .int (xs (8 * j + 2)), .int (xs (8 * j + 3))]) (v0 := .int o) (hc' := c1) A (cc_X11_scan e1) rfl rfl vy_X11_scan (by decide +kernel) ⟨Nat.le_of_ble_eq_true rfl, Nat.le_of_ble_eq_true rfl⟩ (Nat.le_of_ble_eq_true rfl) dw_1495 rfl ?_
  refine rl_aload_n (q := 1499) A dw_1498 rfl rfl ?_
  refine rl_arg (q := 1504) (k := 1) A hj (by decide) dw_1499 dw_1500 dw_1501 rfl dw_1502 dw_1503 rfl ?_
  refine rl_arg (q := 1509) (k := 2) A hj (by decide) dw_1504 dw_1505 dw_1506 rfl dw_1507 dw_1508 rfl ?_
  refine rl_arg (q := 1514) (k := 3) A hj (by decide) dw_1509 dw_1510 dw_1511 rfl dw_1512 dw_1513 rfl ?_
  refine rl_callR (q := 1517) (M' := mm_X12_scan) (As := [.int (xs (8 * j + 1)), .int (xs (8 * j + 2)), .int (xs (8 * j + 3))]) (v0 := .int o) (hr' := r1) A (cc_X12_scan e2) rfl rfl vy_X12_scan (by decide +kernel) ⟨Nat.le_of_ble_eq_true rfl, Nat.le_of_ble_eq_true rfl⟩ (Nat.le_of_ble_eq_true rfl) dw_1514 rfl ?_
  refine rl_icmp_eq (tgt := 1545) A dw_1517 (by decide) ?_
  exact IH _ _ R1
set_option maxHeartbeats 2000000 in
theorem lc_35 (A : ll_A p s m meth c b L xs x) (hj : 8 * j + 8 ≤ L) (HR : RR hc hr) (IH : ∀ hc' hr', RR hc' hr' → ll_V p e s m below meth c b x 1545 (ll_lo b x (nI (8 * j))) [] hc' hr') : ll_V p e s m below meth c b x 1522 (ll_lo b x (nI (8 * j))) [] hc hr := by
  obtain ⟨o, e1, e2⟩ := e_count HR (xs (8 * j + 1))
  refine rl_aload_n (q := 1523) A dw_1522 rfl rfl ?_
  refine rl_arg (q := 1528) (k := 1) A hj (by decide) dw_1523 dw_1524 dw_1525 rfl dw_1526 dw_1527 rfl ?_
  refine rl_callC (q := 1531) (M' := mm_X11_count) (As := [.int (xs (8 * j + 1))]) (v0 := .int o) (hc' := hc) A (cc_X11_count e1) rfl rfl vy_X11_count (by decide +kernel) ⟨Nat.le_of_ble_eq_true rfl, Nat.le_of_ble_eq_true rfl⟩ (Nat.le_of_ble_eq_true rfl) dw_1528 rfl ?_
  refine rl_aload_n (q := 1532) A dw_1531 rfl rfl ?_
  refine rl_arg (q := 1537) (k := 1) A hj (by decide) dw_1532 dw_1533 dw_1534 rfl dw_1535 dw_1536 rfl ?_
  refine rl_callR (q := 1540) (M' := mm_X12_count) (As := [.int (xs (8 * j + 1))]) (v0 := .int o) (hr' := hr) A (cc_X12_count e2) rfl rfl vy_X12_count (by decide +kernel) ⟨Nat.le_of_ble_eq_true rfl, Nat.le_of_ble_eq_true rfl⟩ (Nat.le_of_ble_eq_true rfl) dw_1537 rfl ?_
  refine rl_icmp_eq (tgt := 1545) A dw_1540 (by decide) ?_
  exact IH _ _ HR
end CASES
