/-! THE LAW'S CASES -/
set_option maxRecDepth 100000
set_option maxHeartbeats 4000000 in
theorem lc_0 {K : pw_K} {G : pw_G} {b o L : Nat} {xs : Nat → Int32} {i : Int32} {Q : Unit → State → Prop} {μ : pw_Mem} (F : LF K G b L xs i) (hs : Sim μ) (h0 : ∀ μ2, Sim μ2 → PW K G RL cL_law 8 (some .boolean) 1300 Q (some ()) 1676 (lw_l G b o i) [] μ2) : PW K G RL cL_law 8 (some .boolean) 1300 Q (some ()) 232 (lw_l G b o i) [] μ := by
  obtain ⟨r, m1, m2, e1, e2, hs2⟩ := op_townC hs (xs (i + 1).toNatClampNeg)
  exact (pw_aload_n (pc := 232) dL_law_232 2 rfl <|
pw_aload_n (pc := 233) dL_law_233 1 rfl <|
pw_iload (pc := 234) dL_law_234 0 rfl <|
pw_iconst (v := 1) (pc := 236) dL_law_236 (by decide) <|
pw_iadd (pc := 237) dL_law_237 <|
pw_sld (i := i + 1) F F.2.2.2.2.1 (pc := 238) dL_law_238 <|
pw_goV (rest := []) (n := 1) (Py := pw_Wi) (tX10_town K.2.1 G (xs (i + 1).toNatClampNeg) μ) e1 (pw_sh_0) cfX10 rfl miX10_town mlL_21 (pc := 239) dL_law_239 rfl rfl (by decide) (Nat.le_of_ble_eq_true rfl) <|
pw_aload_n (pc := 242) dL_law_242 3 rfl <|
pw_aload_n (pc := 243) dL_law_243 1 rfl <|
pw_iload (pc := 244) dL_law_244 0 rfl <|
pw_iconst (v := 1) (pc := 246) dL_law_246 (by decide) <|
pw_iadd (pc := 247) dL_law_247 <|
pw_sld (i := i + 1) F F.2.2.2.2.1 (pc := 248) dL_law_248 <|
pw_goV (rest := [.int r]) (n := 1) (Py := pw_Wi) (tX11_town K.2.1 G (xs (i + 1).toNatClampNeg) m1) e2 (pw_sh_71) cfX11 rfl miX11_town mlL_25 (pc := 249) dL_law_249 rfl rfl (by decide) (Nat.le_of_ble_eq_true rfl) <|
lw_eq (tgt := 1676) (pc := 252) dL_law_252 (by decide) <| h0 _ hs2)
set_option maxHeartbeats 4000000 in
theorem lc_1 {K : pw_K} {G : pw_G} {b o L : Nat} {xs : Nat → Int32} {i : Int32} {Q : Unit → State → Prop} {μ : pw_Mem} (F : LF K G b L xs i) (hs : Sim μ) (h0 : ∀ μ2, Sim μ2 → PW K G RL cL_law 8 (some .boolean) 1300 Q (some ()) 1676 (lw_l G b o i) [] μ2) : PW K G RL cL_law 8 (some .boolean) 1300 Q (some ()) 257 (lw_l G b o i) [] μ := by
  obtain ⟨r, e1, e2⟩ := op_person hs (xs (i + 1).toNatClampNeg) (xs (i + 2).toNatClampNeg)
  have hs2 := hs
  exact (pw_aload_n (pc := 257) dL_law_257 2 rfl <|
pw_aload_n (pc := 258) dL_law_258 1 rfl <|
pw_iload (pc := 259) dL_law_259 0 rfl <|
pw_iconst (v := 1) (pc := 261) dL_law_261 (by decide) <|
pw_iadd (pc := 262) dL_law_262 <|
pw_sld (i := i + 1) F F.2.2.2.2.1 (pc := 263) dL_law_263 <|
pw_aload_n (pc := 264) dL_law_264 1 rfl <|
pw_iload (pc := 265) dL_law_265 0 rfl <|
pw_iconst (v := 2) (pc := 267) dL_law_267 (by decide) <|
pw_iadd (pc := 268) dL_law_268 <|
pw_sld (i := i + 2) F F.2.2.2.2.2.1 (pc := 269) dL_law_269 <|
pw_goV (rest := []) (n := 2) (Py := (pw_Ri μ)) (tX10_person K.2.1 G (xs (i + 1).toNatClampNeg) (xs (i + 2).toNatClampNeg) μ) e1 (pw_sh_0) cfX10 rfl miX10_person mlL_26 (pc := 270) dL_law_270 rfl rfl (by decide) (Nat.le_of_ble_eq_true rfl) <|
pw_aload_n (pc := 273) dL_law_273 3 rfl <|
pw_aload_n (pc := 274) dL_law_274 1 rfl <|
pw_iload (pc := 275) dL_law_275 0 rfl <|
pw_iconst (v := 1) (pc := 277) dL_law_277 (by decide) <|
pw_iadd (pc := 278) dL_law_278 <|
pw_sld (i := i + 1) F F.2.2.2.2.1 (pc := 279) dL_law_279 <|
pw_aload_n (pc := 280) dL_law_280 1 rfl <|
pw_iload (pc := 281) dL_law_281 0 rfl <|
pw_iconst (v := 2) (pc := 283) dL_law_283 (by decide) <|
pw_iadd (pc := 284) dL_law_284 <|
pw_sld (i := i + 2) F F.2.2.2.2.2.1 (pc := 285) dL_law_285 <|
pw_goV (rest := [.int r]) (n := 2) (Py := (pw_Ri μ)) (tX11_person K.2.1 G (xs (i + 1).toNatClampNeg) (xs (i + 2).toNatClampNeg) μ) e2 (pw_sh_71) cfX11 rfl miX11_person mlL_30 (pc := 286) dL_law_286 rfl rfl (by decide) (Nat.le_of_ble_eq_true rfl) <|
lw_eq (tgt := 1676) (pc := 289) dL_law_289 (by decide) <| h0 _ hs2)
set_option maxHeartbeats 4000000 in
theorem lc_2 {K : pw_K} {G : pw_G} {b o L : Nat} {xs : Nat → Int32} {i : Int32} {Q : Unit → State → Prop} {μ : pw_Mem} (F : LF K G b L xs i) (hs : Sim μ) (h0 : ∀ μ2, Sim μ2 → PW K G RL cL_law 8 (some .boolean) 1300 Q (some ()) 1676 (lw_l G b o i) [] μ2) : PW K G RL cL_law 8 (some .boolean) 1300 Q (some ()) 294 (lw_l G b o i) [] μ := by
  obtain ⟨r, e1, e2⟩ := op_band hs (xs (i + 1).toNatClampNeg) (xs (i + 2).toNatClampNeg)
  have hs2 := hs
  exact (pw_aload_n (pc := 294) dL_law_294 2 rfl <|
pw_aload_n (pc := 295) dL_law_295 1 rfl <|
pw_iload (pc := 296) dL_law_296 0 rfl <|
pw_iconst (v := 1) (pc := 298) dL_law_298 (by decide) <|
pw_iadd (pc := 299) dL_law_299 <|
pw_sld (i := i + 1) F F.2.2.2.2.1 (pc := 300) dL_law_300 <|
pw_aload_n (pc := 301) dL_law_301 1 rfl <|
pw_iload (pc := 302) dL_law_302 0 rfl <|
pw_iconst (v := 2) (pc := 304) dL_law_304 (by decide) <|
pw_iadd (pc := 305) dL_law_305 <|
pw_sld (i := i + 2) F F.2.2.2.2.2.1 (pc := 306) dL_law_306 <|
pw_goV (rest := []) (n := 2) (Py := (pw_Ri μ)) (tX10_band K.2.1 G (xs (i + 1).toNatClampNeg) (xs (i + 2).toNatClampNeg) μ) e1 (pw_sh_0) cfX10 rfl miX10_band mlL_31 (pc := 307) dL_law_307 rfl rfl (by decide) (Nat.le_of_ble_eq_true rfl) <|
pw_aload_n (pc := 310) dL_law_310 3 rfl <|
pw_aload_n (pc := 311) dL_law_311 1 rfl <|
pw_iload (pc := 312) dL_law_312 0 rfl <|
pw_iconst (v := 1) (pc := 314) dL_law_314 (by decide) <|
pw_iadd (pc := 315) dL_law_315 <|
pw_sld (i := i + 1) F F.2.2.2.2.1 (pc := 316) dL_law_316 <|
pw_aload_n (pc := 317) dL_law_317 1 rfl <|
pw_iload (pc := 318) dL_law_318 0 rfl <|
pw_iconst (v := 2) (pc := 320) dL_law_320 (by decide) <|
pw_iadd (pc := 321) dL_law_321 <|
pw_sld (i := i + 2) F F.2.2.2.2.2.1 (pc := 322) dL_law_322 <|
pw_goV (rest := [.int r]) (n := 2) (Py := (pw_Ri μ)) (tX11_band K.2.1 G (xs (i + 1).toNatClampNeg) (xs (i + 2).toNatClampNeg) μ) e2 (pw_sh_71) cfX11 rfl miX11_band mlL_34 (pc := 323) dL_law_323 rfl rfl (by decide) (Nat.le_of_ble_eq_true rfl) <|
lw_eq (tgt := 1676) (pc := 326) dL_law_326 (by decide) <| h0 _ hs2)
set_option maxHeartbeats 4000000 in
theorem lc_3 {K : pw_K} {G : pw_G} {b o L : Nat} {xs : Nat → Int32} {i : Int32} {Q : Unit → State → Prop} {μ : pw_Mem} (F : LF K G b L xs i) (hs : Sim μ) (h0 : ∀ μ2, Sim μ2 → PW K G RL cL_law 8 (some .boolean) 1300 Q (some ()) 1676 (lw_l G b o i) [] μ2) : PW K G RL cL_law 8 (some .boolean) 1300 Q (some ()) 331 (lw_l G b o i) [] μ := by
  obtain ⟨r, m1, m2, e1, e2, hs2⟩ := op_comes hs (xs (i + 1).toNatClampNeg)
  exact (pw_aload_n (pc := 331) dL_law_331 2 rfl <|
pw_aload_n (pc := 332) dL_law_332 1 rfl <|
pw_iload (pc := 333) dL_law_333 0 rfl <|
pw_iconst (v := 1) (pc := 335) dL_law_335 (by decide) <|
pw_iadd (pc := 336) dL_law_336 <|
pw_sld (i := i + 1) F F.2.2.2.2.1 (pc := 337) dL_law_337 <|
pw_goV (rest := []) (n := 1) (Py := pw_Wi) (tX10_comes K.2.1 G (xs (i + 1).toNatClampNeg) μ) e1 (pw_sh_0) cfX10 rfl miX10_comes mlL_35 (pc := 338) dL_law_338 rfl rfl (by decide) (Nat.le_of_ble_eq_true rfl) <|
pw_aload_n (pc := 341) dL_law_341 3 rfl <|
pw_aload_n (pc := 342) dL_law_342 1 rfl <|
pw_iload (pc := 343) dL_law_343 0 rfl <|
pw_iconst (v := 1) (pc := 345) dL_law_345 (by decide) <|
pw_iadd (pc := 346) dL_law_346 <|
pw_sld (i := i + 1) F F.2.2.2.2.1 (pc := 347) dL_law_347 <|
pw_goV (rest := [.int r]) (n := 1) (Py := pw_Wi) (tX11_comes K.2.1 G (xs (i + 1).toNatClampNeg) m1) e2 (pw_sh_71) cfX11 rfl miX11_comes mlL_38 (pc := 348) dL_law_348 rfl rfl (by decide) (Nat.le_of_ble_eq_true rfl) <|
lw_eq (tgt := 1676) (pc := 351) dL_law_351 (by decide) <| h0 _ hs2)
set_option maxHeartbeats 4000000 in
theorem lc_4 {K : pw_K} {G : pw_G} {b o L : Nat} {xs : Nat → Int32} {i : Int32} {Q : Unit → State → Prop} {μ : pw_Mem} (F : LF K G b L xs i) (hs : Sim μ) (h0 : ∀ μ2, Sim μ2 → PW K G RL cL_law 8 (some .boolean) 1300 Q (some ()) 1676 (lw_l G b o i) [] μ2) : PW K G RL cL_law 8 (some .boolean) 1300 Q (some ()) 356 (lw_l G b o i) [] μ := by
  obtain ⟨r, m1, m2, e1, e2, hs2⟩ := op_ties hs (xs (i + 1).toNatClampNeg) (xs (i + 2).toNatClampNeg) (xs (i + 3).toNatClampNeg)
  exact (pw_aload_n (pc := 356) dL_law_356 2 rfl <|
pw_aload_n (pc := 357) dL_law_357 1 rfl <|
pw_iload (pc := 358) dL_law_358 0 rfl <|
pw_iconst (v := 1) (pc := 360) dL_law_360 (by decide) <|
pw_iadd (pc := 361) dL_law_361 <|
pw_sld (i := i + 1) F F.2.2.2.2.1 (pc := 362) dL_law_362 <|
pw_aload_n (pc := 363) dL_law_363 1 rfl <|
pw_iload (pc := 364) dL_law_364 0 rfl <|
pw_iconst (v := 2) (pc := 366) dL_law_366 (by decide) <|
pw_iadd (pc := 367) dL_law_367 <|
pw_sld (i := i + 2) F F.2.2.2.2.2.1 (pc := 368) dL_law_368 <|
pw_aload_n (pc := 369) dL_law_369 1 rfl <|
pw_iload (pc := 370) dL_law_370 0 rfl <|
pw_iconst (v := 3) (pc := 372) dL_law_372 (by decide) <|
pw_iadd (pc := 373) dL_law_373 <|
pw_sld (i := i + 3) F F.2.2.2.2.2.2.1 (pc := 374) dL_law_374 <|
pw_goV (rest := []) (n := 3) (Py := pw_Wi) (tX10_ties K.2.1 G (xs (i + 1).toNatClampNeg) (xs (i + 2).toNatClampNeg) (xs (i + 3).toNatClampNeg) μ) e1 (pw_sh_0) cfX10 rfl miX10_ties mlL_39 (pc := 375) dL_law_375 rfl rfl (by decide) (Nat.le_of_ble_eq_true rfl) <|
pw_aload_n (pc := 378) dL_law_378 3 rfl <|
pw_aload_n (pc := 379) dL_law_379 1 rfl <|
pw_iload (pc := 380) dL_law_380 0 rfl <|
pw_iconst (v := 1) (pc := 382) dL_law_382 (by decide) <|
pw_iadd (pc := 383) dL_law_383 <|
pw_sld (i := i + 1) F F.2.2.2.2.1 (pc := 384) dL_law_384 <|
pw_aload_n (pc := 385) dL_law_385 1 rfl <|
pw_iload (pc := 386) dL_law_386 0 rfl <|
pw_iconst (v := 2) (pc := 388) dL_law_388 (by decide) <|
pw_iadd (pc := 389) dL_law_389 <|
pw_sld (i := i + 2) F F.2.2.2.2.2.1 (pc := 390) dL_law_390 <|
pw_aload_n (pc := 391) dL_law_391 1 rfl <|
pw_iload (pc := 392) dL_law_392 0 rfl <|
pw_iconst (v := 3) (pc := 394) dL_law_394 (by decide) <|
pw_iadd (pc := 395) dL_law_395 <|
pw_sld (i := i + 3) F F.2.2.2.2.2.2.1 (pc := 396) dL_law_396 <|
pw_goV (rest := [.int r]) (n := 3) (Py := pw_Wi) (tX11_ties K.2.1 G (xs (i + 1).toNatClampNeg) (xs (i + 2).toNatClampNeg) (xs (i + 3).toNatClampNeg) m1) e2 (pw_sh_71) cfX11 rfl miX11_ties mlL_43 (pc := 397) dL_law_397 rfl rfl (by decide) (Nat.le_of_ble_eq_true rfl) <|
lw_eq (tgt := 1676) (pc := 400) dL_law_400 (by decide) <| h0 _ hs2)
set_option maxHeartbeats 4000000 in
theorem lc_5 {K : pw_K} {G : pw_G} {b o L : Nat} {xs : Nat → Int32} {i : Int32} {Q : Unit → State → Prop} {μ : pw_Mem} (F : LF K G b L xs i) (hs : Sim μ) (h0 : ∀ μ2, Sim μ2 → PW K G RL cL_law 8 (some .boolean) 1300 Q (some ()) 1676 (lw_l G b o i) [] μ2) : PW K G RL cL_law 8 (some .boolean) 1300 Q (some ()) 405 (lw_l G b o i) [] μ := by
  obtain ⟨r, m1, m2, e1, e2, hs2⟩ := op_goes hs (xs (i + 1).toNatClampNeg) (xs (i + 2).toNatClampNeg)
  exact (pw_aload_n (pc := 405) dL_law_405 2 rfl <|
pw_aload_n (pc := 406) dL_law_406 1 rfl <|
pw_iload (pc := 407) dL_law_407 0 rfl <|
pw_iconst (v := 1) (pc := 409) dL_law_409 (by decide) <|
pw_iadd (pc := 410) dL_law_410 <|
pw_sld (i := i + 1) F F.2.2.2.2.1 (pc := 411) dL_law_411 <|
pw_aload_n (pc := 412) dL_law_412 1 rfl <|
pw_iload (pc := 413) dL_law_413 0 rfl <|
pw_iconst (v := 2) (pc := 415) dL_law_415 (by decide) <|
pw_iadd (pc := 416) dL_law_416 <|
pw_sld (i := i + 2) F F.2.2.2.2.2.1 (pc := 417) dL_law_417 <|
pw_goV (rest := []) (n := 2) (Py := pw_Wi) (tX10_goes K.2.1 G (xs (i + 1).toNatClampNeg) (xs (i + 2).toNatClampNeg) μ) e1 (pw_sh_0) cfX10 rfl miX10_goes mlL_44 (pc := 418) dL_law_418 rfl rfl (by decide) (Nat.le_of_ble_eq_true rfl) <|
pw_aload_n (pc := 421) dL_law_421 3 rfl <|
pw_aload_n (pc := 422) dL_law_422 1 rfl <|
pw_iload (pc := 423) dL_law_423 0 rfl <|
pw_iconst (v := 1) (pc := 425) dL_law_425 (by decide) <|
pw_iadd (pc := 426) dL_law_426 <|
pw_sld (i := i + 1) F F.2.2.2.2.1 (pc := 427) dL_law_427 <|
pw_aload_n (pc := 428) dL_law_428 1 rfl <|
pw_iload (pc := 429) dL_law_429 0 rfl <|
pw_iconst (v := 2) (pc := 431) dL_law_431 (by decide) <|
pw_iadd (pc := 432) dL_law_432 <|
pw_sld (i := i + 2) F F.2.2.2.2.2.1 (pc := 433) dL_law_433 <|
pw_goV (rest := [.int r]) (n := 2) (Py := pw_Wi) (tX11_goes K.2.1 G (xs (i + 1).toNatClampNeg) (xs (i + 2).toNatClampNeg) m1) e2 (pw_sh_71) cfX11 rfl miX11_goes mlL_47 (pc := 434) dL_law_434 rfl rfl (by decide) (Nat.le_of_ble_eq_true rfl) <|
lw_eq (tgt := 1676) (pc := 437) dL_law_437 (by decide) <| h0 _ hs2)
set_option maxHeartbeats 4000000 in
theorem lc_6 {K : pw_K} {G : pw_G} {b o L : Nat} {xs : Nat → Int32} {i : Int32} {Q : Unit → State → Prop} {μ : pw_Mem} (F : LF K G b L xs i) (hs : Sim μ) (h0 : ∀ μ2, Sim μ2 → PW K G RL cL_law 8 (some .boolean) 1300 Q (some ()) 1676 (lw_l G b o i) [] μ2) : PW K G RL cL_law 8 (some .boolean) 1300 Q (some ()) 442 (lw_l G b o i) [] μ := by
  obtain ⟨r, m1, m2, e1, e2, hs2⟩ := op_cold hs (xs (i + 1).toNatClampNeg)
  exact (pw_aload_n (pc := 442) dL_law_442 2 rfl <|
pw_aload_n (pc := 443) dL_law_443 1 rfl <|
pw_iload (pc := 444) dL_law_444 0 rfl <|
pw_iconst (v := 1) (pc := 446) dL_law_446 (by decide) <|
pw_iadd (pc := 447) dL_law_447 <|
pw_sld (i := i + 1) F F.2.2.2.2.1 (pc := 448) dL_law_448 <|
pw_goV (rest := []) (n := 1) (Py := pw_Wi) (tX10_cold K.2.1 G (xs (i + 1).toNatClampNeg) μ) e1 (pw_sh_0) cfX10 rfl miX10_cold mlL_48 (pc := 449) dL_law_449 rfl rfl (by decide) (Nat.le_of_ble_eq_true rfl) <|
pw_aload_n (pc := 452) dL_law_452 3 rfl <|
pw_aload_n (pc := 453) dL_law_453 1 rfl <|
pw_iload (pc := 454) dL_law_454 0 rfl <|
pw_iconst (v := 1) (pc := 456) dL_law_456 (by decide) <|
pw_iadd (pc := 457) dL_law_457 <|
pw_sld (i := i + 1) F F.2.2.2.2.1 (pc := 458) dL_law_458 <|
pw_goV (rest := [.int r]) (n := 1) (Py := pw_Wi) (tX11_cold K.2.1 G (xs (i + 1).toNatClampNeg) m1) e2 (pw_sh_71) cfX11 rfl miX11_cold mlL_51 (pc := 459) dL_law_459 rfl rfl (by decide) (Nat.le_of_ble_eq_true rfl) <|
lw_eq (tgt := 1676) (pc := 462) dL_law_462 (by decide) <| h0 _ hs2)
set_option maxHeartbeats 4000000 in
theorem lc_7 {K : pw_K} {G : pw_G} {b o L : Nat} {xs : Nat → Int32} {i : Int32} {Q : Unit → State → Prop} {μ : pw_Mem} (F : LF K G b L xs i) (hs : Sim μ) (h0 : ∀ μ2, Sim μ2 → PW K G RL cL_law 8 (some .boolean) 1300 Q (some ()) 1676 (lw_l G b o i) [] μ2) : PW K G RL cL_law 8 (some .boolean) 1300 Q (some ()) 467 (lw_l G b o i) [] μ := by
  obtain ⟨r, m1, m2, e1, e2, hs2⟩ := op_years hs (xs (i + 1).toNatClampNeg)
  exact (pw_aload_n (pc := 467) dL_law_467 2 rfl <|
pw_aload_n (pc := 468) dL_law_468 1 rfl <|
pw_iload (pc := 469) dL_law_469 0 rfl <|
pw_iconst (v := 1) (pc := 471) dL_law_471 (by decide) <|
pw_iadd (pc := 472) dL_law_472 <|
pw_sld (i := i + 1) F F.2.2.2.2.1 (pc := 473) dL_law_473 <|
pw_goV (rest := []) (n := 1) (Py := pw_Wi) (tX10_years K.2.1 G (xs (i + 1).toNatClampNeg) μ) e1 (pw_sh_0) cfX10 rfl miX10_years mlL_52 (pc := 474) dL_law_474 rfl rfl (by decide) (Nat.le_of_ble_eq_true rfl) <|
pw_aload_n (pc := 477) dL_law_477 3 rfl <|
pw_aload_n (pc := 478) dL_law_478 1 rfl <|
pw_iload (pc := 479) dL_law_479 0 rfl <|
pw_iconst (v := 1) (pc := 481) dL_law_481 (by decide) <|
pw_iadd (pc := 482) dL_law_482 <|
pw_sld (i := i + 1) F F.2.2.2.2.1 (pc := 483) dL_law_483 <|
pw_goV (rest := [.int r]) (n := 1) (Py := pw_Wi) (tX11_years K.2.1 G (xs (i + 1).toNatClampNeg) m1) e2 (pw_sh_71) cfX11 rfl miX11_years mlL_55 (pc := 484) dL_law_484 rfl rfl (by decide) (Nat.le_of_ble_eq_true rfl) <|
lw_eq (tgt := 1676) (pc := 487) dL_law_487 (by decide) <| h0 _ hs2)
set_option maxHeartbeats 4000000 in
theorem lc_8 {K : pw_K} {G : pw_G} {b o L : Nat} {xs : Nat → Int32} {i : Int32} {Q : Unit → State → Prop} {μ : pw_Mem} (F : LF K G b L xs i) (hs : Sim μ) (h0 : ∀ μ2, Sim μ2 → PW K G RL cL_law 8 (some .boolean) 1300 Q (some ()) 1676 (lw_l G b o i) [] μ2) : PW K G RL cL_law 8 (some .boolean) 1300 Q (some ()) 492 (lw_l G b o i) [] μ := by
  obtain ⟨r, m1, m2, e1, e2, hs2⟩ := op_cuts hs (xs (i + 1).toNatClampNeg)
  exact (pw_aload_n (pc := 492) dL_law_492 2 rfl <|
pw_aload_n (pc := 493) dL_law_493 1 rfl <|
pw_iload (pc := 494) dL_law_494 0 rfl <|
pw_iconst (v := 1) (pc := 496) dL_law_496 (by decide) <|
pw_iadd (pc := 497) dL_law_497 <|
pw_sld (i := i + 1) F F.2.2.2.2.1 (pc := 498) dL_law_498 <|
pw_goV (rest := []) (n := 1) (Py := pw_Wi) (tX10_cuts K.2.1 G (xs (i + 1).toNatClampNeg) μ) e1 (pw_sh_0) cfX10 rfl miX10_cuts mlL_56 (pc := 499) dL_law_499 rfl rfl (by decide) (Nat.le_of_ble_eq_true rfl) <|
pw_aload_n (pc := 502) dL_law_502 3 rfl <|
pw_aload_n (pc := 503) dL_law_503 1 rfl <|
pw_iload (pc := 504) dL_law_504 0 rfl <|
pw_iconst (v := 1) (pc := 506) dL_law_506 (by decide) <|
pw_iadd (pc := 507) dL_law_507 <|
pw_sld (i := i + 1) F F.2.2.2.2.1 (pc := 508) dL_law_508 <|
pw_goV (rest := [.int r]) (n := 1) (Py := pw_Wi) (tX11_cuts K.2.1 G (xs (i + 1).toNatClampNeg) m1) e2 (pw_sh_71) cfX11 rfl miX11_cuts mlL_59 (pc := 509) dL_law_509 rfl rfl (by decide) (Nat.le_of_ble_eq_true rfl) <|
lw_eq (tgt := 1676) (pc := 512) dL_law_512 (by decide) <| h0 _ hs2)
set_option maxHeartbeats 4000000 in
theorem lc_9 {K : pw_K} {G : pw_G} {b o L : Nat} {xs : Nat → Int32} {i : Int32} {Q : Unit → State → Prop} {μ : pw_Mem} (F : LF K G b L xs i) (hs : Sim μ) (h0 : ∀ μ2, Sim μ2 → PW K G RL cL_law 8 (some .boolean) 1300 Q (some ()) 1676 (lw_l G b o i) [] μ2) : PW K G RL cL_law 8 (some .boolean) 1300 Q (some ()) 517 (lw_l G b o i) [] μ := by
  obtain ⟨r, m1, m2, e1, e2, hs2⟩ := op_mayGo hs (xs (i + 1).toNatClampNeg) (xs (i + 2).toNatClampNeg)
  exact (pw_aload_n (pc := 517) dL_law_517 2 rfl <|
pw_aload_n (pc := 518) dL_law_518 1 rfl <|
pw_iload (pc := 519) dL_law_519 0 rfl <|
pw_iconst (v := 1) (pc := 521) dL_law_521 (by decide) <|
pw_iadd (pc := 522) dL_law_522 <|
pw_sld (i := i + 1) F F.2.2.2.2.1 (pc := 523) dL_law_523 <|
pw_aload_n (pc := 524) dL_law_524 1 rfl <|
pw_iload (pc := 525) dL_law_525 0 rfl <|
pw_iconst (v := 2) (pc := 527) dL_law_527 (by decide) <|
pw_iadd (pc := 528) dL_law_528 <|
pw_sld (i := i + 2) F F.2.2.2.2.2.1 (pc := 529) dL_law_529 <|
pw_goV (rest := []) (n := 2) (Py := pw_Wi) (tX10_mayGo K.2.1 G (xs (i + 1).toNatClampNeg) (xs (i + 2).toNatClampNeg) μ) e1 (pw_sh_0) cfX10 rfl miX10_mayGo mlL_60 (pc := 530) dL_law_530 rfl rfl (by decide) (Nat.le_of_ble_eq_true rfl) <|
pw_aload_n (pc := 533) dL_law_533 3 rfl <|
pw_aload_n (pc := 534) dL_law_534 1 rfl <|
pw_iload (pc := 535) dL_law_535 0 rfl <|
pw_iconst (v := 1) (pc := 537) dL_law_537 (by decide) <|
pw_iadd (pc := 538) dL_law_538 <|
pw_sld (i := i + 1) F F.2.2.2.2.1 (pc := 539) dL_law_539 <|
pw_aload_n (pc := 540) dL_law_540 1 rfl <|
pw_iload (pc := 541) dL_law_541 0 rfl <|
pw_iconst (v := 2) (pc := 543) dL_law_543 (by decide) <|
pw_iadd (pc := 544) dL_law_544 <|
pw_sld (i := i + 2) F F.2.2.2.2.2.1 (pc := 545) dL_law_545 <|
pw_goV (rest := [.int r]) (n := 2) (Py := pw_Wi) (tX11_mayGo K.2.1 G (xs (i + 1).toNatClampNeg) (xs (i + 2).toNatClampNeg) m1) e2 (pw_sh_71) cfX11 rfl miX11_mayGo mlL_63 (pc := 546) dL_law_546 rfl rfl (by decide) (Nat.le_of_ble_eq_true rfl) <|
lw_eq (tgt := 1676) (pc := 549) dL_law_549 (by decide) <| h0 _ hs2)
set_option maxHeartbeats 4000000 in
theorem lc_10 {K : pw_K} {G : pw_G} {b o L : Nat} {xs : Nat → Int32} {i : Int32} {Q : Unit → State → Prop} {μ : pw_Mem} (F : LF K G b L xs i) (hs : Sim μ) (h0 : ∀ μ2, Sim μ2 → PW K G RL cL_law 8 (some .boolean) 1300 Q (some ()) 1676 (lw_l G b o i) [] μ2) : PW K G RL cL_law 8 (some .boolean) 1300 Q (some ()) 554 (lw_l G b o i) [] μ := by
  obtain ⟨r, m1, m2, e1, e2, hs2⟩ := op_rest hs (xs (i + 1).toNatClampNeg)
  exact (pw_aload_n (pc := 554) dL_law_554 2 rfl <|
pw_aload_n (pc := 555) dL_law_555 1 rfl <|
pw_iload (pc := 556) dL_law_556 0 rfl <|
pw_iconst (v := 1) (pc := 558) dL_law_558 (by decide) <|
pw_iadd (pc := 559) dL_law_559 <|
pw_sld (i := i + 1) F F.2.2.2.2.1 (pc := 560) dL_law_560 <|
pw_goV (rest := []) (n := 1) (Py := pw_Wi) (tX10_rest K.2.1 G (xs (i + 1).toNatClampNeg) μ) e1 (pw_sh_0) cfX10 rfl miX10_rest mlL_64 (pc := 561) dL_law_561 rfl rfl (by decide) (Nat.le_of_ble_eq_true rfl) <|
pw_aload_n (pc := 564) dL_law_564 3 rfl <|
pw_aload_n (pc := 565) dL_law_565 1 rfl <|
pw_iload (pc := 566) dL_law_566 0 rfl <|
pw_iconst (v := 1) (pc := 568) dL_law_568 (by decide) <|
pw_iadd (pc := 569) dL_law_569 <|
pw_sld (i := i + 1) F F.2.2.2.2.1 (pc := 570) dL_law_570 <|
pw_goV (rest := [.int r]) (n := 1) (Py := pw_Wi) (tX11_rest K.2.1 G (xs (i + 1).toNatClampNeg) m1) e2 (pw_sh_71) cfX11 rfl miX11_rest mlL_67 (pc := 571) dL_law_571 rfl rfl (by decide) (Nat.le_of_ble_eq_true rfl) <|
lw_eq (tgt := 1676) (pc := 574) dL_law_574 (by decide) <| h0 _ hs2)
set_option maxHeartbeats 4000000 in
theorem lc_11 {K : pw_K} {G : pw_G} {b o L : Nat} {xs : Nat → Int32} {i : Int32} {Q : Unit → State → Prop} {μ : pw_Mem} (F : LF K G b L xs i) (hs : Sim μ) (h0 : ∀ μ2, Sim μ2 → PW K G RL cL_law 8 (some .boolean) 1300 Q (some ()) 1676 (lw_l G b o i) [] μ2) : PW K G RL cL_law 8 (some .boolean) 1300 Q (some ()) 579 (lw_l G b o i) [] μ := by
  obtain ⟨r, m1, m2, e1, e2, hs2⟩ := op_placeIn hs (xs (i + 1).toNatClampNeg) (xs (i + 2).toNatClampNeg)
  exact (pw_aload_n (pc := 579) dL_law_579 2 rfl <|
pw_aload_n (pc := 580) dL_law_580 1 rfl <|
pw_iload (pc := 581) dL_law_581 0 rfl <|
pw_iconst (v := 1) (pc := 583) dL_law_583 (by decide) <|
pw_iadd (pc := 584) dL_law_584 <|
pw_sld (i := i + 1) F F.2.2.2.2.1 (pc := 585) dL_law_585 <|
pw_aload_n (pc := 586) dL_law_586 1 rfl <|
pw_iload (pc := 587) dL_law_587 0 rfl <|
pw_iconst (v := 2) (pc := 589) dL_law_589 (by decide) <|
pw_iadd (pc := 590) dL_law_590 <|
pw_sld (i := i + 2) F F.2.2.2.2.2.1 (pc := 591) dL_law_591 <|
pw_goV (rest := []) (n := 2) (Py := pw_Wi) (tX10_placeIn K.2.1 G (xs (i + 1).toNatClampNeg) (xs (i + 2).toNatClampNeg) μ) e1 (pw_sh_0) cfX10 rfl miX10_placeIn mlL_68 (pc := 592) dL_law_592 rfl rfl (by decide) (Nat.le_of_ble_eq_true rfl) <|
pw_aload_n (pc := 595) dL_law_595 3 rfl <|
pw_aload_n (pc := 596) dL_law_596 1 rfl <|
pw_iload (pc := 597) dL_law_597 0 rfl <|
pw_iconst (v := 1) (pc := 599) dL_law_599 (by decide) <|
pw_iadd (pc := 600) dL_law_600 <|
pw_sld (i := i + 1) F F.2.2.2.2.1 (pc := 601) dL_law_601 <|
pw_aload_n (pc := 602) dL_law_602 1 rfl <|
pw_iload (pc := 603) dL_law_603 0 rfl <|
pw_iconst (v := 2) (pc := 605) dL_law_605 (by decide) <|
pw_iadd (pc := 606) dL_law_606 <|
pw_sld (i := i + 2) F F.2.2.2.2.2.1 (pc := 607) dL_law_607 <|
pw_goV (rest := [.int r]) (n := 2) (Py := pw_Wi) (tX11_placeIn K.2.1 G (xs (i + 1).toNatClampNeg) (xs (i + 2).toNatClampNeg) m1) e2 (pw_sh_71) cfX11 rfl miX11_placeIn mlL_71 (pc := 608) dL_law_608 rfl rfl (by decide) (Nat.le_of_ble_eq_true rfl) <|
lw_eq (tgt := 1676) (pc := 611) dL_law_611 (by decide) <| h0 _ hs2)
set_option maxHeartbeats 4000000 in
theorem lc_12 {K : pw_K} {G : pw_G} {b o L : Nat} {xs : Nat → Int32} {i : Int32} {Q : Unit → State → Prop} {μ : pw_Mem} (F : LF K G b L xs i) (hs : Sim μ) (h0 : ∀ μ2, Sim μ2 → PW K G RL cL_law 8 (some .boolean) 1300 Q (some ()) 1676 (lw_l G b o i) [] μ2) : PW K G RL cL_law 8 (some .boolean) 1300 Q (some ()) 616 (lw_l G b o i) [] μ := by
  obtain ⟨r, m1, m2, e1, e2, hs2⟩ := op_snappedIn hs (xs (i + 1).toNatClampNeg)
  exact (pw_aload_n (pc := 616) dL_law_616 2 rfl <|
pw_aload_n (pc := 617) dL_law_617 1 rfl <|
pw_iload (pc := 618) dL_law_618 0 rfl <|
pw_iconst (v := 1) (pc := 620) dL_law_620 (by decide) <|
pw_iadd (pc := 621) dL_law_621 <|
pw_sld (i := i + 1) F F.2.2.2.2.1 (pc := 622) dL_law_622 <|
pw_goV (rest := []) (n := 1) (Py := pw_Wi) (tX10_snappedIn K.2.1 G (xs (i + 1).toNatClampNeg) μ) e1 (pw_sh_0) cfX10 rfl miX10_snappedIn mlL_72 (pc := 623) dL_law_623 rfl rfl (by decide) (Nat.le_of_ble_eq_true rfl) <|
pw_aload_n (pc := 626) dL_law_626 3 rfl <|
pw_aload_n (pc := 627) dL_law_627 1 rfl <|
pw_iload (pc := 628) dL_law_628 0 rfl <|
pw_iconst (v := 1) (pc := 630) dL_law_630 (by decide) <|
pw_iadd (pc := 631) dL_law_631 <|
pw_sld (i := i + 1) F F.2.2.2.2.1 (pc := 632) dL_law_632 <|
pw_goV (rest := [.int r]) (n := 1) (Py := pw_Wi) (tX11_snappedIn K.2.1 G (xs (i + 1).toNatClampNeg) m1) e2 (pw_sh_71) cfX11 rfl miX11_snappedIn mlL_75 (pc := 633) dL_law_633 rfl rfl (by decide) (Nat.le_of_ble_eq_true rfl) <|
lw_eq (tgt := 1676) (pc := 636) dL_law_636 (by decide) <| h0 _ hs2)
set_option maxHeartbeats 4000000 in
theorem lc_13 {K : pw_K} {G : pw_G} {b o L : Nat} {xs : Nat → Int32} {i : Int32} {Q : Unit → State → Prop} {μ : pw_Mem} (F : LF K G b L xs i) (hs : Sim μ) (h0 : ∀ μ2, Sim μ2 → PW K G RL cL_law 8 (some .boolean) 1300 Q (some ()) 1676 (lw_l G b o i) [] μ2) : PW K G RL cL_law 8 (some .boolean) 1300 Q (some ()) 641 (lw_l G b o i) [] μ := by
  obtain ⟨r, m1, m2, e1, e2, hs2⟩ := op_still hs 
  exact (pw_aload_n (pc := 641) dL_law_641 2 rfl <|
pw_goV (rest := []) (n := 0) (Py := pw_Wi) (tX10_still K.2.1 G  μ) e1 (pw_sh_0) cfX10 rfl miX10_still mlL_76 (pc := 642) dL_law_642 rfl rfl (by decide) (Nat.le_of_ble_eq_true rfl) <|
pw_aload_n (pc := 645) dL_law_645 3 rfl <|
pw_goV (rest := [.int r]) (n := 0) (Py := pw_Wi) (tX11_still K.2.1 G  m1) e2 (pw_sh_71) cfX11 rfl miX11_still mlL_80 (pc := 646) dL_law_646 rfl rfl (by decide) (Nat.le_of_ble_eq_true rfl) <|
lw_eq (tgt := 1676) (pc := 649) dL_law_649 (by decide) <| h0 _ hs2)
set_option maxHeartbeats 4000000 in
theorem lc_14 {K : pw_K} {G : pw_G} {b o L : Nat} {xs : Nat → Int32} {i : Int32} {Q : Unit → State → Prop} {μ : pw_Mem} (F : LF K G b L xs i) (hs : Sim μ) (h0 : ∀ μ2, Sim μ2 → PW K G RL cL_law 8 (some .boolean) 1300 Q (some ()) 1676 (lw_l G b o i) [] μ2) : PW K G RL cL_law 8 (some .boolean) 1300 Q (some ()) 654 (lw_l G b o i) [] μ := by
  obtain ⟨r, m1, m2, e1, e2, hs2⟩ := op_firstSnap hs (xs (i + 1).toNatClampNeg)
  exact (pw_aload_n (pc := 654) dL_law_654 2 rfl <|
pw_aload_n (pc := 655) dL_law_655 1 rfl <|
pw_iload (pc := 656) dL_law_656 0 rfl <|
pw_iconst (v := 1) (pc := 658) dL_law_658 (by decide) <|
pw_iadd (pc := 659) dL_law_659 <|
pw_sld (i := i + 1) F F.2.2.2.2.1 (pc := 660) dL_law_660 <|
pw_goV (rest := []) (n := 1) (Py := pw_Wi) (tX10_firstSnap K.2.1 G (xs (i + 1).toNatClampNeg) μ) e1 (pw_sh_0) cfX10 rfl miX10_firstSnap mlL_81 (pc := 661) dL_law_661 rfl rfl (by decide) (Nat.le_of_ble_eq_true rfl) <|
pw_aload_n (pc := 664) dL_law_664 3 rfl <|
pw_aload_n (pc := 665) dL_law_665 1 rfl <|
pw_iload (pc := 666) dL_law_666 0 rfl <|
pw_iconst (v := 1) (pc := 668) dL_law_668 (by decide) <|
pw_iadd (pc := 669) dL_law_669 <|
pw_sld (i := i + 1) F F.2.2.2.2.1 (pc := 670) dL_law_670 <|
pw_goV (rest := [.int r]) (n := 1) (Py := pw_Wi) (tX11_firstSnap K.2.1 G (xs (i + 1).toNatClampNeg) m1) e2 (pw_sh_71) cfX11 rfl miX11_firstSnap mlL_84 (pc := 671) dL_law_671 rfl rfl (by decide) (Nat.le_of_ble_eq_true rfl) <|
lw_eq (tgt := 1676) (pc := 674) dL_law_674 (by decide) <| h0 _ hs2)
set_option maxHeartbeats 4000000 in
theorem lc_15 {K : pw_K} {G : pw_G} {b o L : Nat} {xs : Nat → Int32} {i : Int32} {Q : Unit → State → Prop} {μ : pw_Mem} (F : LF K G b L xs i) (hs : Sim μ) (h0 : ∀ μ2, Sim μ2 → PW K G RL cL_law 8 (some .boolean) 1300 Q (some ()) 1676 (lw_l G b o i) [] μ2) : PW K G RL cL_law 8 (some .boolean) 1300 Q (some ()) 679 (lw_l G b o i) [] μ := by
  obtain ⟨r, m1, m2, e1, e2, hs2⟩ := op_christmas hs (xs (i + 1).toNatClampNeg)
  exact (pw_aload_n (pc := 679) dL_law_679 2 rfl <|
pw_aload_n (pc := 680) dL_law_680 1 rfl <|
pw_iload (pc := 681) dL_law_681 0 rfl <|
pw_iconst (v := 1) (pc := 683) dL_law_683 (by decide) <|
pw_iadd (pc := 684) dL_law_684 <|
pw_sld (i := i + 1) F F.2.2.2.2.1 (pc := 685) dL_law_685 <|
pw_goV (rest := []) (n := 1) (Py := pw_Wi) (tX10_christmas K.2.1 G (xs (i + 1).toNatClampNeg) μ) e1 (pw_sh_0) cfX10 rfl miX10_christmas mlL_85 (pc := 686) dL_law_686 rfl rfl (by decide) (Nat.le_of_ble_eq_true rfl) <|
pw_aload_n (pc := 689) dL_law_689 3 rfl <|
pw_aload_n (pc := 690) dL_law_690 1 rfl <|
pw_iload (pc := 691) dL_law_691 0 rfl <|
pw_iconst (v := 1) (pc := 693) dL_law_693 (by decide) <|
pw_iadd (pc := 694) dL_law_694 <|
pw_sld (i := i + 1) F F.2.2.2.2.1 (pc := 695) dL_law_695 <|
pw_goV (rest := [.int r]) (n := 1) (Py := pw_Wi) (tX11_christmas K.2.1 G (xs (i + 1).toNatClampNeg) m1) e2 (pw_sh_71) cfX11 rfl miX11_christmas mlL_88 (pc := 696) dL_law_696 rfl rfl (by decide) (Nat.le_of_ble_eq_true rfl) <|
lw_eq (tgt := 1676) (pc := 699) dL_law_699 (by decide) <| h0 _ hs2)
set_option maxHeartbeats 4000000 in
theorem lc_16 {K : pw_K} {G : pw_G} {b o L : Nat} {xs : Nat → Int32} {i : Int32} {Q : Unit → State → Prop} {μ : pw_Mem} (F : LF K G b L xs i) (hs : Sim μ) (h0 : ∀ μ2, Sim μ2 → PW K G RL cL_law 8 (some .boolean) 1300 Q (some ()) 1676 (lw_l G b o i) [] μ2) : PW K G RL cL_law 8 (some .boolean) 1300 Q (some ()) 704 (lw_l G b o i) [] μ := by
  obtain ⟨r, m1, m2, e1, e2, hs2⟩ := op_order hs (xs (i + 1).toNatClampNeg)
  exact (pw_aload_n (pc := 704) dL_law_704 2 rfl <|
pw_aload_n (pc := 705) dL_law_705 1 rfl <|
pw_iload (pc := 706) dL_law_706 0 rfl <|
pw_iconst (v := 1) (pc := 708) dL_law_708 (by decide) <|
pw_iadd (pc := 709) dL_law_709 <|
pw_sld (i := i + 1) F F.2.2.2.2.1 (pc := 710) dL_law_710 <|
pw_goV (rest := []) (n := 1) (Py := pw_Wi) (tX10_order K.2.1 G (xs (i + 1).toNatClampNeg) μ) e1 (pw_sh_0) cfX10 rfl miX10_order mlL_89 (pc := 711) dL_law_711 rfl rfl (by decide) (Nat.le_of_ble_eq_true rfl) <|
pw_aload_n (pc := 714) dL_law_714 3 rfl <|
pw_aload_n (pc := 715) dL_law_715 1 rfl <|
pw_iload (pc := 716) dL_law_716 0 rfl <|
pw_iconst (v := 1) (pc := 718) dL_law_718 (by decide) <|
pw_iadd (pc := 719) dL_law_719 <|
pw_sld (i := i + 1) F F.2.2.2.2.1 (pc := 720) dL_law_720 <|
pw_goV (rest := [.int r]) (n := 1) (Py := pw_Wi) (tX11_order K.2.1 G (xs (i + 1).toNatClampNeg) m1) e2 (pw_sh_71) cfX11 rfl miX11_order mlL_92 (pc := 721) dL_law_721 rfl rfl (by decide) (Nat.le_of_ble_eq_true rfl) <|
lw_eq (tgt := 1676) (pc := 724) dL_law_724 (by decide) <| h0 _ hs2)
set_option maxHeartbeats 4000000 in
theorem lc_17 {K : pw_K} {G : pw_G} {b o L : Nat} {xs : Nat → Int32} {i : Int32} {Q : Unit → State → Prop} {μ : pw_Mem} (F : LF K G b L xs i) (hs : Sim μ) (h0 : ∀ μ2, Sim μ2 → PW K G RL cL_law 8 (some .boolean) 1300 Q (some ()) 1676 (lw_l G b o i) [] μ2) : PW K G RL cL_law 8 (some .boolean) 1300 Q (some ()) 729 (lw_l G b o i) [] μ := by
  obtain ⟨r, m1, m2, e1, e2, hs2⟩ := op_letGo hs (xs (i + 1).toNatClampNeg) (xs (i + 2).toNatClampNeg)
  exact (pw_aload_n (pc := 729) dL_law_729 2 rfl <|
pw_aload_n (pc := 730) dL_law_730 1 rfl <|
pw_iload (pc := 731) dL_law_731 0 rfl <|
pw_iconst (v := 1) (pc := 733) dL_law_733 (by decide) <|
pw_iadd (pc := 734) dL_law_734 <|
pw_sld (i := i + 1) F F.2.2.2.2.1 (pc := 735) dL_law_735 <|
pw_aload_n (pc := 736) dL_law_736 1 rfl <|
pw_iload (pc := 737) dL_law_737 0 rfl <|
pw_iconst (v := 2) (pc := 739) dL_law_739 (by decide) <|
pw_iadd (pc := 740) dL_law_740 <|
pw_sld (i := i + 2) F F.2.2.2.2.2.1 (pc := 741) dL_law_741 <|
pw_goV (rest := []) (n := 2) (Py := pw_Wi) (tX10_letGo K.2.1 G (xs (i + 1).toNatClampNeg) (xs (i + 2).toNatClampNeg) μ) e1 (pw_sh_0) cfX10 rfl miX10_letGo mlL_93 (pc := 742) dL_law_742 rfl rfl (by decide) (Nat.le_of_ble_eq_true rfl) <|
pw_aload_n (pc := 745) dL_law_745 3 rfl <|
pw_aload_n (pc := 746) dL_law_746 1 rfl <|
pw_iload (pc := 747) dL_law_747 0 rfl <|
pw_iconst (v := 1) (pc := 749) dL_law_749 (by decide) <|
pw_iadd (pc := 750) dL_law_750 <|
pw_sld (i := i + 1) F F.2.2.2.2.1 (pc := 751) dL_law_751 <|
pw_aload_n (pc := 752) dL_law_752 1 rfl <|
pw_iload (pc := 753) dL_law_753 0 rfl <|
pw_iconst (v := 2) (pc := 755) dL_law_755 (by decide) <|
pw_iadd (pc := 756) dL_law_756 <|
pw_sld (i := i + 2) F F.2.2.2.2.2.1 (pc := 757) dL_law_757 <|
pw_goV (rest := [.int r]) (n := 2) (Py := pw_Wi) (tX11_letGo K.2.1 G (xs (i + 1).toNatClampNeg) (xs (i + 2).toNatClampNeg) m1) e2 (pw_sh_71) cfX11 rfl miX11_letGo mlL_96 (pc := 758) dL_law_758 rfl rfl (by decide) (Nat.le_of_ble_eq_true rfl) <|
lw_eq (tgt := 1676) (pc := 761) dL_law_761 (by decide) <| h0 _ hs2)
set_option maxHeartbeats 4000000 in
theorem lc_18 {K : pw_K} {G : pw_G} {b o L : Nat} {xs : Nat → Int32} {i : Int32} {Q : Unit → State → Prop} {μ : pw_Mem} (F : LF K G b L xs i) (hs : Sim μ) (h0 : ∀ μ2, Sim μ2 → PW K G RL cL_law 8 (some .boolean) 1300 Q (some ()) 1676 (lw_l G b o i) [] μ2) : PW K G RL cL_law 8 (some .boolean) 1300 Q (some ()) 766 (lw_l G b o i) [] μ := by
  obtain ⟨r, m1, e1, e2, hs2⟩ := op_crossing hs (xs (i + 1).toNatClampNeg)
  exact (pw_aload_n (pc := 766) dL_law_766 2 rfl <|
pw_aload_n (pc := 767) dL_law_767 1 rfl <|
pw_iload (pc := 768) dL_law_768 0 rfl <|
pw_iconst (v := 1) (pc := 770) dL_law_770 (by decide) <|
pw_iadd (pc := 771) dL_law_771 <|
pw_sld (i := i + 1) F F.2.2.2.2.1 (pc := 772) dL_law_772 <|
pw_goV (rest := []) (n := 1) (Py := pw_Wi) (tX10_crossing K.2.1 G (xs (i + 1).toNatClampNeg) μ) e1 (pw_sh_0) cfX10 rfl miX10_crossing mlL_97 (pc := 773) dL_law_773 rfl rfl (by decide) (Nat.le_of_ble_eq_true rfl) <|
pw_aload_n (pc := 776) dL_law_776 3 rfl <|
pw_aload_n (pc := 777) dL_law_777 1 rfl <|
pw_iload (pc := 778) dL_law_778 0 rfl <|
pw_iconst (v := 1) (pc := 780) dL_law_780 (by decide) <|
pw_iadd (pc := 781) dL_law_781 <|
pw_sld (i := i + 1) F F.2.2.2.2.1 (pc := 782) dL_law_782 <|
pw_goV (rest := [.int r]) (n := 1) (Py := (pw_Ri m1)) (tX11_crossing K.2.1 G (xs (i + 1).toNatClampNeg) m1) e2 (pw_sh_71) cfX11 rfl miX11_crossing mlL_100 (pc := 783) dL_law_783 rfl rfl (by decide) (Nat.le_of_ble_eq_true rfl) <|
lw_eq (tgt := 1676) (pc := 786) dL_law_786 (by decide) <| h0 _ hs2)
set_option maxHeartbeats 4000000 in
theorem lc_19 {K : pw_K} {G : pw_G} {b o L : Nat} {xs : Nat → Int32} {i : Int32} {Q : Unit → State → Prop} {μ : pw_Mem} (F : LF K G b L xs i) (hs : Sim μ) (h0 : ∀ μ2, Sim μ2 → PW K G RL cL_law 8 (some .boolean) 1300 Q (some ()) 1676 (lw_l G b o i) [] μ2) : PW K G RL cL_law 8 (some .boolean) 1300 Q (some ()) 791 (lw_l G b o i) [] μ := by
  obtain ⟨r, m1, e1, e2, hs2⟩ := op_untangle hs 
  exact (pw_aload_n (pc := 791) dL_law_791 2 rfl <|
pw_goV (rest := []) (n := 0) (Py := pw_Wi) (tX10_untangle K.2.1 G  μ) e1 (pw_sh_0) cfX10 rfl miX10_untangle mlL_101 (pc := 792) dL_law_792 rfl rfl (by decide) (Nat.le_of_ble_eq_true rfl) <|
pw_aload_n (pc := 795) dL_law_795 3 rfl <|
pw_goV (rest := [.int r]) (n := 0) (Py := (pw_Ri m1)) (tX11_untangle K.2.1 G  m1) e2 (pw_sh_71) cfX11 rfl miX11_untangle mlL_104 (pc := 796) dL_law_796 rfl rfl (by decide) (Nat.le_of_ble_eq_true rfl) <|
lw_eq (tgt := 1676) (pc := 799) dL_law_799 (by decide) <| h0 _ hs2)
set_option maxHeartbeats 4000000 in
theorem lc_20 {K : pw_K} {G : pw_G} {b o L : Nat} {xs : Nat → Int32} {i : Int32} {Q : Unit → State → Prop} {μ : pw_Mem} (F : LF K G b L xs i) (hs : Sim μ) (h0 : ∀ μ2, Sim μ2 → PW K G RL cL_law 8 (some .boolean) 1300 Q (some ()) 1676 (lw_l G b o i) [] μ2) : PW K G RL cL_law 8 (some .boolean) 1300 Q (some ()) 804 (lw_l G b o i) [] μ := by
  obtain ⟨r, e1, e2⟩ := op_clans hs (xs (i + 1).toNatClampNeg)
  have hs2 := hs
  exact (pw_aload_n (pc := 804) dL_law_804 2 rfl <|
pw_aload_n (pc := 805) dL_law_805 1 rfl <|
pw_iload (pc := 806) dL_law_806 0 rfl <|
pw_iconst (v := 1) (pc := 808) dL_law_808 (by decide) <|
pw_iadd (pc := 809) dL_law_809 <|
pw_sld (i := i + 1) F F.2.2.2.2.1 (pc := 810) dL_law_810 <|
pw_goV (rest := []) (n := 1) (Py := (pw_Ri μ)) (tX10_clans K.2.1 G (xs (i + 1).toNatClampNeg) μ) e1 (pw_sh_0) cfX10 rfl miX10_clans mlL_105 (pc := 811) dL_law_811 rfl rfl (by decide) (Nat.le_of_ble_eq_true rfl) <|
pw_aload_n (pc := 814) dL_law_814 3 rfl <|
pw_aload_n (pc := 815) dL_law_815 1 rfl <|
pw_iload (pc := 816) dL_law_816 0 rfl <|
pw_iconst (v := 1) (pc := 818) dL_law_818 (by decide) <|
pw_iadd (pc := 819) dL_law_819 <|
pw_sld (i := i + 1) F F.2.2.2.2.1 (pc := 820) dL_law_820 <|
pw_goV (rest := [.int r]) (n := 1) (Py := (pw_Ri μ)) (tX11_clans K.2.1 G (xs (i + 1).toNatClampNeg) μ) e2 (pw_sh_71) cfX11 rfl miX11_clans mlL_108 (pc := 821) dL_law_821 rfl rfl (by decide) (Nat.le_of_ble_eq_true rfl) <|
lw_eq (tgt := 1676) (pc := 824) dL_law_824 (by decide) <| h0 _ hs2)
set_option maxHeartbeats 4000000 in
theorem lc_21 {K : pw_K} {G : pw_G} {b o L : Nat} {xs : Nat → Int32} {i : Int32} {Q : Unit → State → Prop} {μ : pw_Mem} (F : LF K G b L xs i) (hs : Sim μ) (h0 : ∀ μ2, Sim μ2 → PW K G RL cL_law 8 (some .boolean) 1300 Q (some ()) 1676 (lw_l G b o i) [] μ2) : PW K G RL cL_law 8 (some .boolean) 1300 Q (some ()) 829 (lw_l G b o i) [] μ := by
  obtain ⟨r, e1, e2⟩ := op_cousins hs (xs (i + 1).toNatClampNeg) (xs (i + 2).toNatClampNeg)
  have hs2 := hs
  exact (pw_aload_n (pc := 829) dL_law_829 2 rfl <|
pw_aload_n (pc := 830) dL_law_830 1 rfl <|
pw_iload (pc := 831) dL_law_831 0 rfl <|
pw_iconst (v := 1) (pc := 833) dL_law_833 (by decide) <|
pw_iadd (pc := 834) dL_law_834 <|
pw_sld (i := i + 1) F F.2.2.2.2.1 (pc := 835) dL_law_835 <|
pw_aload_n (pc := 836) dL_law_836 1 rfl <|
pw_iload (pc := 837) dL_law_837 0 rfl <|
pw_iconst (v := 2) (pc := 839) dL_law_839 (by decide) <|
pw_iadd (pc := 840) dL_law_840 <|
pw_sld (i := i + 2) F F.2.2.2.2.2.1 (pc := 841) dL_law_841 <|
pw_goV (rest := []) (n := 2) (Py := (pw_Ri μ)) (tX10_cousins K.2.1 G (xs (i + 1).toNatClampNeg) (xs (i + 2).toNatClampNeg) μ) e1 (pw_sh_0) cfX10 rfl miX10_cousins mlL_109 (pc := 842) dL_law_842 rfl rfl (by decide) (Nat.le_of_ble_eq_true rfl) <|
pw_aload_n (pc := 845) dL_law_845 3 rfl <|
pw_aload_n (pc := 846) dL_law_846 1 rfl <|
pw_iload (pc := 847) dL_law_847 0 rfl <|
pw_iconst (v := 1) (pc := 849) dL_law_849 (by decide) <|
pw_iadd (pc := 850) dL_law_850 <|
pw_sld (i := i + 1) F F.2.2.2.2.1 (pc := 851) dL_law_851 <|
pw_aload_n (pc := 852) dL_law_852 1 rfl <|
pw_iload (pc := 853) dL_law_853 0 rfl <|
pw_iconst (v := 2) (pc := 855) dL_law_855 (by decide) <|
pw_iadd (pc := 856) dL_law_856 <|
pw_sld (i := i + 2) F F.2.2.2.2.2.1 (pc := 857) dL_law_857 <|
pw_goV (rest := [.int r]) (n := 2) (Py := (pw_Ri μ)) (tX11_cousins K.2.1 G (xs (i + 1).toNatClampNeg) (xs (i + 2).toNatClampNeg) μ) e2 (pw_sh_71) cfX11 rfl miX11_cousins mlL_112 (pc := 858) dL_law_858 rfl rfl (by decide) (Nat.le_of_ble_eq_true rfl) <|
lw_eq (tgt := 1676) (pc := 861) dL_law_861 (by decide) <| h0 _ hs2)
set_option maxHeartbeats 4000000 in
theorem lc_22 {K : pw_K} {G : pw_G} {b o L : Nat} {xs : Nat → Int32} {i : Int32} {Q : Unit → State → Prop} {μ : pw_Mem} (F : LF K G b L xs i) (hs : Sim μ) (h0 : ∀ μ2, Sim μ2 → PW K G RL cL_law 8 (some .boolean) 1300 Q (some ()) 1676 (lw_l G b o i) [] μ2) : PW K G RL cL_law 8 (some .boolean) 1300 Q (some ()) 866 (lw_l G b o i) [] μ := by
  obtain ⟨r, e1, e2⟩ := op_bridges hs 
  have hs2 := hs
  exact (pw_aload_n (pc := 866) dL_law_866 2 rfl <|
pw_goV (rest := []) (n := 0) (Py := (pw_Ri μ)) (tX10_bridges K.2.1 G  μ) e1 (pw_sh_0) cfX10 rfl miX10_bridges mlL_113 (pc := 867) dL_law_867 rfl rfl (by decide) (Nat.le_of_ble_eq_true rfl) <|
pw_aload_n (pc := 870) dL_law_870 3 rfl <|
pw_goV (rest := [.int r]) (n := 0) (Py := (pw_Ri μ)) (tX11_bridges K.2.1 G  μ) e2 (pw_sh_71) cfX11 rfl miX11_bridges mlL_116 (pc := 871) dL_law_871 rfl rfl (by decide) (Nat.le_of_ble_eq_true rfl) <|
lw_eq (tgt := 1676) (pc := 874) dL_law_874 (by decide) <| h0 _ hs2)
set_option maxHeartbeats 4000000 in
theorem lc_23 {K : pw_K} {G : pw_G} {b o L : Nat} {xs : Nat → Int32} {i : Int32} {Q : Unit → State → Prop} {μ : pw_Mem} (F : LF K G b L xs i) (hs : Sim μ) (h0 : ∀ μ2, Sim μ2 → PW K G RL cL_law 8 (some .boolean) 1300 Q (some ()) 1676 (lw_l G b o i) [] μ2) : PW K G RL cL_law 8 (some .boolean) 1300 Q (some ()) 879 (lw_l G b o i) [] μ := by
  obtain ⟨r, m1, m2, e1, e2, hs2⟩ := op_renew hs (xs (i + 1).toNatClampNeg) (xs (i + 2).toNatClampNeg)
  exact (pw_aload_n (pc := 879) dL_law_879 2 rfl <|
pw_aload_n (pc := 880) dL_law_880 1 rfl <|
pw_iload (pc := 881) dL_law_881 0 rfl <|
pw_iconst (v := 1) (pc := 883) dL_law_883 (by decide) <|
pw_iadd (pc := 884) dL_law_884 <|
pw_sld (i := i + 1) F F.2.2.2.2.1 (pc := 885) dL_law_885 <|
pw_aload_n (pc := 886) dL_law_886 1 rfl <|
pw_iload (pc := 887) dL_law_887 0 rfl <|
pw_iconst (v := 2) (pc := 889) dL_law_889 (by decide) <|
pw_iadd (pc := 890) dL_law_890 <|
pw_sld (i := i + 2) F F.2.2.2.2.2.1 (pc := 891) dL_law_891 <|
pw_goV (rest := []) (n := 2) (Py := pw_Wi) (tX10_renew K.2.1 G (xs (i + 1).toNatClampNeg) (xs (i + 2).toNatClampNeg) μ) e1 (pw_sh_0) cfX10 rfl miX10_renew mlL_117 (pc := 892) dL_law_892 rfl rfl (by decide) (Nat.le_of_ble_eq_true rfl) <|
pw_aload_n (pc := 895) dL_law_895 3 rfl <|
pw_aload_n (pc := 896) dL_law_896 1 rfl <|
pw_iload (pc := 897) dL_law_897 0 rfl <|
pw_iconst (v := 1) (pc := 899) dL_law_899 (by decide) <|
pw_iadd (pc := 900) dL_law_900 <|
pw_sld (i := i + 1) F F.2.2.2.2.1 (pc := 901) dL_law_901 <|
pw_aload_n (pc := 902) dL_law_902 1 rfl <|
pw_iload (pc := 903) dL_law_903 0 rfl <|
pw_iconst (v := 2) (pc := 905) dL_law_905 (by decide) <|
pw_iadd (pc := 906) dL_law_906 <|
pw_sld (i := i + 2) F F.2.2.2.2.2.1 (pc := 907) dL_law_907 <|
pw_goV (rest := [.int r]) (n := 2) (Py := pw_Wi) (tX11_renew K.2.1 G (xs (i + 1).toNatClampNeg) (xs (i + 2).toNatClampNeg) m1) e2 (pw_sh_71) cfX11 rfl miX11_renew mlL_120 (pc := 908) dL_law_908 rfl rfl (by decide) (Nat.le_of_ble_eq_true rfl) <|
lw_eq (tgt := 1676) (pc := 911) dL_law_911 (by decide) <| h0 _ hs2)
set_option maxHeartbeats 4000000 in
theorem lc_24 {K : pw_K} {G : pw_G} {b o L : Nat} {xs : Nat → Int32} {i : Int32} {Q : Unit → State → Prop} {μ : pw_Mem} (F : LF K G b L xs i) (hs : Sim μ) (h0 : ∀ μ2, Sim μ2 → PW K G RL cL_law 8 (some .boolean) 1300 Q (some ()) 1676 (lw_l G b o i) [] μ2) : PW K G RL cL_law 8 (some .boolean) 1300 Q (some ()) 916 (lw_l G b o i) [] μ := by
  obtain ⟨r, m2, e1, e2, hs2⟩ := op_frost hs (xs (i + 1).toNatClampNeg)
  exact (pw_aload_n (pc := 916) dL_law_916 2 rfl <|
pw_aload_n (pc := 917) dL_law_917 1 rfl <|
pw_iload (pc := 918) dL_law_918 0 rfl <|
pw_iconst (v := 1) (pc := 920) dL_law_920 (by decide) <|
pw_iadd (pc := 921) dL_law_921 <|
pw_sld (i := i + 1) F F.2.2.2.2.1 (pc := 922) dL_law_922 <|
pw_goV (rest := []) (n := 1) (Py := (pw_Ri μ)) (tX10_frost K.2.1 G (xs (i + 1).toNatClampNeg) μ) e1 (pw_sh_0) cfX10 rfl miX10_frost mlL_121 (pc := 923) dL_law_923 rfl rfl (by decide) (Nat.le_of_ble_eq_true rfl) <|
pw_aload_n (pc := 926) dL_law_926 3 rfl <|
pw_aload_n (pc := 927) dL_law_927 1 rfl <|
pw_iload (pc := 928) dL_law_928 0 rfl <|
pw_iconst (v := 1) (pc := 930) dL_law_930 (by decide) <|
pw_iadd (pc := 931) dL_law_931 <|
pw_sld (i := i + 1) F F.2.2.2.2.1 (pc := 932) dL_law_932 <|
pw_goV (rest := [.int r]) (n := 1) (Py := pw_Wi) (tX11_frost K.2.1 G (xs (i + 1).toNatClampNeg) μ) e2 (pw_sh_71) cfX11 rfl miX11_frost mlL_124 (pc := 933) dL_law_933 rfl rfl (by decide) (Nat.le_of_ble_eq_true rfl) <|
lw_eq (tgt := 1676) (pc := 936) dL_law_936 (by decide) <| h0 _ hs2)
set_option maxHeartbeats 4000000 in
theorem lc_25 {K : pw_K} {G : pw_G} {b o L : Nat} {xs : Nat → Int32} {i : Int32} {Q : Unit → State → Prop} {μ : pw_Mem} (F : LF K G b L xs i) (hs : Sim μ) (h0 : ∀ μ2, Sim μ2 → PW K G RL cL_law 8 (some .boolean) 1300 Q (some ()) 1676 (lw_l G b o i) [] μ2) : PW K G RL cL_law 8 (some .boolean) 1300 Q (some ()) 941 (lw_l G b o i) [] μ := by
  obtain ⟨r, m1, m2, e1, e2, hs2⟩ := op_lurch hs (xs (i + 1).toNatClampNeg) (xs (i + 2).toNatClampNeg)
  exact (pw_aload_n (pc := 941) dL_law_941 2 rfl <|
pw_aload_n (pc := 942) dL_law_942 1 rfl <|
pw_iload (pc := 943) dL_law_943 0 rfl <|
pw_iconst (v := 1) (pc := 945) dL_law_945 (by decide) <|
pw_iadd (pc := 946) dL_law_946 <|
pw_sld (i := i + 1) F F.2.2.2.2.1 (pc := 947) dL_law_947 <|
pw_aload_n (pc := 948) dL_law_948 1 rfl <|
pw_iload (pc := 949) dL_law_949 0 rfl <|
pw_iconst (v := 2) (pc := 951) dL_law_951 (by decide) <|
pw_iadd (pc := 952) dL_law_952 <|
pw_sld (i := i + 2) F F.2.2.2.2.2.1 (pc := 953) dL_law_953 <|
pw_goV (rest := []) (n := 2) (Py := pw_Wi) (tX10_lurch K.2.1 G (xs (i + 1).toNatClampNeg) (xs (i + 2).toNatClampNeg) μ) e1 (pw_sh_0) cfX10 rfl miX10_lurch mlL_125 (pc := 954) dL_law_954 rfl rfl (by decide) (Nat.le_of_ble_eq_true rfl) <|
pw_aload_n (pc := 957) dL_law_957 3 rfl <|
pw_aload_n (pc := 958) dL_law_958 1 rfl <|
pw_iload (pc := 959) dL_law_959 0 rfl <|
pw_iconst (v := 1) (pc := 961) dL_law_961 (by decide) <|
pw_iadd (pc := 962) dL_law_962 <|
pw_sld (i := i + 1) F F.2.2.2.2.1 (pc := 963) dL_law_963 <|
pw_aload_n (pc := 964) dL_law_964 1 rfl <|
pw_iload (pc := 965) dL_law_965 0 rfl <|
pw_iconst (v := 2) (pc := 967) dL_law_967 (by decide) <|
pw_iadd (pc := 968) dL_law_968 <|
pw_sld (i := i + 2) F F.2.2.2.2.2.1 (pc := 969) dL_law_969 <|
pw_goV (rest := [.int r]) (n := 2) (Py := pw_Wi) (tX11_lurch K.2.1 G (xs (i + 1).toNatClampNeg) (xs (i + 2).toNatClampNeg) m1) e2 (pw_sh_71) cfX11 rfl miX11_lurch mlL_128 (pc := 970) dL_law_970 rfl rfl (by decide) (Nat.le_of_ble_eq_true rfl) <|
lw_eq (tgt := 1676) (pc := 973) dL_law_973 (by decide) <| h0 _ hs2)
set_option maxHeartbeats 4000000 in
theorem lc_26 {K : pw_K} {G : pw_G} {b o L : Nat} {xs : Nat → Int32} {i : Int32} {Q : Unit → State → Prop} {μ : pw_Mem} (F : LF K G b L xs i) (hs : Sim μ) (h0 : ∀ μ2, Sim μ2 → PW K G RL cL_law 8 (some .boolean) 1300 Q (some ()) 1676 (lw_l G b o i) [] μ2) : PW K G RL cL_law 8 (some .boolean) 1300 Q (some ()) 978 (lw_l G b o i) [] μ := by
  obtain ⟨r, e1, e2⟩ := op_gauges hs (xs (i + 1).toNatClampNeg) (xs (i + 2).toNatClampNeg) (xs (i + 3).toNatClampNeg)
  have hs2 := hs
  exact (pw_aload_n (pc := 978) dL_law_978 2 rfl <|
pw_aload_n (pc := 979) dL_law_979 1 rfl <|
pw_iload (pc := 980) dL_law_980 0 rfl <|
pw_iconst (v := 1) (pc := 982) dL_law_982 (by decide) <|
pw_iadd (pc := 983) dL_law_983 <|
pw_sld (i := i + 1) F F.2.2.2.2.1 (pc := 984) dL_law_984 <|
pw_aload_n (pc := 985) dL_law_985 1 rfl <|
pw_iload (pc := 986) dL_law_986 0 rfl <|
pw_iconst (v := 2) (pc := 988) dL_law_988 (by decide) <|
pw_iadd (pc := 989) dL_law_989 <|
pw_sld (i := i + 2) F F.2.2.2.2.2.1 (pc := 990) dL_law_990 <|
pw_aload_n (pc := 991) dL_law_991 1 rfl <|
pw_iload (pc := 992) dL_law_992 0 rfl <|
pw_iconst (v := 3) (pc := 994) dL_law_994 (by decide) <|
pw_iadd (pc := 995) dL_law_995 <|
pw_sld (i := i + 3) F F.2.2.2.2.2.2.1 (pc := 996) dL_law_996 <|
pw_goV (rest := []) (n := 3) (Py := (pw_Ri μ)) (tX10_gauges K.2.1 G (xs (i + 1).toNatClampNeg) (xs (i + 2).toNatClampNeg) (xs (i + 3).toNatClampNeg) μ) e1 (pw_sh_0) cfX10 rfl miX10_gauges mlL_129 (pc := 997) dL_law_997 rfl rfl (by decide) (Nat.le_of_ble_eq_true rfl) <|
pw_aload_n (pc := 1000) dL_law_1000 3 rfl <|
pw_aload_n (pc := 1001) dL_law_1001 1 rfl <|
pw_iload (pc := 1002) dL_law_1002 0 rfl <|
pw_iconst (v := 1) (pc := 1004) dL_law_1004 (by decide) <|
pw_iadd (pc := 1005) dL_law_1005 <|
pw_sld (i := i + 1) F F.2.2.2.2.1 (pc := 1006) dL_law_1006 <|
pw_aload_n (pc := 1007) dL_law_1007 1 rfl <|
pw_iload (pc := 1008) dL_law_1008 0 rfl <|
pw_iconst (v := 2) (pc := 1010) dL_law_1010 (by decide) <|
pw_iadd (pc := 1011) dL_law_1011 <|
pw_sld (i := i + 2) F F.2.2.2.2.2.1 (pc := 1012) dL_law_1012 <|
pw_aload_n (pc := 1013) dL_law_1013 1 rfl <|
pw_iload (pc := 1014) dL_law_1014 0 rfl <|
pw_iconst (v := 3) (pc := 1016) dL_law_1016 (by decide) <|
pw_iadd (pc := 1017) dL_law_1017 <|
pw_sld (i := i + 3) F F.2.2.2.2.2.2.1 (pc := 1018) dL_law_1018 <|
pw_goV (rest := [.int r]) (n := 3) (Py := (pw_Ri μ)) (tX11_gauges K.2.1 G (xs (i + 1).toNatClampNeg) (xs (i + 2).toNatClampNeg) (xs (i + 3).toNatClampNeg) μ) e2 (pw_sh_71) cfX11 rfl miX11_gauges mlL_132 (pc := 1019) dL_law_1019 rfl rfl (by decide) (Nat.le_of_ble_eq_true rfl) <|
lw_eq (tgt := 1676) (pc := 1022) dL_law_1022 (by decide) <| h0 _ hs2)
set_option maxHeartbeats 4000000 in
theorem lc_27 {K : pw_K} {G : pw_G} {b o L : Nat} {xs : Nat → Int32} {i : Int32} {Q : Unit → State → Prop} {μ : pw_Mem} (F : LF K G b L xs i) (hs : Sim μ) (h0 : ∀ μ2, Sim μ2 → PW K G RL cL_law 8 (some .boolean) 1300 Q (some ()) 1676 (lw_l G b o i) [] μ2) : PW K G RL cL_law 8 (some .boolean) 1300 Q (some ()) 1027 (lw_l G b o i) [] μ := by
  obtain ⟨r, m2, e1, e2, hs2⟩ := op_two hs (xs (i + 1).toNatClampNeg) (xs (i + 2).toNatClampNeg)
  exact (pw_aload_n (pc := 1027) dL_law_1027 2 rfl <|
pw_aload_n (pc := 1028) dL_law_1028 1 rfl <|
pw_iload (pc := 1029) dL_law_1029 0 rfl <|
pw_iconst (v := 1) (pc := 1031) dL_law_1031 (by decide) <|
pw_iadd (pc := 1032) dL_law_1032 <|
pw_sld (i := i + 1) F F.2.2.2.2.1 (pc := 1033) dL_law_1033 <|
pw_aload_n (pc := 1034) dL_law_1034 1 rfl <|
pw_iload (pc := 1035) dL_law_1035 0 rfl <|
pw_iconst (v := 2) (pc := 1037) dL_law_1037 (by decide) <|
pw_iadd (pc := 1038) dL_law_1038 <|
pw_sld (i := i + 2) F F.2.2.2.2.2.1 (pc := 1039) dL_law_1039 <|
pw_goV (rest := []) (n := 2) (Py := (pw_Ri μ)) (tX10_two K.2.1 G (xs (i + 1).toNatClampNeg) (xs (i + 2).toNatClampNeg) μ) e1 (pw_sh_0) cfX10 rfl miX10_two mlL_133 (pc := 1040) dL_law_1040 rfl rfl (by decide) (Nat.le_of_ble_eq_true rfl) <|
pw_aload_n (pc := 1043) dL_law_1043 3 rfl <|
pw_aload_n (pc := 1044) dL_law_1044 1 rfl <|
pw_iload (pc := 1045) dL_law_1045 0 rfl <|
pw_iconst (v := 1) (pc := 1047) dL_law_1047 (by decide) <|
pw_iadd (pc := 1048) dL_law_1048 <|
pw_sld (i := i + 1) F F.2.2.2.2.1 (pc := 1049) dL_law_1049 <|
pw_aload_n (pc := 1050) dL_law_1050 1 rfl <|
pw_iload (pc := 1051) dL_law_1051 0 rfl <|
pw_iconst (v := 2) (pc := 1053) dL_law_1053 (by decide) <|
pw_iadd (pc := 1054) dL_law_1054 <|
pw_sld (i := i + 2) F F.2.2.2.2.2.1 (pc := 1055) dL_law_1055 <|
pw_goV (rest := [.int r]) (n := 2) (Py := pw_Wi) (tX11_two K.2.1 G (xs (i + 1).toNatClampNeg) (xs (i + 2).toNatClampNeg) μ) e2 (pw_sh_71) cfX11 rfl miX11_two mlL_136 (pc := 1056) dL_law_1056 rfl rfl (by decide) (Nat.le_of_ble_eq_true rfl) <|
lw_eq (tgt := 1676) (pc := 1059) dL_law_1059 (by decide) <| h0 _ hs2)
set_option maxHeartbeats 4000000 in
theorem lc_28 {K : pw_K} {G : pw_G} {b o L : Nat} {xs : Nat → Int32} {i : Int32} {Q : Unit → State → Prop} {μ : pw_Mem} (F : LF K G b L xs i) (hs : Sim μ) (h0 : ∀ μ2, Sim μ2 → PW K G RL cL_law 8 (some .boolean) 1300 Q (some ()) 1676 (lw_l G b o i) [] μ2) : PW K G RL cL_law 8 (some .boolean) 1300 Q (some ()) 1064 (lw_l G b o i) [] μ := by
  obtain ⟨r, e1, e2⟩ := op_night hs (xs (i + 1).toNatClampNeg) (xs (i + 2).toNatClampNeg) (xs (i + 3).toNatClampNeg) (xs (i + 4).toNatClampNeg)
  have hs2 := hs
  exact (pw_aload_n (pc := 1064) dL_law_1064 2 rfl <|
pw_aload_n (pc := 1065) dL_law_1065 1 rfl <|
pw_iload (pc := 1066) dL_law_1066 0 rfl <|
pw_iconst (v := 1) (pc := 1068) dL_law_1068 (by decide) <|
pw_iadd (pc := 1069) dL_law_1069 <|
pw_sld (i := i + 1) F F.2.2.2.2.1 (pc := 1070) dL_law_1070 <|
pw_aload_n (pc := 1071) dL_law_1071 1 rfl <|
pw_iload (pc := 1072) dL_law_1072 0 rfl <|
pw_iconst (v := 2) (pc := 1074) dL_law_1074 (by decide) <|
pw_iadd (pc := 1075) dL_law_1075 <|
pw_sld (i := i + 2) F F.2.2.2.2.2.1 (pc := 1076) dL_law_1076 <|
pw_aload_n (pc := 1077) dL_law_1077 1 rfl <|
pw_iload (pc := 1078) dL_law_1078 0 rfl <|
pw_iconst (v := 3) (pc := 1080) dL_law_1080 (by decide) <|
pw_iadd (pc := 1081) dL_law_1081 <|
pw_sld (i := i + 3) F F.2.2.2.2.2.2.1 (pc := 1082) dL_law_1082 <|
pw_aload_n (pc := 1083) dL_law_1083 1 rfl <|
pw_iload (pc := 1084) dL_law_1084 0 rfl <|
pw_iconst (v := 4) (pc := 1086) dL_law_1086 (by decide) <|
pw_iadd (pc := 1087) dL_law_1087 <|
pw_sld (i := i + 4) F F.2.2.2.2.2.2.2.1 (pc := 1088) dL_law_1088 <|
pw_goV (rest := []) (n := 4) (Py := (pw_Rl μ)) (tX10_night K.2.1 G (xs (i + 1).toNatClampNeg) (xs (i + 2).toNatClampNeg) (xs (i + 3).toNatClampNeg) (xs (i + 4).toNatClampNeg) μ) e1 (pw_sh_0) cfX10 rfl miX10_night mlL_137 (pc := 1089) dL_law_1089 rfl rfl (by decide) (Nat.le_of_ble_eq_true rfl) <|
pw_aload_n (pc := 1092) dL_law_1092 3 rfl <|
pw_aload_n (pc := 1093) dL_law_1093 1 rfl <|
pw_iload (pc := 1094) dL_law_1094 0 rfl <|
pw_iconst (v := 1) (pc := 1096) dL_law_1096 (by decide) <|
pw_iadd (pc := 1097) dL_law_1097 <|
pw_sld (i := i + 1) F F.2.2.2.2.1 (pc := 1098) dL_law_1098 <|
pw_aload_n (pc := 1099) dL_law_1099 1 rfl <|
pw_iload (pc := 1100) dL_law_1100 0 rfl <|
pw_iconst (v := 2) (pc := 1102) dL_law_1102 (by decide) <|
pw_iadd (pc := 1103) dL_law_1103 <|
pw_sld (i := i + 2) F F.2.2.2.2.2.1 (pc := 1104) dL_law_1104 <|
pw_aload_n (pc := 1105) dL_law_1105 1 rfl <|
pw_iload (pc := 1106) dL_law_1106 0 rfl <|
pw_iconst (v := 3) (pc := 1108) dL_law_1108 (by decide) <|
pw_iadd (pc := 1109) dL_law_1109 <|
pw_sld (i := i + 3) F F.2.2.2.2.2.2.1 (pc := 1110) dL_law_1110 <|
pw_aload_n (pc := 1111) dL_law_1111 1 rfl <|
pw_iload (pc := 1112) dL_law_1112 0 rfl <|
pw_iconst (v := 4) (pc := 1114) dL_law_1114 (by decide) <|
pw_iadd (pc := 1115) dL_law_1115 <|
pw_sld (i := i + 4) F F.2.2.2.2.2.2.2.1 (pc := 1116) dL_law_1116 <|
pw_goV (rest := [.long r]) (n := 4) (Py := (pw_Rl μ)) (tX11_night K.2.1 G (xs (i + 1).toNatClampNeg) (xs (i + 2).toNatClampNeg) (xs (i + 3).toNatClampNeg) (xs (i + 4).toNatClampNeg) μ) e2 (pw_sh_71) cfX11 rfl miX11_night mlL_141 (pc := 1117) dL_law_1117 rfl rfl (by decide) (Nat.le_of_ble_eq_true rfl) <|
lw_leq (tgt := 1676) (pc := 1120) dL_law_1120 dL_law_1121 (by decide) <| h0 _ hs2)
set_option maxHeartbeats 4000000 in
theorem lc_29 {K : pw_K} {G : pw_G} {b o L : Nat} {xs : Nat → Int32} {i : Int32} {Q : Unit → State → Prop} {μ : pw_Mem} (F : LF K G b L xs i) (hs : Sim μ) (h0 : ∀ μ2, Sim μ2 → PW K G RL cL_law 8 (some .boolean) 1300 Q (some ()) 1676 (lw_l G b o i) [] μ2) : PW K G RL cL_law 8 (some .boolean) 1300 Q (some ()) 1126 (lw_l G b o i) [] μ := by
  obtain ⟨r, e1, e2⟩ := op_mean hs (xs (i + 1).toNatClampNeg)
  have hs2 := hs
  exact (pw_aload_n (pc := 1126) dL_law_1126 2 rfl <|
pw_aload_n (pc := 1127) dL_law_1127 1 rfl <|
pw_iload (pc := 1128) dL_law_1128 0 rfl <|
pw_iconst (v := 1) (pc := 1130) dL_law_1130 (by decide) <|
pw_iadd (pc := 1131) dL_law_1131 <|
pw_sld (i := i + 1) F F.2.2.2.2.1 (pc := 1132) dL_law_1132 <|
pw_goV (rest := []) (n := 1) (Py := (pw_Rl μ)) (tX10_mean K.2.1 G (xs (i + 1).toNatClampNeg) μ) e1 (pw_sh_0) cfX10 rfl miX10_mean mlL_142 (pc := 1133) dL_law_1133 rfl rfl (by decide) (Nat.le_of_ble_eq_true rfl) <|
pw_aload_n (pc := 1136) dL_law_1136 3 rfl <|
pw_aload_n (pc := 1137) dL_law_1137 1 rfl <|
pw_iload (pc := 1138) dL_law_1138 0 rfl <|
pw_iconst (v := 1) (pc := 1140) dL_law_1140 (by decide) <|
pw_iadd (pc := 1141) dL_law_1141 <|
pw_sld (i := i + 1) F F.2.2.2.2.1 (pc := 1142) dL_law_1142 <|
pw_goV (rest := [.long r]) (n := 1) (Py := (pw_Rl μ)) (tX11_mean K.2.1 G (xs (i + 1).toNatClampNeg) μ) e2 (pw_sh_71) cfX11 rfl miX11_mean mlL_146 (pc := 1143) dL_law_1143 rfl rfl (by decide) (Nat.le_of_ble_eq_true rfl) <|
lw_leq (tgt := 1676) (pc := 1146) dL_law_1146 dL_law_1147 (by decide) <| h0 _ hs2)
set_option maxHeartbeats 4000000 in
theorem lc_30 {K : pw_K} {G : pw_G} {b o L : Nat} {xs : Nat → Int32} {i : Int32} {Q : Unit → State → Prop} {μ : pw_Mem} (F : LF K G b L xs i) (hs : Sim μ) (h0 : ∀ μ2, Sim μ2 → PW K G RL cL_law 8 (some .boolean) 1300 Q (some ()) 1676 (lw_l G b o i) [] μ2) : PW K G RL cL_law 8 (some .boolean) 1300 Q (some ()) 1152 (lw_l G b o i) [] μ := by
  obtain ⟨r, e1, e2⟩ := op_farthest hs (xs (i + 1).toNatClampNeg)
  have hs2 := hs
  exact (pw_aload_n (pc := 1152) dL_law_1152 2 rfl <|
pw_aload_n (pc := 1153) dL_law_1153 1 rfl <|
pw_iload (pc := 1154) dL_law_1154 0 rfl <|
pw_iconst (v := 1) (pc := 1156) dL_law_1156 (by decide) <|
pw_iadd (pc := 1157) dL_law_1157 <|
pw_sld (i := i + 1) F F.2.2.2.2.1 (pc := 1158) dL_law_1158 <|
pw_goV (rest := []) (n := 1) (Py := (pw_Ri μ)) (tX10_farthest K.2.1 G (xs (i + 1).toNatClampNeg) μ) e1 (pw_sh_0) cfX10 rfl miX10_farthest mlL_147 (pc := 1159) dL_law_1159 rfl rfl (by decide) (Nat.le_of_ble_eq_true rfl) <|
pw_aload_n (pc := 1162) dL_law_1162 3 rfl <|
pw_aload_n (pc := 1163) dL_law_1163 1 rfl <|
pw_iload (pc := 1164) dL_law_1164 0 rfl <|
pw_iconst (v := 1) (pc := 1166) dL_law_1166 (by decide) <|
pw_iadd (pc := 1167) dL_law_1167 <|
pw_sld (i := i + 1) F F.2.2.2.2.1 (pc := 1168) dL_law_1168 <|
pw_goV (rest := [.int r]) (n := 1) (Py := (pw_Ri μ)) (tX11_farthest K.2.1 G (xs (i + 1).toNatClampNeg) μ) e2 (pw_sh_71) cfX11 rfl miX11_farthest mlL_150 (pc := 1169) dL_law_1169 rfl rfl (by decide) (Nat.le_of_ble_eq_true rfl) <|
lw_eq (tgt := 1676) (pc := 1172) dL_law_1172 (by decide) <| h0 _ hs2)
set_option maxHeartbeats 4000000 in
theorem lc_31 {K : pw_K} {G : pw_G} {b o L : Nat} {xs : Nat → Int32} {i : Int32} {Q : Unit → State → Prop} {μ : pw_Mem} (F : LF K G b L xs i) (hs : Sim μ) (h0 : ∀ μ2, Sim μ2 → PW K G RL cL_law 8 (some .boolean) 1300 Q (some ()) 1676 (lw_l G b o i) [] μ2) : PW K G RL cL_law 8 (some .boolean) 1300 Q (some ()) 1177 (lw_l G b o i) [] μ := by
  obtain ⟨r, m1, m2, e1, e2, hs2⟩ := op_forged hs (xs (i + 1).toNatClampNeg)
  exact (pw_aload_n (pc := 1177) dL_law_1177 2 rfl <|
pw_aload_n (pc := 1178) dL_law_1178 1 rfl <|
pw_iload (pc := 1179) dL_law_1179 0 rfl <|
pw_iconst (v := 1) (pc := 1181) dL_law_1181 (by decide) <|
pw_iadd (pc := 1182) dL_law_1182 <|
pw_sld (i := i + 1) F F.2.2.2.2.1 (pc := 1183) dL_law_1183 <|
pw_goV (rest := []) (n := 1) (Py := pw_Wi) (tX10_forged K.2.1 G (xs (i + 1).toNatClampNeg) μ) e1 (pw_sh_0) cfX10 rfl miX10_forged mlL_151 (pc := 1184) dL_law_1184 rfl rfl (by decide) (Nat.le_of_ble_eq_true rfl) <|
pw_aload_n (pc := 1187) dL_law_1187 3 rfl <|
pw_aload_n (pc := 1188) dL_law_1188 1 rfl <|
pw_iload (pc := 1189) dL_law_1189 0 rfl <|
pw_iconst (v := 1) (pc := 1191) dL_law_1191 (by decide) <|
pw_iadd (pc := 1192) dL_law_1192 <|
pw_sld (i := i + 1) F F.2.2.2.2.1 (pc := 1193) dL_law_1193 <|
pw_goV (rest := [.int r]) (n := 1) (Py := pw_Wi) (tX11_forged K.2.1 G (xs (i + 1).toNatClampNeg) m1) e2 (pw_sh_71) cfX11 rfl miX11_forged mlL_154 (pc := 1194) dL_law_1194 rfl rfl (by decide) (Nat.le_of_ble_eq_true rfl) <|
lw_eq (tgt := 1676) (pc := 1197) dL_law_1197 (by decide) <| h0 _ hs2)
set_option maxHeartbeats 4000000 in
theorem lc_32 {K : pw_K} {G : pw_G} {b o L : Nat} {xs : Nat → Int32} {i : Int32} {Q : Unit → State → Prop} {μ : pw_Mem} (F : LF K G b L xs i) (hs : Sim μ) (h0 : ∀ μ2, Sim μ2 → PW K G RL cL_law 8 (some .boolean) 1300 Q (some ()) 1676 (lw_l G b o i) [] μ2) : PW K G RL cL_law 8 (some .boolean) 1300 Q (some ()) 1202 (lw_l G b o i) [] μ := by
  obtain ⟨r, m1, m2, e1, e2, hs2⟩ := op_judge hs (xs (i + 1).toNatClampNeg)
  exact (pw_aload_n (pc := 1202) dL_law_1202 2 rfl <|
pw_aload_n (pc := 1203) dL_law_1203 1 rfl <|
pw_iload (pc := 1204) dL_law_1204 0 rfl <|
pw_iconst (v := 1) (pc := 1206) dL_law_1206 (by decide) <|
pw_iadd (pc := 1207) dL_law_1207 <|
pw_sld (i := i + 1) F F.2.2.2.2.1 (pc := 1208) dL_law_1208 <|
pw_goV (rest := []) (n := 1) (Py := pw_Wi) (tX10_judge K.2.1 G (xs (i + 1).toNatClampNeg) μ) e1 (pw_sh_0) cfX10 rfl miX10_judge mlL_155 (pc := 1209) dL_law_1209 rfl rfl (by decide) (Nat.le_of_ble_eq_true rfl) <|
pw_aload_n (pc := 1212) dL_law_1212 3 rfl <|
pw_aload_n (pc := 1213) dL_law_1213 1 rfl <|
pw_iload (pc := 1214) dL_law_1214 0 rfl <|
pw_iconst (v := 1) (pc := 1216) dL_law_1216 (by decide) <|
pw_iadd (pc := 1217) dL_law_1217 <|
pw_sld (i := i + 1) F F.2.2.2.2.1 (pc := 1218) dL_law_1218 <|
pw_goV (rest := [.int r]) (n := 1) (Py := pw_Wi) (tX11_judge K.2.1 G (xs (i + 1).toNatClampNeg) m1) e2 (pw_sh_71) cfX11 rfl miX11_judge mlL_158 (pc := 1219) dL_law_1219 rfl rfl (by decide) (Nat.le_of_ble_eq_true rfl) <|
lw_eq (tgt := 1676) (pc := 1222) dL_law_1222 (by decide) <| h0 _ hs2)
set_option maxHeartbeats 4000000 in
theorem lc_33 {K : pw_K} {G : pw_G} {b o L : Nat} {xs : Nat → Int32} {i : Int32} {Q : Unit → State → Prop} {μ : pw_Mem} (F : LF K G b L xs i) (hs : Sim μ) (h0 : ∀ μ2, Sim μ2 → PW K G RL cL_law 8 (some .boolean) 1300 Q (some ()) 1676 (lw_l G b o i) [] μ2) : PW K G RL cL_law 8 (some .boolean) 1300 Q (some ()) 1227 (lw_l G b o i) [] μ := by
  obtain ⟨r, m1, m2, e1, e2, hs2⟩ := op_generations hs (xs (i + 1).toNatClampNeg) (xs (i + 2).toNatClampNeg) (xs (i + 3).toNatClampNeg)
  exact (pw_aload_n (pc := 1227) dL_law_1227 2 rfl <|
pw_aload_n (pc := 1228) dL_law_1228 1 rfl <|
pw_iload (pc := 1229) dL_law_1229 0 rfl <|
pw_iconst (v := 1) (pc := 1231) dL_law_1231 (by decide) <|
pw_iadd (pc := 1232) dL_law_1232 <|
pw_sld (i := i + 1) F F.2.2.2.2.1 (pc := 1233) dL_law_1233 <|
pw_aload_n (pc := 1234) dL_law_1234 1 rfl <|
pw_iload (pc := 1235) dL_law_1235 0 rfl <|
pw_iconst (v := 2) (pc := 1237) dL_law_1237 (by decide) <|
pw_iadd (pc := 1238) dL_law_1238 <|
pw_sld (i := i + 2) F F.2.2.2.2.2.1 (pc := 1239) dL_law_1239 <|
pw_aload_n (pc := 1240) dL_law_1240 1 rfl <|
pw_iload (pc := 1241) dL_law_1241 0 rfl <|
pw_iconst (v := 3) (pc := 1243) dL_law_1243 (by decide) <|
pw_iadd (pc := 1244) dL_law_1244 <|
pw_sld (i := i + 3) F F.2.2.2.2.2.2.1 (pc := 1245) dL_law_1245 <|
pw_goV (rest := []) (n := 3) (Py := pw_Wi) (tX10_generations K.2.1 G (xs (i + 1).toNatClampNeg) (xs (i + 2).toNatClampNeg) (xs (i + 3).toNatClampNeg) μ) e1 (pw_sh_0) cfX10 rfl miX10_generations mlL_159 (pc := 1246) dL_law_1246 rfl rfl (by decide) (Nat.le_of_ble_eq_true rfl) <|
pw_aload_n (pc := 1249) dL_law_1249 3 rfl <|
pw_aload_n (pc := 1250) dL_law_1250 1 rfl <|
pw_iload (pc := 1251) dL_law_1251 0 rfl <|
pw_iconst (v := 1) (pc := 1253) dL_law_1253 (by decide) <|
pw_iadd (pc := 1254) dL_law_1254 <|
pw_sld (i := i + 1) F F.2.2.2.2.1 (pc := 1255) dL_law_1255 <|
pw_aload_n (pc := 1256) dL_law_1256 1 rfl <|
pw_iload (pc := 1257) dL_law_1257 0 rfl <|
pw_iconst (v := 2) (pc := 1259) dL_law_1259 (by decide) <|
pw_iadd (pc := 1260) dL_law_1260 <|
pw_sld (i := i + 2) F F.2.2.2.2.2.1 (pc := 1261) dL_law_1261 <|
pw_aload_n (pc := 1262) dL_law_1262 1 rfl <|
pw_iload (pc := 1263) dL_law_1263 0 rfl <|
pw_iconst (v := 3) (pc := 1265) dL_law_1265 (by decide) <|
pw_iadd (pc := 1266) dL_law_1266 <|
pw_sld (i := i + 3) F F.2.2.2.2.2.2.1 (pc := 1267) dL_law_1267 <|
pw_goV (rest := [.int r]) (n := 3) (Py := pw_Wi) (tX11_generations K.2.1 G (xs (i + 1).toNatClampNeg) (xs (i + 2).toNatClampNeg) (xs (i + 3).toNatClampNeg) m1) e2 (pw_sh_71) cfX11 rfl miX11_generations mlL_162 (pc := 1268) dL_law_1268 rfl rfl (by decide) (Nat.le_of_ble_eq_true rfl) <|
lw_eq (tgt := 1676) (pc := 1271) dL_law_1271 (by decide) <| h0 _ hs2)
set_option maxHeartbeats 4000000 in
theorem lc_34 {K : pw_K} {G : pw_G} {b o L : Nat} {xs : Nat → Int32} {i : Int32} {Q : Unit → State → Prop} {μ : pw_Mem} (F : LF K G b L xs i) (hs : Sim μ) (h0 : ∀ μ2, Sim μ2 → PW K G RL cL_law 8 (some .boolean) 1300 Q (some ()) 1676 (lw_l G b o i) [] μ2) : PW K G RL cL_law 8 (some .boolean) 1300 Q (some ()) 1276 (lw_l G b o i) [] μ := by
  obtain ⟨r, m1, m2, e1, e2, hs2⟩ := op_image hs 
  exact (pw_aload_n (pc := 1276) dL_law_1276 2 rfl <|
pw_goV (rest := []) (n := 0) (Py := pw_Wi) (tX10_image K.2.1 G  μ) e1 (pw_sh_0) cfX10 rfl miX10_image mlL_163 (pc := 1277) dL_law_1277 rfl rfl (by decide) (Nat.le_of_ble_eq_true rfl) <|
pw_aload_n (pc := 1280) dL_law_1280 3 rfl <|
pw_goV (rest := [.int r]) (n := 0) (Py := pw_Wi) (tX11_image K.2.1 G  m1) e2 (pw_sh_71) cfX11 rfl miX11_image mlL_166 (pc := 1281) dL_law_1281 rfl rfl (by decide) (Nat.le_of_ble_eq_true rfl) <|
lw_eq (tgt := 1676) (pc := 1284) dL_law_1284 (by decide) <| h0 _ hs2)
set_option maxHeartbeats 4000000 in
theorem lc_35 {K : pw_K} {G : pw_G} {b o L : Nat} {xs : Nat → Int32} {i : Int32} {Q : Unit → State → Prop} {μ : pw_Mem} (F : LF K G b L xs i) (hs : Sim μ) (h0 : ∀ μ2, Sim μ2 → PW K G RL cL_law 8 (some .boolean) 1300 Q (some ()) 1676 (lw_l G b o i) [] μ2) : PW K G RL cL_law 8 (some .boolean) 1300 Q (some ()) 1289 (lw_l G b o i) [] μ := by
  obtain ⟨r, m1, m2, e1, e2, hs2⟩ := op_restore hs 
  exact (pw_aload_n (pc := 1289) dL_law_1289 2 rfl <|
pw_goV (rest := []) (n := 0) (Py := pw_Wi) (tX10_restore K.2.1 G  μ) e1 (pw_sh_0) cfX10 rfl miX10_restore mlL_167 (pc := 1290) dL_law_1290 rfl rfl (by decide) (Nat.le_of_ble_eq_true rfl) <|
pw_aload_n (pc := 1293) dL_law_1293 3 rfl <|
pw_goV (rest := [.int r]) (n := 0) (Py := pw_Wi) (tX11_restore K.2.1 G  m1) e2 (pw_sh_71) cfX11 rfl miX11_restore mlL_170 (pc := 1294) dL_law_1294 rfl rfl (by decide) (Nat.le_of_ble_eq_true rfl) <|
lw_eq (tgt := 1676) (pc := 1297) dL_law_1297 (by decide) <| h0 _ hs2)
set_option maxHeartbeats 4000000 in
theorem lc_36 {K : pw_K} {G : pw_G} {b o L : Nat} {xs : Nat → Int32} {i : Int32} {Q : Unit → State → Prop} {μ : pw_Mem} (F : LF K G b L xs i) (hs : Sim μ) (h0 : ∀ μ2, Sim μ2 → PW K G RL cL_law 8 (some .boolean) 1300 Q (some ()) 1676 (lw_l G b o i) [] μ2) : PW K G RL cL_law 8 (some .boolean) 1300 Q (some ()) 1302 (lw_l G b o i) [] μ := by
  obtain ⟨r, e1, e2⟩ := op_count hs (xs (i + 1).toNatClampNeg)
  have hs2 := hs
  exact (pw_aload_n (pc := 1302) dL_law_1302 2 rfl <|
pw_aload_n (pc := 1303) dL_law_1303 1 rfl <|
pw_iload (pc := 1304) dL_law_1304 0 rfl <|
pw_iconst (v := 1) (pc := 1306) dL_law_1306 (by decide) <|
pw_iadd (pc := 1307) dL_law_1307 <|
pw_sld (i := i + 1) F F.2.2.2.2.1 (pc := 1308) dL_law_1308 <|
pw_goV (rest := []) (n := 1) (Py := (pw_Ri μ)) (tX10_count K.2.1 G (xs (i + 1).toNatClampNeg) μ) e1 (pw_sh_0) cfX10 rfl miX10_count mlL_171 (pc := 1309) dL_law_1309 rfl rfl (by decide) (Nat.le_of_ble_eq_true rfl) <|
pw_aload_n (pc := 1312) dL_law_1312 3 rfl <|
pw_aload_n (pc := 1313) dL_law_1313 1 rfl <|
pw_iload (pc := 1314) dL_law_1314 0 rfl <|
pw_iconst (v := 1) (pc := 1316) dL_law_1316 (by decide) <|
pw_iadd (pc := 1317) dL_law_1317 <|
pw_sld (i := i + 1) F F.2.2.2.2.1 (pc := 1318) dL_law_1318 <|
pw_goV (rest := [.int r]) (n := 1) (Py := (pw_Ri μ)) (tX11_count K.2.1 G (xs (i + 1).toNatClampNeg) μ) e2 (pw_sh_71) cfX11 rfl miX11_count mlL_174 (pc := 1319) dL_law_1319 rfl rfl (by decide) (Nat.le_of_ble_eq_true rfl) <|
lw_eq (tgt := 1676) (pc := 1322) dL_law_1322 (by decide) <| h0 _ hs2)
set_option maxHeartbeats 4000000 in
theorem lc_37 {K : pw_K} {G : pw_G} {b o L : Nat} {xs : Nat → Int32} {i : Int32} {Q : Unit → State → Prop} {μ : pw_Mem} (F : LF K G b L xs i) (hs : Sim μ) (h0 : ∀ μ2, Sim μ2 → PW K G RL cL_law 8 (some .boolean) 1300 Q (some ()) 1676 (lw_l G b o i) [] μ2) : PW K G RL cL_law 8 (some .boolean) 1300 Q (some ()) 1327 (lw_l G b o i) [] μ := by
  obtain ⟨r, m1, m2, e1, e2, hs2⟩ := op_keep hs (xs (i + 1).toNatClampNeg) (xs (i + 2).toNatClampNeg) (xs (i + 3).toNatClampNeg) (xs (i + 4).toNatClampNeg)
  exact (pw_aload_n (pc := 1327) dL_law_1327 2 rfl <|
pw_aload_n (pc := 1328) dL_law_1328 1 rfl <|
pw_iload (pc := 1329) dL_law_1329 0 rfl <|
pw_iconst (v := 1) (pc := 1331) dL_law_1331 (by decide) <|
pw_iadd (pc := 1332) dL_law_1332 <|
pw_sld (i := i + 1) F F.2.2.2.2.1 (pc := 1333) dL_law_1333 <|
pw_aload_n (pc := 1334) dL_law_1334 1 rfl <|
pw_iload (pc := 1335) dL_law_1335 0 rfl <|
pw_iconst (v := 2) (pc := 1337) dL_law_1337 (by decide) <|
pw_iadd (pc := 1338) dL_law_1338 <|
pw_sld (i := i + 2) F F.2.2.2.2.2.1 (pc := 1339) dL_law_1339 <|
pw_aload_n (pc := 1340) dL_law_1340 1 rfl <|
pw_iload (pc := 1341) dL_law_1341 0 rfl <|
pw_iconst (v := 3) (pc := 1343) dL_law_1343 (by decide) <|
pw_iadd (pc := 1344) dL_law_1344 <|
pw_sld (i := i + 3) F F.2.2.2.2.2.2.1 (pc := 1345) dL_law_1345 <|
pw_aload_n (pc := 1346) dL_law_1346 1 rfl <|
pw_iload (pc := 1347) dL_law_1347 0 rfl <|
pw_iconst (v := 4) (pc := 1349) dL_law_1349 (by decide) <|
pw_iadd (pc := 1350) dL_law_1350 <|
pw_sld (i := i + 4) F F.2.2.2.2.2.2.2.1 (pc := 1351) dL_law_1351 <|
pw_goV (rest := []) (n := 4) (Py := pw_Wi) (tX10_keep K.2.1 G (xs (i + 1).toNatClampNeg) (xs (i + 2).toNatClampNeg) (xs (i + 3).toNatClampNeg) (xs (i + 4).toNatClampNeg) μ) e1 (pw_sh_0) cfX10 rfl miX10_keep mlL_175 (pc := 1352) dL_law_1352 rfl rfl (by decide) (Nat.le_of_ble_eq_true rfl) <|
pw_aload_n (pc := 1355) dL_law_1355 3 rfl <|
pw_aload_n (pc := 1356) dL_law_1356 1 rfl <|
pw_iload (pc := 1357) dL_law_1357 0 rfl <|
pw_iconst (v := 1) (pc := 1359) dL_law_1359 (by decide) <|
pw_iadd (pc := 1360) dL_law_1360 <|
pw_sld (i := i + 1) F F.2.2.2.2.1 (pc := 1361) dL_law_1361 <|
pw_aload_n (pc := 1362) dL_law_1362 1 rfl <|
pw_iload (pc := 1363) dL_law_1363 0 rfl <|
pw_iconst (v := 2) (pc := 1365) dL_law_1365 (by decide) <|
pw_iadd (pc := 1366) dL_law_1366 <|
pw_sld (i := i + 2) F F.2.2.2.2.2.1 (pc := 1367) dL_law_1367 <|
pw_aload_n (pc := 1368) dL_law_1368 1 rfl <|
pw_iload (pc := 1369) dL_law_1369 0 rfl <|
pw_iconst (v := 3) (pc := 1371) dL_law_1371 (by decide) <|
pw_iadd (pc := 1372) dL_law_1372 <|
pw_sld (i := i + 3) F F.2.2.2.2.2.2.1 (pc := 1373) dL_law_1373 <|
pw_aload_n (pc := 1374) dL_law_1374 1 rfl <|
pw_iload (pc := 1375) dL_law_1375 0 rfl <|
pw_iconst (v := 4) (pc := 1377) dL_law_1377 (by decide) <|
pw_iadd (pc := 1378) dL_law_1378 <|
pw_sld (i := i + 4) F F.2.2.2.2.2.2.2.1 (pc := 1379) dL_law_1379 <|
pw_goV (rest := [.int r]) (n := 4) (Py := pw_Wi) (tX11_keep K.2.1 G (xs (i + 1).toNatClampNeg) (xs (i + 2).toNatClampNeg) (xs (i + 3).toNatClampNeg) (xs (i + 4).toNatClampNeg) m1) e2 (pw_sh_71) cfX11 rfl miX11_keep mlL_179 (pc := 1380) dL_law_1380 rfl rfl (by decide) (Nat.le_of_ble_eq_true rfl) <|
lw_eq (tgt := 1676) (pc := 1383) dL_law_1383 (by decide) <| h0 _ hs2)
set_option maxHeartbeats 4000000 in
theorem lc_38 {K : pw_K} {G : pw_G} {b o L : Nat} {xs : Nat → Int32} {i : Int32} {Q : Unit → State → Prop} {μ : pw_Mem} (F : LF K G b L xs i) (hs : Sim μ) (h0 : ∀ μ2, Sim μ2 → PW K G RL cL_law 8 (some .boolean) 1300 Q (some ()) 1676 (lw_l G b o i) [] μ2) : PW K G RL cL_law 8 (some .boolean) 1300 Q (some ()) 1388 (lw_l G b o i) [] μ := by
  obtain ⟨r, m1, m2, e1, e2, hs2⟩ := op_row hs (xs (i + 1).toNatClampNeg) (xs (i + 2).toNatClampNeg) (xs (i + 3).toNatClampNeg)
  exact (pw_aload_n (pc := 1388) dL_law_1388 2 rfl <|
pw_aload_n (pc := 1389) dL_law_1389 1 rfl <|
pw_iload (pc := 1390) dL_law_1390 0 rfl <|
pw_iconst (v := 1) (pc := 1392) dL_law_1392 (by decide) <|
pw_iadd (pc := 1393) dL_law_1393 <|
pw_sld (i := i + 1) F F.2.2.2.2.1 (pc := 1394) dL_law_1394 <|
pw_aload_n (pc := 1395) dL_law_1395 1 rfl <|
pw_iload (pc := 1396) dL_law_1396 0 rfl <|
pw_iconst (v := 2) (pc := 1398) dL_law_1398 (by decide) <|
pw_iadd (pc := 1399) dL_law_1399 <|
pw_sld (i := i + 2) F F.2.2.2.2.2.1 (pc := 1400) dL_law_1400 <|
pw_aload_n (pc := 1401) dL_law_1401 1 rfl <|
pw_iload (pc := 1402) dL_law_1402 0 rfl <|
pw_iconst (v := 3) (pc := 1404) dL_law_1404 (by decide) <|
pw_iadd (pc := 1405) dL_law_1405 <|
pw_sld (i := i + 3) F F.2.2.2.2.2.2.1 (pc := 1406) dL_law_1406 <|
pw_goV (rest := []) (n := 3) (Py := pw_Wi) (tX10_row K.2.1 G (xs (i + 1).toNatClampNeg) (xs (i + 2).toNatClampNeg) (xs (i + 3).toNatClampNeg) μ) e1 (pw_sh_0) cfX10 rfl miX10_row mlL_180 (pc := 1407) dL_law_1407 rfl rfl (by decide) (Nat.le_of_ble_eq_true rfl) <|
pw_aload_n (pc := 1410) dL_law_1410 3 rfl <|
pw_aload_n (pc := 1411) dL_law_1411 1 rfl <|
pw_iload (pc := 1412) dL_law_1412 0 rfl <|
pw_iconst (v := 1) (pc := 1414) dL_law_1414 (by decide) <|
pw_iadd (pc := 1415) dL_law_1415 <|
pw_sld (i := i + 1) F F.2.2.2.2.1 (pc := 1416) dL_law_1416 <|
pw_aload_n (pc := 1417) dL_law_1417 1 rfl <|
pw_iload (pc := 1418) dL_law_1418 0 rfl <|
pw_iconst (v := 2) (pc := 1420) dL_law_1420 (by decide) <|
pw_iadd (pc := 1421) dL_law_1421 <|
pw_sld (i := i + 2) F F.2.2.2.2.2.1 (pc := 1422) dL_law_1422 <|
pw_aload_n (pc := 1423) dL_law_1423 1 rfl <|
pw_iload (pc := 1424) dL_law_1424 0 rfl <|
pw_iconst (v := 3) (pc := 1426) dL_law_1426 (by decide) <|
pw_iadd (pc := 1427) dL_law_1427 <|
pw_sld (i := i + 3) F F.2.2.2.2.2.2.1 (pc := 1428) dL_law_1428 <|
pw_goV (rest := [.int r]) (n := 3) (Py := pw_Wi) (tX11_row K.2.1 G (xs (i + 1).toNatClampNeg) (xs (i + 2).toNatClampNeg) (xs (i + 3).toNatClampNeg) m1) e2 (pw_sh_71) cfX11 rfl miX11_row mlL_183 (pc := 1429) dL_law_1429 rfl rfl (by decide) (Nat.le_of_ble_eq_true rfl) <|
lw_eq (tgt := 1676) (pc := 1432) dL_law_1432 (by decide) <| h0 _ hs2)
set_option maxHeartbeats 4000000 in
theorem lc_39 {K : pw_K} {G : pw_G} {b o L : Nat} {xs : Nat → Int32} {i : Int32} {Q : Unit → State → Prop} {μ : pw_Mem} (F : LF K G b L xs i) (hs : Sim μ) (h0 : ∀ μ2, Sim μ2 → PW K G RL cL_law 8 (some .boolean) 1300 Q (some ()) 1676 (lw_l G b o i) [] μ2) : PW K G RL cL_law 8 (some .boolean) 1300 Q (some ()) 1437 (lw_l G b o i) [] μ := by
  obtain ⟨r, m1, m2, e1, e2, hs2⟩ := op_put hs (xs (i + 1).toNatClampNeg) (xs (i + 2).toNatClampNeg) (xs (i + 3).toNatClampNeg)
  exact (pw_aload_n (pc := 1437) dL_law_1437 2 rfl <|
pw_aload_n (pc := 1438) dL_law_1438 1 rfl <|
pw_iload (pc := 1439) dL_law_1439 0 rfl <|
pw_iconst (v := 1) (pc := 1441) dL_law_1441 (by decide) <|
pw_iadd (pc := 1442) dL_law_1442 <|
pw_sld (i := i + 1) F F.2.2.2.2.1 (pc := 1443) dL_law_1443 <|
pw_aload_n (pc := 1444) dL_law_1444 1 rfl <|
pw_iload (pc := 1445) dL_law_1445 0 rfl <|
pw_iconst (v := 2) (pc := 1447) dL_law_1447 (by decide) <|
pw_iadd (pc := 1448) dL_law_1448 <|
pw_sld (i := i + 2) F F.2.2.2.2.2.1 (pc := 1449) dL_law_1449 <|
pw_aload_n (pc := 1450) dL_law_1450 1 rfl <|
pw_iload (pc := 1451) dL_law_1451 0 rfl <|
pw_iconst (v := 3) (pc := 1453) dL_law_1453 (by decide) <|
pw_iadd (pc := 1454) dL_law_1454 <|
pw_sld (i := i + 3) F F.2.2.2.2.2.2.1 (pc := 1455) dL_law_1455 <|
pw_goV (rest := []) (n := 3) (Py := pw_Wi) (tX10_put K.2.1 G (xs (i + 1).toNatClampNeg) (xs (i + 2).toNatClampNeg) (xs (i + 3).toNatClampNeg) μ) e1 (pw_sh_0) cfX10 rfl miX10_put mlL_184 (pc := 1456) dL_law_1456 rfl rfl (by decide) (Nat.le_of_ble_eq_true rfl) <|
pw_aload_n (pc := 1459) dL_law_1459 3 rfl <|
pw_aload_n (pc := 1460) dL_law_1460 1 rfl <|
pw_iload (pc := 1461) dL_law_1461 0 rfl <|
pw_iconst (v := 1) (pc := 1463) dL_law_1463 (by decide) <|
pw_iadd (pc := 1464) dL_law_1464 <|
pw_sld (i := i + 1) F F.2.2.2.2.1 (pc := 1465) dL_law_1465 <|
pw_aload_n (pc := 1466) dL_law_1466 1 rfl <|
pw_iload (pc := 1467) dL_law_1467 0 rfl <|
pw_iconst (v := 2) (pc := 1469) dL_law_1469 (by decide) <|
pw_iadd (pc := 1470) dL_law_1470 <|
pw_sld (i := i + 2) F F.2.2.2.2.2.1 (pc := 1471) dL_law_1471 <|
pw_aload_n (pc := 1472) dL_law_1472 1 rfl <|
pw_iload (pc := 1473) dL_law_1473 0 rfl <|
pw_iconst (v := 3) (pc := 1475) dL_law_1475 (by decide) <|
pw_iadd (pc := 1476) dL_law_1476 <|
pw_sld (i := i + 3) F F.2.2.2.2.2.2.1 (pc := 1477) dL_law_1477 <|
pw_goV (rest := [.int r]) (n := 3) (Py := pw_Wi) (tX11_put K.2.1 G (xs (i + 1).toNatClampNeg) (xs (i + 2).toNatClampNeg) (xs (i + 3).toNatClampNeg) m1) e2 (pw_sh_71) cfX11 rfl miX11_put mlL_187 (pc := 1478) dL_law_1478 rfl rfl (by decide) (Nat.le_of_ble_eq_true rfl) <|
lw_eq (tgt := 1676) (pc := 1481) dL_law_1481 (by decide) <| h0 _ hs2)
set_option maxHeartbeats 4000000 in
theorem lc_41 {K : pw_K} {G : pw_G} {b o L : Nat} {xs : Nat → Int32} {i : Int32} {Q : Unit → State → Prop} {μ : pw_Mem} (F : LF K G b L xs i) (hs : Sim μ) (h0 : ∀ μ2, Sim μ2 → PW K G RL cL_law 8 (some .boolean) 1300 Q (some ()) 1676 (lw_l G b o i) [] μ2) : PW K G RL cL_law 8 (some .boolean) 1300 Q (some ()) 1553 (lw_l G b o i) [] μ := by
  obtain ⟨r, m1, m2, e1, e2, hs2⟩ := op_copy hs (xs (i + 1).toNatClampNeg) (xs (i + 2).toNatClampNeg) (xs (i + 3).toNatClampNeg) (xs (i + 4).toNatClampNeg) (xs (i + 5).toNatClampNeg)
  exact (pw_aload_n (pc := 1553) dL_law_1553 2 rfl <|
pw_aload_n (pc := 1554) dL_law_1554 1 rfl <|
pw_iload (pc := 1555) dL_law_1555 0 rfl <|
pw_iconst (v := 1) (pc := 1557) dL_law_1557 (by decide) <|
pw_iadd (pc := 1558) dL_law_1558 <|
pw_sld (i := i + 1) F F.2.2.2.2.1 (pc := 1559) dL_law_1559 <|
pw_aload_n (pc := 1560) dL_law_1560 1 rfl <|
pw_iload (pc := 1561) dL_law_1561 0 rfl <|
pw_iconst (v := 2) (pc := 1563) dL_law_1563 (by decide) <|
pw_iadd (pc := 1564) dL_law_1564 <|
pw_sld (i := i + 2) F F.2.2.2.2.2.1 (pc := 1565) dL_law_1565 <|
pw_aload_n (pc := 1566) dL_law_1566 1 rfl <|
pw_iload (pc := 1567) dL_law_1567 0 rfl <|
pw_iconst (v := 3) (pc := 1569) dL_law_1569 (by decide) <|
pw_iadd (pc := 1570) dL_law_1570 <|
pw_sld (i := i + 3) F F.2.2.2.2.2.2.1 (pc := 1571) dL_law_1571 <|
pw_aload_n (pc := 1572) dL_law_1572 1 rfl <|
pw_iload (pc := 1573) dL_law_1573 0 rfl <|
pw_iconst (v := 4) (pc := 1575) dL_law_1575 (by decide) <|
pw_iadd (pc := 1576) dL_law_1576 <|
pw_sld (i := i + 4) F F.2.2.2.2.2.2.2.1 (pc := 1577) dL_law_1577 <|
pw_aload_n (pc := 1578) dL_law_1578 1 rfl <|
pw_iload (pc := 1579) dL_law_1579 0 rfl <|
pw_iconst (v := 5) (pc := 1581) dL_law_1581 (by decide) <|
pw_iadd (pc := 1582) dL_law_1582 <|
pw_sld (i := i + 5) F F.2.2.2.2.2.2.2.2 (pc := 1583) dL_law_1583 <|
pw_goV (rest := []) (n := 5) (Py := pw_Wi) (tX10_copy K.2.1 G (xs (i + 1).toNatClampNeg) (xs (i + 2).toNatClampNeg) (xs (i + 3).toNatClampNeg) (xs (i + 4).toNatClampNeg) (xs (i + 5).toNatClampNeg) μ) e1 (pw_sh_0) cfX10 rfl miX10_copy mlL_197 (pc := 1584) dL_law_1584 rfl rfl (by decide) (Nat.le_of_ble_eq_true rfl) <|
pw_aload_n (pc := 1587) dL_law_1587 3 rfl <|
pw_aload_n (pc := 1588) dL_law_1588 1 rfl <|
pw_iload (pc := 1589) dL_law_1589 0 rfl <|
pw_iconst (v := 1) (pc := 1591) dL_law_1591 (by decide) <|
pw_iadd (pc := 1592) dL_law_1592 <|
pw_sld (i := i + 1) F F.2.2.2.2.1 (pc := 1593) dL_law_1593 <|
pw_aload_n (pc := 1594) dL_law_1594 1 rfl <|
pw_iload (pc := 1595) dL_law_1595 0 rfl <|
pw_iconst (v := 2) (pc := 1597) dL_law_1597 (by decide) <|
pw_iadd (pc := 1598) dL_law_1598 <|
pw_sld (i := i + 2) F F.2.2.2.2.2.1 (pc := 1599) dL_law_1599 <|
pw_aload_n (pc := 1600) dL_law_1600 1 rfl <|
pw_iload (pc := 1601) dL_law_1601 0 rfl <|
pw_iconst (v := 3) (pc := 1603) dL_law_1603 (by decide) <|
pw_iadd (pc := 1604) dL_law_1604 <|
pw_sld (i := i + 3) F F.2.2.2.2.2.2.1 (pc := 1605) dL_law_1605 <|
pw_aload_n (pc := 1606) dL_law_1606 1 rfl <|
pw_iload (pc := 1607) dL_law_1607 0 rfl <|
pw_iconst (v := 4) (pc := 1609) dL_law_1609 (by decide) <|
pw_iadd (pc := 1610) dL_law_1610 <|
pw_sld (i := i + 4) F F.2.2.2.2.2.2.2.1 (pc := 1611) dL_law_1611 <|
pw_aload_n (pc := 1612) dL_law_1612 1 rfl <|
pw_iload (pc := 1613) dL_law_1613 0 rfl <|
pw_iconst (v := 5) (pc := 1615) dL_law_1615 (by decide) <|
pw_iadd (pc := 1616) dL_law_1616 <|
pw_sld (i := i + 5) F F.2.2.2.2.2.2.2.2 (pc := 1617) dL_law_1617 <|
pw_goV (rest := [.int r]) (n := 5) (Py := pw_Wi) (tX11_copy K.2.1 G (xs (i + 1).toNatClampNeg) (xs (i + 2).toNatClampNeg) (xs (i + 3).toNatClampNeg) (xs (i + 4).toNatClampNeg) (xs (i + 5).toNatClampNeg) m1) e2 (pw_sh_71) cfX11 rfl miX11_copy mlL_201 (pc := 1618) dL_law_1618 rfl rfl (by decide) (Nat.le_of_ble_eq_true rfl) <|
lw_eq (tgt := 1676) (pc := 1621) dL_law_1621 (by decide) <| h0 _ hs2)
set_option maxHeartbeats 4000000 in
theorem lc_42 {K : pw_K} {G : pw_G} {b o L : Nat} {xs : Nat → Int32} {i : Int32} {Q : Unit → State → Prop} {μ : pw_Mem} (F : LF K G b L xs i) (hs : Sim μ) (h0 : ∀ μ2, Sim μ2 → PW K G RL cL_law 8 (some .boolean) 1300 Q (some ()) 1676 (lw_l G b o i) [] μ2) : PW K G RL cL_law 8 (some .boolean) 1300 Q (some ()) 1626 (lw_l G b o i) [] μ := by
  obtain ⟨r, e1, e2⟩ := op_cost hs (xs (i + 1).toNatClampNeg)
  have hs2 := hs
  exact (pw_aload_n (pc := 1626) dL_law_1626 2 rfl <|
pw_aload_n (pc := 1627) dL_law_1627 1 rfl <|
pw_iload (pc := 1628) dL_law_1628 0 rfl <|
pw_iconst (v := 1) (pc := 1630) dL_law_1630 (by decide) <|
pw_iadd (pc := 1631) dL_law_1631 <|
pw_sld (i := i + 1) F F.2.2.2.2.1 (pc := 1632) dL_law_1632 <|
pw_goV (rest := []) (n := 1) (Py := (pw_Ri μ)) (tX10_cost K.2.1 G (xs (i + 1).toNatClampNeg) μ) e1 (pw_sh_0) cfX10 rfl miX10_cost mlL_202 (pc := 1633) dL_law_1633 rfl rfl (by decide) (Nat.le_of_ble_eq_true rfl) <|
pw_aload_n (pc := 1636) dL_law_1636 3 rfl <|
pw_aload_n (pc := 1637) dL_law_1637 1 rfl <|
pw_iload (pc := 1638) dL_law_1638 0 rfl <|
pw_iconst (v := 1) (pc := 1640) dL_law_1640 (by decide) <|
pw_iadd (pc := 1641) dL_law_1641 <|
pw_sld (i := i + 1) F F.2.2.2.2.1 (pc := 1642) dL_law_1642 <|
pw_goV (rest := [.int r]) (n := 1) (Py := (pw_Ri μ)) (tX11_cost K.2.1 G (xs (i + 1).toNatClampNeg) μ) e2 (pw_sh_71) cfX11 rfl miX11_cost mlL_205 (pc := 1643) dL_law_1643 rfl rfl (by decide) (Nat.le_of_ble_eq_true rfl) <|
lw_eq (tgt := 1676) (pc := 1646) dL_law_1646 (by decide) <| h0 _ hs2)
set_option maxHeartbeats 4000000 in
theorem lc_43 {K : pw_K} {G : pw_G} {b o L : Nat} {xs : Nat → Int32} {i : Int32} {Q : Unit → State → Prop} {μ : pw_Mem} (hl : K.2.1.stackTraces = false) (hE : px_E G K.2.2.2.2.1 K.2.2.2.2.2.2.2.2.2.2.2.2) (hR : K.2.2.2.2.2.2.2.2.2.2.1 + 1 ≤ K.2.2.2.1.cells ∧ K.2.2.2.2.2.2.2.2.2.2.2.1 + 6 ≤ K.2.2.2.1.slots) (F : LF K G b L xs i) (F2 : LF (px_up K) G b L xs i) (hs : Sim μ) (h0 : ∀ μ2, Sim μ2 → PW (px_up K) G RL cL_law 8 (some .boolean) 1300 Q (some ()) 1676 (lw_l G b o i) [] μ2) : PW K G RL cL_law 8 (some .boolean) 1300 Q (some ()) 1651 (lw_l G b o i) [] μ := by
  obtain ⟨r, e1, e2⟩ := op_toss hs (xs (i + 1).toNatClampNeg)
  have hs2 := hs
  exact (pw_aload_n (pc := 1651) dL_law_1651 2 rfl <|
pw_aload_n (pc := 1652) dL_law_1652 1 rfl <|
pw_iload (pc := 1653) dL_law_1653 0 rfl <|
pw_iconst (v := 1) (pc := 1655) dL_law_1655 (by decide) <|
pw_iadd (pc := 1656) dL_law_1656 <|
pw_sld (i := i + 1) F F.2.2.2.2.1 (pc := 1657) dL_law_1657 <|
px_goVX (rest := []) (n := 1) hE hR (tX10_toss K.2.1 hl G (xs (i + 1).toNatClampNeg) μ) e1 rfl (pw_sh_0) cfX10 rfl miX10_toss mlL_206 (pc := 1658) dL_law_1658 rfl rfl (by decide) (Nat.le_of_ble_eq_true rfl) <|
pw_aload_n (pc := 1661) dL_law_1661 3 rfl <|
pw_aload_n (pc := 1662) dL_law_1662 1 rfl <|
pw_iload (pc := 1663) dL_law_1663 0 rfl <|
pw_iconst (v := 1) (pc := 1665) dL_law_1665 (by decide) <|
pw_iadd (pc := 1666) dL_law_1666 <|
pw_sld (K := px_up K) (i := i + 1) F2 F2.2.2.2.2.1 (pc := 1667) dL_law_1667 <|
pw_goV (rest := [.int r]) (n := 1) (Py := (pw_Ri μ)) (tX11_toss (px_up K).2.1 G (xs (i + 1).toNatClampNeg) μ) e2 (pw_sh_71) cfX11 rfl miX11_toss mlL_209 (pc := 1668) dL_law_1668 rfl rfl (by decide) (Nat.le_of_ble_eq_true rfl) <|
lw_eq (tgt := 1676) (pc := 1671) dL_law_1671 (by decide) <| h0 _ hs2)
