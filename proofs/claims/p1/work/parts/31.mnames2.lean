theorem d_Model_init_306 : decode b_Model_init 306 = .ok (.aload_n 0, 1) := by decide +kernel
theorem d_Model_init_307 : decode b_Model_init 307 = .ok (.sipush 8200, 3) := by decide +kernel
theorem d_Model_init_310 : decode b_Model_init 310 = .ok (.newarray .int, 2) := by decide +kernel
theorem d_Model_init_312 : decode b_Model_init 312 = .ok (.putfield 120, 3) := by decide +kernel
theorem fl_Model_120 : Cond.fieldLink R_Model 120 "PointerHouseModel" "kind" "[I" ∈ lw_good := lg_right (i := 1861) (by decide +kernel) rfl
theorem d_Model_init_315 : decode b_Model_init 315 = .ok (.aload_n 0, 1) := by decide +kernel
theorem d_Model_init_316 : decode b_Model_init 316 = .ok (.sipush 8200, 3) := by decide +kernel
theorem d_Model_init_319 : decode b_Model_init 319 = .ok (.newarray .int, 2) := by decide +kernel
theorem d_Model_init_321 : decode b_Model_init 321 = .ok (.putfield 123, 3) := by decide +kernel
theorem fl_Model_123 : Cond.fieldLink R_Model 123 "PointerHouseModel" "at" "[I" ∈ lw_good := lg_right (i := 1862) (by decide +kernel) rfl
theorem d_Model_init_324 : decode b_Model_init 324 = .ok (.aload_n 0, 1) := by decide +kernel
theorem d_Model_init_325 : decode b_Model_init 325 = .ok (.sipush 8200, 3) := by decide +kernel
theorem d_Model_init_328 : decode b_Model_init 328 = .ok (.newarray .int, 2) := by decide +kernel
theorem d_Model_init_330 : decode b_Model_init 330 = .ok (.putfield 126, 3) := by decide +kernel
theorem fl_Model_126 : Cond.fieldLink R_Model 126 "PointerHouseModel" "one" "[I" ∈ lw_good := lg_right (i := 1863) (by decide +kernel) rfl
theorem d_Model_init_333 : decode b_Model_init 333 = .ok (.aload_n 0, 1) := by decide +kernel
theorem d_Model_init_334 : decode b_Model_init 334 = .ok (.sipush 8200, 3) := by decide +kernel
theorem d_Model_init_337 : decode b_Model_init 337 = .ok (.newarray .int, 2) := by decide +kernel
theorem d_Model_init_339 : decode b_Model_init 339 = .ok (.putfield 129, 3) := by decide +kernel
theorem fl_Model_129 : Cond.fieldLink R_Model 129 "PointerHouseModel" "two" "[I" ∈ lw_good := lg_right (i := 1864) (by decide +kernel) rfl
theorem d_Model_init_342 : decode b_Model_init 342 = .ok (.aload_n 0, 1) := by decide +kernel
theorem d_Model_init_343 : decode b_Model_init 343 = .ok (.sipush 8200, 3) := by decide +kernel
theorem d_Model_init_346 : decode b_Model_init 346 = .ok (.newarray .int, 2) := by decide +kernel
theorem d_Model_init_348 : decode b_Model_init 348 = .ok (.putfield 132, 3) := by decide +kernel
theorem fl_Model_132 : Cond.fieldLink R_Model 132 "PointerHouseModel" "three" "[I" ∈ lw_good := lg_right (i := 1865) (by decide +kernel) rfl
theorem d_Model_init_351 : decode b_Model_init 351 = .ok (.aload_n 0, 1) := by decide +kernel
theorem d_Model_init_352 : decode b_Model_init 352 = .ok (.sipush 8200, 3) := by decide +kernel
theorem d_Model_init_355 : decode b_Model_init 355 = .ok (.newarray .int, 2) := by decide +kernel
theorem d_Model_init_357 : decode b_Model_init 357 = .ok (.putfield 135, 3) := by decide +kernel
theorem fl_Model_135 : Cond.fieldLink R_Model 135 "PointerHouseModel" "next" "[I" ∈ lw_good := lg_right (i := 1866) (by decide +kernel) rfl
theorem d_Model_init_360 : decode b_Model_init 360 = .ok (.aload_n 0, 1) := by decide +kernel
theorem d_Model_init_361 : decode b_Model_init 361 = .ok (.sipush 8200, 3) := by decide +kernel
theorem d_Model_init_364 : decode b_Model_init 364 = .ok (.newarray .long, 2) := by decide +kernel
theorem d_Model_init_366 : decode b_Model_init 366 = .ok (.putfield 138, 3) := by decide +kernel
theorem fl_Model_138 : Cond.fieldLink R_Model 138 "PointerHouseModel" "name" "[J" ∈ lw_good := lg_right (i := 1867) (by decide +kernel) rfl
theorem d_Model_init_369 : decode b_Model_init 369 = .ok (.aload_n 0, 1) := by decide +kernel
theorem d_Model_init_370 : decode b_Model_init 370 = .ok (.sipush 8200, 3) := by decide +kernel
theorem d_Model_init_373 : decode b_Model_init 373 = .ok (.newarray .int, 2) := by decide +kernel
theorem d_Model_init_375 : decode b_Model_init 375 = .ok (.putfield 141, 3) := by decide +kernel
theorem fl_Model_141 : Cond.fieldLink R_Model 141 "PointerHouseModel" "namePlace" "[I" ∈ lw_good := lg_right (i := 1868) (by decide +kernel) rfl
theorem d_Model_init_378 : decode b_Model_init 378 = .ok (.aload_n 0, 1) := by decide +kernel
theorem d_Model_init_379 : decode b_Model_init 379 = .ok (.sipush 8200, 3) := by decide +kernel
theorem d_Model_init_382 : decode b_Model_init 382 = .ok (.newarray .int, 2) := by decide +kernel
theorem d_Model_init_384 : decode b_Model_init 384 = .ok (.putfield 144, 3) := by decide +kernel
theorem fl_Model_144 : Cond.fieldLink R_Model 144 "PointerHouseModel" "use" "[I" ∈ lw_good := lg_right (i := 1869) (by decide +kernel) rfl
theorem d_Model_init_387 : decode b_Model_init 387 = .ok (.aload_n 0, 1) := by decide +kernel
theorem d_Model_init_388 : decode b_Model_init 388 = .ok (.sipush 8200, 3) := by decide +kernel
theorem d_Model_init_391 : decode b_Model_init 391 = .ok (.newarray .int, 2) := by decide +kernel
theorem d_Model_init_393 : decode b_Model_init 393 = .ok (.putfield 147, 3) := by decide +kernel
theorem fl_Model_147 : Cond.fieldLink R_Model 147 "PointerHouseModel" "manyUses" "[I" ∈ lw_good := lg_right (i := 1870) (by decide +kernel) rfl
theorem d_Model_init_396 : decode b_Model_init 396 = .ok (.aload_n 0, 1) := by decide +kernel
theorem d_Model_init_397 : decode b_Model_init 397 = .ok (.sipush 8200, 3) := by decide +kernel
theorem d_Model_init_400 : decode b_Model_init 400 = .ok (.newarray .int, 2) := by decide +kernel
theorem d_Model_init_402 : decode b_Model_init 402 = .ok (.putfield 150, 3) := by decide +kernel
theorem fl_Model_150 : Cond.fieldLink R_Model 150 "PointerHouseModel" "typeOf" "[I" ∈ lw_good := lg_right (i := 1871) (by decide +kernel) rfl
theorem d_Model_init_405 : decode b_Model_init 405 = .ok (.aload_n 0, 1) := by decide +kernel
theorem d_Model_init_406 : decode b_Model_init 406 = .ok (.sipush 8200, 3) := by decide +kernel
theorem d_Model_init_409 : decode b_Model_init 409 = .ok (.newarray .int, 2) := by decide +kernel
theorem d_Model_init_411 : decode b_Model_init 411 = .ok (.putfield 153, 3) := by decide +kernel
theorem fl_Model_153 : Cond.fieldLink R_Model 153 "PointerHouseModel" "found" "[I" ∈ lw_good := lg_right (i := 1872) (by decide +kernel) rfl
theorem d_Model_init_414 : decode b_Model_init 414 = .ok (.aload_n 0, 1) := by decide +kernel
theorem d_Model_init_415 : decode b_Model_init 415 = .ok (.sipush 6000, 3) := by decide +kernel
theorem d_Model_init_418 : decode b_Model_init 418 = .ok (.newarray .int, 2) := by decide +kernel
theorem d_Model_init_420 : decode b_Model_init 420 = .ok (.putfield 156, 3) := by decide +kernel
theorem fl_Model_156 : Cond.fieldLink R_Model 156 "PointerHouseModel" "kindOf" "[I" ∈ lw_good := lg_right (i := 1877) (by decide +kernel) rfl
theorem d_Model_init_423 : decode b_Model_init 423 = .ok (.aload_n 0, 1) := by decide +kernel
theorem d_Model_init_424 : decode b_Model_init 424 = .ok (.sipush 6000, 3) := by decide +kernel
theorem d_Model_init_427 : decode b_Model_init 427 = .ok (.newarray .int, 2) := by decide +kernel
theorem d_Model_init_429 : decode b_Model_init 429 = .ok (.putfield 159, 3) := by decide +kernel
theorem fl_Model_159 : Cond.fieldLink R_Model 159 "PointerHouseModel" "regionOf" "[I" ∈ lw_good := lg_right (i := 1878) (by decide +kernel) rfl
theorem d_Model_init_432 : decode b_Model_init 432 = .ok (.aload_n 0, 1) := by decide +kernel
theorem d_Model_init_433 : decode b_Model_init 433 = .ok (.sipush 6000, 3) := by decide +kernel
theorem d_Model_init_436 : decode b_Model_init 436 = .ok (.newarray .int, 2) := by decide +kernel
theorem d_Model_init_438 : decode b_Model_init 438 = .ok (.putfield 162, 3) := by decide +kernel
theorem fl_Model_162 : Cond.fieldLink R_Model 162 "PointerHouseModel" "innerOf" "[I" ∈ lw_good := lg_right (i := 1879) (by decide +kernel) rfl
theorem d_Model_init_441 : decode b_Model_init 441 = .ok (.aload_n 0, 1) := by decide +kernel
theorem d_Model_init_442 : decode b_Model_init 442 = .ok (.sipush 6000, 3) := by decide +kernel
theorem d_Model_init_445 : decode b_Model_init 445 = .ok (.newarray .int, 2) := by decide +kernel
theorem d_Model_init_447 : decode b_Model_init 447 = .ok (.putfield 165, 3) := by decide +kernel
theorem fl_Model_165 : Cond.fieldLink R_Model 165 "PointerHouseModel" "titleOf" "[I" ∈ lw_good := lg_right (i := 1880) (by decide +kernel) rfl
theorem d_Model_init_450 : decode b_Model_init 450 = .ok (.aload_n 0, 1) := by decide +kernel
theorem d_Model_init_451 : decode b_Model_init 451 = .ok (.sipush 6000, 3) := by decide +kernel
theorem d_Model_init_454 : decode b_Model_init 454 = .ok (.newarray .int, 2) := by decide +kernel
theorem d_Model_init_456 : decode b_Model_init 456 = .ok (.putfield 168, 3) := by decide +kernel
theorem fl_Model_168 : Cond.fieldLink R_Model 168 "PointerHouseModel" "withOf" "[I" ∈ lw_good := lg_right (i := 1881) (by decide +kernel) rfl
theorem d_Model_init_459 : decode b_Model_init 459 = .ok (.aload_n 0, 1) := by decide +kernel
theorem d_Model_init_460 : decode b_Model_init 460 = .ok (.bipush 12, 2) := by decide +kernel
theorem d_Model_init_462 : decode b_Model_init 462 = .ok (.newarray .long, 2) := by decide +kernel
theorem d_Model_init_464 : decode b_Model_init 464 = .ok (.putfield 171, 3) := by decide +kernel
theorem fl_Model_171 : Cond.fieldLink R_Model 171 "PointerHouseModel" "seenName" "[J" ∈ lw_good := lg_right (i := 1883) (by decide +kernel) rfl
