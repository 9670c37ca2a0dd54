theorem d_Model_init_467 : decode b_Model_init 467 = .ok (.aload_n 0, 1) := by decide +kernel
theorem d_Model_init_468 : decode b_Model_init 468 = .ok (.bipush 12, 2) := by decide +kernel
theorem d_Model_init_470 : decode b_Model_init 470 = .ok (.newarray .int, 2) := by decide +kernel
theorem d_Model_init_472 : decode b_Model_init 472 = .ok (.putfield 174, 3) := by decide +kernel
theorem fl_Model_174 : Cond.fieldLink R_Model 174 "PointerHouseModel" "seenCode" "[I" ∈ lw_good := lg_right (i := 1884) (by decide +kernel) rfl
theorem d_Model_init_475 : decode b_Model_init 475 = .ok (.aload_n 0, 1) := by decide +kernel
theorem d_Model_init_476 : decode b_Model_init 476 = .ok (.bipush 12, 2) := by decide +kernel
theorem d_Model_init_478 : decode b_Model_init 478 = .ok (.newarray .int, 2) := by decide +kernel
theorem d_Model_init_480 : decode b_Model_init 480 = .ok (.putfield 177, 3) := by decide +kernel
theorem fl_Model_177 : Cond.fieldLink R_Model 177 "PointerHouseModel" "inside" "[I" ∈ lw_good := lg_right (i := 1885) (by decide +kernel) rfl
theorem d_Model_init_483 : decode b_Model_init 483 = .ok (.aload_n 0, 1) := by decide +kernel
theorem d_Model_init_484 : decode b_Model_init 484 = .ok (.bipush 20, 2) := by decide +kernel
theorem d_Model_init_486 : decode b_Model_init 486 = .ok (.newarray .long, 2) := by decide +kernel
theorem d_Model_init_488 : decode b_Model_init 488 = .ok (.putfield 180, 3) := by decide +kernel
theorem fl_Model_180 : Cond.fieldLink R_Model 180 "PointerHouseModel" "varName" "[J" ∈ lw_good := lg_right (i := 1889) (by decide +kernel) rfl
theorem d_Model_init_491 : decode b_Model_init 491 = .ok (.aload_n 0, 1) := by decide +kernel
theorem d_Model_init_492 : decode b_Model_init 492 = .ok (.bipush 20, 2) := by decide +kernel
theorem d_Model_init_494 : decode b_Model_init 494 = .ok (.newarray .int, 2) := by decide +kernel
theorem d_Model_init_496 : decode b_Model_init 496 = .ok (.putfield 183, 3) := by decide +kernel
theorem fl_Model_183 : Cond.fieldLink R_Model 183 "PointerHouseModel" "varSlot" "[I" ∈ lw_good := lg_right (i := 1890) (by decide +kernel) rfl
theorem d_Model_init_499 : decode b_Model_init 499 = .ok (.aload_n 0, 1) := by decide +kernel
theorem d_Model_init_500 : decode b_Model_init 500 = .ok (.bipush 20, 2) := by decide +kernel
theorem d_Model_init_502 : decode b_Model_init 502 = .ok (.newarray .int, 2) := by decide +kernel
theorem d_Model_init_504 : decode b_Model_init 504 = .ok (.putfield 186, 3) := by decide +kernel
theorem fl_Model_186 : Cond.fieldLink R_Model 186 "PointerHouseModel" "varType" "[I" ∈ lw_good := lg_right (i := 1891) (by decide +kernel) rfl
theorem d_Model_init_507 : decode b_Model_init 507 = .ok (.aload_n 0, 1) := by decide +kernel
theorem d_Model_init_508 : decode b_Model_init 508 = .ok (.bipush 40, 2) := by decide +kernel
theorem d_Model_init_510 : decode b_Model_init 510 = .ok (.newarray .int, 2) := by decide +kernel
theorem d_Model_init_512 : decode b_Model_init 512 = .ok (.putfield 189, 3) := by decide +kernel
theorem fl_Model_189 : Cond.fieldLink R_Model 189 "PointerHouseModel" "around" "[I" ∈ lw_good := lg_right (i := 1896) (by decide +kernel) rfl
theorem d_Model_init_515 : decode b_Model_init 515 = .ok (.aload_n 0, 1) := by decide +kernel
theorem d_Model_init_516 : decode b_Model_init 516 = .ok (.sipush 8200, 3) := by decide +kernel
theorem d_Model_init_519 : decode b_Model_init 519 = .ok (.newarray .int, 2) := by decide +kernel
theorem d_Model_init_521 : decode b_Model_init 521 = .ok (.putfield 192, 3) := by decide +kernel
theorem fl_Model_192 : Cond.fieldLink R_Model 192 "PointerHouseModel" "spine" "[I" ∈ lw_good := lg_right (i := 1904) (by decide +kernel) rfl
theorem d_Model_init_524 : decode b_Model_init 524 = .ok (.aload_n 0, 1) := by decide +kernel
theorem d_Model_init_525 : decode b_Model_init 525 = .ok (.sipush 12000, 3) := by decide +kernel
theorem d_Model_init_528 : decode b_Model_init 528 = .ok (.newarray .int, 2) := by decide +kernel
theorem d_Model_init_530 : decode b_Model_init 530 = .ok (.putfield 195, 3) := by decide +kernel
theorem fl_Model_195 : Cond.fieldLink R_Model 195 "PointerHouseModel" "code" "[I" ∈ lw_good := lg_right (i := 1907) (by decide +kernel) rfl
theorem d_Model_init_533 : decode b_Model_init 533 = .ok (.aload_n 0, 1) := by decide +kernel
theorem d_Model_init_534 : decode b_Model_init 534 = .ok (.sipush 12000, 3) := by decide +kernel
theorem d_Model_init_537 : decode b_Model_init 537 = .ok (.newarray .int, 2) := by decide +kernel
theorem d_Model_init_539 : decode b_Model_init 539 = .ok (.putfield 198, 3) := by decide +kernel
theorem d_Model_init_542 : decode b_Model_init 542 = .ok (.aload_n 0, 1) := by decide +kernel
theorem d_Model_init_543 : decode b_Model_init 543 = .ok (.sipush 12000, 3) := by decide +kernel
theorem d_Model_init_546 : decode b_Model_init 546 = .ok (.newarray .int, 2) := by decide +kernel
theorem d_Model_init_548 : decode b_Model_init 548 = .ok (.putfield 201, 3) := by decide +kernel
theorem fl_Model_201 : Cond.fieldLink R_Model 201 "PointerHouseModel" "second" "[I" ∈ lw_good := lg_right (i := 1909) (by decide +kernel) rfl
theorem d_Model_init_551 : decode b_Model_init 551 = .ok (.aload_n 0, 1) := by decide +kernel
theorem d_Model_init_552 : decode b_Model_init 552 = .ok (.sipush 12000, 3) := by decide +kernel
theorem d_Model_init_555 : decode b_Model_init 555 = .ok (.newarray .int, 2) := by decide +kernel
theorem d_Model_init_557 : decode b_Model_init 557 = .ok (.putfield 204, 3) := by decide +kernel
theorem fl_Model_204 : Cond.fieldLink R_Model 204 "PointerHouseModel" "third" "[I" ∈ lw_good := lg_right (i := 1910) (by decide +kernel) rfl
theorem d_Model_init_560 : decode b_Model_init 560 = .ok (.aload_n 0, 1) := by decide +kernel
theorem d_Model_init_561 : decode b_Model_init 561 = .ok (.sipush 8200, 3) := by decide +kernel
theorem d_Model_init_564 : decode b_Model_init 564 = .ok (.newarray .int, 2) := by decide +kernel
theorem d_Model_init_566 : decode b_Model_init 566 = .ok (.putfield 207, 3) := by decide +kernel
theorem fl_Model_207 : Cond.fieldLink R_Model 207 "PointerHouseModel" "x" "[I" ∈ lw_good := lg_right (i := 1921) (by decide +kernel) rfl
theorem d_Model_init_569 : decode b_Model_init 569 = .ok (.aload_n 0, 1) := by decide +kernel
theorem d_Model_init_570 : decode b_Model_init 570 = .ok (.sipush 8200, 3) := by decide +kernel
theorem d_Model_init_573 : decode b_Model_init 573 = .ok (.newarray .int, 2) := by decide +kernel
theorem d_Model_init_575 : decode b_Model_init 575 = .ok (.putfield 210, 3) := by decide +kernel
theorem fl_Model_210 : Cond.fieldLink R_Model 210 "PointerHouseModel" "y" "[I" ∈ lw_good := lg_right (i := 1922) (by decide +kernel) rfl
theorem d_Model_init_578 : decode b_Model_init 578 = .ok (.aload_n 0, 1) := by decide +kernel
theorem d_Model_init_579 : decode b_Model_init 579 = .ok (.sipush 8200, 3) := by decide +kernel
theorem d_Model_init_582 : decode b_Model_init 582 = .ok (.newarray .int, 2) := by decide +kernel
theorem d_Model_init_584 : decode b_Model_init 584 = .ok (.putfield 213, 3) := by decide +kernel
theorem fl_Model_213 : Cond.fieldLink R_Model 213 "PointerHouseModel" "z" "[I" ∈ lw_good := lg_right (i := 1923) (by decide +kernel) rfl
theorem d_Model_init_587 : decode b_Model_init 587 = .ok (.aload_n 0, 1) := by decide +kernel
theorem d_Model_init_588 : decode b_Model_init 588 = .ok (.sipush 8200, 3) := by decide +kernel
theorem d_Model_init_591 : decode b_Model_init 591 = .ok (.newarray .int, 2) := by decide +kernel
theorem d_Model_init_593 : decode b_Model_init 593 = .ok (.putfield 216, 3) := by decide +kernel
theorem fl_Model_216 : Cond.fieldLink R_Model 216 "PointerHouseModel" "rowed" "[I" ∈ lw_good := lg_right (i := 1924) (by decide +kernel) rfl
theorem d_Model_init_596 : decode b_Model_init 596 = .ok (.aload_n 0, 1) := by decide +kernel
theorem d_Model_init_597 : decode b_Model_init 597 = .ok (.bipush 41, 2) := by decide +kernel
theorem d_Model_init_599 : decode b_Model_init 599 = .ok (.newarray .int, 2) := by decide +kernel
theorem d_Model_init_601 : decode b_Model_init 601 = .ok (.putfield 219, 3) := by decide +kernel
theorem d_Model_init_604 : decode b_Model_init 604 = .ok (.aload_n 0, 1) := by decide +kernel
theorem d_Model_init_605 : decode b_Model_init 605 = .ok (.bipush 41, 2) := by decide +kernel
theorem d_Model_init_607 : decode b_Model_init 607 = .ok (.newarray .int, 2) := by decide +kernel
theorem d_Model_init_609 : decode b_Model_init 609 = .ok (.putfield 222, 3) := by decide +kernel
theorem d_Model_init_612 : decode b_Model_init 612 = .ok (.aload_n 0, 1) := by decide +kernel
theorem d_Model_init_613 : decode b_Model_init 613 = .ok (.bipush 41, 2) := by decide +kernel
theorem d_Model_init_615 : decode b_Model_init 615 = .ok (.newarray .int, 2) := by decide +kernel
theorem d_Model_init_617 : decode b_Model_init 617 = .ok (.putfield 225, 3) := by decide +kernel
theorem d_Model_init_620 : decode b_Model_init 620 = .ok (.aload_n 0, 1) := by decide +kernel
theorem d_Model_init_621 : decode b_Model_init 621 = .ok (.sipush 820, 3) := by decide +kernel
theorem d_Model_init_624 : decode b_Model_init 624 = .ok (.newarray .int, 2) := by decide +kernel
theorem d_Model_init_626 : decode b_Model_init 626 = .ok (.putfield 228, 3) := by decide +kernel
