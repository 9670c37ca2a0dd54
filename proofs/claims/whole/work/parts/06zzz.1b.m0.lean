abbrev b_Model_four : ByteArray := prog_14_method_2_code
abbrev y_Model_four : MethodName := ⟨R_Model, "four", "(I)V"⟩
theorem co_Model_four : Cond.code y_Model_four b_Model_four 3 none ∈ lw_good := lg_in (tin_10 _ (List.mem_of_getElem? (i := 126) rfl)) rfl
abbrev w_Model_four : List Cond := Cond.code y_Model_four b_Model_four 3 none :: lw_good
theorem im_Model_four : Cond.instanceMethod y_Model_four ∈ lw_good := lg_right (i := 2285) (by decide +kernel) rfl
theorem se_Model_four : Cond.selects R_Model y_Model_four y_Model_four ∈ lw_good := lg_left (i := 114) (by decide +kernel) rfl
theorem d_Model_four_0 : decode b_Model_four 0 = .ok (.bipush 24, 2) := by decide +kernel
theorem d_Model_four_2 : decode b_Model_four 2 = .ok (.istore_n 2, 1) := by decide +kernel
theorem d_Model_four_3 : decode b_Model_four 3 = .ok (.iload_n 2, 1) := by decide +kernel
theorem d_Model_four_4 : decode b_Model_four 4 = .ok (.ifCond .lt 35, 3) := by decide +kernel
theorem d_Model_four_7 : decode b_Model_four 7 = .ok (.aload_n 0, 1) := by decide +kernel
theorem d_Model_four_8 : decode b_Model_four 8 = .ok (.getfield 7, 3) := by decide +kernel
theorem fl_Model_7 : Cond.fieldLink R_Model 7 "PointerHouseModel" "text" "[I" ∈ lw_good := lg_right (i := 1819) (by decide +kernel) rfl
theorem d_Model_four_11 : decode b_Model_four 11 = .ok (.aload_n 0, 1) := by decide +kernel
theorem d_Model_four_12 : decode b_Model_four 12 = .ok (.getfield 313, 3) := by decide +kernel
theorem fl_Model_313 : Cond.fieldLink R_Model 313 "PointerHouseModel" "size" "I" ∈ lw_good := lg_right (i := 1820) (by decide +kernel) rfl
theorem d_Model_four_15 : decode b_Model_four 15 = .ok (.iload_n 1, 1) := by decide +kernel
theorem d_Model_four_16 : decode b_Model_four 16 = .ok (.iload_n 2, 1) := by decide +kernel
theorem d_Model_four_17 : decode b_Model_four 17 = .ok (.ishr, 1) := by decide +kernel
theorem d_Model_four_18 : decode b_Model_four 18 = .ok (.sipush 255, 3) := by decide +kernel
theorem d_Model_four_21 : decode b_Model_four 21 = .ok (.iand, 1) := by decide +kernel
theorem d_Model_four_22 : decode b_Model_four 22 = .ok (.iastore, 1) := by decide +kernel
theorem d_Model_four_23 : decode b_Model_four 23 = .ok (.aload_n 0, 1) := by decide +kernel
theorem d_Model_four_24 : decode b_Model_four 24 = .ok (.dup, 1) := by decide +kernel
theorem d_Model_four_25 : decode b_Model_four 25 = .ok (.getfield 313, 3) := by decide +kernel
theorem d_Model_four_28 : decode b_Model_four 28 = .ok (.iconst 1, 1) := by decide +kernel
theorem d_Model_four_29 : decode b_Model_four 29 = .ok (.iadd, 1) := by decide +kernel
theorem d_Model_four_30 : decode b_Model_four 30 = .ok (.putfield 313, 3) := by decide +kernel
theorem d_Model_four_33 : decode b_Model_four 33 = .ok (.iinc 2 (-8), 3) := by decide +kernel
theorem d_Model_four_36 : decode b_Model_four 36 = .ok (.goto (-33), 3) := by decide +kernel
theorem d_Model_four_39 : decode b_Model_four 39 = .ok (.return_, 1) := by decide +kernel
abbrev b_Model_feed : ByteArray := prog_14_method_3_code
abbrev y_Model_feed : MethodName := ⟨R_Model, "feed", "(IIIII)I"⟩
theorem co_Model_feed : Cond.code y_Model_feed b_Model_feed 6 (some .int) ∈ lw_good := lg_in (tin_10 _ (List.mem_of_getElem? (i := 122) rfl)) rfl
abbrev w_Model_feed : List Cond := Cond.code y_Model_feed b_Model_feed 6 (some .int) :: lw_good
theorem im_Model_feed : Cond.instanceMethod y_Model_feed ∈ lw_good := lg_right (i := 2280) (by decide +kernel) rfl
theorem se_Model_feed : Cond.selects R_Model y_Model_feed y_Model_feed ∈ lw_good := lg_right (i := 2281) (by decide +kernel) rfl
theorem d_Model_feed_0 : decode b_Model_feed 0 = .ok (.aload_n 0, 1) := by decide +kernel
theorem d_Model_feed_1 : decode b_Model_feed 1 = .ok (.getfield 313, 3) := by decide +kernel
theorem d_Model_feed_4 : decode b_Model_feed 4 = .ok (.bipush 20, 2) := by decide +kernel
theorem d_Model_feed_6 : decode b_Model_feed 6 = .ok (.iadd, 1) := by decide +kernel
theorem d_Model_feed_7 : decode b_Model_feed 7 = .ok (.sipush 4000, 3) := by decide +kernel
theorem d_Model_feed_10 : decode b_Model_feed 10 = .ok (.if_icmp .le 5, 3) := by decide +kernel
theorem d_Model_feed_13 : decode b_Model_feed 13 = .ok (.iconst (-1), 1) := by decide +kernel
theorem d_Model_feed_14 : decode b_Model_feed 14 = .ok (.ireturn, 1) := by decide +kernel
theorem d_Model_feed_15 : decode b_Model_feed 15 = .ok (.aload_n 0, 1) := by decide +kernel
theorem d_Model_feed_16 : decode b_Model_feed 16 = .ok (.iload_n 1, 1) := by decide +kernel
theorem d_Model_feed_17 : decode b_Model_feed 17 = .ok (.invokevirtual 316, 3) := by decide +kernel
theorem ml_Model_316 : Cond.methodLink R_Model 316 ⟨"PointerHouseModel", "four", "(I)V"⟩ ∈ lw_good := lg_right (i := 2283) (by decide +kernel) rfl
theorem d_Model_feed_20 : decode b_Model_feed 20 = .ok (.aload_n 0, 1) := by decide +kernel
theorem d_Model_feed_21 : decode b_Model_feed 21 = .ok (.iload_n 2, 1) := by decide +kernel
theorem d_Model_feed_22 : decode b_Model_feed 22 = .ok (.invokevirtual 316, 3) := by decide +kernel
theorem d_Model_feed_25 : decode b_Model_feed 25 = .ok (.aload_n 0, 1) := by decide +kernel
theorem d_Model_feed_26 : decode b_Model_feed 26 = .ok (.iload_n 3, 1) := by decide +kernel
theorem d_Model_feed_27 : decode b_Model_feed 27 = .ok (.invokevirtual 316, 3) := by decide +kernel
theorem d_Model_feed_30 : decode b_Model_feed 30 = .ok (.aload_n 0, 1) := by decide +kernel
theorem d_Model_feed_31 : decode b_Model_feed 31 = .ok (.iload 4, 2) := by decide +kernel
theorem d_Model_feed_33 : decode b_Model_feed 33 = .ok (.invokevirtual 316, 3) := by decide +kernel
theorem d_Model_feed_36 : decode b_Model_feed 36 = .ok (.aload_n 0, 1) := by decide +kernel
theorem d_Model_feed_37 : decode b_Model_feed 37 = .ok (.iload 5, 2) := by decide +kernel
theorem d_Model_feed_39 : decode b_Model_feed 39 = .ok (.invokevirtual 316, 3) := by decide +kernel
theorem d_Model_feed_42 : decode b_Model_feed 42 = .ok (.aload_n 0, 1) := by decide +kernel
theorem d_Model_feed_43 : decode b_Model_feed 43 = .ok (.getfield 313, 3) := by decide +kernel
theorem d_Model_feed_46 : decode b_Model_feed 46 = .ok (.ireturn, 1) := by decide +kernel
abbrev b_Model_end : ByteArray := prog_14_method_4_code
abbrev y_Model_end : MethodName := ⟨R_Model, "end", "(I)I"⟩
theorem co_Model_end : Cond.code y_Model_end b_Model_end 2 (some .int) ∈ lw_good := lg_in (tin_10 _ (List.mem_of_getElem? (i := 130) rfl)) rfl
abbrev w_Model_end : List Cond := Cond.code y_Model_end b_Model_end 2 (some .int) :: lw_good
theorem im_Model_end : Cond.instanceMethod y_Model_end ∈ lw_good := lg_right (i := 2288) (by decide +kernel) rfl
theorem se_Model_end : Cond.selects R_Model y_Model_end y_Model_end ∈ lw_good := lg_right (i := 2289) (by decide +kernel) rfl
theorem d_Model_end_0 : decode b_Model_end 0 = .ok (.iload_n 1, 1) := by decide +kernel
theorem d_Model_end_1 : decode b_Model_end 1 = .ok (.ifCond .lt 11, 3) := by decide +kernel
theorem d_Model_end_4 : decode b_Model_end 4 = .ok (.iload_n 1, 1) := by decide +kernel
theorem d_Model_end_5 : decode b_Model_end 5 = .ok (.aload_n 0, 1) := by decide +kernel
theorem d_Model_end_6 : decode b_Model_end 6 = .ok (.getfield 313, 3) := by decide +kernel
theorem d_Model_end_9 : decode b_Model_end 9 = .ok (.if_icmp .le 5, 3) := by decide +kernel
theorem d_Model_end_12 : decode b_Model_end 12 = .ok (.iconst (-1), 1) := by decide +kernel
theorem d_Model_end_13 : decode b_Model_end 13 = .ok (.ireturn, 1) := by decide +kernel
theorem d_Model_end_14 : decode b_Model_end 14 = .ok (.aload_n 0, 1) := by decide +kernel
theorem d_Model_end_15 : decode b_Model_end 15 = .ok (.iload_n 1, 1) := by decide +kernel
theorem d_Model_end_16 : decode b_Model_end 16 = .ok (.putfield 313, 3) := by decide +kernel
theorem d_Model_end_19 : decode b_Model_end 19 = .ok (.iload_n 1, 1) := by decide +kernel
theorem d_Model_end_20 : decode b_Model_end 20 = .ok (.ireturn, 1) := by decide +kernel
abbrev b_Model_see_I : ByteArray := prog_14_method_11_code
abbrev y_Model_see_I : MethodName := ⟨R_Model, "see", "(I)I"⟩
theorem co_Model_see_I : Cond.code y_Model_see_I b_Model_see_I 2 (some .int) ∈ lw_good := lg_in (tin_10 _ (List.mem_of_getElem? (i := 150) rfl)) rfl
abbrev w_Model_see_I : List Cond := Cond.code y_Model_see_I b_Model_see_I 2 (some .int) :: lw_good
theorem im_Model_see_I : Cond.instanceMethod y_Model_see_I ∈ lw_good := lg_right (i := 2309) (by decide +kernel) rfl
theorem se_Model_see_I : Cond.selects R_Model y_Model_see_I y_Model_see_I ∈ lw_good := lg_left (i := 118) (by decide +kernel) rfl
theorem d_Model_see_I_0 : decode b_Model_see_I 0 = .ok (.iload_n 1, 1) := by decide +kernel
theorem d_Model_see_I_1 : decode b_Model_see_I 1 = .ok (.aload_n 0, 1) := by decide +kernel
theorem d_Model_see_I_2 : decode b_Model_see_I 2 = .ok (.getfield 313, 3) := by decide +kernel
theorem d_Model_see_I_5 : decode b_Model_see_I 5 = .ok (.if_icmp .ge 12, 3) := by decide +kernel
theorem d_Model_see_I_8 : decode b_Model_see_I 8 = .ok (.aload_n 0, 1) := by decide +kernel
theorem d_Model_see_I_9 : decode b_Model_see_I 9 = .ok (.getfield 7, 3) := by decide +kernel
theorem d_Model_see_I_12 : decode b_Model_see_I 12 = .ok (.iload_n 1, 1) := by decide +kernel
theorem d_Model_see_I_13 : decode b_Model_see_I 13 = .ok (.iaload, 1) := by decide +kernel
theorem d_Model_see_I_14 : decode b_Model_see_I 14 = .ok (.goto 4, 3) := by decide +kernel
theorem d_Model_see_I_17 : decode b_Model_see_I 17 = .ok (.iconst (-1), 1) := by decide +kernel
theorem d_Model_see_I_18 : decode b_Model_see_I 18 = .ok (.ireturn, 1) := by decide +kernel
abbrev b_Model_fail : ByteArray := prog_14_method_15_code
abbrev y_Model_fail : MethodName := ⟨R_Model, "fail", "(II)V"⟩
theorem co_Model_fail : Cond.code y_Model_fail b_Model_fail 3 none ∈ lw_good := lg_in (tin_10 _ (List.mem_of_getElem? (i := 199) rfl)) rfl
abbrev w_Model_fail : List Cond := Cond.code y_Model_fail b_Model_fail 3 none :: lw_good
theorem im_Model_fail : Cond.instanceMethod y_Model_fail ∈ lw_good := lg_right (i := 2358) (by decide +kernel) rfl
theorem se_Model_fail : Cond.selects R_Model y_Model_fail y_Model_fail ∈ lw_good := lg_left (i := 124) (by decide +kernel) rfl
theorem d_Model_fail_0 : decode b_Model_fail 0 = .ok (.aload_n 0, 1) := by decide +kernel
theorem d_Model_fail_1 : decode b_Model_fail 1 = .ok (.getfield 378, 3) := by decide +kernel
theorem fl_Model_378 : Cond.fieldLink R_Model 378 "PointerHouseModel" "fault" "I" ∈ lw_good := lg_right (i := 1826) (by decide +kernel) rfl
theorem d_Model_fail_4 : decode b_Model_fail 4 = .ok (.ifCond .eq 4, 3) := by decide +kernel
theorem d_Model_fail_7 : decode b_Model_fail 7 = .ok (.return_, 1) := by decide +kernel
theorem d_Model_fail_8 : decode b_Model_fail 8 = .ok (.aload_n 0, 1) := by decide +kernel
theorem d_Model_fail_9 : decode b_Model_fail 9 = .ok (.iload_n 1, 1) := by decide +kernel
theorem d_Model_fail_10 : decode b_Model_fail 10 = .ok (.putfield 378, 3) := by decide +kernel
theorem d_Model_fail_13 : decode b_Model_fail 13 = .ok (.aload_n 0, 1) := by decide +kernel
theorem d_Model_fail_14 : decode b_Model_fail 14 = .ok (.iload_n 2, 1) := by decide +kernel
theorem d_Model_fail_15 : decode b_Model_fail 15 = .ok (.putfield 13, 3) := by decide +kernel
theorem fl_Model_13 : Cond.fieldLink R_Model 13 "PointerHouseModel" "faultPlace" "I" ∈ lw_good := lg_right (i := 1827) (by decide +kernel) rfl
theorem d_Model_fail_18 : decode b_Model_fail 18 = .ok (.return_, 1) := by decide +kernel
abbrev b_Model_bad : ByteArray := prog_14_method_16_code
abbrev y_Model_bad : MethodName := ⟨R_Model, "bad", "()Z"⟩
theorem co_Model_bad : Cond.code y_Model_bad b_Model_bad 1 (some .boolean) ∈ lw_good := lg_in (tin_10 _ (List.mem_of_getElem? (i := 181) rfl)) rfl
abbrev w_Model_bad : List Cond := Cond.code y_Model_bad b_Model_bad 1 (some .boolean) :: lw_good
theorem im_Model_bad : Cond.instanceMethod y_Model_bad ∈ lw_good := lg_right (i := 2340) (by decide +kernel) rfl
theorem se_Model_bad : Cond.selects R_Model y_Model_bad y_Model_bad ∈ lw_good := lg_left (i := 121) (by decide +kernel) rfl
theorem d_Model_bad_0 : decode b_Model_bad 0 = .ok (.aload_n 0, 1) := by decide +kernel
theorem d_Model_bad_1 : decode b_Model_bad 1 = .ok (.getfield 378, 3) := by decide +kernel
theorem d_Model_bad_4 : decode b_Model_bad 4 = .ok (.ifCond .eq 7, 3) := by decide +kernel
theorem d_Model_bad_7 : decode b_Model_bad 7 = .ok (.iconst 1, 1) := by decide +kernel
theorem d_Model_bad_8 : decode b_Model_bad 8 = .ok (.goto 4, 3) := by decide +kernel
theorem d_Model_bad_11 : decode b_Model_bad 11 = .ok (.iconst 0, 1) := by decide +kernel
theorem d_Model_bad_12 : decode b_Model_bad 12 = .ok (.ireturn, 1) := by decide +kernel
abbrev b_Model_wrong : ByteArray := prog_14_method_17_code
abbrev y_Model_wrong : MethodName := ⟨R_Model, "wrong", "()V"⟩
theorem co_Model_wrong : Cond.code y_Model_wrong b_Model_wrong 1 none ∈ lw_good := lg_in (tin_10 _ (List.mem_of_getElem? (i := 195) rfl)) rfl
abbrev w_Model_wrong : List Cond := Cond.code y_Model_wrong b_Model_wrong 1 none :: lw_good
theorem im_Model_wrong : Cond.instanceMethod y_Model_wrong ∈ lw_good := lg_right (i := 2354) (by decide +kernel) rfl
theorem se_Model_wrong : Cond.selects R_Model y_Model_wrong y_Model_wrong ∈ lw_good := lg_left (i := 123) (by decide +kernel) rfl
theorem d_Model_wrong_0 : decode b_Model_wrong 0 = .ok (.aload_n 0, 1) := by decide +kernel
theorem d_Model_wrong_1 : decode b_Model_wrong 1 = .ok (.iconst 1, 1) := by decide +kernel
theorem d_Model_wrong_2 : decode b_Model_wrong 2 = .ok (.aload_n 0, 1) := by decide +kernel
theorem d_Model_wrong_3 : decode b_Model_wrong 3 = .ok (.getfield 349, 3) := by decide +kernel
theorem fl_Model_349 : Cond.fieldLink R_Model 349 "PointerHouseModel" "place" "I" ∈ lw_good := lg_right (i := 1822) (by decide +kernel) rfl
theorem d_Model_wrong_6 : decode b_Model_wrong 6 = .ok (.invokevirtual 381, 3) := by decide +kernel
theorem ml_Model_381 : Cond.methodLink R_Model 381 ⟨"PointerHouseModel", "fail", "(II)V"⟩ ∈ lw_good := lg_right (i := 2356) (by decide +kernel) rfl
theorem d_Model_wrong_9 : decode b_Model_wrong 9 = .ok (.return_, 1) := by decide +kernel
abbrev b_Model_isSign : ByteArray := prog_14_method_18_code
abbrev y_Model_isSign : MethodName := ⟨R_Model, "isSign", "(I)Z"⟩
theorem co_Model_isSign : Cond.code y_Model_isSign b_Model_isSign 2 (some .boolean) ∈ lw_good := lg_in (tin_10 _ (List.mem_of_getElem? (i := 219) rfl)) rfl
abbrev w_Model_isSign : List Cond := Cond.code y_Model_isSign b_Model_isSign 2 (some .boolean) :: lw_good
theorem im_Model_isSign : Cond.instanceMethod y_Model_isSign ∈ lw_good := lg_right (i := 2378) (by decide +kernel) rfl
theorem se_Model_isSign : Cond.selects R_Model y_Model_isSign y_Model_isSign ∈ lw_good := lg_left (i := 129) (by decide +kernel) rfl
theorem d_Model_isSign_0 : decode b_Model_isSign 0 = .ok (.aload_n 0, 1) := by decide +kernel
theorem d_Model_isSign_1 : decode b_Model_isSign 1 = .ok (.getfield 352, 3) := by decide +kernel
theorem fl_Model_352 : Cond.fieldLink R_Model 352 "PointerHouseModel" "sort" "I" ∈ lw_good := lg_right (i := 1821) (by decide +kernel) rfl
theorem d_Model_isSign_4 : decode b_Model_isSign 4 = .ok (.bipush 6, 2) := by decide +kernel
theorem d_Model_isSign_6 : decode b_Model_isSign 6 = .ok (.if_icmp .ne 22, 3) := by decide +kernel
theorem d_Model_isSign_9 : decode b_Model_isSign 9 = .ok (.aload_n 0, 1) := by decide +kernel
theorem d_Model_isSign_10 : decode b_Model_isSign 10 = .ok (.getfield 369, 3) := by decide +kernel
theorem fl_Model_369 : Cond.fieldLink R_Model 369 "PointerHouseModel" "number" "I" ∈ lw_good := lg_right (i := 1824) (by decide +kernel) rfl
theorem d_Model_isSign_13 : decode b_Model_isSign 13 = .ok (.iload_n 1, 1) := by decide +kernel
theorem d_Model_isSign_14 : decode b_Model_isSign 14 = .ok (.if_icmp .ne 14, 3) := by decide +kernel
theorem d_Model_isSign_17 : decode b_Model_isSign 17 = .ok (.aload_n 0, 1) := by decide +kernel
theorem d_Model_isSign_18 : decode b_Model_isSign 18 = .ok (.invokevirtual 385, 3) := by decide +kernel
theorem ml_Model_385 : Cond.methodLink R_Model 385 ⟨"PointerHouseModel", "bad", "()Z"⟩ ∈ lw_good := lg_right (i := 2338) (by decide +kernel) rfl
theorem d_Model_isSign_21 : decode b_Model_isSign 21 = .ok (.ifCond .ne 7, 3) := by decide +kernel
theorem d_Model_isSign_24 : decode b_Model_isSign 24 = .ok (.iconst 1, 1) := by decide +kernel
theorem d_Model_isSign_25 : decode b_Model_isSign 25 = .ok (.goto 4, 3) := by decide +kernel
theorem d_Model_isSign_28 : decode b_Model_isSign 28 = .ok (.iconst 0, 1) := by decide +kernel
theorem d_Model_isSign_29 : decode b_Model_isSign 29 = .ok (.ireturn, 1) := by decide +kernel
abbrev b_Model_takes : ByteArray := prog_14_method_20_code
abbrev y_Model_takes : MethodName := ⟨R_Model, "takes", "(I)Z"⟩
theorem co_Model_takes : Cond.code y_Model_takes b_Model_takes 2 (some .boolean) ∈ lw_good := lg_in (tin_10 _ (List.mem_of_getElem? (i := 215) rfl)) rfl
abbrev w_Model_takes : List Cond := Cond.code y_Model_takes b_Model_takes 2 (some .boolean) :: lw_good
theorem im_Model_takes : Cond.instanceMethod y_Model_takes ∈ lw_good := lg_right (i := 2374) (by decide +kernel) rfl
theorem se_Model_takes : Cond.selects R_Model y_Model_takes y_Model_takes ∈ lw_good := lg_left (i := 128) (by decide +kernel) rfl
theorem d_Model_takes_0 : decode b_Model_takes 0 = .ok (.aload_n 0, 1) := by decide +kernel
theorem d_Model_takes_1 : decode b_Model_takes 1 = .ok (.iload_n 1, 1) := by decide +kernel
theorem d_Model_takes_2 : decode b_Model_takes 2 = .ok (.invokevirtual 393, 3) := by decide +kernel
theorem ml_Model_393 : Cond.methodLink R_Model 393 ⟨"PointerHouseModel", "isSign", "(I)Z"⟩ ∈ lw_good := lg_right (i := 2376) (by decide +kernel) rfl
theorem d_Model_takes_5 : decode b_Model_takes 5 = .ok (.ifCond .ne 5, 3) := by decide +kernel
theorem d_Model_takes_8 : decode b_Model_takes 8 = .ok (.iconst 0, 1) := by decide +kernel
theorem d_Model_takes_9 : decode b_Model_takes 9 = .ok (.ireturn, 1) := by decide +kernel
theorem d_Model_takes_10 : decode b_Model_takes 10 = .ok (.aload_n 0, 1) := by decide +kernel
theorem d_Model_takes_11 : decode b_Model_takes 11 = .ok (.invokevirtual 396, 3) := by decide +kernel
theorem ml_Model_396 : Cond.methodLink R_Model 396 ⟨"PointerHouseModel", "advance", "()V"⟩ ∈ lw_good := lg_right (i := 2303) (by decide +kernel) rfl
theorem d_Model_takes_14 : decode b_Model_takes 14 = .ok (.iconst 1, 1) := by decide +kernel
theorem d_Model_takes_15 : decode b_Model_takes 15 = .ok (.ireturn, 1) := by decide +kernel
abbrev b_Model_advance : ByteArray := prog_14_method_12_code
abbrev y_Model_advance : MethodName := ⟨R_Model, "advance", "()V"⟩
theorem co_Model_advance : Cond.code y_Model_advance b_Model_advance 3 none ∈ lw_good := lg_in (tin_10 _ (List.mem_of_getElem? (i := 146) rfl)) rfl
abbrev w_Model_advance : List Cond := Cond.code y_Model_advance b_Model_advance 3 none :: lw_good
theorem im_Model_advance : Cond.instanceMethod y_Model_advance ∈ lw_good := lg_right (i := 2305) (by decide +kernel) rfl
theorem se_Model_advance : Cond.selects R_Model y_Model_advance y_Model_advance ∈ lw_good := lg_left (i := 117) (by decide +kernel) rfl
theorem d_Model_advance_0 : decode b_Model_advance 0 = .ok (.aload_n 0, 1) := by decide +kernel
theorem d_Model_advance_1 : decode b_Model_advance 1 = .ok (.getfield 342, 3) := by decide +kernel
theorem fl_Model_342 : Cond.fieldLink R_Model 342 "PointerHouseModel" "after" "I" ∈ lw_good := lg_right (i := 1823) (by decide +kernel) rfl
theorem d_Model_advance_4 : decode b_Model_advance 4 = .ok (.istore_n 1, 1) := by decide +kernel
theorem d_Model_advance_5 : decode b_Model_advance 5 = .ok (.aload_n 0, 1) := by decide +kernel
theorem d_Model_advance_6 : decode b_Model_advance 6 = .ok (.iload_n 1, 1) := by decide +kernel
theorem d_Model_advance_7 : decode b_Model_advance 7 = .ok (.invokevirtual 345, 3) := by decide +kernel
theorem ml_Model_345 : Cond.methodLink R_Model 345 ⟨"PointerHouseModel", "see", "(I)I"⟩ ∈ lw_good := lg_right (i := 2307) (by decide +kernel) rfl
theorem d_Model_advance_10 : decode b_Model_advance 10 = .ok (.bipush 32, 2) := by decide +kernel
theorem d_Model_advance_12 : decode b_Model_advance 12 = .ok (.if_icmp .ne 9, 3) := by decide +kernel
theorem d_Model_advance_15 : decode b_Model_advance 15 = .ok (.iinc 1 1, 3) := by decide +kernel
theorem d_Model_advance_18 : decode b_Model_advance 18 = .ok (.goto (-13), 3) := by decide +kernel
theorem d_Model_advance_21 : decode b_Model_advance 21 = .ok (.aload_n 0, 1) := by decide +kernel
theorem d_Model_advance_22 : decode b_Model_advance 22 = .ok (.iload_n 1, 1) := by decide +kernel
theorem d_Model_advance_23 : decode b_Model_advance 23 = .ok (.putfield 349, 3) := by decide +kernel
theorem d_Model_advance_26 : decode b_Model_advance 26 = .ok (.iload_n 1, 1) := by decide +kernel
theorem d_Model_advance_27 : decode b_Model_advance 27 = .ok (.aload_n 0, 1) := by decide +kernel
theorem d_Model_advance_28 : decode b_Model_advance 28 = .ok (.getfield 313, 3) := by decide +kernel
theorem d_Model_advance_31 : decode b_Model_advance 31 = .ok (.if_icmp .lt 15, 3) := by decide +kernel
theorem d_Model_advance_34 : decode b_Model_advance 34 = .ok (.aload_n 0, 1) := by decide +kernel
theorem d_Model_advance_35 : decode b_Model_advance 35 = .ok (.bipush 7, 2) := by decide +kernel
theorem d_Model_advance_37 : decode b_Model_advance 37 = .ok (.putfield 352, 3) := by decide +kernel
theorem d_Model_advance_40 : decode b_Model_advance 40 = .ok (.aload_n 0, 1) := by decide +kernel
theorem d_Model_advance_41 : decode b_Model_advance 41 = .ok (.iload_n 1, 1) := by decide +kernel
theorem d_Model_advance_42 : decode b_Model_advance 42 = .ok (.putfield 342, 3) := by decide +kernel
theorem d_Model_advance_45 : decode b_Model_advance 45 = .ok (.return_, 1) := by decide +kernel
theorem d_Model_advance_46 : decode b_Model_advance 46 = .ok (.aload_n 0, 1) := by decide +kernel
theorem d_Model_advance_47 : decode b_Model_advance 47 = .ok (.getfield 7, 3) := by decide +kernel
theorem d_Model_advance_50 : decode b_Model_advance 50 = .ok (.iload_n 1, 1) := by decide +kernel
theorem d_Model_advance_51 : decode b_Model_advance 51 = .ok (.iaload, 1) := by decide +kernel
theorem d_Model_advance_52 : decode b_Model_advance 52 = .ok (.istore_n 2, 1) := by decide +kernel
theorem d_Model_advance_53 : decode b_Model_advance 53 = .ok (.iload_n 2, 1) := by decide +kernel
theorem d_Model_advance_54 : decode b_Model_advance 54 = .ok (.invokestatic 355, 3) := by decide +kernel
theorem ml_Model_355 : Cond.methodLink R_Model 355 ⟨"PointerHouseModel", "isLetter", "(I)Z"⟩ ∈ lw_good := lg_right (i := 2311) (by decide +kernel) rfl
theorem d_Model_advance_57 : decode b_Model_advance 57 = .ok (.ifCond .ne 9, 3) := by decide +kernel
theorem d_Model_advance_60 : decode b_Model_advance 60 = .ok (.iload_n 2, 1) := by decide +kernel
theorem d_Model_advance_61 : decode b_Model_advance 61 = .ok (.bipush 39, 2) := by decide +kernel
theorem d_Model_advance_63 : decode b_Model_advance 63 = .ok (.if_icmp .ne 34, 3) := by decide +kernel
theorem d_Model_advance_66 : decode b_Model_advance 66 = .ok (.aload_n 0, 1) := by decide +kernel
theorem d_Model_advance_67 : decode b_Model_advance 67 = .ok (.iload_n 2, 1) := by decide +kernel
theorem d_Model_advance_68 : decode b_Model_advance 68 = .ok (.bipush 39, 2) := by decide +kernel
theorem d_Model_advance_70 : decode b_Model_advance 70 = .ok (.if_icmp .ne 9, 3) := by decide +kernel
theorem d_Model_advance_73 : decode b_Model_advance 73 = .ok (.iload_n 1, 1) := by decide +kernel
theorem d_Model_advance_74 : decode b_Model_advance 74 = .ok (.iconst 1, 1) := by decide +kernel
theorem d_Model_advance_75 : decode b_Model_advance 75 = .ok (.iadd, 1) := by decide +kernel
theorem d_Model_advance_76 : decode b_Model_advance 76 = .ok (.goto 4, 3) := by decide +kernel
theorem d_Model_advance_79 : decode b_Model_advance 79 = .ok (.iload_n 1, 1) := by decide +kernel
theorem d_Model_advance_80 : decode b_Model_advance 80 = .ok (.iload_n 2, 1) := by decide +kernel
theorem d_Model_advance_81 : decode b_Model_advance 81 = .ok (.bipush 39, 2) := by decide +kernel
theorem d_Model_advance_83 : decode b_Model_advance 83 = .ok (.if_icmp .ne 7, 3) := by decide +kernel
theorem d_Model_advance_86 : decode b_Model_advance 86 = .ok (.iconst 1, 1) := by decide +kernel
theorem d_Model_advance_87 : decode b_Model_advance 87 = .ok (.goto 4, 3) := by decide +kernel
theorem d_Model_advance_90 : decode b_Model_advance 90 = .ok (.iconst 0, 1) := by decide +kernel
theorem d_Model_advance_91 : decode b_Model_advance 91 = .ok (.invokevirtual 358, 3) := by decide +kernel
theorem ml_Model_358 : Cond.methodLink R_Model 358 ⟨"PointerHouseModel", "row", "(IZ)V"⟩ ∈ lw_good := lg_right (i := 2323) (by decide +kernel) rfl
theorem d_Model_advance_94 : decode b_Model_advance 94 = .ok (.goto 8, 3) := by decide +kernel
theorem d_Model_advance_97 : decode b_Model_advance 97 = .ok (.aload_n 0, 1) := by decide +kernel
theorem d_Model_advance_98 : decode b_Model_advance 98 = .ok (.iload_n 2, 1) := by decide +kernel
theorem d_Model_advance_99 : decode b_Model_advance 99 = .ok (.invokevirtual 362, 3) := by decide +kernel
theorem ml_Model_362 : Cond.methodLink R_Model 362 ⟨"PointerHouseModel", "sign", "(I)V"⟩ ∈ lw_good := lg_right (i := 2333) (by decide +kernel) rfl
theorem d_Model_advance_102 : decode b_Model_advance 102 = .ok (.return_, 1) := by decide +kernel
abbrev b_Model_takesWord : ByteArray := prog_14_method_21_code
abbrev y_Model_takesWord : MethodName := ⟨R_Model, "takesWord", "(Ljava/lang/String;)Z"⟩
theorem co_Model_takesWord : Cond.code y_Model_takesWord b_Model_takesWord 2 (some .boolean) ∈ lw_good := lg_in (tin_11 _ (List.mem_of_getElem? (i := 5) rfl)) rfl
abbrev w_Model_takesWord : List Cond := Cond.code y_Model_takesWord b_Model_takesWord 2 (some .boolean) :: lw_good
theorem im_Model_takesWord : Cond.instanceMethod y_Model_takesWord ∈ lw_good := lg_right (i := 2404) (by decide +kernel) rfl
theorem se_Model_takesWord : Cond.selects R_Model y_Model_takesWord y_Model_takesWord ∈ lw_good := lg_left (i := 135) (by decide +kernel) rfl
theorem d_Model_takesWord_0 : decode b_Model_takesWord 0 = .ok (.aload_n 0, 1) := by decide +kernel
theorem d_Model_takesWord_1 : decode b_Model_takesWord 1 = .ok (.aload_n 1, 1) := by decide +kernel
theorem d_Model_takesWord_2 : decode b_Model_takesWord 2 = .ok (.invokevirtual 399, 3) := by decide +kernel
theorem ml_Model_399 : Cond.methodLink R_Model 399 ⟨"PointerHouseModel", "isWord", "(Ljava/lang/String;)Z"⟩ ∈ lw_good := lg_right (i := 2343) (by decide +kernel) rfl
theorem d_Model_takesWord_5 : decode b_Model_takesWord 5 = .ok (.ifCond .ne 5, 3) := by decide +kernel
theorem d_Model_takesWord_8 : decode b_Model_takesWord 8 = .ok (.iconst 0, 1) := by decide +kernel
theorem d_Model_takesWord_9 : decode b_Model_takesWord 9 = .ok (.ireturn, 1) := by decide +kernel
theorem d_Model_takesWord_10 : decode b_Model_takesWord 10 = .ok (.aload_n 0, 1) := by decide +kernel
theorem d_Model_takesWord_11 : decode b_Model_takesWord 11 = .ok (.invokevirtual 396, 3) := by decide +kernel
theorem d_Model_takesWord_14 : decode b_Model_takesWord 14 = .ok (.iconst 1, 1) := by decide +kernel
theorem d_Model_takesWord_15 : decode b_Model_takesWord 15 = .ok (.ireturn, 1) := by decide +kernel
abbrev b_Model_isWord : ByteArray := prog_14_method_19_code
abbrev y_Model_isWord : MethodName := ⟨R_Model, "isWord", "(Ljava/lang/String;)Z"⟩
theorem co_Model_isWord : Cond.code y_Model_isWord b_Model_isWord 2 (some .boolean) ∈ lw_good := lg_in (tin_10 _ (List.mem_of_getElem? (i := 186) rfl)) rfl
abbrev w_Model_isWord : List Cond := Cond.code y_Model_isWord b_Model_isWord 2 (some .boolean) :: lw_good
theorem im_Model_isWord : Cond.instanceMethod y_Model_isWord ∈ lw_good := lg_right (i := 2345) (by decide +kernel) rfl
theorem se_Model_isWord : Cond.selects R_Model y_Model_isWord y_Model_isWord ∈ lw_good := lg_left (i := 122) (by decide +kernel) rfl
theorem d_Model_isWord_0 : decode b_Model_isWord 0 = .ok (.aload_n 0, 1) := by decide +kernel
theorem d_Model_isWord_1 : decode b_Model_isWord 1 = .ok (.getfield 352, 3) := by decide +kernel
theorem d_Model_isWord_4 : decode b_Model_isWord 4 = .ok (.iconst 2, 1) := by decide +kernel
theorem d_Model_isWord_5 : decode b_Model_isWord 5 = .ok (.if_icmp .ne 26, 3) := by decide +kernel
theorem d_Model_isWord_8 : decode b_Model_isWord 8 = .ok (.aload_n 0, 1) := by decide +kernel
theorem d_Model_isWord_9 : decode b_Model_isWord 9 = .ok (.getfield 365, 3) := by decide +kernel
theorem fl_Model_365 : Cond.fieldLink R_Model 365 "PointerHouseModel" "word" "J" ∈ lw_good := lg_right (i := 1825) (by decide +kernel) rfl
theorem d_Model_isWord_12 : decode b_Model_isWord 12 = .ok (.aload_n 1, 1) := by decide +kernel
theorem d_Model_isWord_13 : decode b_Model_isWord 13 = .ok (.invokestatic 389, 3) := by decide +kernel
theorem ml_Model_389 : Cond.methodLink R_Model 389 ⟨"PointerHouseModel", "packed", "(Ljava/lang/String;)J"⟩ ∈ lw_good := lg_right (i := 2347) (by decide +kernel) rfl
theorem d_Model_isWord_16 : decode b_Model_isWord 16 = .ok (.lcmp, 1) := by decide +kernel
theorem d_Model_isWord_17 : decode b_Model_isWord 17 = .ok (.ifCond .ne 14, 3) := by decide +kernel
theorem d_Model_isWord_20 : decode b_Model_isWord 20 = .ok (.aload_n 0, 1) := by decide +kernel
theorem d_Model_isWord_21 : decode b_Model_isWord 21 = .ok (.invokevirtual 385, 3) := by decide +kernel
theorem d_Model_isWord_24 : decode b_Model_isWord 24 = .ok (.ifCond .ne 7, 3) := by decide +kernel
theorem d_Model_isWord_27 : decode b_Model_isWord 27 = .ok (.iconst 1, 1) := by decide +kernel
theorem d_Model_isWord_28 : decode b_Model_isWord 28 = .ok (.goto 4, 3) := by decide +kernel
theorem d_Model_isWord_31 : decode b_Model_isWord 31 = .ok (.iconst 0, 1) := by decide +kernel
theorem d_Model_isWord_32 : decode b_Model_isWord 32 = .ok (.ireturn, 1) := by decide +kernel
abbrev b_Model_need : ByteArray := prog_14_method_22_code
abbrev y_Model_need : MethodName := ⟨R_Model, "need", "(I)V"⟩
theorem co_Model_need : Cond.code y_Model_need b_Model_need 2 none ∈ lw_good := lg_in (tin_10 _ (List.mem_of_getElem? (i := 211) rfl)) rfl
abbrev w_Model_need : List Cond := Cond.code y_Model_need b_Model_need 2 none :: lw_good
theorem im_Model_need : Cond.instanceMethod y_Model_need ∈ lw_good := lg_right (i := 2370) (by decide +kernel) rfl
theorem se_Model_need : Cond.selects R_Model y_Model_need y_Model_need ∈ lw_good := lg_left (i := 127) (by decide +kernel) rfl
theorem d_Model_need_0 : decode b_Model_need 0 = .ok (.aload_n 0, 1) := by decide +kernel
theorem d_Model_need_1 : decode b_Model_need 1 = .ok (.iload_n 1, 1) := by decide +kernel
theorem d_Model_need_2 : decode b_Model_need 2 = .ok (.invokevirtual 403, 3) := by decide +kernel
theorem ml_Model_403 : Cond.methodLink R_Model 403 ⟨"PointerHouseModel", "takes", "(I)Z"⟩ ∈ lw_good := lg_right (i := 2372) (by decide +kernel) rfl
theorem d_Model_need_5 : decode b_Model_need 5 = .ok (.ifCond .ne 7, 3) := by decide +kernel
theorem d_Model_need_8 : decode b_Model_need 8 = .ok (.aload_n 0, 1) := by decide +kernel
theorem d_Model_need_9 : decode b_Model_need 9 = .ok (.invokevirtual 406, 3) := by decide +kernel
theorem ml_Model_406 : Cond.methodLink R_Model 406 ⟨"PointerHouseModel", "wrong", "()V"⟩ ∈ lw_good := lg_right (i := 2352) (by decide +kernel) rfl
theorem d_Model_need_12 : decode b_Model_need 12 = .ok (.return_, 1) := by decide +kernel
abbrev b_Model_needName : ByteArray := prog_14_method_23_code
abbrev y_Model_needName : MethodName := ⟨R_Model, "needName", "()J"⟩
theorem co_Model_needName : Cond.code y_Model_needName b_Model_needName 3 (some .long) ∈ lw_good := lg_in (tin_10 _ (List.mem_of_getElem? (i := 227) rfl)) rfl
abbrev w_Model_needName : List Cond := Cond.code y_Model_needName b_Model_needName 3 (some .long) :: lw_good
theorem im_Model_needName : Cond.instanceMethod y_Model_needName ∈ lw_good := lg_right (i := 2386) (by decide +kernel) rfl
theorem se_Model_needName : Cond.selects R_Model y_Model_needName y_Model_needName ∈ lw_good := lg_left (i := 131) (by decide +kernel) rfl
theorem d_Model_needName_0 : decode b_Model_needName 0 = .ok (.aload_n 0, 1) := by decide +kernel
theorem d_Model_needName_1 : decode b_Model_needName 1 = .ok (.getfield 352, 3) := by decide +kernel
theorem d_Model_needName_4 : decode b_Model_needName 4 = .ok (.iconst 1, 1) := by decide +kernel
theorem d_Model_needName_5 : decode b_Model_needName 5 = .ok (.if_icmp .eq 7, 3) := by decide +kernel
theorem d_Model_needName_8 : decode b_Model_needName 8 = .ok (.aload_n 0, 1) := by decide +kernel
theorem d_Model_needName_9 : decode b_Model_needName 9 = .ok (.invokevirtual 406, 3) := by decide +kernel
theorem d_Model_needName_12 : decode b_Model_needName 12 = .ok (.aload_n 0, 1) := by decide +kernel
theorem d_Model_needName_13 : decode b_Model_needName 13 = .ok (.getfield 365, 3) := by decide +kernel
theorem d_Model_needName_16 : decode b_Model_needName 16 = .ok (.lstore_n 1, 1) := by decide +kernel
theorem d_Model_needName_17 : decode b_Model_needName 17 = .ok (.aload_n 0, 1) := by decide +kernel
theorem d_Model_needName_18 : decode b_Model_needName 18 = .ok (.invokevirtual 385, 3) := by decide +kernel
theorem d_Model_needName_21 : decode b_Model_needName 21 = .ok (.ifCond .ne 7, 3) := by decide +kernel
theorem d_Model_needName_24 : decode b_Model_needName 24 = .ok (.aload_n 0, 1) := by decide +kernel
theorem d_Model_needName_25 : decode b_Model_needName 25 = .ok (.invokevirtual 396, 3) := by decide +kernel
theorem d_Model_needName_28 : decode b_Model_needName 28 = .ok (.lload_n 1, 1) := by decide +kernel
theorem d_Model_needName_29 : decode b_Model_needName 29 = .ok (.lreturn, 1) := by decide +kernel
abbrev b_Model_needRegion : ByteArray := prog_14_method_24_code
abbrev y_Model_needRegion : MethodName := ⟨R_Model, "needRegion", "()I"⟩
theorem co_Model_needRegion : Cond.code y_Model_needRegion b_Model_needRegion 1 (some .int) ∈ lw_good := lg_in (tin_10 _ (List.mem_of_getElem? (i := 236) rfl)) rfl
abbrev w_Model_needRegion : List Cond := Cond.code y_Model_needRegion b_Model_needRegion 1 (some .int) :: lw_good
theorem im_Model_needRegion : Cond.instanceMethod y_Model_needRegion ∈ lw_good := lg_right (i := 2395) (by decide +kernel) rfl
theorem se_Model_needRegion : Cond.selects R_Model y_Model_needRegion y_Model_needRegion ∈ lw_good := lg_left (i := 133) (by decide +kernel) rfl
theorem d_Model_needRegion_0 : decode b_Model_needRegion 0 = .ok (.aload_n 0, 1) := by decide +kernel
theorem d_Model_needRegion_1 : decode b_Model_needRegion 1 = .ok (.getfield 352, 3) := by decide +kernel
theorem d_Model_needRegion_4 : decode b_Model_needRegion 4 = .ok (.iconst 4, 1) := by decide +kernel
theorem d_Model_needRegion_5 : decode b_Model_needRegion 5 = .ok (.if_icmp .eq 7, 3) := by decide +kernel
theorem d_Model_needRegion_8 : decode b_Model_needRegion 8 = .ok (.aload_n 0, 1) := by decide +kernel
theorem d_Model_needRegion_9 : decode b_Model_needRegion 9 = .ok (.invokevirtual 406, 3) := by decide +kernel
theorem d_Model_needRegion_12 : decode b_Model_needRegion 12 = .ok (.aload_n 0, 1) := by decide +kernel
theorem d_Model_needRegion_13 : decode b_Model_needRegion 13 = .ok (.invokevirtual 385, 3) := by decide +kernel
theorem d_Model_needRegion_16 : decode b_Model_needRegion 16 = .ok (.ifCond .eq 5, 3) := by decide +kernel
theorem d_Model_needRegion_19 : decode b_Model_needRegion 19 = .ok (.iconst 0, 1) := by decide +kernel
theorem d_Model_needRegion_20 : decode b_Model_needRegion 20 = .ok (.ireturn, 1) := by decide +kernel
theorem d_Model_needRegion_21 : decode b_Model_needRegion 21 = .ok (.aload_n 0, 1) := by decide +kernel
theorem d_Model_needRegion_22 : decode b_Model_needRegion 22 = .ok (.getfield 111, 3) := by decide +kernel
theorem fl_Model_111 : Cond.fieldLink R_Model 111 "PointerHouseModel" "useName" "[J" ∈ lw_good := lg_right (i := 1865) (by decide +kernel) rfl
theorem d_Model_needRegion_25 : decode b_Model_needRegion 25 = .ok (.aload_n 0, 1) := by decide +kernel
theorem d_Model_needRegion_26 : decode b_Model_needRegion 26 = .ok (.getfield 409, 3) := by decide +kernel
theorem fl_Model_409 : Cond.fieldLink R_Model 409 "PointerHouseModel" "uses" "I" ∈ lw_good := lg_right (i := 1864) (by decide +kernel) rfl
theorem d_Model_needRegion_29 : decode b_Model_needRegion 29 = .ok (.aload_n 0, 1) := by decide +kernel
theorem d_Model_needRegion_30 : decode b_Model_needRegion 30 = .ok (.getfield 365, 3) := by decide +kernel
theorem d_Model_needRegion_33 : decode b_Model_needRegion 33 = .ok (.lastore, 1) := by decide +kernel
theorem d_Model_needRegion_34 : decode b_Model_needRegion 34 = .ok (.aload_n 0, 1) := by decide +kernel
theorem d_Model_needRegion_35 : decode b_Model_needRegion 35 = .ok (.getfield 114, 3) := by decide +kernel
theorem fl_Model_114 : Cond.fieldLink R_Model 114 "PointerHouseModel" "usePlace" "[I" ∈ lw_good := lg_right (i := 1866) (by decide +kernel) rfl
theorem d_Model_needRegion_38 : decode b_Model_needRegion 38 = .ok (.aload_n 0, 1) := by decide +kernel
theorem d_Model_needRegion_39 : decode b_Model_needRegion 39 = .ok (.getfield 409, 3) := by decide +kernel
theorem d_Model_needRegion_42 : decode b_Model_needRegion 42 = .ok (.aload_n 0, 1) := by decide +kernel
theorem d_Model_needRegion_43 : decode b_Model_needRegion 43 = .ok (.getfield 349, 3) := by decide +kernel
theorem d_Model_needRegion_46 : decode b_Model_needRegion 46 = .ok (.iastore, 1) := by decide +kernel
theorem d_Model_needRegion_47 : decode b_Model_needRegion 47 = .ok (.aload_n 0, 1) := by decide +kernel
theorem d_Model_needRegion_48 : decode b_Model_needRegion 48 = .ok (.dup, 1) := by decide +kernel
theorem d_Model_needRegion_49 : decode b_Model_needRegion 49 = .ok (.getfield 409, 3) := by decide +kernel
theorem d_Model_needRegion_52 : decode b_Model_needRegion 52 = .ok (.iconst 1, 1) := by decide +kernel
theorem d_Model_needRegion_53 : decode b_Model_needRegion 53 = .ok (.iadd, 1) := by decide +kernel
theorem d_Model_needRegion_54 : decode b_Model_needRegion 54 = .ok (.putfield 409, 3) := by decide +kernel
theorem d_Model_needRegion_57 : decode b_Model_needRegion 57 = .ok (.aload_n 0, 1) := by decide +kernel
theorem d_Model_needRegion_58 : decode b_Model_needRegion 58 = .ok (.invokevirtual 396, 3) := by decide +kernel
theorem d_Model_needRegion_61 : decode b_Model_needRegion 61 = .ok (.aload_n 0, 1) := by decide +kernel
theorem d_Model_needRegion_62 : decode b_Model_needRegion 62 = .ok (.getfield 409, 3) := by decide +kernel
theorem d_Model_needRegion_65 : decode b_Model_needRegion 65 = .ok (.iconst 1, 1) := by decide +kernel
theorem d_Model_needRegion_66 : decode b_Model_needRegion 66 = .ok (.isub, 1) := by decide +kernel
theorem d_Model_needRegion_67 : decode b_Model_needRegion 67 = .ok (.ireturn, 1) := by decide +kernel
abbrev b_Model_program_ : ByteArray := prog_14_method_25_code
abbrev y_Model_program_ : MethodName := ⟨R_Model, "program", "()V"⟩
theorem co_Model_program_ : Cond.code y_Model_program_ b_Model_program_ 3 none ∈ lw_good := lg_in (tin_10 _ (List.mem_of_getElem? (i := 142) rfl)) rfl
abbrev w_Model_program_ : List Cond := Cond.code y_Model_program_ b_Model_program_ 3 none :: lw_good
theorem im_Model_program_ : Cond.instanceMethod y_Model_program_ ∈ lw_good := lg_right (i := 2301) (by decide +kernel) rfl
theorem se_Model_program_ : Cond.selects R_Model y_Model_program_ y_Model_program_ ∈ lw_good := lg_left (i := 116) (by decide +kernel) rfl
theorem d_Model_program__0 : decode b_Model_program_ 0 = .ok (.aload_n 0, 1) := by decide +kernel
theorem d_Model_program__1 : decode b_Model_program_ 1 = .ok (.iconst 0, 1) := by decide +kernel
theorem d_Model_program__2 : decode b_Model_program_ 2 = .ok (.putfield 342, 3) := by decide +kernel
theorem d_Model_program__5 : decode b_Model_program_ 5 = .ok (.aload_n 0, 1) := by decide +kernel
theorem d_Model_program__6 : decode b_Model_program_ 6 = .ok (.iconst 0, 1) := by decide +kernel
theorem d_Model_program__7 : decode b_Model_program_ 7 = .ok (.putfield 412, 3) := by decide +kernel
theorem fl_Model_412 : Cond.fieldLink R_Model 412 "PointerHouseModel" "items" "I" ∈ lw_good := lg_right (i := 1830) (by decide +kernel) rfl
theorem d_Model_program__10 : decode b_Model_program_ 10 = .ok (.aload_n 0, 1) := by decide +kernel
theorem d_Model_program__11 : decode b_Model_program_ 11 = .ok (.iconst 0, 1) := by decide +kernel
theorem d_Model_program__12 : decode b_Model_program_ 12 = .ok (.putfield 415, 3) := by decide +kernel
theorem fl_Model_415 : Cond.fieldLink R_Model 415 "PointerHouseModel" "fields" "I" ∈ lw_good := lg_right (i := 1839) (by decide +kernel) rfl
theorem d_Model_program__15 : decode b_Model_program_ 15 = .ok (.aload_n 0, 1) := by decide +kernel
theorem d_Model_program__16 : decode b_Model_program_ 16 = .ok (.iconst 0, 1) := by decide +kernel
theorem d_Model_program__17 : decode b_Model_program_ 17 = .ok (.putfield 418, 3) := by decide +kernel
theorem fl_Model_418 : Cond.fieldLink R_Model 418 "PointerHouseModel" "typeNodes" "I" ∈ lw_good := lg_right (i := 1856) (by decide +kernel) rfl
theorem d_Model_program__20 : decode b_Model_program_ 20 = .ok (.aload_n 0, 1) := by decide +kernel
theorem d_Model_program__21 : decode b_Model_program_ 21 = .ok (.iconst 0, 1) := by decide +kernel
theorem d_Model_program__22 : decode b_Model_program_ 22 = .ok (.putfield 409, 3) := by decide +kernel
theorem d_Model_program__25 : decode b_Model_program_ 25 = .ok (.aload_n 0, 1) := by decide +kernel
theorem d_Model_program__26 : decode b_Model_program_ 26 = .ok (.iconst 0, 1) := by decide +kernel
theorem d_Model_program__27 : decode b_Model_program_ 27 = .ok (.putfield 421, 3) := by decide +kernel
theorem fl_Model_421 : Cond.fieldLink R_Model 421 "PointerHouseModel" "nodes" "I" ∈ lw_good := lg_right (i := 1868) (by decide +kernel) rfl
theorem d_Model_program__30 : decode b_Model_program_ 30 = .ok (.aload_n 0, 1) := by decide +kernel
theorem d_Model_program__31 : decode b_Model_program_ 31 = .ok (.invokevirtual 396, 3) := by decide +kernel
theorem d_Model_program__34 : decode b_Model_program_ 34 = .ok (.iconst 1, 1) := by decide +kernel
theorem d_Model_program__35 : decode b_Model_program_ 35 = .ok (.istore_n 1, 1) := by decide +kernel
theorem d_Model_program__36 : decode b_Model_program_ 36 = .ok (.iload_n 1, 1) := by decide +kernel
theorem d_Model_program__37 : decode b_Model_program_ 37 = .ok (.ifCond .eq 99, 3) := by decide +kernel
theorem d_Model_program__40 : decode b_Model_program_ 40 = .ok (.aload_n 0, 1) := by decide +kernel
theorem d_Model_program__41 : decode b_Model_program_ 41 = .ok (.invokevirtual 385, 3) := by decide +kernel
theorem d_Model_program__44 : decode b_Model_program_ 44 = .ok (.ifCond .ne 92, 3) := by decide +kernel
theorem d_Model_program__47 : decode b_Model_program_ 47 = .ok (.aload_n 0, 1) := by decide +kernel
theorem d_Model_program__48 : decode b_Model_program_ 48 = .ok (.ldc_w 424, 3) := by decide +kernel
theorem d_Model_program__51 : decode b_Model_program_ 51 = .ok (.invokevirtual 399, 3) := by decide +kernel
theorem d_Model_program__54 : decode b_Model_program_ 54 = .ok (.ifCond .eq 7, 3) := by decide +kernel
theorem d_Model_program__57 : decode b_Model_program_ 57 = .ok (.iconst 0, 1) := by decide +kernel
theorem d_Model_program__58 : decode b_Model_program_ 58 = .ok (.goto 32, 3) := by decide +kernel
theorem d_Model_program__61 : decode b_Model_program_ 61 = .ok (.aload_n 0, 1) := by decide +kernel
theorem d_Model_program__62 : decode b_Model_program_ 62 = .ok (.ldc_w 426, 3) := by decide +kernel
theorem d_Model_program__65 : decode b_Model_program_ 65 = .ok (.invokevirtual 399, 3) := by decide +kernel
theorem d_Model_program__68 : decode b_Model_program_ 68 = .ok (.ifCond .eq 7, 3) := by decide +kernel
theorem d_Model_program__71 : decode b_Model_program_ 71 = .ok (.iconst 1, 1) := by decide +kernel
theorem d_Model_program__72 : decode b_Model_program_ 72 = .ok (.goto 18, 3) := by decide +kernel
theorem d_Model_program__75 : decode b_Model_program_ 75 = .ok (.aload_n 0, 1) := by decide +kernel
theorem d_Model_program__76 : decode b_Model_program_ 76 = .ok (.ldc_w 428, 3) := by decide +kernel
theorem d_Model_program__79 : decode b_Model_program_ 79 = .ok (.invokevirtual 399, 3) := by decide +kernel
theorem d_Model_program__82 : decode b_Model_program_ 82 = .ok (.ifCond .eq 7, 3) := by decide +kernel
theorem d_Model_program__85 : decode b_Model_program_ 85 = .ok (.iconst 2, 1) := by decide +kernel
theorem d_Model_program__86 : decode b_Model_program_ 86 = .ok (.goto 4, 3) := by decide +kernel
theorem d_Model_program__89 : decode b_Model_program_ 89 = .ok (.iconst (-1), 1) := by decide +kernel
theorem d_Model_program__90 : decode b_Model_program_ 90 = .ok (.istore_n 2, 1) := by decide +kernel
theorem d_Model_program__91 : decode b_Model_program_ 91 = .ok (.iload_n 2, 1) := by decide +kernel
theorem d_Model_program__92 : decode b_Model_program_ 92 = .ok (.ifCond .lt 12, 3) := by decide +kernel
theorem d_Model_program__95 : decode b_Model_program_ 95 = .ok (.aload_n 0, 1) := by decide +kernel
theorem d_Model_program__96 : decode b_Model_program_ 96 = .ok (.getfield 412, 3) := by decide +kernel
theorem d_Model_program__99 : decode b_Model_program_ 99 = .ok (.bipush 24, 2) := by decide +kernel
theorem d_Model_program__101 : decode b_Model_program_ 101 = .ok (.if_icmp .ne 8, 3) := by decide +kernel
theorem d_Model_program__104 : decode b_Model_program_ 104 = .ok (.aload_n 0, 1) := by decide +kernel
theorem d_Model_program__105 : decode b_Model_program_ 105 = .ok (.invokevirtual 406, 3) := by decide +kernel
theorem d_Model_program__108 : decode b_Model_program_ 108 = .ok (.return_, 1) := by decide +kernel
theorem d_Model_program__109 : decode b_Model_program_ 109 = .ok (.aload_n 0, 1) := by decide +kernel
theorem d_Model_program__110 : decode b_Model_program_ 110 = .ok (.invokevirtual 396, 3) := by decide +kernel
theorem d_Model_program__113 : decode b_Model_program_ 113 = .ok (.aload_n 0, 1) := by decide +kernel
theorem d_Model_program__114 : decode b_Model_program_ 114 = .ok (.iload_n 2, 1) := by decide +kernel
theorem d_Model_program__115 : decode b_Model_program_ 115 = .ok (.invokevirtual 430, 3) := by decide +kernel
theorem ml_Model_430 : Cond.methodLink R_Model 430 ⟨"PointerHouseModel", "readItem", "(I)V"⟩ ∈ lw_good := lg_right (i := 2360) (by decide +kernel) rfl
theorem d_Model_program__118 : decode b_Model_program_ 118 = .ok (.aload_n 0, 1) := by decide +kernel
theorem d_Model_program__119 : decode b_Model_program_ 119 = .ok (.getfield 352, 3) := by decide +kernel
theorem d_Model_program__122 : decode b_Model_program_ 122 = .ok (.bipush 7, 2) := by decide +kernel
theorem d_Model_program__124 : decode b_Model_program_ 124 = .ok (.if_icmp .eq 7, 3) := by decide +kernel
theorem d_Model_program__127 : decode b_Model_program_ 127 = .ok (.iconst 1, 1) := by decide +kernel
theorem d_Model_program__128 : decode b_Model_program_ 128 = .ok (.goto 4, 3) := by decide +kernel
theorem d_Model_program__131 : decode b_Model_program_ 131 = .ok (.iconst 0, 1) := by decide +kernel
theorem d_Model_program__132 : decode b_Model_program_ 132 = .ok (.istore_n 1, 1) := by decide +kernel
theorem d_Model_program__133 : decode b_Model_program_ 133 = .ok (.goto (-97), 3) := by decide +kernel
theorem d_Model_program__136 : decode b_Model_program_ 136 = .ok (.return_, 1) := by decide +kernel
abbrev b_Model_readItem : ByteArray := prog_14_method_26_code
abbrev y_Model_readItem : MethodName := ⟨R_Model, "readItem", "(I)V"⟩
theorem co_Model_readItem : Cond.code y_Model_readItem b_Model_readItem 2 none ∈ lw_good := lg_in (tin_10 _ (List.mem_of_getElem? (i := 203) rfl)) rfl
abbrev w_Model_readItem : List Cond := Cond.code y_Model_readItem b_Model_readItem 2 none :: lw_good
theorem im_Model_readItem : Cond.instanceMethod y_Model_readItem ∈ lw_good := lg_right (i := 2362) (by decide +kernel) rfl
theorem se_Model_readItem : Cond.selects R_Model y_Model_readItem y_Model_readItem ∈ lw_good := lg_left (i := 125) (by decide +kernel) rfl
theorem d_Model_readItem_0 : decode b_Model_readItem 0 = .ok (.aload_n 0, 1) := by decide +kernel
theorem d_Model_readItem_1 : decode b_Model_readItem 1 = .ok (.aload_n 0, 1) := by decide +kernel
theorem d_Model_readItem_2 : decode b_Model_readItem 2 = .ok (.getfield 412, 3) := by decide +kernel
theorem d_Model_readItem_5 : decode b_Model_readItem 5 = .ok (.putfield 433, 3) := by decide +kernel
theorem fl_Model_433 : Cond.fieldLink R_Model 433 "PointerHouseModel" "item" "I" ∈ lw_good := lg_right (i := 1883) (by decide +kernel) rfl
theorem d_Model_readItem_8 : decode b_Model_readItem 8 = .ok (.aload_n 0, 1) := by decide +kernel
theorem d_Model_readItem_9 : decode b_Model_readItem 9 = .ok (.getfield 17, 3) := by decide +kernel
theorem fl_Model_17 : Cond.fieldLink R_Model 17 "PointerHouseModel" "itemKind" "[I" ∈ lw_good := lg_right (i := 1831) (by decide +kernel) rfl
theorem d_Model_readItem_12 : decode b_Model_readItem 12 = .ok (.aload_n 0, 1) := by decide +kernel
theorem d_Model_readItem_13 : decode b_Model_readItem 13 = .ok (.getfield 433, 3) := by decide +kernel
theorem d_Model_readItem_16 : decode b_Model_readItem 16 = .ok (.iload_n 1, 1) := by decide +kernel
theorem d_Model_readItem_17 : decode b_Model_readItem 17 = .ok (.iastore, 1) := by decide +kernel
theorem d_Model_readItem_18 : decode b_Model_readItem 18 = .ok (.aload_n 0, 1) := by decide +kernel
theorem d_Model_readItem_19 : decode b_Model_readItem 19 = .ok (.getfield 24, 3) := by decide +kernel
theorem fl_Model_24 : Cond.fieldLink R_Model 24 "PointerHouseModel" "itemPlace" "[I" ∈ lw_good := lg_right (i := 1833) (by decide +kernel) rfl
theorem d_Model_readItem_22 : decode b_Model_readItem 22 = .ok (.aload_n 0, 1) := by decide +kernel
theorem d_Model_readItem_23 : decode b_Model_readItem 23 = .ok (.getfield 433, 3) := by decide +kernel
theorem d_Model_readItem_26 : decode b_Model_readItem 26 = .ok (.aload_n 0, 1) := by decide +kernel
theorem d_Model_readItem_27 : decode b_Model_readItem 27 = .ok (.getfield 349, 3) := by decide +kernel
theorem d_Model_readItem_30 : decode b_Model_readItem 30 = .ok (.iastore, 1) := by decide +kernel
theorem d_Model_readItem_31 : decode b_Model_readItem 31 = .ok (.aload_n 0, 1) := by decide +kernel
theorem d_Model_readItem_32 : decode b_Model_readItem 32 = .ok (.getfield 20, 3) := by decide +kernel
theorem fl_Model_20 : Cond.fieldLink R_Model 20 "PointerHouseModel" "itemName" "[J" ∈ lw_good := lg_right (i := 1832) (by decide +kernel) rfl
theorem d_Model_readItem_35 : decode b_Model_readItem 35 = .ok (.aload_n 0, 1) := by decide +kernel
theorem d_Model_readItem_36 : decode b_Model_readItem 36 = .ok (.getfield 433, 3) := by decide +kernel
theorem d_Model_readItem_39 : decode b_Model_readItem 39 = .ok (.aload_n 0, 1) := by decide +kernel
theorem d_Model_readItem_40 : decode b_Model_readItem 40 = .ok (.getfield 365, 3) := by decide +kernel
theorem d_Model_readItem_43 : decode b_Model_readItem 43 = .ok (.lastore, 1) := by decide +kernel
theorem d_Model_readItem_44 : decode b_Model_readItem 44 = .ok (.aload_n 0, 1) := by decide +kernel
theorem d_Model_readItem_45 : decode b_Model_readItem 45 = .ok (.getfield 352, 3) := by decide +kernel
theorem d_Model_readItem_48 : decode b_Model_readItem 48 = .ok (.iload_n 1, 1) := by decide +kernel
theorem d_Model_readItem_49 : decode b_Model_readItem 49 = .ok (.iconst 2, 1) := by decide +kernel
theorem d_Model_readItem_50 : decode b_Model_readItem 50 = .ok (.if_icmp .ne 7, 3) := by decide +kernel
theorem d_Model_readItem_53 : decode b_Model_readItem 53 = .ok (.iconst 1, 1) := by decide +kernel
theorem d_Model_readItem_54 : decode b_Model_readItem 54 = .ok (.goto 4, 3) := by decide +kernel
theorem d_Model_readItem_57 : decode b_Model_readItem 57 = .ok (.iconst 3, 1) := by decide +kernel
theorem d_Model_readItem_58 : decode b_Model_readItem 58 = .ok (.if_icmp .eq 7, 3) := by decide +kernel
theorem d_Model_readItem_61 : decode b_Model_readItem 61 = .ok (.aload_n 0, 1) := by decide +kernel
theorem d_Model_readItem_62 : decode b_Model_readItem 62 = .ok (.invokevirtual 406, 3) := by decide +kernel
theorem d_Model_readItem_65 : decode b_Model_readItem 65 = .ok (.aload_n 0, 1) := by decide +kernel
theorem d_Model_readItem_66 : decode b_Model_readItem 66 = .ok (.invokevirtual 385, 3) := by decide +kernel
theorem d_Model_readItem_69 : decode b_Model_readItem 69 = .ok (.ifCond .eq 4, 3) := by decide +kernel
theorem d_Model_readItem_72 : decode b_Model_readItem 72 = .ok (.return_, 1) := by decide +kernel
theorem d_Model_readItem_73 : decode b_Model_readItem 73 = .ok (.aload_n 0, 1) := by decide +kernel
theorem d_Model_readItem_74 : decode b_Model_readItem 74 = .ok (.dup, 1) := by decide +kernel
theorem d_Model_readItem_75 : decode b_Model_readItem 75 = .ok (.getfield 412, 3) := by decide +kernel
theorem d_Model_readItem_78 : decode b_Model_readItem 78 = .ok (.iconst 1, 1) := by decide +kernel
theorem d_Model_readItem_79 : decode b_Model_readItem 79 = .ok (.iadd, 1) := by decide +kernel
theorem d_Model_readItem_80 : decode b_Model_readItem 80 = .ok (.putfield 412, 3) := by decide +kernel
theorem d_Model_readItem_83 : decode b_Model_readItem 83 = .ok (.aload_n 0, 1) := by decide +kernel
theorem d_Model_readItem_84 : decode b_Model_readItem 84 = .ok (.invokevirtual 396, 3) := by decide +kernel
theorem d_Model_readItem_87 : decode b_Model_readItem 87 = .ok (.aload_n 0, 1) := by decide +kernel
theorem d_Model_readItem_88 : decode b_Model_readItem 88 = .ok (.getfield 27, 3) := by decide +kernel
theorem fl_Model_27 : Cond.fieldLink R_Model 27 "PointerHouseModel" "regions" "[I" ∈ lw_good := lg_right (i := 1834) (by decide +kernel) rfl
theorem d_Model_readItem_91 : decode b_Model_readItem 91 = .ok (.aload_n 0, 1) := by decide +kernel
theorem d_Model_readItem_92 : decode b_Model_readItem 92 = .ok (.getfield 433, 3) := by decide +kernel
theorem d_Model_readItem_95 : decode b_Model_readItem 95 = .ok (.iconst 0, 1) := by decide +kernel
theorem d_Model_readItem_96 : decode b_Model_readItem 96 = .ok (.iastore, 1) := by decide +kernel
theorem d_Model_readItem_97 : decode b_Model_readItem 97 = .ok (.aload_n 0, 1) := by decide +kernel
theorem d_Model_readItem_98 : decode b_Model_readItem 98 = .ok (.getfield 352, 3) := by decide +kernel
theorem d_Model_readItem_101 : decode b_Model_readItem 101 = .ok (.iconst 4, 1) := by decide +kernel
theorem d_Model_readItem_102 : decode b_Model_readItem 102 = .ok (.if_icmp .ne 86, 3) := by decide +kernel
theorem d_Model_readItem_105 : decode b_Model_readItem 105 = .ok (.aload_n 0, 1) := by decide +kernel
theorem d_Model_readItem_106 : decode b_Model_readItem 106 = .ok (.getfield 27, 3) := by decide +kernel
theorem d_Model_readItem_109 : decode b_Model_readItem 109 = .ok (.aload_n 0, 1) := by decide +kernel
theorem d_Model_readItem_110 : decode b_Model_readItem 110 = .ok (.getfield 433, 3) := by decide +kernel
theorem d_Model_readItem_113 : decode b_Model_readItem 113 = .ok (.iaload, 1) := by decide +kernel
theorem d_Model_readItem_114 : decode b_Model_readItem 114 = .ok (.iconst 3, 1) := by decide +kernel
theorem d_Model_readItem_115 : decode b_Model_readItem 115 = .ok (.if_icmp .ge 73, 3) := by decide +kernel
theorem d_Model_readItem_118 : decode b_Model_readItem 118 = .ok (.aload_n 0, 1) := by decide +kernel
theorem d_Model_readItem_119 : decode b_Model_readItem 119 = .ok (.getfield 30, 3) := by decide +kernel
theorem fl_Model_30 : Cond.fieldLink R_Model 30 "PointerHouseModel" "regionName" "[J" ∈ lw_good := lg_right (i := 1835) (by decide +kernel) rfl
theorem d_Model_readItem_122 : decode b_Model_readItem 122 = .ok (.iconst 3, 1) := by decide +kernel
theorem d_Model_readItem_123 : decode b_Model_readItem 123 = .ok (.aload_n 0, 1) := by decide +kernel
theorem d_Model_readItem_124 : decode b_Model_readItem 124 = .ok (.getfield 433, 3) := by decide +kernel
theorem d_Model_readItem_127 : decode b_Model_readItem 127 = .ok (.imul, 1) := by decide +kernel
theorem d_Model_readItem_128 : decode b_Model_readItem 128 = .ok (.aload_n 0, 1) := by decide +kernel
theorem d_Model_readItem_129 : decode b_Model_readItem 129 = .ok (.getfield 27, 3) := by decide +kernel
theorem d_Model_readItem_132 : decode b_Model_readItem 132 = .ok (.aload_n 0, 1) := by decide +kernel
theorem d_Model_readItem_133 : decode b_Model_readItem 133 = .ok (.getfield 433, 3) := by decide +kernel
theorem d_Model_readItem_136 : decode b_Model_readItem 136 = .ok (.iaload, 1) := by decide +kernel
theorem d_Model_readItem_137 : decode b_Model_readItem 137 = .ok (.iadd, 1) := by decide +kernel
theorem d_Model_readItem_138 : decode b_Model_readItem 138 = .ok (.aload_n 0, 1) := by decide +kernel
theorem d_Model_readItem_139 : decode b_Model_readItem 139 = .ok (.getfield 365, 3) := by decide +kernel
theorem d_Model_readItem_142 : decode b_Model_readItem 142 = .ok (.lastore, 1) := by decide +kernel
theorem d_Model_readItem_143 : decode b_Model_readItem 143 = .ok (.aload_n 0, 1) := by decide +kernel
theorem d_Model_readItem_144 : decode b_Model_readItem 144 = .ok (.getfield 33, 3) := by decide +kernel
theorem fl_Model_33 : Cond.fieldLink R_Model 33 "PointerHouseModel" "regionPlace" "[I" ∈ lw_good := lg_right (i := 1836) (by decide +kernel) rfl
theorem d_Model_readItem_147 : decode b_Model_readItem 147 = .ok (.iconst 3, 1) := by decide +kernel
theorem d_Model_readItem_148 : decode b_Model_readItem 148 = .ok (.aload_n 0, 1) := by decide +kernel
theorem d_Model_readItem_149 : decode b_Model_readItem 149 = .ok (.getfield 433, 3) := by decide +kernel
theorem d_Model_readItem_152 : decode b_Model_readItem 152 = .ok (.imul, 1) := by decide +kernel
theorem d_Model_readItem_153 : decode b_Model_readItem 153 = .ok (.aload_n 0, 1) := by decide +kernel
theorem d_Model_readItem_154 : decode b_Model_readItem 154 = .ok (.getfield 27, 3) := by decide +kernel
theorem d_Model_readItem_157 : decode b_Model_readItem 157 = .ok (.aload_n 0, 1) := by decide +kernel
theorem d_Model_readItem_158 : decode b_Model_readItem 158 = .ok (.getfield 433, 3) := by decide +kernel
theorem d_Model_readItem_161 : decode b_Model_readItem 161 = .ok (.iaload, 1) := by decide +kernel
theorem d_Model_readItem_162 : decode b_Model_readItem 162 = .ok (.iadd, 1) := by decide +kernel
theorem d_Model_readItem_163 : decode b_Model_readItem 163 = .ok (.aload_n 0, 1) := by decide +kernel
theorem d_Model_readItem_164 : decode b_Model_readItem 164 = .ok (.getfield 349, 3) := by decide +kernel
theorem d_Model_readItem_167 : decode b_Model_readItem 167 = .ok (.iastore, 1) := by decide +kernel
theorem d_Model_readItem_168 : decode b_Model_readItem 168 = .ok (.aload_n 0, 1) := by decide +kernel
theorem d_Model_readItem_169 : decode b_Model_readItem 169 = .ok (.getfield 27, 3) := by decide +kernel
theorem d_Model_readItem_172 : decode b_Model_readItem 172 = .ok (.aload_n 0, 1) := by decide +kernel
theorem d_Model_readItem_173 : decode b_Model_readItem 173 = .ok (.getfield 433, 3) := by decide +kernel
theorem d_Model_readItem_176 : decode b_Model_readItem 176 = .ok (.dup2, 1) := by decide +kernel
theorem d_Model_readItem_177 : decode b_Model_readItem 177 = .ok (.iaload, 1) := by decide +kernel
theorem d_Model_readItem_178 : decode b_Model_readItem 178 = .ok (.iconst 1, 1) := by decide +kernel
theorem d_Model_readItem_179 : decode b_Model_readItem 179 = .ok (.iadd, 1) := by decide +kernel
theorem d_Model_readItem_180 : decode b_Model_readItem 180 = .ok (.iastore, 1) := by decide +kernel
theorem d_Model_readItem_181 : decode b_Model_readItem 181 = .ok (.aload_n 0, 1) := by decide +kernel
theorem d_Model_readItem_182 : decode b_Model_readItem 182 = .ok (.invokevirtual 396, 3) := by decide +kernel
theorem d_Model_readItem_185 : decode b_Model_readItem 185 = .ok (.goto (-88), 3) := by decide +kernel
theorem d_Model_readItem_188 : decode b_Model_readItem 188 = .ok (.aload_n 0, 1) := by decide +kernel
theorem d_Model_readItem_189 : decode b_Model_readItem 189 = .ok (.getfield 36, 3) := by decide +kernel
theorem fl_Model_36 : Cond.fieldLink R_Model 36 "PointerHouseModel" "firstField" "[I" ∈ lw_good := lg_right (i := 1837) (by decide +kernel) rfl
theorem d_Model_readItem_192 : decode b_Model_readItem 192 = .ok (.aload_n 0, 1) := by decide +kernel
theorem d_Model_readItem_193 : decode b_Model_readItem 193 = .ok (.getfield 433, 3) := by decide +kernel
theorem d_Model_readItem_196 : decode b_Model_readItem 196 = .ok (.aload_n 0, 1) := by decide +kernel
theorem d_Model_readItem_197 : decode b_Model_readItem 197 = .ok (.getfield 415, 3) := by decide +kernel
theorem d_Model_readItem_200 : decode b_Model_readItem 200 = .ok (.iastore, 1) := by decide +kernel
theorem d_Model_readItem_201 : decode b_Model_readItem 201 = .ok (.aload_n 0, 1) := by decide +kernel
theorem d_Model_readItem_202 : decode b_Model_readItem 202 = .ok (.getfield 39, 3) := by decide +kernel
theorem fl_Model_39 : Cond.fieldLink R_Model 39 "PointerHouseModel" "manyFields" "[I" ∈ lw_good := lg_right (i := 1838) (by decide +kernel) rfl
theorem d_Model_readItem_205 : decode b_Model_readItem 205 = .ok (.aload_n 0, 1) := by decide +kernel
theorem d_Model_readItem_206 : decode b_Model_readItem 206 = .ok (.getfield 433, 3) := by decide +kernel
theorem d_Model_readItem_209 : decode b_Model_readItem 209 = .ok (.iconst 0, 1) := by decide +kernel
theorem d_Model_readItem_210 : decode b_Model_readItem 210 = .ok (.iastore, 1) := by decide +kernel
theorem d_Model_readItem_211 : decode b_Model_readItem 211 = .ok (.aload_n 0, 1) := by decide +kernel
theorem d_Model_readItem_212 : decode b_Model_readItem 212 = .ok (.iconst 0, 1) := by decide +kernel
theorem d_Model_readItem_213 : decode b_Model_readItem 213 = .ok (.putfield 436, 3) := by decide +kernel
theorem fl_Model_436 : Cond.fieldLink R_Model 436 "PointerHouseModel" "funVars" "I" ∈ lw_good := lg_right (i := 1881) (by decide +kernel) rfl
theorem d_Model_readItem_216 : decode b_Model_readItem 216 = .ok (.aload_n 0, 1) := by decide +kernel
theorem d_Model_readItem_217 : decode b_Model_readItem 217 = .ok (.iconst 0, 1) := by decide +kernel
theorem d_Model_readItem_218 : decode b_Model_readItem 218 = .ok (.putfield 439, 3) := by decide +kernel
theorem fl_Model_439 : Cond.fieldLink R_Model 439 "PointerHouseModel" "funRegions" "I" ∈ lw_good := lg_right (i := 1882) (by decide +kernel) rfl
theorem d_Model_readItem_221 : decode b_Model_readItem 221 = .ok (.aload_n 0, 1) := by decide +kernel
theorem d_Model_readItem_222 : decode b_Model_readItem 222 = .ok (.getfield 54, 3) := by decide +kernel
theorem fl_Model_54 : Cond.fieldLink R_Model 54 "PointerHouseModel" "resultNode" "[I" ∈ lw_good := lg_right (i := 1844) (by decide +kernel) rfl
theorem d_Model_readItem_225 : decode b_Model_readItem 225 = .ok (.aload_n 0, 1) := by decide +kernel
theorem d_Model_readItem_226 : decode b_Model_readItem 226 = .ok (.getfield 433, 3) := by decide +kernel
theorem d_Model_readItem_229 : decode b_Model_readItem 229 = .ok (.iconst (-1), 1) := by decide +kernel
theorem d_Model_readItem_230 : decode b_Model_readItem 230 = .ok (.iastore, 1) := by decide +kernel
theorem d_Model_readItem_231 : decode b_Model_readItem 231 = .ok (.aload_n 0, 1) := by decide +kernel
theorem d_Model_readItem_232 : decode b_Model_readItem 232 = .ok (.getfield 60, 3) := by decide +kernel
theorem fl_Model_60 : Cond.fieldLink R_Model 60 "PointerHouseModel" "dead" "[I" ∈ lw_good := lg_right (i := 1846) (by decide +kernel) rfl
theorem d_Model_readItem_235 : decode b_Model_readItem 235 = .ok (.aload_n 0, 1) := by decide +kernel
theorem d_Model_readItem_236 : decode b_Model_readItem 236 = .ok (.getfield 433, 3) := by decide +kernel
theorem d_Model_readItem_239 : decode b_Model_readItem 239 = .ok (.iconst 0, 1) := by decide +kernel
theorem d_Model_readItem_240 : decode b_Model_readItem 240 = .ok (.iastore, 1) := by decide +kernel
theorem d_Model_readItem_241 : decode b_Model_readItem 241 = .ok (.aload_n 0, 1) := by decide +kernel
theorem d_Model_readItem_242 : decode b_Model_readItem 242 = .ok (.getfield 72, 3) := by decide +kernel
theorem fl_Model_72 : Cond.fieldLink R_Model 72 "PointerHouseModel" "wheres" "[I" ∈ lw_good := lg_right (i := 1850) (by decide +kernel) rfl
theorem d_Model_readItem_245 : decode b_Model_readItem 245 = .ok (.aload_n 0, 1) := by decide +kernel
theorem d_Model_readItem_246 : decode b_Model_readItem 246 = .ok (.getfield 433, 3) := by decide +kernel
theorem d_Model_readItem_249 : decode b_Model_readItem 249 = .ok (.iconst 0, 1) := by decide +kernel
theorem d_Model_readItem_250 : decode b_Model_readItem 250 = .ok (.iastore, 1) := by decide +kernel
theorem d_Model_readItem_251 : decode b_Model_readItem 251 = .ok (.iload_n 1, 1) := by decide +kernel
theorem d_Model_readItem_252 : decode b_Model_readItem 252 = .ok (.iconst 2, 1) := by decide +kernel
theorem d_Model_readItem_253 : decode b_Model_readItem 253 = .ok (.if_icmp .ne 35, 3) := by decide +kernel
theorem d_Model_readItem_256 : decode b_Model_readItem 256 = .ok (.aload_n 0, 1) := by decide +kernel
theorem d_Model_readItem_257 : decode b_Model_readItem 257 = .ok (.invokevirtual 442, 3) := by decide +kernel
theorem ml_Model_442 : Cond.methodLink R_Model 442 ⟨"PointerHouseModel", "readHead", "()V"⟩ ∈ lw_good := lg_right (i := 2364) (by decide +kernel) rfl
theorem d_Model_readItem_260 : decode b_Model_readItem 260 = .ok (.aload_n 0, 1) := by decide +kernel
theorem d_Model_readItem_261 : decode b_Model_readItem 261 = .ok (.getfield 81, 3) := by decide +kernel
theorem fl_Model_81 : Cond.fieldLink R_Model 81 "PointerHouseModel" "body" "[I" ∈ lw_good := lg_right (i := 1853) (by decide +kernel) rfl
theorem d_Model_readItem_264 : decode b_Model_readItem 264 = .ok (.aload_n 0, 1) := by decide +kernel
theorem d_Model_readItem_265 : decode b_Model_readItem 265 = .ok (.getfield 433, 3) := by decide +kernel
theorem d_Model_readItem_268 : decode b_Model_readItem 268 = .ok (.aload_n 0, 1) := by decide +kernel
theorem d_Model_readItem_269 : decode b_Model_readItem 269 = .ok (.iconst 1, 1) := by decide +kernel
theorem d_Model_readItem_270 : decode b_Model_readItem 270 = .ok (.invokevirtual 445, 3) := by decide +kernel
theorem ml_Model_445 : Cond.methodLink R_Model 445 ⟨"PointerHouseModel", "block", "(I)I"⟩ ∈ lw_good := lg_right (i := 2411) (by decide +kernel) rfl
theorem d_Model_readItem_273 : decode b_Model_readItem 273 = .ok (.iastore, 1) := by decide +kernel
theorem d_Model_readItem_274 : decode b_Model_readItem 274 = .ok (.aload_n 0, 1) := by decide +kernel
theorem d_Model_readItem_275 : decode b_Model_readItem 275 = .ok (.getfield 84, 3) := by decide +kernel
theorem fl_Model_84 : Cond.fieldLink R_Model 84 "PointerHouseModel" "varsOf" "[I" ∈ lw_good := lg_right (i := 1854) (by decide +kernel) rfl
theorem d_Model_readItem_278 : decode b_Model_readItem 278 = .ok (.aload_n 0, 1) := by decide +kernel
theorem d_Model_readItem_279 : decode b_Model_readItem 279 = .ok (.getfield 433, 3) := by decide +kernel
theorem d_Model_readItem_282 : decode b_Model_readItem 282 = .ok (.aload_n 0, 1) := by decide +kernel
theorem d_Model_readItem_283 : decode b_Model_readItem 283 = .ok (.getfield 436, 3) := by decide +kernel
theorem d_Model_readItem_286 : decode b_Model_readItem 286 = .ok (.iastore, 1) := by decide +kernel
theorem d_Model_readItem_287 : decode b_Model_readItem 287 = .ok (.return_, 1) := by decide +kernel
theorem d_Model_readItem_288 : decode b_Model_readItem 288 = .ok (.aload_n 0, 1) := by decide +kernel
theorem d_Model_readItem_289 : decode b_Model_readItem 289 = .ok (.bipush 123, 2) := by decide +kernel
theorem d_Model_readItem_291 : decode b_Model_readItem 291 = .ok (.invokevirtual 448, 3) := by decide +kernel
theorem ml_Model_448 : Cond.methodLink R_Model 448 ⟨"PointerHouseModel", "need", "(I)V"⟩ ∈ lw_good := lg_right (i := 2368) (by decide +kernel) rfl
theorem d_Model_readItem_294 : decode b_Model_readItem 294 = .ok (.aload_n 0, 1) := by decide +kernel
theorem d_Model_readItem_295 : decode b_Model_readItem 295 = .ok (.getfield 39, 3) := by decide +kernel
theorem d_Model_readItem_298 : decode b_Model_readItem 298 = .ok (.aload_n 0, 1) := by decide +kernel
theorem d_Model_readItem_299 : decode b_Model_readItem 299 = .ok (.getfield 433, 3) := by decide +kernel
theorem d_Model_readItem_302 : decode b_Model_readItem 302 = .ok (.iaload, 1) := by decide +kernel
theorem d_Model_readItem_303 : decode b_Model_readItem 303 = .ok (.bipush 8, 2) := by decide +kernel
theorem d_Model_readItem_305 : decode b_Model_readItem 305 = .ok (.if_icmp .ne 7, 3) := by decide +kernel
theorem d_Model_readItem_308 : decode b_Model_readItem 308 = .ok (.aload_n 0, 1) := by decide +kernel
theorem d_Model_readItem_309 : decode b_Model_readItem 309 = .ok (.invokevirtual 406, 3) := by decide +kernel
theorem d_Model_readItem_312 : decode b_Model_readItem 312 = .ok (.aload_n 0, 1) := by decide +kernel
theorem d_Model_readItem_313 : decode b_Model_readItem 313 = .ok (.invokevirtual 451, 3) := by decide +kernel
theorem ml_Model_451 : Cond.methodLink R_Model 451 ⟨"PointerHouseModel", "readField", "()V"⟩ ∈ lw_good := lg_right (i := 2380) (by decide +kernel) rfl
theorem d_Model_readItem_316 : decode b_Model_readItem 316 = .ok (.aload_n 0, 1) := by decide +kernel
theorem d_Model_readItem_317 : decode b_Model_readItem 317 = .ok (.bipush 59, 2) := by decide +kernel
theorem d_Model_readItem_319 : decode b_Model_readItem 319 = .ok (.invokevirtual 448, 3) := by decide +kernel
theorem d_Model_readItem_322 : decode b_Model_readItem 322 = .ok (.aload_n 0, 1) := by decide +kernel
theorem d_Model_readItem_323 : decode b_Model_readItem 323 = .ok (.invokevirtual 385, 3) := by decide +kernel
theorem d_Model_readItem_326 : decode b_Model_readItem 326 = .ok (.ifCond .ne 12, 3) := by decide +kernel
theorem d_Model_readItem_329 : decode b_Model_readItem 329 = .ok (.aload_n 0, 1) := by decide +kernel
theorem d_Model_readItem_330 : decode b_Model_readItem 330 = .ok (.bipush 125, 2) := by decide +kernel
theorem d_Model_readItem_332 : decode b_Model_readItem 332 = .ok (.invokevirtual 393, 3) := by decide +kernel
theorem d_Model_readItem_335 : decode b_Model_readItem 335 = .ok (.ifCond .eq (-41), 3) := by decide +kernel
theorem d_Model_readItem_338 : decode b_Model_readItem 338 = .ok (.aload_n 0, 1) := by decide +kernel
theorem d_Model_readItem_339 : decode b_Model_readItem 339 = .ok (.bipush 125, 2) := by decide +kernel
theorem d_Model_readItem_341 : decode b_Model_readItem 341 = .ok (.invokevirtual 448, 3) := by decide +kernel
theorem d_Model_readItem_344 : decode b_Model_readItem 344 = .ok (.aload_n 0, 1) := by decide +kernel
theorem d_Model_readItem_345 : decode b_Model_readItem 345 = .ok (.bipush 59, 2) := by decide +kernel
theorem d_Model_readItem_347 : decode b_Model_readItem 347 = .ok (.invokevirtual 448, 3) := by decide +kernel
theorem d_Model_readItem_350 : decode b_Model_readItem 350 = .ok (.return_, 1) := by decide +kernel
abbrev b_Model_readHead : ByteArray := prog_14_method_28_code
abbrev y_Model_readHead : MethodName := ⟨R_Model, "readHead", "()V"⟩
theorem co_Model_readHead : Cond.code y_Model_readHead b_Model_readHead 2 none ∈ lw_good := lg_in (tin_10 _ (List.mem_of_getElem? (i := 207) rfl)) rfl
abbrev w_Model_readHead : List Cond := Cond.code y_Model_readHead b_Model_readHead 2 none :: lw_good
theorem im_Model_readHead : Cond.instanceMethod y_Model_readHead ∈ lw_good := lg_right (i := 2366) (by decide +kernel) rfl
theorem se_Model_readHead : Cond.selects R_Model y_Model_readHead y_Model_readHead ∈ lw_good := lg_left (i := 126) (by decide +kernel) rfl
theorem d_Model_readHead_0 : decode b_Model_readHead 0 = .ok (.aload_n 0, 1) := by decide +kernel
theorem d_Model_readHead_1 : decode b_Model_readHead 1 = .ok (.bipush 40, 2) := by decide +kernel
theorem d_Model_readHead_3 : decode b_Model_readHead 3 = .ok (.invokevirtual 448, 3) := by decide +kernel
theorem d_Model_readHead_6 : decode b_Model_readHead 6 = .ok (.aload_n 0, 1) := by decide +kernel
theorem d_Model_readHead_7 : decode b_Model_readHead 7 = .ok (.invokevirtual 385, 3) := by decide +kernel
theorem d_Model_readHead_10 : decode b_Model_readHead 10 = .ok (.ifCond .ne 74, 3) := by decide +kernel
theorem d_Model_readHead_13 : decode b_Model_readHead 13 = .ok (.aload_n 0, 1) := by decide +kernel
theorem d_Model_readHead_14 : decode b_Model_readHead 14 = .ok (.bipush 41, 2) := by decide +kernel
theorem d_Model_readHead_16 : decode b_Model_readHead 16 = .ok (.invokevirtual 393, 3) := by decide +kernel
theorem d_Model_readHead_19 : decode b_Model_readHead 19 = .ok (.ifCond .ne 65, 3) := by decide +kernel
theorem d_Model_readHead_22 : decode b_Model_readHead 22 = .ok (.aload_n 0, 1) := by decide +kernel
theorem d_Model_readHead_23 : decode b_Model_readHead 23 = .ok (.getfield 39, 3) := by decide +kernel
theorem d_Model_readHead_26 : decode b_Model_readHead 26 = .ok (.aload_n 0, 1) := by decide +kernel
theorem d_Model_readHead_27 : decode b_Model_readHead 27 = .ok (.getfield 433, 3) := by decide +kernel
theorem d_Model_readHead_30 : decode b_Model_readHead 30 = .ok (.iaload, 1) := by decide +kernel
theorem d_Model_readHead_31 : decode b_Model_readHead 31 = .ok (.ifCond .le 9, 3) := by decide +kernel
theorem d_Model_readHead_34 : decode b_Model_readHead 34 = .ok (.aload_n 0, 1) := by decide +kernel
theorem d_Model_readHead_35 : decode b_Model_readHead 35 = .ok (.bipush 44, 2) := by decide +kernel
theorem d_Model_readHead_37 : decode b_Model_readHead 37 = .ok (.invokevirtual 448, 3) := by decide +kernel
theorem d_Model_readHead_40 : decode b_Model_readHead 40 = .ok (.aload_n 0, 1) := by decide +kernel
theorem d_Model_readHead_41 : decode b_Model_readHead 41 = .ok (.getfield 39, 3) := by decide +kernel
theorem d_Model_readHead_44 : decode b_Model_readHead 44 = .ok (.aload_n 0, 1) := by decide +kernel
theorem d_Model_readHead_45 : decode b_Model_readHead 45 = .ok (.getfield 433, 3) := by decide +kernel
theorem d_Model_readHead_48 : decode b_Model_readHead 48 = .ok (.iaload, 1) := by decide +kernel
theorem d_Model_readHead_49 : decode b_Model_readHead 49 = .ok (.bipush 6, 2) := by decide +kernel
theorem d_Model_readHead_51 : decode b_Model_readHead 51 = .ok (.if_icmp .eq 12, 3) := by decide +kernel
theorem d_Model_readHead_54 : decode b_Model_readHead 54 = .ok (.aload_n 0, 1) := by decide +kernel
theorem d_Model_readHead_55 : decode b_Model_readHead 55 = .ok (.getfield 436, 3) := by decide +kernel
theorem d_Model_readHead_58 : decode b_Model_readHead 58 = .ok (.bipush 20, 2) := by decide +kernel
theorem d_Model_readHead_60 : decode b_Model_readHead 60 = .ok (.if_icmp .ne 7, 3) := by decide +kernel
theorem d_Model_readHead_63 : decode b_Model_readHead 63 = .ok (.aload_n 0, 1) := by decide +kernel
theorem d_Model_readHead_64 : decode b_Model_readHead 64 = .ok (.invokevirtual 406, 3) := by decide +kernel
theorem d_Model_readHead_67 : decode b_Model_readHead 67 = .ok (.aload_n 0, 1) := by decide +kernel
theorem d_Model_readHead_68 : decode b_Model_readHead 68 = .ok (.invokevirtual 451, 3) := by decide +kernel
theorem d_Model_readHead_71 : decode b_Model_readHead 71 = .ok (.aload_n 0, 1) := by decide +kernel
theorem d_Model_readHead_72 : decode b_Model_readHead 72 = .ok (.dup, 1) := by decide +kernel
theorem d_Model_readHead_73 : decode b_Model_readHead 73 = .ok (.getfield 436, 3) := by decide +kernel
theorem d_Model_readHead_76 : decode b_Model_readHead 76 = .ok (.iconst 1, 1) := by decide +kernel
theorem d_Model_readHead_77 : decode b_Model_readHead 77 = .ok (.iadd, 1) := by decide +kernel
theorem d_Model_readHead_78 : decode b_Model_readHead 78 = .ok (.putfield 436, 3) := by decide +kernel
theorem d_Model_readHead_81 : decode b_Model_readHead 81 = .ok (.goto (-75), 3) := by decide +kernel
theorem d_Model_readHead_84 : decode b_Model_readHead 84 = .ok (.aload_n 0, 1) := by decide +kernel
theorem d_Model_readHead_85 : decode b_Model_readHead 85 = .ok (.bipush 41, 2) := by decide +kernel
theorem d_Model_readHead_87 : decode b_Model_readHead 87 = .ok (.invokevirtual 448, 3) := by decide +kernel
theorem d_Model_readHead_90 : decode b_Model_readHead 90 = .ok (.aload_n 0, 1) := by decide +kernel
theorem d_Model_readHead_91 : decode b_Model_readHead 91 = .ok (.bipush 58, 2) := by decide +kernel
theorem d_Model_readHead_93 : decode b_Model_readHead 93 = .ok (.invokevirtual 403, 3) := by decide +kernel
theorem d_Model_readHead_96 : decode b_Model_readHead 96 = .ok (.ifCond .eq 17, 3) := by decide +kernel
theorem d_Model_readHead_99 : decode b_Model_readHead 99 = .ok (.aload_n 0, 1) := by decide +kernel
theorem d_Model_readHead_100 : decode b_Model_readHead 100 = .ok (.getfield 54, 3) := by decide +kernel
theorem d_Model_readHead_103 : decode b_Model_readHead 103 = .ok (.aload_n 0, 1) := by decide +kernel
theorem d_Model_readHead_104 : decode b_Model_readHead 104 = .ok (.getfield 433, 3) := by decide +kernel
theorem d_Model_readHead_107 : decode b_Model_readHead 107 = .ok (.aload_n 0, 1) := by decide +kernel
theorem d_Model_readHead_108 : decode b_Model_readHead 108 = .ok (.iconst 1, 1) := by decide +kernel
theorem d_Model_readHead_109 : decode b_Model_readHead 109 = .ok (.invokevirtual 458, 3) := by decide +kernel
theorem ml_Model_458 : Cond.methodLink R_Model 458 ⟨"PointerHouseModel", "type", "(I)I"⟩ ∈ lw_good := lg_right (i := 2388) (by decide +kernel) rfl
theorem d_Model_readHead_112 : decode b_Model_readHead 112 = .ok (.iastore, 1) := by decide +kernel
theorem d_Model_readHead_113 : decode b_Model_readHead 113 = .ok (.aload_n 0, 1) := by decide +kernel
theorem d_Model_readHead_114 : decode b_Model_readHead 114 = .ok (.ldc_w 461, 3) := by decide +kernel
theorem d_Model_readHead_117 : decode b_Model_readHead 117 = .ok (.invokevirtual 462, 3) := by decide +kernel
theorem ml_Model_462 : Cond.methodLink R_Model 462 ⟨"PointerHouseModel", "takesWord", "(Ljava/lang/String;)Z"⟩ ∈ lw_good := lg_right (i := 2402) (by decide +kernel) rfl
theorem d_Model_readHead_120 : decode b_Model_readHead 120 = .ok (.ifCond .eq 103, 3) := by decide +kernel
theorem d_Model_readHead_123 : decode b_Model_readHead 123 = .ok (.aload_n 0, 1) := by decide +kernel
theorem d_Model_readHead_124 : decode b_Model_readHead 124 = .ok (.invokevirtual 465, 3) := by decide +kernel
theorem ml_Model_465 : Cond.methodLink R_Model 465 ⟨"PointerHouseModel", "needRegion", "()I"⟩ ∈ lw_good := lg_right (i := 2393) (by decide +kernel) rfl
theorem d_Model_readHead_127 : decode b_Model_readHead 127 = .ok (.istore_n 1, 1) := by decide +kernel
theorem d_Model_readHead_128 : decode b_Model_readHead 128 = .ok (.aload_n 0, 1) := by decide +kernel
theorem d_Model_readHead_129 : decode b_Model_readHead 129 = .ok (.getfield 63, 3) := by decide +kernel
theorem fl_Model_63 : Cond.fieldLink R_Model 63 "PointerHouseModel" "deadName" "[J" ∈ lw_good := lg_right (i := 1847) (by decide +kernel) rfl
theorem d_Model_readHead_132 : decode b_Model_readHead 132 = .ok (.iconst 3, 1) := by decide +kernel
theorem d_Model_readHead_133 : decode b_Model_readHead 133 = .ok (.aload_n 0, 1) := by decide +kernel
theorem d_Model_readHead_134 : decode b_Model_readHead 134 = .ok (.getfield 433, 3) := by decide +kernel
theorem d_Model_readHead_137 : decode b_Model_readHead 137 = .ok (.imul, 1) := by decide +kernel
theorem d_Model_readHead_138 : decode b_Model_readHead 138 = .ok (.aload_n 0, 1) := by decide +kernel
theorem d_Model_readHead_139 : decode b_Model_readHead 139 = .ok (.getfield 60, 3) := by decide +kernel
theorem d_Model_readHead_142 : decode b_Model_readHead 142 = .ok (.aload_n 0, 1) := by decide +kernel
theorem d_Model_readHead_143 : decode b_Model_readHead 143 = .ok (.getfield 433, 3) := by decide +kernel
theorem d_Model_readHead_146 : decode b_Model_readHead 146 = .ok (.iaload, 1) := by decide +kernel
theorem d_Model_readHead_147 : decode b_Model_readHead 147 = .ok (.iadd, 1) := by decide +kernel
theorem d_Model_readHead_148 : decode b_Model_readHead 148 = .ok (.aload_n 0, 1) := by decide +kernel
theorem d_Model_readHead_149 : decode b_Model_readHead 149 = .ok (.getfield 111, 3) := by decide +kernel
theorem d_Model_readHead_152 : decode b_Model_readHead 152 = .ok (.iload_n 1, 1) := by decide +kernel
theorem d_Model_readHead_153 : decode b_Model_readHead 153 = .ok (.laload, 1) := by decide +kernel
theorem d_Model_readHead_154 : decode b_Model_readHead 154 = .ok (.lastore, 1) := by decide +kernel
theorem d_Model_readHead_155 : decode b_Model_readHead 155 = .ok (.aload_n 0, 1) := by decide +kernel
theorem d_Model_readHead_156 : decode b_Model_readHead 156 = .ok (.getfield 66, 3) := by decide +kernel
theorem fl_Model_66 : Cond.fieldLink R_Model 66 "PointerHouseModel" "deadPlace" "[I" ∈ lw_good := lg_right (i := 1848) (by decide +kernel) rfl
theorem d_Model_readHead_159 : decode b_Model_readHead 159 = .ok (.iconst 3, 1) := by decide +kernel
theorem d_Model_readHead_160 : decode b_Model_readHead 160 = .ok (.aload_n 0, 1) := by decide +kernel
theorem d_Model_readHead_161 : decode b_Model_readHead 161 = .ok (.getfield 433, 3) := by decide +kernel
theorem d_Model_readHead_164 : decode b_Model_readHead 164 = .ok (.imul, 1) := by decide +kernel
theorem d_Model_readHead_165 : decode b_Model_readHead 165 = .ok (.aload_n 0, 1) := by decide +kernel
theorem d_Model_readHead_166 : decode b_Model_readHead 166 = .ok (.getfield 60, 3) := by decide +kernel
theorem d_Model_readHead_169 : decode b_Model_readHead 169 = .ok (.aload_n 0, 1) := by decide +kernel
theorem d_Model_readHead_170 : decode b_Model_readHead 170 = .ok (.getfield 433, 3) := by decide +kernel
theorem d_Model_readHead_173 : decode b_Model_readHead 173 = .ok (.iaload, 1) := by decide +kernel
theorem d_Model_readHead_174 : decode b_Model_readHead 174 = .ok (.iadd, 1) := by decide +kernel
theorem d_Model_readHead_175 : decode b_Model_readHead 175 = .ok (.aload_n 0, 1) := by decide +kernel
theorem d_Model_readHead_176 : decode b_Model_readHead 176 = .ok (.getfield 114, 3) := by decide +kernel
theorem d_Model_readHead_179 : decode b_Model_readHead 179 = .ok (.iload_n 1, 1) := by decide +kernel
theorem d_Model_readHead_180 : decode b_Model_readHead 180 = .ok (.iaload, 1) := by decide +kernel
theorem d_Model_readHead_181 : decode b_Model_readHead 181 = .ok (.iastore, 1) := by decide +kernel
theorem d_Model_readHead_182 : decode b_Model_readHead 182 = .ok (.aload_n 0, 1) := by decide +kernel
theorem d_Model_readHead_183 : decode b_Model_readHead 183 = .ok (.getfield 60, 3) := by decide +kernel
theorem d_Model_readHead_186 : decode b_Model_readHead 186 = .ok (.aload_n 0, 1) := by decide +kernel
theorem d_Model_readHead_187 : decode b_Model_readHead 187 = .ok (.getfield 433, 3) := by decide +kernel
theorem d_Model_readHead_190 : decode b_Model_readHead 190 = .ok (.dup2, 1) := by decide +kernel
theorem d_Model_readHead_191 : decode b_Model_readHead 191 = .ok (.iaload, 1) := by decide +kernel
theorem d_Model_readHead_192 : decode b_Model_readHead 192 = .ok (.iconst 1, 1) := by decide +kernel
theorem d_Model_readHead_193 : decode b_Model_readHead 193 = .ok (.iadd, 1) := by decide +kernel
theorem d_Model_readHead_194 : decode b_Model_readHead 194 = .ok (.iastore, 1) := by decide +kernel
theorem d_Model_readHead_195 : decode b_Model_readHead 195 = .ok (.aload_n 0, 1) := by decide +kernel
theorem d_Model_readHead_196 : decode b_Model_readHead 196 = .ok (.invokevirtual 385, 3) := by decide +kernel
theorem d_Model_readHead_199 : decode b_Model_readHead 199 = .ok (.ifCond .ne 24, 3) := by decide +kernel
theorem d_Model_readHead_202 : decode b_Model_readHead 202 = .ok (.aload_n 0, 1) := by decide +kernel
theorem d_Model_readHead_203 : decode b_Model_readHead 203 = .ok (.getfield 352, 3) := by decide +kernel
theorem d_Model_readHead_206 : decode b_Model_readHead 206 = .ok (.iconst 4, 1) := by decide +kernel
theorem d_Model_readHead_207 : decode b_Model_readHead 207 = .ok (.if_icmp .ne 16, 3) := by decide +kernel
theorem d_Model_readHead_210 : decode b_Model_readHead 210 = .ok (.aload_n 0, 1) := by decide +kernel
theorem d_Model_readHead_211 : decode b_Model_readHead 211 = .ok (.getfield 60, 3) := by decide +kernel
theorem d_Model_readHead_214 : decode b_Model_readHead 214 = .ok (.aload_n 0, 1) := by decide +kernel
theorem d_Model_readHead_215 : decode b_Model_readHead 215 = .ok (.getfield 433, 3) := by decide +kernel
theorem d_Model_readHead_218 : decode b_Model_readHead 218 = .ok (.iaload, 1) := by decide +kernel
theorem d_Model_readHead_219 : decode b_Model_readHead 219 = .ok (.iconst 3, 1) := by decide +kernel
theorem d_Model_readHead_220 : decode b_Model_readHead 220 = .ok (.if_icmp .lt (-97), 3) := by decide +kernel
theorem d_Model_readHead_223 : decode b_Model_readHead 223 = .ok (.aload_n 0, 1) := by decide +kernel
theorem d_Model_readHead_224 : decode b_Model_readHead 224 = .ok (.ldc_w 468, 3) := by decide +kernel
theorem d_Model_readHead_227 : decode b_Model_readHead 227 = .ok (.invokevirtual 462, 3) := by decide +kernel
theorem d_Model_readHead_230 : decode b_Model_readHead 230 = .ok (.ifCond .eq 7, 3) := by decide +kernel
theorem d_Model_readHead_233 : decode b_Model_readHead 233 = .ok (.aload_n 0, 1) := by decide +kernel
theorem d_Model_readHead_234 : decode b_Model_readHead 234 = .ok (.invokevirtual 470, 3) := by decide +kernel
theorem ml_Model_470 : Cond.methodLink R_Model 470 ⟨"PointerHouseModel", "readWheres", "()V"⟩ ∈ lw_good := lg_right (i := 2407) (by decide +kernel) rfl
theorem d_Model_readHead_237 : decode b_Model_readHead 237 = .ok (.return_, 1) := by decide +kernel
abbrev b_Model_block : ByteArray := prog_14_method_33_code
abbrev y_Model_block : MethodName := ⟨R_Model, "block", "(I)I"⟩
theorem co_Model_block : Cond.code y_Model_block b_Model_block 5 (some .int) ∈ lw_good := lg_in (tin_11 _ (List.mem_of_getElem? (i := 14) rfl)) rfl
abbrev w_Model_block : List Cond := Cond.code y_Model_block b_Model_block 5 (some .int) :: lw_good
theorem im_Model_block : Cond.instanceMethod y_Model_block ∈ lw_good := lg_right (i := 2413) (by decide +kernel) rfl
theorem se_Model_block : Cond.selects R_Model y_Model_block y_Model_block ∈ lw_good := lg_left (i := 137) (by decide +kernel) rfl
theorem d_Model_block_0 : decode b_Model_block 0 = .ok (.iload_n 1, 1) := by decide +kernel
theorem d_Model_block_1 : decode b_Model_block 1 = .ok (.bipush 20, 2) := by decide +kernel
theorem d_Model_block_3 : decode b_Model_block 3 = .ok (.if_icmp .le 7, 3) := by decide +kernel
theorem d_Model_block_6 : decode b_Model_block 6 = .ok (.aload_n 0, 1) := by decide +kernel
theorem d_Model_block_7 : decode b_Model_block 7 = .ok (.invokevirtual 406, 3) := by decide +kernel
theorem d_Model_block_10 : decode b_Model_block 10 = .ok (.aload_n 0, 1) := by decide +kernel
theorem d_Model_block_11 : decode b_Model_block 11 = .ok (.bipush 123, 2) := by decide +kernel
theorem d_Model_block_13 : decode b_Model_block 13 = .ok (.invokevirtual 448, 3) := by decide +kernel
theorem d_Model_block_16 : decode b_Model_block 16 = .ok (.aload_n 0, 1) := by decide +kernel
theorem d_Model_block_17 : decode b_Model_block 17 = .ok (.invokevirtual 385, 3) := by decide +kernel
theorem d_Model_block_20 : decode b_Model_block 20 = .ok (.ifCond .eq 5, 3) := by decide +kernel
theorem d_Model_block_23 : decode b_Model_block 23 = .ok (.iconst 0, 1) := by decide +kernel
theorem d_Model_block_24 : decode b_Model_block 24 = .ok (.ireturn, 1) := by decide +kernel
theorem d_Model_block_25 : decode b_Model_block 25 = .ok (.aload_n 0, 1) := by decide +kernel
theorem d_Model_block_26 : decode b_Model_block 26 = .ok (.bipush 31, 2) := by decide +kernel
theorem d_Model_block_28 : decode b_Model_block 28 = .ok (.aload_n 0, 1) := by decide +kernel
theorem d_Model_block_29 : decode b_Model_block 29 = .ok (.getfield 349, 3) := by decide +kernel
theorem d_Model_block_32 : decode b_Model_block 32 = .ok (.invokevirtual 478, 3) := by decide +kernel
theorem ml_Model_478 : Cond.methodLink R_Model 478 ⟨"PointerHouseModel", "node", "(II)I"⟩ ∈ lw_good := lg_right (i := 2415) (by decide +kernel) rfl
theorem d_Model_block_35 : decode b_Model_block 35 = .ok (.istore_n 2, 1) := by decide +kernel
theorem d_Model_block_36 : decode b_Model_block 36 = .ok (.iconst (-1), 1) := by decide +kernel
theorem d_Model_block_37 : decode b_Model_block 37 = .ok (.istore_n 3, 1) := by decide +kernel
theorem d_Model_block_38 : decode b_Model_block 38 = .ok (.aload_n 0, 1) := by decide +kernel
theorem d_Model_block_39 : decode b_Model_block 39 = .ok (.invokevirtual 385, 3) := by decide +kernel
theorem d_Model_block_42 : decode b_Model_block 42 = .ok (.ifCond .ne 48, 3) := by decide +kernel
theorem d_Model_block_45 : decode b_Model_block 45 = .ok (.aload_n 0, 1) := by decide +kernel
theorem d_Model_block_46 : decode b_Model_block 46 = .ok (.bipush 125, 2) := by decide +kernel
theorem d_Model_block_48 : decode b_Model_block 48 = .ok (.invokevirtual 393, 3) := by decide +kernel
theorem d_Model_block_51 : decode b_Model_block 51 = .ok (.ifCond .ne 39, 3) := by decide +kernel
theorem d_Model_block_54 : decode b_Model_block 54 = .ok (.aload_n 0, 1) := by decide +kernel
theorem d_Model_block_55 : decode b_Model_block 55 = .ok (.iload_n 1, 1) := by decide +kernel
theorem d_Model_block_56 : decode b_Model_block 56 = .ok (.invokevirtual 482, 3) := by decide +kernel
theorem ml_Model_482 : Cond.methodLink R_Model 482 ⟨"PointerHouseModel", "step", "(I)I"⟩ ∈ lw_good := lg_right (i := 2419) (by decide +kernel) rfl
theorem d_Model_block_59 : decode b_Model_block 59 = .ok (.istore 4, 2) := by decide +kernel
theorem d_Model_block_61 : decode b_Model_block 61 = .ok (.iload_n 3, 1) := by decide +kernel
theorem d_Model_block_62 : decode b_Model_block 62 = .ok (.ifCond .ge 14, 3) := by decide +kernel
theorem d_Model_block_65 : decode b_Model_block 65 = .ok (.aload_n 0, 1) := by decide +kernel
theorem d_Model_block_66 : decode b_Model_block 66 = .ok (.getfield 126, 3) := by decide +kernel
theorem fl_Model_126 : Cond.fieldLink R_Model 126 "PointerHouseModel" "one" "[I" ∈ lw_good := lg_right (i := 1871) (by decide +kernel) rfl
theorem d_Model_block_69 : decode b_Model_block 69 = .ok (.iload_n 2, 1) := by decide +kernel
theorem d_Model_block_70 : decode b_Model_block 70 = .ok (.iload 4, 2) := by decide +kernel
theorem d_Model_block_72 : decode b_Model_block 72 = .ok (.iastore, 1) := by decide +kernel
theorem d_Model_block_73 : decode b_Model_block 73 = .ok (.goto 11, 3) := by decide +kernel
theorem d_Model_block_76 : decode b_Model_block 76 = .ok (.aload_n 0, 1) := by decide +kernel
theorem d_Model_block_77 : decode b_Model_block 77 = .ok (.getfield 135, 3) := by decide +kernel
theorem fl_Model_135 : Cond.fieldLink R_Model 135 "PointerHouseModel" "next" "[I" ∈ lw_good := lg_right (i := 1874) (by decide +kernel) rfl
theorem d_Model_block_80 : decode b_Model_block 80 = .ok (.iload_n 3, 1) := by decide +kernel
theorem d_Model_block_81 : decode b_Model_block 81 = .ok (.iload 4, 2) := by decide +kernel
theorem d_Model_block_83 : decode b_Model_block 83 = .ok (.iastore, 1) := by decide +kernel
theorem d_Model_block_84 : decode b_Model_block 84 = .ok (.iload 4, 2) := by decide +kernel
theorem d_Model_block_86 : decode b_Model_block 86 = .ok (.istore_n 3, 1) := by decide +kernel
theorem d_Model_block_87 : decode b_Model_block 87 = .ok (.goto (-49), 3) := by decide +kernel
theorem d_Model_block_90 : decode b_Model_block 90 = .ok (.aload_n 0, 1) := by decide +kernel
theorem d_Model_block_91 : decode b_Model_block 91 = .ok (.getfield 141, 3) := by decide +kernel
theorem fl_Model_141 : Cond.fieldLink R_Model 141 "PointerHouseModel" "namePlace" "[I" ∈ lw_good := lg_right (i := 1876) (by decide +kernel) rfl
theorem d_Model_block_94 : decode b_Model_block 94 = .ok (.iload_n 2, 1) := by decide +kernel
theorem d_Model_block_95 : decode b_Model_block 95 = .ok (.aload_n 0, 1) := by decide +kernel
theorem d_Model_block_96 : decode b_Model_block 96 = .ok (.getfield 349, 3) := by decide +kernel
theorem d_Model_block_99 : decode b_Model_block 99 = .ok (.iastore, 1) := by decide +kernel
theorem d_Model_block_100 : decode b_Model_block 100 = .ok (.aload_n 0, 1) := by decide +kernel
theorem d_Model_block_101 : decode b_Model_block 101 = .ok (.bipush 125, 2) := by decide +kernel
theorem d_Model_block_103 : decode b_Model_block 103 = .ok (.invokevirtual 448, 3) := by decide +kernel
theorem d_Model_block_106 : decode b_Model_block 106 = .ok (.iload_n 2, 1) := by decide +kernel
theorem d_Model_block_107 : decode b_Model_block 107 = .ok (.ireturn, 1) := by decide +kernel
abbrev b_Model_readField : ByteArray := prog_14_method_27_code
abbrev y_Model_readField : MethodName := ⟨R_Model, "readField", "()V"⟩
theorem co_Model_readField : Cond.code y_Model_readField b_Model_readField 2 none ∈ lw_good := lg_in (tin_10 _ (List.mem_of_getElem? (i := 223) rfl)) rfl
abbrev w_Model_readField : List Cond := Cond.code y_Model_readField b_Model_readField 2 none :: lw_good
theorem im_Model_readField : Cond.instanceMethod y_Model_readField ∈ lw_good := lg_right (i := 2382) (by decide +kernel) rfl
theorem se_Model_readField : Cond.selects R_Model y_Model_readField y_Model_readField ∈ lw_good := lg_left (i := 130) (by decide +kernel) rfl
theorem d_Model_readField_0 : decode b_Model_readField 0 = .ok (.aload_n 0, 1) := by decide +kernel
theorem d_Model_readField_1 : decode b_Model_readField 1 = .ok (.getfield 42, 3) := by decide +kernel
theorem fl_Model_42 : Cond.fieldLink R_Model 42 "PointerHouseModel" "fieldName" "[J" ∈ lw_good := lg_right (i := 1840) (by decide +kernel) rfl
theorem d_Model_readField_4 : decode b_Model_readField 4 = .ok (.aload_n 0, 1) := by decide +kernel
theorem d_Model_readField_5 : decode b_Model_readField 5 = .ok (.getfield 415, 3) := by decide +kernel
theorem d_Model_readField_8 : decode b_Model_readField 8 = .ok (.aload_n 0, 1) := by decide +kernel
theorem d_Model_readField_9 : decode b_Model_readField 9 = .ok (.getfield 365, 3) := by decide +kernel
theorem d_Model_readField_12 : decode b_Model_readField 12 = .ok (.lastore, 1) := by decide +kernel
theorem d_Model_readField_13 : decode b_Model_readField 13 = .ok (.aload_n 0, 1) := by decide +kernel
theorem d_Model_readField_14 : decode b_Model_readField 14 = .ok (.getfield 45, 3) := by decide +kernel
theorem fl_Model_45 : Cond.fieldLink R_Model 45 "PointerHouseModel" "fieldPlace" "[I" ∈ lw_good := lg_right (i := 1841) (by decide +kernel) rfl
theorem d_Model_readField_17 : decode b_Model_readField 17 = .ok (.aload_n 0, 1) := by decide +kernel
theorem d_Model_readField_18 : decode b_Model_readField 18 = .ok (.getfield 415, 3) := by decide +kernel
theorem d_Model_readField_21 : decode b_Model_readField 21 = .ok (.aload_n 0, 1) := by decide +kernel
theorem d_Model_readField_22 : decode b_Model_readField 22 = .ok (.getfield 349, 3) := by decide +kernel
theorem d_Model_readField_25 : decode b_Model_readField 25 = .ok (.iastore, 1) := by decide +kernel
theorem d_Model_readField_26 : decode b_Model_readField 26 = .ok (.aload_n 0, 1) := by decide +kernel
theorem d_Model_readField_27 : decode b_Model_readField 27 = .ok (.invokevirtual 454, 3) := by decide +kernel
theorem ml_Model_454 : Cond.methodLink R_Model 454 ⟨"PointerHouseModel", "needName", "()J"⟩ ∈ lw_good := lg_right (i := 2384) (by decide +kernel) rfl
theorem d_Model_readField_30 : decode b_Model_readField 30 = .ok (.pop2, 1) := by decide +kernel
theorem d_Model_readField_31 : decode b_Model_readField 31 = .ok (.aload_n 0, 1) := by decide +kernel
theorem d_Model_readField_32 : decode b_Model_readField 32 = .ok (.bipush 58, 2) := by decide +kernel
theorem d_Model_readField_34 : decode b_Model_readField 34 = .ok (.invokevirtual 448, 3) := by decide +kernel
theorem d_Model_readField_37 : decode b_Model_readField 37 = .ok (.aload_n 0, 1) := by decide +kernel
theorem d_Model_readField_38 : decode b_Model_readField 38 = .ok (.invokevirtual 385, 3) := by decide +kernel
theorem d_Model_readField_41 : decode b_Model_readField 41 = .ok (.ifCond .eq 4, 3) := by decide +kernel
theorem d_Model_readField_44 : decode b_Model_readField 44 = .ok (.return_, 1) := by decide +kernel
theorem d_Model_readField_45 : decode b_Model_readField 45 = .ok (.aload_n 0, 1) := by decide +kernel
theorem d_Model_readField_46 : decode b_Model_readField 46 = .ok (.getfield 415, 3) := by decide +kernel
theorem d_Model_readField_49 : decode b_Model_readField 49 = .ok (.istore_n 1, 1) := by decide +kernel
theorem d_Model_readField_50 : decode b_Model_readField 50 = .ok (.aload_n 0, 1) := by decide +kernel
theorem d_Model_readField_51 : decode b_Model_readField 51 = .ok (.dup, 1) := by decide +kernel
theorem d_Model_readField_52 : decode b_Model_readField 52 = .ok (.getfield 415, 3) := by decide +kernel
theorem d_Model_readField_55 : decode b_Model_readField 55 = .ok (.iconst 1, 1) := by decide +kernel
theorem d_Model_readField_56 : decode b_Model_readField 56 = .ok (.iadd, 1) := by decide +kernel
theorem d_Model_readField_57 : decode b_Model_readField 57 = .ok (.putfield 415, 3) := by decide +kernel
theorem d_Model_readField_60 : decode b_Model_readField 60 = .ok (.aload_n 0, 1) := by decide +kernel
theorem d_Model_readField_61 : decode b_Model_readField 61 = .ok (.getfield 39, 3) := by decide +kernel
theorem d_Model_readField_64 : decode b_Model_readField 64 = .ok (.aload_n 0, 1) := by decide +kernel
theorem d_Model_readField_65 : decode b_Model_readField 65 = .ok (.getfield 433, 3) := by decide +kernel
theorem d_Model_readField_68 : decode b_Model_readField 68 = .ok (.dup2, 1) := by decide +kernel
theorem d_Model_readField_69 : decode b_Model_readField 69 = .ok (.iaload, 1) := by decide +kernel
theorem d_Model_readField_70 : decode b_Model_readField 70 = .ok (.iconst 1, 1) := by decide +kernel
theorem d_Model_readField_71 : decode b_Model_readField 71 = .ok (.iadd, 1) := by decide +kernel
theorem d_Model_readField_72 : decode b_Model_readField 72 = .ok (.iastore, 1) := by decide +kernel
theorem d_Model_readField_73 : decode b_Model_readField 73 = .ok (.aload_n 0, 1) := by decide +kernel
theorem d_Model_readField_74 : decode b_Model_readField 74 = .ok (.getfield 48, 3) := by decide +kernel
theorem fl_Model_48 : Cond.fieldLink R_Model 48 "PointerHouseModel" "fieldNode" "[I" ∈ lw_good := lg_right (i := 1842) (by decide +kernel) rfl
theorem d_Model_readField_77 : decode b_Model_readField 77 = .ok (.iload_n 1, 1) := by decide +kernel
theorem d_Model_readField_78 : decode b_Model_readField 78 = .ok (.aload_n 0, 1) := by decide +kernel
theorem d_Model_readField_79 : decode b_Model_readField 79 = .ok (.iconst 1, 1) := by decide +kernel
theorem d_Model_readField_80 : decode b_Model_readField 80 = .ok (.invokevirtual 458, 3) := by decide +kernel
theorem d_Model_readField_83 : decode b_Model_readField 83 = .ok (.iastore, 1) := by decide +kernel
theorem d_Model_readField_84 : decode b_Model_readField 84 = .ok (.return_, 1) := by decide +kernel
abbrev b_Model_type : ByteArray := prog_14_method_30_code
abbrev y_Model_type : MethodName := ⟨R_Model, "type", "(I)I"⟩
theorem co_Model_type : Cond.code y_Model_type b_Model_type 4 (some .int) ∈ lw_good := lg_in (tin_10 _ (List.mem_of_getElem? (i := 231) rfl)) rfl
abbrev w_Model_type : List Cond := Cond.code y_Model_type b_Model_type 4 (some .int) :: lw_good
theorem im_Model_type : Cond.instanceMethod y_Model_type ∈ lw_good := lg_right (i := 2390) (by decide +kernel) rfl
theorem se_Model_type : Cond.selects R_Model y_Model_type y_Model_type ∈ lw_good := lg_left (i := 132) (by decide +kernel) rfl
theorem d_Model_type_0 : decode b_Model_type 0 = .ok (.iload_n 1, 1) := by decide +kernel
theorem d_Model_type_1 : decode b_Model_type 1 = .ok (.bipush 6, 2) := by decide +kernel
theorem d_Model_type_3 : decode b_Model_type 3 = .ok (.if_icmp .le 7, 3) := by decide +kernel
theorem d_Model_type_6 : decode b_Model_type 6 = .ok (.aload_n 0, 1) := by decide +kernel
theorem d_Model_type_7 : decode b_Model_type 7 = .ok (.invokevirtual 406, 3) := by decide +kernel
theorem d_Model_type_10 : decode b_Model_type 10 = .ok (.aload_n 0, 1) := by decide +kernel
theorem d_Model_type_11 : decode b_Model_type 11 = .ok (.ldc_w 473, 3) := by decide +kernel
theorem d_Model_type_14 : decode b_Model_type 14 = .ok (.invokevirtual 399, 3) := by decide +kernel
theorem d_Model_type_17 : decode b_Model_type 17 = .ok (.ifCond .eq 7, 3) := by decide +kernel
theorem d_Model_type_20 : decode b_Model_type 20 = .ok (.iconst 0, 1) := by decide +kernel
theorem d_Model_type_21 : decode b_Model_type 21 = .ok (.goto 43, 3) := by decide +kernel
theorem d_Model_type_24 : decode b_Model_type 24 = .ok (.aload_n 0, 1) := by decide +kernel
theorem d_Model_type_25 : decode b_Model_type 25 = .ok (.bipush 64, 2) := by decide +kernel
theorem d_Model_type_27 : decode b_Model_type 27 = .ok (.invokevirtual 393, 3) := by decide +kernel
theorem d_Model_type_30 : decode b_Model_type 30 = .ok (.ifCond .eq 7, 3) := by decide +kernel
theorem d_Model_type_33 : decode b_Model_type 33 = .ok (.iconst 1, 1) := by decide +kernel
theorem d_Model_type_34 : decode b_Model_type 34 = .ok (.goto 30, 3) := by decide +kernel
theorem d_Model_type_37 : decode b_Model_type 37 = .ok (.aload_n 0, 1) := by decide +kernel
theorem d_Model_type_38 : decode b_Model_type 38 = .ok (.bipush 42, 2) := by decide +kernel
theorem d_Model_type_40 : decode b_Model_type 40 = .ok (.invokevirtual 393, 3) := by decide +kernel
theorem d_Model_type_43 : decode b_Model_type 43 = .ok (.ifCond .eq 7, 3) := by decide +kernel
theorem d_Model_type_46 : decode b_Model_type 46 = .ok (.iconst 2, 1) := by decide +kernel
theorem d_Model_type_47 : decode b_Model_type 47 = .ok (.goto 17, 3) := by decide +kernel
theorem d_Model_type_50 : decode b_Model_type 50 = .ok (.aload_n 0, 1) := by decide +kernel
theorem d_Model_type_51 : decode b_Model_type 51 = .ok (.bipush 63, 2) := by decide +kernel
theorem d_Model_type_53 : decode b_Model_type 53 = .ok (.invokevirtual 393, 3) := by decide +kernel
theorem d_Model_type_56 : decode b_Model_type 56 = .ok (.ifCond .eq 7, 3) := by decide +kernel
theorem d_Model_type_59 : decode b_Model_type 59 = .ok (.iconst 3, 1) := by decide +kernel
theorem d_Model_type_60 : decode b_Model_type 60 = .ok (.goto 4, 3) := by decide +kernel
theorem d_Model_type_63 : decode b_Model_type 63 = .ok (.iconst (-1), 1) := by decide +kernel
theorem d_Model_type_64 : decode b_Model_type 64 = .ok (.istore_n 2, 1) := by decide +kernel
theorem d_Model_type_65 : decode b_Model_type 65 = .ok (.iload_n 2, 1) := by decide +kernel
theorem d_Model_type_66 : decode b_Model_type 66 = .ok (.ifCond .ge 7, 3) := by decide +kernel
theorem d_Model_type_69 : decode b_Model_type 69 = .ok (.aload_n 0, 1) := by decide +kernel
theorem d_Model_type_70 : decode b_Model_type 70 = .ok (.invokevirtual 406, 3) := by decide +kernel
theorem d_Model_type_73 : decode b_Model_type 73 = .ok (.aload_n 0, 1) := by decide +kernel
theorem d_Model_type_74 : decode b_Model_type 74 = .ok (.invokevirtual 385, 3) := by decide +kernel
theorem d_Model_type_77 : decode b_Model_type 77 = .ok (.ifCond .eq 5, 3) := by decide +kernel
theorem d_Model_type_80 : decode b_Model_type 80 = .ok (.iconst 0, 1) := by decide +kernel
theorem d_Model_type_81 : decode b_Model_type 81 = .ok (.ireturn, 1) := by decide +kernel
theorem d_Model_type_82 : decode b_Model_type 82 = .ok (.aload_n 0, 1) := by decide +kernel
theorem d_Model_type_83 : decode b_Model_type 83 = .ok (.getfield 418, 3) := by decide +kernel
theorem d_Model_type_86 : decode b_Model_type 86 = .ok (.istore_n 3, 1) := by decide +kernel
theorem d_Model_type_87 : decode b_Model_type 87 = .ok (.aload_n 0, 1) := by decide +kernel
theorem d_Model_type_88 : decode b_Model_type 88 = .ok (.dup, 1) := by decide +kernel
theorem d_Model_type_89 : decode b_Model_type 89 = .ok (.getfield 418, 3) := by decide +kernel
theorem d_Model_type_92 : decode b_Model_type 92 = .ok (.iconst 1, 1) := by decide +kernel
theorem d_Model_type_93 : decode b_Model_type 93 = .ok (.iadd, 1) := by decide +kernel
theorem d_Model_type_94 : decode b_Model_type 94 = .ok (.putfield 418, 3) := by decide +kernel
theorem d_Model_type_97 : decode b_Model_type 97 = .ok (.aload_n 0, 1) := by decide +kernel
theorem d_Model_type_98 : decode b_Model_type 98 = .ok (.getfield 90, 3) := by decide +kernel
theorem fl_Model_90 : Cond.fieldLink R_Model 90 "PointerHouseModel" "writtenKind" "[I" ∈ lw_good := lg_right (i := 1857) (by decide +kernel) rfl
theorem d_Model_type_101 : decode b_Model_type 101 = .ok (.iload_n 3, 1) := by decide +kernel
theorem d_Model_type_102 : decode b_Model_type 102 = .ok (.iload_n 2, 1) := by decide +kernel
theorem d_Model_type_103 : decode b_Model_type 103 = .ok (.iastore, 1) := by decide +kernel
theorem d_Model_type_104 : decode b_Model_type 104 = .ok (.aload_n 0, 1) := by decide +kernel
theorem d_Model_type_105 : decode b_Model_type 105 = .ok (.getfield 96, 3) := by decide +kernel
theorem fl_Model_96 : Cond.fieldLink R_Model 96 "PointerHouseModel" "writtenInner" "[I" ∈ lw_good := lg_right (i := 1859) (by decide +kernel) rfl
theorem d_Model_type_108 : decode b_Model_type 108 = .ok (.iload_n 3, 1) := by decide +kernel
theorem d_Model_type_109 : decode b_Model_type 109 = .ok (.iconst (-1), 1) := by decide +kernel
theorem d_Model_type_110 : decode b_Model_type 110 = .ok (.iastore, 1) := by decide +kernel
theorem d_Model_type_111 : decode b_Model_type 111 = .ok (.aload_n 0, 1) := by decide +kernel
theorem d_Model_type_112 : decode b_Model_type 112 = .ok (.getfield 102, 3) := by decide +kernel
theorem fl_Model_102 : Cond.fieldLink R_Model 102 "PointerHouseModel" "writtenTitlePlace" "[I" ∈ lw_good := lg_right (i := 1861) (by decide +kernel) rfl
theorem d_Model_type_115 : decode b_Model_type 115 = .ok (.iload_n 3, 1) := by decide +kernel
theorem d_Model_type_116 : decode b_Model_type 116 = .ok (.iconst (-1), 1) := by decide +kernel
theorem d_Model_type_117 : decode b_Model_type 117 = .ok (.iastore, 1) := by decide +kernel
theorem d_Model_type_118 : decode b_Model_type 118 = .ok (.aload_n 0, 1) := by decide +kernel
theorem d_Model_type_119 : decode b_Model_type 119 = .ok (.getfield 108, 3) := by decide +kernel
theorem fl_Model_108 : Cond.fieldLink R_Model 108 "PointerHouseModel" "writtenMany" "[I" ∈ lw_good := lg_right (i := 1863) (by decide +kernel) rfl
theorem d_Model_type_122 : decode b_Model_type 122 = .ok (.iload_n 3, 1) := by decide +kernel
theorem d_Model_type_123 : decode b_Model_type 123 = .ok (.iconst 0, 1) := by decide +kernel
theorem d_Model_type_124 : decode b_Model_type 124 = .ok (.iastore, 1) := by decide +kernel
theorem d_Model_type_125 : decode b_Model_type 125 = .ok (.aload_n 0, 1) := by decide +kernel
theorem d_Model_type_126 : decode b_Model_type 126 = .ok (.invokevirtual 396, 3) := by decide +kernel
theorem d_Model_type_129 : decode b_Model_type 129 = .ok (.iload_n 2, 1) := by decide +kernel
theorem d_Model_type_130 : decode b_Model_type 130 = .ok (.ifCond .ne 5, 3) := by decide +kernel
theorem d_Model_type_133 : decode b_Model_type 133 = .ok (.iload_n 3, 1) := by decide +kernel
theorem d_Model_type_134 : decode b_Model_type 134 = .ok (.ireturn, 1) := by decide +kernel
theorem d_Model_type_135 : decode b_Model_type 135 = .ok (.aload_n 0, 1) := by decide +kernel
theorem d_Model_type_136 : decode b_Model_type 136 = .ok (.getfield 93, 3) := by decide +kernel
theorem fl_Model_93 : Cond.fieldLink R_Model 93 "PointerHouseModel" "writtenUse" "[I" ∈ lw_good := lg_right (i := 1858) (by decide +kernel) rfl
theorem d_Model_type_139 : decode b_Model_type 139 = .ok (.iload_n 3, 1) := by decide +kernel
theorem d_Model_type_140 : decode b_Model_type 140 = .ok (.aload_n 0, 1) := by decide +kernel
theorem d_Model_type_141 : decode b_Model_type 141 = .ok (.invokevirtual 465, 3) := by decide +kernel
theorem d_Model_type_144 : decode b_Model_type 144 = .ok (.iastore, 1) := by decide +kernel
theorem d_Model_type_145 : decode b_Model_type 145 = .ok (.iload_n 2, 1) := by decide +kernel
theorem d_Model_type_146 : decode b_Model_type 146 = .ok (.iconst 3, 1) := by decide +kernel
theorem d_Model_type_147 : decode b_Model_type 147 = .ok (.if_icmp .ge 84, 3) := by decide +kernel
theorem d_Model_type_150 : decode b_Model_type 150 = .ok (.aload_n 0, 1) := by decide +kernel
theorem d_Model_type_151 : decode b_Model_type 151 = .ok (.getfield 352, 3) := by decide +kernel
theorem d_Model_type_154 : decode b_Model_type 154 = .ok (.iconst 3, 1) := by decide +kernel
theorem d_Model_type_155 : decode b_Model_type 155 = .ok (.if_icmp .ne 76, 3) := by decide +kernel
theorem d_Model_type_158 : decode b_Model_type 158 = .ok (.aload_n 0, 1) := by decide +kernel
theorem d_Model_type_159 : decode b_Model_type 159 = .ok (.invokevirtual 385, 3) := by decide +kernel
theorem d_Model_type_162 : decode b_Model_type 162 = .ok (.ifCond .ne 69, 3) := by decide +kernel
theorem d_Model_type_165 : decode b_Model_type 165 = .ok (.iload_n 1, 1) := by decide +kernel
theorem d_Model_type_166 : decode b_Model_type 166 = .ok (.iconst 1, 1) := by decide +kernel
theorem d_Model_type_167 : decode b_Model_type 167 = .ok (.iadd, 1) := by decide +kernel
theorem d_Model_type_168 : decode b_Model_type 168 = .ok (.bipush 6, 2) := by decide +kernel
theorem d_Model_type_170 : decode b_Model_type 170 = .ok (.if_icmp .le 7, 3) := by decide +kernel
theorem d_Model_type_173 : decode b_Model_type 173 = .ok (.aload_n 0, 1) := by decide +kernel
theorem d_Model_type_174 : decode b_Model_type 174 = .ok (.invokevirtual 406, 3) := by decide +kernel
theorem d_Model_type_177 : decode b_Model_type 177 = .ok (.aload_n 0, 1) := by decide +kernel
theorem d_Model_type_178 : decode b_Model_type 178 = .ok (.getfield 99, 3) := by decide +kernel
theorem fl_Model_99 : Cond.fieldLink R_Model 99 "PointerHouseModel" "writtenTitle" "[J" ∈ lw_good := lg_right (i := 1860) (by decide +kernel) rfl
theorem d_Model_type_181 : decode b_Model_type 181 = .ok (.iload_n 3, 1) := by decide +kernel
theorem d_Model_type_182 : decode b_Model_type 182 = .ok (.aload_n 0, 1) := by decide +kernel
theorem d_Model_type_183 : decode b_Model_type 183 = .ok (.getfield 365, 3) := by decide +kernel
theorem d_Model_type_186 : decode b_Model_type 186 = .ok (.lastore, 1) := by decide +kernel
theorem d_Model_type_187 : decode b_Model_type 187 = .ok (.aload_n 0, 1) := by decide +kernel
theorem d_Model_type_188 : decode b_Model_type 188 = .ok (.getfield 102, 3) := by decide +kernel
theorem d_Model_type_191 : decode b_Model_type 191 = .ok (.iload_n 3, 1) := by decide +kernel
theorem d_Model_type_192 : decode b_Model_type 192 = .ok (.aload_n 0, 1) := by decide +kernel
theorem d_Model_type_193 : decode b_Model_type 193 = .ok (.getfield 349, 3) := by decide +kernel
theorem d_Model_type_196 : decode b_Model_type 196 = .ok (.iastore, 1) := by decide +kernel
theorem d_Model_type_197 : decode b_Model_type 197 = .ok (.aload_n 0, 1) := by decide +kernel
theorem d_Model_type_198 : decode b_Model_type 198 = .ok (.invokevirtual 385, 3) := by decide +kernel
theorem d_Model_type_201 : decode b_Model_type 201 = .ok (.ifCond .ne 7, 3) := by decide +kernel
theorem d_Model_type_204 : decode b_Model_type 204 = .ok (.aload_n 0, 1) := by decide +kernel
theorem d_Model_type_205 : decode b_Model_type 205 = .ok (.invokevirtual 396, 3) := by decide +kernel
theorem d_Model_type_208 : decode b_Model_type 208 = .ok (.aload_n 0, 1) := by decide +kernel
theorem d_Model_type_209 : decode b_Model_type 209 = .ok (.getfield 105, 3) := by decide +kernel
theorem fl_Model_105 : Cond.fieldLink R_Model 105 "PointerHouseModel" "writtenFirst" "[I" ∈ lw_good := lg_right (i := 1862) (by decide +kernel) rfl
theorem d_Model_type_212 : decode b_Model_type 212 = .ok (.iload_n 3, 1) := by decide +kernel
theorem d_Model_type_213 : decode b_Model_type 213 = .ok (.aload_n 0, 1) := by decide +kernel
theorem d_Model_type_214 : decode b_Model_type 214 = .ok (.getfield 409, 3) := by decide +kernel
theorem d_Model_type_217 : decode b_Model_type 217 = .ok (.iastore, 1) := by decide +kernel
theorem d_Model_type_218 : decode b_Model_type 218 = .ok (.aload_n 0, 1) := by decide +kernel
theorem d_Model_type_219 : decode b_Model_type 219 = .ok (.getfield 108, 3) := by decide +kernel
theorem d_Model_type_222 : decode b_Model_type 222 = .ok (.iload_n 3, 1) := by decide +kernel
theorem d_Model_type_223 : decode b_Model_type 223 = .ok (.aload_n 0, 1) := by decide +kernel
theorem d_Model_type_224 : decode b_Model_type 224 = .ok (.invokevirtual 475, 3) := by decide +kernel
theorem ml_Model_475 : Cond.methodLink R_Model 475 ⟨"PointerHouseModel", "readUses", "()I"⟩ ∈ lw_good := lg_right (i := 2397) (by decide +kernel) rfl
theorem d_Model_type_227 : decode b_Model_type 227 = .ok (.iastore, 1) := by decide +kernel
theorem d_Model_type_228 : decode b_Model_type 228 = .ok (.goto 16, 3) := by decide +kernel
theorem d_Model_type_231 : decode b_Model_type 231 = .ok (.aload_n 0, 1) := by decide +kernel
theorem d_Model_type_232 : decode b_Model_type 232 = .ok (.getfield 96, 3) := by decide +kernel
theorem d_Model_type_235 : decode b_Model_type 235 = .ok (.iload_n 3, 1) := by decide +kernel
theorem d_Model_type_236 : decode b_Model_type 236 = .ok (.aload_n 0, 1) := by decide +kernel
theorem d_Model_type_237 : decode b_Model_type 237 = .ok (.iload_n 1, 1) := by decide +kernel
theorem d_Model_type_238 : decode b_Model_type 238 = .ok (.iconst 1, 1) := by decide +kernel
theorem d_Model_type_239 : decode b_Model_type 239 = .ok (.iadd, 1) := by decide +kernel
theorem d_Model_type_240 : decode b_Model_type 240 = .ok (.invokevirtual 458, 3) := by decide +kernel
theorem d_Model_type_243 : decode b_Model_type 243 = .ok (.iastore, 1) := by decide +kernel
theorem d_Model_type_244 : decode b_Model_type 244 = .ok (.iload_n 3, 1) := by decide +kernel
theorem d_Model_type_245 : decode b_Model_type 245 = .ok (.ireturn, 1) := by decide +kernel
abbrev b_Model_readWheres : ByteArray := prog_14_method_29_code
abbrev y_Model_readWheres : MethodName := ⟨R_Model, "readWheres", "()V"⟩
theorem co_Model_readWheres : Cond.code y_Model_readWheres b_Model_readWheres 5 none ∈ lw_good := lg_in (tin_11 _ (List.mem_of_getElem? (i := 10) rfl)) rfl
abbrev w_Model_readWheres : List Cond := Cond.code y_Model_readWheres b_Model_readWheres 5 none :: lw_good
theorem im_Model_readWheres : Cond.instanceMethod y_Model_readWheres ∈ lw_good := lg_right (i := 2409) (by decide +kernel) rfl
theorem se_Model_readWheres : Cond.selects R_Model y_Model_readWheres y_Model_readWheres ∈ lw_good := lg_left (i := 136) (by decide +kernel) rfl
theorem d_Model_readWheres_0 : decode b_Model_readWheres 0 = .ok (.iconst 1, 1) := by decide +kernel
theorem d_Model_readWheres_1 : decode b_Model_readWheres 1 = .ok (.istore_n 1, 1) := by decide +kernel
theorem d_Model_readWheres_2 : decode b_Model_readWheres 2 = .ok (.iload_n 1, 1) := by decide +kernel
theorem d_Model_readWheres_3 : decode b_Model_readWheres 3 = .ok (.ifCond .eq 151, 3) := by decide +kernel
theorem d_Model_readWheres_6 : decode b_Model_readWheres 6 = .ok (.aload_n 0, 1) := by decide +kernel
theorem d_Model_readWheres_7 : decode b_Model_readWheres 7 = .ok (.invokevirtual 385, 3) := by decide +kernel
theorem d_Model_readWheres_10 : decode b_Model_readWheres 10 = .ok (.ifCond .ne 144, 3) := by decide +kernel
theorem d_Model_readWheres_13 : decode b_Model_readWheres 13 = .ok (.aload_n 0, 1) := by decide +kernel
theorem d_Model_readWheres_14 : decode b_Model_readWheres 14 = .ok (.getfield 72, 3) := by decide +kernel
theorem d_Model_readWheres_17 : decode b_Model_readWheres 17 = .ok (.aload_n 0, 1) := by decide +kernel
theorem d_Model_readWheres_18 : decode b_Model_readWheres 18 = .ok (.getfield 433, 3) := by decide +kernel
theorem d_Model_readWheres_21 : decode b_Model_readWheres 21 = .ok (.iaload, 1) := by decide +kernel
theorem d_Model_readWheres_22 : decode b_Model_readWheres 22 = .ok (.iconst 3, 1) := by decide +kernel
theorem d_Model_readWheres_23 : decode b_Model_readWheres 23 = .ok (.if_icmp .ne 7, 3) := by decide +kernel
theorem d_Model_readWheres_26 : decode b_Model_readWheres 26 = .ok (.aload_n 0, 1) := by decide +kernel
theorem d_Model_readWheres_27 : decode b_Model_readWheres 27 = .ok (.invokevirtual 406, 3) := by decide +kernel
theorem d_Model_readWheres_30 : decode b_Model_readWheres 30 = .ok (.aload_n 0, 1) := by decide +kernel
theorem d_Model_readWheres_31 : decode b_Model_readWheres 31 = .ok (.invokevirtual 465, 3) := by decide +kernel
theorem d_Model_readWheres_34 : decode b_Model_readWheres 34 = .ok (.istore_n 2, 1) := by decide +kernel
theorem d_Model_readWheres_35 : decode b_Model_readWheres 35 = .ok (.aload_n 0, 1) := by decide +kernel
theorem d_Model_readWheres_36 : decode b_Model_readWheres 36 = .ok (.bipush 62, 2) := by decide +kernel
theorem d_Model_readWheres_38 : decode b_Model_readWheres 38 = .ok (.invokevirtual 448, 3) := by decide +kernel
theorem d_Model_readWheres_41 : decode b_Model_readWheres 41 = .ok (.aload_n 0, 1) := by decide +kernel
theorem d_Model_readWheres_42 : decode b_Model_readWheres 42 = .ok (.invokevirtual 465, 3) := by decide +kernel
theorem d_Model_readWheres_45 : decode b_Model_readWheres 45 = .ok (.istore_n 3, 1) := by decide +kernel
theorem d_Model_readWheres_46 : decode b_Model_readWheres 46 = .ok (.aload_n 0, 1) := by decide +kernel
theorem d_Model_readWheres_47 : decode b_Model_readWheres 47 = .ok (.invokevirtual 385, 3) := by decide +kernel
theorem d_Model_readWheres_50 : decode b_Model_readWheres 50 = .ok (.ifCond .eq 4, 3) := by decide +kernel
theorem d_Model_readWheres_53 : decode b_Model_readWheres 53 = .ok (.return_, 1) := by decide +kernel
theorem d_Model_readWheres_54 : decode b_Model_readWheres 54 = .ok (.bipush 6, 2) := by decide +kernel
theorem d_Model_readWheres_56 : decode b_Model_readWheres 56 = .ok (.aload_n 0, 1) := by decide +kernel
theorem d_Model_readWheres_57 : decode b_Model_readWheres 57 = .ok (.getfield 433, 3) := by decide +kernel
theorem d_Model_readWheres_60 : decode b_Model_readWheres 60 = .ok (.imul, 1) := by decide +kernel
theorem d_Model_readWheres_61 : decode b_Model_readWheres 61 = .ok (.iconst 2, 1) := by decide +kernel
theorem d_Model_readWheres_62 : decode b_Model_readWheres 62 = .ok (.aload_n 0, 1) := by decide +kernel
theorem d_Model_readWheres_63 : decode b_Model_readWheres 63 = .ok (.getfield 72, 3) := by decide +kernel
theorem d_Model_readWheres_66 : decode b_Model_readWheres 66 = .ok (.aload_n 0, 1) := by decide +kernel
theorem d_Model_readWheres_67 : decode b_Model_readWheres 67 = .ok (.getfield 433, 3) := by decide +kernel
theorem d_Model_readWheres_70 : decode b_Model_readWheres 70 = .ok (.iaload, 1) := by decide +kernel
theorem d_Model_readWheres_71 : decode b_Model_readWheres 71 = .ok (.imul, 1) := by decide +kernel
theorem d_Model_readWheres_72 : decode b_Model_readWheres 72 = .ok (.iadd, 1) := by decide +kernel
theorem d_Model_readWheres_73 : decode b_Model_readWheres 73 = .ok (.istore 4, 2) := by decide +kernel
theorem d_Model_readWheres_75 : decode b_Model_readWheres 75 = .ok (.aload_n 0, 1) := by decide +kernel
theorem d_Model_readWheres_76 : decode b_Model_readWheres 76 = .ok (.getfield 75, 3) := by decide +kernel
theorem fl_Model_75 : Cond.fieldLink R_Model 75 "PointerHouseModel" "whereName" "[J" ∈ lw_good := lg_right (i := 1851) (by decide +kernel) rfl
theorem d_Model_readWheres_79 : decode b_Model_readWheres 79 = .ok (.iload 4, 2) := by decide +kernel
theorem d_Model_readWheres_81 : decode b_Model_readWheres 81 = .ok (.aload_n 0, 1) := by decide +kernel
theorem d_Model_readWheres_82 : decode b_Model_readWheres 82 = .ok (.getfield 111, 3) := by decide +kernel
theorem d_Model_readWheres_85 : decode b_Model_readWheres 85 = .ok (.iload_n 2, 1) := by decide +kernel
theorem d_Model_readWheres_86 : decode b_Model_readWheres 86 = .ok (.laload, 1) := by decide +kernel
theorem d_Model_readWheres_87 : decode b_Model_readWheres 87 = .ok (.lastore, 1) := by decide +kernel
theorem d_Model_readWheres_88 : decode b_Model_readWheres 88 = .ok (.aload_n 0, 1) := by decide +kernel
theorem d_Model_readWheres_89 : decode b_Model_readWheres 89 = .ok (.getfield 78, 3) := by decide +kernel
theorem fl_Model_78 : Cond.fieldLink R_Model 78 "PointerHouseModel" "wherePlace" "[I" ∈ lw_good := lg_right (i := 1852) (by decide +kernel) rfl
theorem d_Model_readWheres_92 : decode b_Model_readWheres 92 = .ok (.iload 4, 2) := by decide +kernel
theorem d_Model_readWheres_94 : decode b_Model_readWheres 94 = .ok (.aload_n 0, 1) := by decide +kernel
theorem d_Model_readWheres_95 : decode b_Model_readWheres 95 = .ok (.getfield 114, 3) := by decide +kernel
theorem d_Model_readWheres_98 : decode b_Model_readWheres 98 = .ok (.iload_n 2, 1) := by decide +kernel
theorem d_Model_readWheres_99 : decode b_Model_readWheres 99 = .ok (.iaload, 1) := by decide +kernel
theorem d_Model_readWheres_100 : decode b_Model_readWheres 100 = .ok (.iastore, 1) := by decide +kernel
theorem d_Model_readWheres_101 : decode b_Model_readWheres 101 = .ok (.aload_n 0, 1) := by decide +kernel
theorem d_Model_readWheres_102 : decode b_Model_readWheres 102 = .ok (.getfield 75, 3) := by decide +kernel
theorem d_Model_readWheres_105 : decode b_Model_readWheres 105 = .ok (.iload 4, 2) := by decide +kernel
theorem d_Model_readWheres_107 : decode b_Model_readWheres 107 = .ok (.iconst 1, 1) := by decide +kernel
theorem d_Model_readWheres_108 : decode b_Model_readWheres 108 = .ok (.iadd, 1) := by decide +kernel
theorem d_Model_readWheres_109 : decode b_Model_readWheres 109 = .ok (.aload_n 0, 1) := by decide +kernel
theorem d_Model_readWheres_110 : decode b_Model_readWheres 110 = .ok (.getfield 111, 3) := by decide +kernel
theorem d_Model_readWheres_113 : decode b_Model_readWheres 113 = .ok (.iload_n 3, 1) := by decide +kernel
theorem d_Model_readWheres_114 : decode b_Model_readWheres 114 = .ok (.laload, 1) := by decide +kernel
theorem d_Model_readWheres_115 : decode b_Model_readWheres 115 = .ok (.lastore, 1) := by decide +kernel
theorem d_Model_readWheres_116 : decode b_Model_readWheres 116 = .ok (.aload_n 0, 1) := by decide +kernel
theorem d_Model_readWheres_117 : decode b_Model_readWheres 117 = .ok (.getfield 78, 3) := by decide +kernel
theorem d_Model_readWheres_120 : decode b_Model_readWheres 120 = .ok (.iload 4, 2) := by decide +kernel
theorem d_Model_readWheres_122 : decode b_Model_readWheres 122 = .ok (.iconst 1, 1) := by decide +kernel
theorem d_Model_readWheres_123 : decode b_Model_readWheres 123 = .ok (.iadd, 1) := by decide +kernel
theorem d_Model_readWheres_124 : decode b_Model_readWheres 124 = .ok (.aload_n 0, 1) := by decide +kernel
theorem d_Model_readWheres_125 : decode b_Model_readWheres 125 = .ok (.getfield 114, 3) := by decide +kernel
theorem d_Model_readWheres_128 : decode b_Model_readWheres 128 = .ok (.iload_n 3, 1) := by decide +kernel
theorem d_Model_readWheres_129 : decode b_Model_readWheres 129 = .ok (.iaload, 1) := by decide +kernel
theorem d_Model_readWheres_130 : decode b_Model_readWheres 130 = .ok (.iastore, 1) := by decide +kernel
theorem d_Model_readWheres_131 : decode b_Model_readWheres 131 = .ok (.aload_n 0, 1) := by decide +kernel
theorem d_Model_readWheres_132 : decode b_Model_readWheres 132 = .ok (.getfield 72, 3) := by decide +kernel
theorem d_Model_readWheres_135 : decode b_Model_readWheres 135 = .ok (.aload_n 0, 1) := by decide +kernel
theorem d_Model_readWheres_136 : decode b_Model_readWheres 136 = .ok (.getfield 433, 3) := by decide +kernel
theorem d_Model_readWheres_139 : decode b_Model_readWheres 139 = .ok (.dup2, 1) := by decide +kernel
theorem d_Model_readWheres_140 : decode b_Model_readWheres 140 = .ok (.iaload, 1) := by decide +kernel
theorem d_Model_readWheres_141 : decode b_Model_readWheres 141 = .ok (.iconst 1, 1) := by decide +kernel
theorem d_Model_readWheres_142 : decode b_Model_readWheres 142 = .ok (.iadd, 1) := by decide +kernel
theorem d_Model_readWheres_143 : decode b_Model_readWheres 143 = .ok (.iastore, 1) := by decide +kernel
theorem d_Model_readWheres_144 : decode b_Model_readWheres 144 = .ok (.aload_n 0, 1) := by decide +kernel
theorem d_Model_readWheres_145 : decode b_Model_readWheres 145 = .ok (.bipush 44, 2) := by decide +kernel
theorem d_Model_readWheres_147 : decode b_Model_readWheres 147 = .ok (.invokevirtual 403, 3) := by decide +kernel
theorem d_Model_readWheres_150 : decode b_Model_readWheres 150 = .ok (.istore_n 1, 1) := by decide +kernel
theorem d_Model_readWheres_151 : decode b_Model_readWheres 151 = .ok (.goto (-149), 3) := by decide +kernel
theorem d_Model_readWheres_154 : decode b_Model_readWheres 154 = .ok (.return_, 1) := by decide +kernel
abbrev b_Model_readUses : ByteArray := prog_14_method_31_code
abbrev y_Model_readUses : MethodName := ⟨R_Model, "readUses", "()I"⟩
theorem co_Model_readUses : Cond.code y_Model_readUses b_Model_readUses 2 (some .int) ∈ lw_good := lg_in (tin_11 _ (List.mem_of_getElem? (i := 0) rfl)) rfl
abbrev w_Model_readUses : List Cond := Cond.code y_Model_readUses b_Model_readUses 2 (some .int) :: lw_good
theorem im_Model_readUses : Cond.instanceMethod y_Model_readUses ∈ lw_good := lg_right (i := 2399) (by decide +kernel) rfl
theorem se_Model_readUses : Cond.selects R_Model y_Model_readUses y_Model_readUses ∈ lw_good := lg_left (i := 134) (by decide +kernel) rfl
theorem d_Model_readUses_0 : decode b_Model_readUses 0 = .ok (.iconst 0, 1) := by decide +kernel
theorem d_Model_readUses_1 : decode b_Model_readUses 1 = .ok (.istore_n 1, 1) := by decide +kernel
theorem d_Model_readUses_2 : decode b_Model_readUses 2 = .ok (.aload_n 0, 1) := by decide +kernel
theorem d_Model_readUses_3 : decode b_Model_readUses 3 = .ok (.invokevirtual 385, 3) := by decide +kernel
theorem d_Model_readUses_6 : decode b_Model_readUses 6 = .ok (.ifCond .ne 27, 3) := by decide +kernel
theorem d_Model_readUses_9 : decode b_Model_readUses 9 = .ok (.aload_n 0, 1) := by decide +kernel
theorem d_Model_readUses_10 : decode b_Model_readUses 10 = .ok (.getfield 352, 3) := by decide +kernel
theorem d_Model_readUses_13 : decode b_Model_readUses 13 = .ok (.iconst 4, 1) := by decide +kernel
theorem d_Model_readUses_14 : decode b_Model_readUses 14 = .ok (.if_icmp .ne 19, 3) := by decide +kernel
theorem d_Model_readUses_17 : decode b_Model_readUses 17 = .ok (.iload_n 1, 1) := by decide +kernel
theorem d_Model_readUses_18 : decode b_Model_readUses 18 = .ok (.iconst 3, 1) := by decide +kernel
theorem d_Model_readUses_19 : decode b_Model_readUses 19 = .ok (.if_icmp .ge 14, 3) := by decide +kernel
theorem d_Model_readUses_22 : decode b_Model_readUses 22 = .ok (.aload_n 0, 1) := by decide +kernel
theorem d_Model_readUses_23 : decode b_Model_readUses 23 = .ok (.invokevirtual 465, 3) := by decide +kernel
theorem d_Model_readUses_26 : decode b_Model_readUses 26 = .ok (.pop, 1) := by decide +kernel
theorem d_Model_readUses_27 : decode b_Model_readUses 27 = .ok (.iinc 1 1, 3) := by decide +kernel
theorem d_Model_readUses_30 : decode b_Model_readUses 30 = .ok (.goto (-28), 3) := by decide +kernel
theorem d_Model_readUses_33 : decode b_Model_readUses 33 = .ok (.iload_n 1, 1) := by decide +kernel
theorem d_Model_readUses_34 : decode b_Model_readUses 34 = .ok (.ireturn, 1) := by decide +kernel
abbrev b_Model_node : ByteArray := prog_14_method_32_code
abbrev y_Model_node : MethodName := ⟨R_Model, "node", "(II)I"⟩
theorem co_Model_node : Cond.code y_Model_node b_Model_node 4 (some .int) ∈ lw_good := lg_in (tin_11 _ (List.mem_of_getElem? (i := 18) rfl)) rfl
abbrev w_Model_node : List Cond := Cond.code y_Model_node b_Model_node 4 (some .int) :: lw_good
theorem im_Model_node : Cond.instanceMethod y_Model_node ∈ lw_good := lg_right (i := 2417) (by decide +kernel) rfl
theorem se_Model_node : Cond.selects R_Model y_Model_node y_Model_node ∈ lw_good := lg_left (i := 138) (by decide +kernel) rfl
theorem d_Model_node_0 : decode b_Model_node 0 = .ok (.aload_n 0, 1) := by decide +kernel
theorem d_Model_node_1 : decode b_Model_node 1 = .ok (.getfield 421, 3) := by decide +kernel
theorem d_Model_node_4 : decode b_Model_node 4 = .ok (.istore_n 3, 1) := by decide +kernel
theorem d_Model_node_5 : decode b_Model_node 5 = .ok (.aload_n 0, 1) := by decide +kernel
theorem d_Model_node_6 : decode b_Model_node 6 = .ok (.dup, 1) := by decide +kernel
theorem d_Model_node_7 : decode b_Model_node 7 = .ok (.getfield 421, 3) := by decide +kernel
theorem d_Model_node_10 : decode b_Model_node 10 = .ok (.iconst 1, 1) := by decide +kernel
theorem d_Model_node_11 : decode b_Model_node 11 = .ok (.iadd, 1) := by decide +kernel
theorem d_Model_node_12 : decode b_Model_node 12 = .ok (.putfield 421, 3) := by decide +kernel
theorem d_Model_node_15 : decode b_Model_node 15 = .ok (.aload_n 0, 1) := by decide +kernel
theorem d_Model_node_16 : decode b_Model_node 16 = .ok (.getfield 120, 3) := by decide +kernel
theorem fl_Model_120 : Cond.fieldLink R_Model 120 "PointerHouseModel" "kind" "[I" ∈ lw_good := lg_right (i := 1869) (by decide +kernel) rfl
theorem d_Model_node_19 : decode b_Model_node 19 = .ok (.iload_n 3, 1) := by decide +kernel
theorem d_Model_node_20 : decode b_Model_node 20 = .ok (.iload_n 1, 1) := by decide +kernel
theorem d_Model_node_21 : decode b_Model_node 21 = .ok (.iastore, 1) := by decide +kernel
theorem d_Model_node_22 : decode b_Model_node 22 = .ok (.aload_n 0, 1) := by decide +kernel
theorem d_Model_node_23 : decode b_Model_node 23 = .ok (.getfield 123, 3) := by decide +kernel
theorem fl_Model_123 : Cond.fieldLink R_Model 123 "PointerHouseModel" "at" "[I" ∈ lw_good := lg_right (i := 1870) (by decide +kernel) rfl
theorem d_Model_node_26 : decode b_Model_node 26 = .ok (.iload_n 3, 1) := by decide +kernel
theorem d_Model_node_27 : decode b_Model_node 27 = .ok (.iload_n 2, 1) := by decide +kernel
theorem d_Model_node_28 : decode b_Model_node 28 = .ok (.iastore, 1) := by decide +kernel
theorem d_Model_node_29 : decode b_Model_node 29 = .ok (.aload_n 0, 1) := by decide +kernel
theorem d_Model_node_30 : decode b_Model_node 30 = .ok (.getfield 126, 3) := by decide +kernel
theorem d_Model_node_33 : decode b_Model_node 33 = .ok (.iload_n 3, 1) := by decide +kernel
theorem d_Model_node_34 : decode b_Model_node 34 = .ok (.iconst (-1), 1) := by decide +kernel
theorem d_Model_node_35 : decode b_Model_node 35 = .ok (.iastore, 1) := by decide +kernel
theorem d_Model_node_36 : decode b_Model_node 36 = .ok (.aload_n 0, 1) := by decide +kernel
theorem d_Model_node_37 : decode b_Model_node 37 = .ok (.getfield 129, 3) := by decide +kernel
theorem fl_Model_129 : Cond.fieldLink R_Model 129 "PointerHouseModel" "two" "[I" ∈ lw_good := lg_right (i := 1872) (by decide +kernel) rfl
theorem d_Model_node_40 : decode b_Model_node 40 = .ok (.iload_n 3, 1) := by decide +kernel
theorem d_Model_node_41 : decode b_Model_node 41 = .ok (.iconst (-1), 1) := by decide +kernel
theorem d_Model_node_42 : decode b_Model_node 42 = .ok (.iastore, 1) := by decide +kernel
theorem d_Model_node_43 : decode b_Model_node 43 = .ok (.aload_n 0, 1) := by decide +kernel
theorem d_Model_node_44 : decode b_Model_node 44 = .ok (.getfield 132, 3) := by decide +kernel
theorem fl_Model_132 : Cond.fieldLink R_Model 132 "PointerHouseModel" "three" "[I" ∈ lw_good := lg_right (i := 1873) (by decide +kernel) rfl
theorem d_Model_node_47 : decode b_Model_node 47 = .ok (.iload_n 3, 1) := by decide +kernel
theorem d_Model_node_48 : decode b_Model_node 48 = .ok (.iconst (-1), 1) := by decide +kernel
theorem d_Model_node_49 : decode b_Model_node 49 = .ok (.iastore, 1) := by decide +kernel
theorem d_Model_node_50 : decode b_Model_node 50 = .ok (.aload_n 0, 1) := by decide +kernel
theorem d_Model_node_51 : decode b_Model_node 51 = .ok (.getfield 135, 3) := by decide +kernel
theorem d_Model_node_54 : decode b_Model_node 54 = .ok (.iload_n 3, 1) := by decide +kernel
theorem d_Model_node_55 : decode b_Model_node 55 = .ok (.iconst (-1), 1) := by decide +kernel
theorem d_Model_node_56 : decode b_Model_node 56 = .ok (.iastore, 1) := by decide +kernel
theorem d_Model_node_57 : decode b_Model_node 57 = .ok (.aload_n 0, 1) := by decide +kernel
theorem d_Model_node_58 : decode b_Model_node 58 = .ok (.getfield 147, 3) := by decide +kernel
theorem fl_Model_147 : Cond.fieldLink R_Model 147 "PointerHouseModel" "manyUses" "[I" ∈ lw_good := lg_right (i := 1878) (by decide +kernel) rfl
theorem d_Model_node_61 : decode b_Model_node 61 = .ok (.iload_n 3, 1) := by decide +kernel
theorem d_Model_node_62 : decode b_Model_node 62 = .ok (.iconst 0, 1) := by decide +kernel
theorem d_Model_node_63 : decode b_Model_node 63 = .ok (.iastore, 1) := by decide +kernel
theorem d_Model_node_64 : decode b_Model_node 64 = .ok (.iload_n 3, 1) := by decide +kernel
theorem d_Model_node_65 : decode b_Model_node 65 = .ok (.ireturn, 1) := by decide +kernel
abbrev b_Model_step : ByteArray := prog_14_method_34_code
abbrev y_Model_step : MethodName := ⟨R_Model, "step", "(I)I"⟩
theorem co_Model_step : Cond.code y_Model_step b_Model_step 8 (some .int) ∈ lw_good := lg_in (tin_11 _ (List.mem_of_getElem? (i := 22) rfl)) rfl
abbrev w_Model_step : List Cond := Cond.code y_Model_step b_Model_step 8 (some .int) :: lw_good
theorem im_Model_step : Cond.instanceMethod y_Model_step ∈ lw_good := lg_right (i := 2421) (by decide +kernel) rfl
theorem se_Model_step : Cond.selects R_Model y_Model_step y_Model_step ∈ lw_good := lg_left (i := 139) (by decide +kernel) rfl
theorem d_Model_step_0 : decode b_Model_step 0 = .ok (.aload_n 0, 1) := by decide +kernel
theorem d_Model_step_1 : decode b_Model_step 1 = .ok (.getfield 349, 3) := by decide +kernel
theorem d_Model_step_4 : decode b_Model_step 4 = .ok (.istore_n 2, 1) := by decide +kernel
theorem d_Model_step_5 : decode b_Model_step 5 = .ok (.aload_n 0, 1) := by decide +kernel
theorem d_Model_step_6 : decode b_Model_step 6 = .ok (.ldc_w 485, 3) := by decide +kernel
theorem d_Model_step_9 : decode b_Model_step 9 = .ok (.invokevirtual 462, 3) := by decide +kernel
theorem d_Model_step_12 : decode b_Model_step 12 = .ok (.ifCond .eq 10, 3) := by decide +kernel
theorem d_Model_step_15 : decode b_Model_step 15 = .ok (.aload_n 0, 1) := by decide +kernel
theorem d_Model_step_16 : decode b_Model_step 16 = .ok (.iload_n 2, 1) := by decide +kernel
theorem d_Model_step_17 : decode b_Model_step 17 = .ok (.iload_n 1, 1) := by decide +kernel
theorem d_Model_step_18 : decode b_Model_step 18 = .ok (.invokevirtual 487, 3) := by decide +kernel
theorem ml_Model_487 : Cond.methodLink R_Model 487 ⟨"PointerHouseModel", "readVar", "(II)I"⟩ ∈ lw_good := lg_right (i := 2424) (by decide +kernel) rfl
theorem d_Model_step_21 : decode b_Model_step 21 = .ok (.ireturn, 1) := by decide +kernel
theorem d_Model_step_22 : decode b_Model_step 22 = .ok (.aload_n 0, 1) := by decide +kernel
theorem d_Model_step_23 : decode b_Model_step 23 = .ok (.ldc_w 490, 3) := by decide +kernel
theorem d_Model_step_26 : decode b_Model_step 26 = .ok (.invokevirtual 399, 3) := by decide +kernel
theorem d_Model_step_29 : decode b_Model_step 29 = .ok (.istore_n 3, 1) := by decide +kernel
theorem d_Model_step_30 : decode b_Model_step 30 = .ok (.iload_n 3, 1) := by decide +kernel
theorem d_Model_step_31 : decode b_Model_step 31 = .ok (.ifCond .ne 13, 3) := by decide +kernel
theorem d_Model_step_34 : decode b_Model_step 34 = .ok (.aload_n 0, 1) := by decide +kernel
theorem d_Model_step_35 : decode b_Model_step 35 = .ok (.ldc_w 492, 3) := by decide +kernel
theorem d_Model_step_38 : decode b_Model_step 38 = .ok (.invokevirtual 399, 3) := by decide +kernel
theorem d_Model_step_41 : decode b_Model_step 41 = .ok (.ifCond .eq 84, 3) := by decide +kernel
theorem d_Model_step_44 : decode b_Model_step 44 = .ok (.aload_n 0, 1) := by decide +kernel
theorem d_Model_step_45 : decode b_Model_step 45 = .ok (.invokevirtual 396, 3) := by decide +kernel
theorem d_Model_step_48 : decode b_Model_step 48 = .ok (.aload_n 0, 1) := by decide +kernel
theorem d_Model_step_49 : decode b_Model_step 49 = .ok (.iload_n 3, 1) := by decide +kernel
theorem d_Model_step_50 : decode b_Model_step 50 = .ok (.ifCond .eq 8, 3) := by decide +kernel
theorem d_Model_step_53 : decode b_Model_step 53 = .ok (.bipush 22, 2) := by decide +kernel
theorem d_Model_step_55 : decode b_Model_step 55 = .ok (.goto 5, 3) := by decide +kernel
theorem d_Model_step_58 : decode b_Model_step 58 = .ok (.bipush 21, 2) := by decide +kernel
theorem d_Model_step_60 : decode b_Model_step 60 = .ok (.iload_n 2, 1) := by decide +kernel
theorem d_Model_step_61 : decode b_Model_step 61 = .ok (.invokevirtual 478, 3) := by decide +kernel
theorem d_Model_step_64 : decode b_Model_step 64 = .ok (.istore 4, 2) := by decide +kernel
theorem d_Model_step_66 : decode b_Model_step 66 = .ok (.aload_n 0, 1) := by decide +kernel
theorem d_Model_step_67 : decode b_Model_step 67 = .ok (.getfield 126, 3) := by decide +kernel
theorem d_Model_step_70 : decode b_Model_step 70 = .ok (.iload 4, 2) := by decide +kernel
theorem d_Model_step_72 : decode b_Model_step 72 = .ok (.aload_n 0, 1) := by decide +kernel
theorem d_Model_step_73 : decode b_Model_step 73 = .ok (.iload_n 1, 1) := by decide +kernel
theorem d_Model_step_74 : decode b_Model_step 74 = .ok (.iconst 1, 1) := by decide +kernel
theorem d_Model_step_75 : decode b_Model_step 75 = .ok (.iadd, 1) := by decide +kernel
theorem d_Model_step_76 : decode b_Model_step 76 = .ok (.invokevirtual 494, 3) := by decide +kernel
theorem ml_Model_494 : Cond.methodLink R_Model 494 ⟨"PointerHouseModel", "expression", "(I)I"⟩ ∈ lw_good := lg_right (i := 2428) (by decide +kernel) rfl
theorem d_Model_step_79 : decode b_Model_step 79 = .ok (.iastore, 1) := by decide +kernel
theorem d_Model_step_80 : decode b_Model_step 80 = .ok (.aload_n 0, 1) := by decide +kernel
theorem d_Model_step_81 : decode b_Model_step 81 = .ok (.getfield 129, 3) := by decide +kernel
theorem d_Model_step_84 : decode b_Model_step 84 = .ok (.iload 4, 2) := by decide +kernel
theorem d_Model_step_86 : decode b_Model_step 86 = .ok (.aload_n 0, 1) := by decide +kernel
theorem d_Model_step_87 : decode b_Model_step 87 = .ok (.iload_n 1, 1) := by decide +kernel
theorem d_Model_step_88 : decode b_Model_step 88 = .ok (.iconst 1, 1) := by decide +kernel
theorem d_Model_step_89 : decode b_Model_step 89 = .ok (.iadd, 1) := by decide +kernel
theorem d_Model_step_90 : decode b_Model_step 90 = .ok (.invokevirtual 445, 3) := by decide +kernel
theorem d_Model_step_93 : decode b_Model_step 93 = .ok (.iastore, 1) := by decide +kernel
theorem d_Model_step_94 : decode b_Model_step 94 = .ok (.iload_n 3, 1) := by decide +kernel
theorem d_Model_step_95 : decode b_Model_step 95 = .ok (.ifCond .ne 27, 3) := by decide +kernel
theorem d_Model_step_98 : decode b_Model_step 98 = .ok (.aload_n 0, 1) := by decide +kernel
theorem d_Model_step_99 : decode b_Model_step 99 = .ok (.ldc_w 497, 3) := by decide +kernel
theorem d_Model_step_102 : decode b_Model_step 102 = .ok (.invokevirtual 462, 3) := by decide +kernel
theorem d_Model_step_105 : decode b_Model_step 105 = .ok (.ifCond .eq 17, 3) := by decide +kernel
theorem d_Model_step_108 : decode b_Model_step 108 = .ok (.aload_n 0, 1) := by decide +kernel
theorem d_Model_step_109 : decode b_Model_step 109 = .ok (.getfield 132, 3) := by decide +kernel
theorem d_Model_step_112 : decode b_Model_step 112 = .ok (.iload 4, 2) := by decide +kernel
theorem d_Model_step_114 : decode b_Model_step 114 = .ok (.aload_n 0, 1) := by decide +kernel
theorem d_Model_step_115 : decode b_Model_step 115 = .ok (.iload_n 1, 1) := by decide +kernel
theorem d_Model_step_116 : decode b_Model_step 116 = .ok (.iconst 1, 1) := by decide +kernel
theorem d_Model_step_117 : decode b_Model_step 117 = .ok (.iadd, 1) := by decide +kernel
theorem d_Model_step_118 : decode b_Model_step 118 = .ok (.invokevirtual 445, 3) := by decide +kernel
theorem d_Model_step_121 : decode b_Model_step 121 = .ok (.iastore, 1) := by decide +kernel
theorem d_Model_step_122 : decode b_Model_step 122 = .ok (.iload 4, 2) := by decide +kernel
theorem d_Model_step_124 : decode b_Model_step 124 = .ok (.ireturn, 1) := by decide +kernel
theorem d_Model_step_125 : decode b_Model_step 125 = .ok (.aload_n 0, 1) := by decide +kernel
theorem d_Model_step_126 : decode b_Model_step 126 = .ok (.ldc_w 499, 3) := by decide +kernel
theorem d_Model_step_129 : decode b_Model_step 129 = .ok (.invokevirtual 462, 3) := by decide +kernel
theorem d_Model_step_132 : decode b_Model_step 132 = .ok (.ifCond .eq 44, 3) := by decide +kernel
theorem d_Model_step_135 : decode b_Model_step 135 = .ok (.aload_n 0, 1) := by decide +kernel
theorem d_Model_step_136 : decode b_Model_step 136 = .ok (.bipush 23, 2) := by decide +kernel
theorem d_Model_step_138 : decode b_Model_step 138 = .ok (.iload_n 2, 1) := by decide +kernel
theorem d_Model_step_139 : decode b_Model_step 139 = .ok (.invokevirtual 478, 3) := by decide +kernel
theorem d_Model_step_142 : decode b_Model_step 142 = .ok (.istore 4, 2) := by decide +kernel
theorem d_Model_step_144 : decode b_Model_step 144 = .ok (.aload_n 0, 1) := by decide +kernel
theorem d_Model_step_145 : decode b_Model_step 145 = .ok (.bipush 59, 2) := by decide +kernel
theorem d_Model_step_147 : decode b_Model_step 147 = .ok (.invokevirtual 393, 3) := by decide +kernel
theorem d_Model_step_150 : decode b_Model_step 150 = .ok (.ifCond .ne 17, 3) := by decide +kernel
theorem d_Model_step_153 : decode b_Model_step 153 = .ok (.aload_n 0, 1) := by decide +kernel
theorem d_Model_step_154 : decode b_Model_step 154 = .ok (.getfield 126, 3) := by decide +kernel
theorem d_Model_step_157 : decode b_Model_step 157 = .ok (.iload 4, 2) := by decide +kernel
theorem d_Model_step_159 : decode b_Model_step 159 = .ok (.aload_n 0, 1) := by decide +kernel
theorem d_Model_step_160 : decode b_Model_step 160 = .ok (.iload_n 1, 1) := by decide +kernel
theorem d_Model_step_161 : decode b_Model_step 161 = .ok (.iconst 1, 1) := by decide +kernel
theorem d_Model_step_162 : decode b_Model_step 162 = .ok (.iadd, 1) := by decide +kernel
theorem d_Model_step_163 : decode b_Model_step 163 = .ok (.invokevirtual 494, 3) := by decide +kernel
theorem d_Model_step_166 : decode b_Model_step 166 = .ok (.iastore, 1) := by decide +kernel
theorem d_Model_step_167 : decode b_Model_step 167 = .ok (.aload_n 0, 1) := by decide +kernel
theorem d_Model_step_168 : decode b_Model_step 168 = .ok (.bipush 59, 2) := by decide +kernel
theorem d_Model_step_170 : decode b_Model_step 170 = .ok (.invokevirtual 448, 3) := by decide +kernel
theorem d_Model_step_173 : decode b_Model_step 173 = .ok (.iload 4, 2) := by decide +kernel
theorem d_Model_step_175 : decode b_Model_step 175 = .ok (.ireturn, 1) := by decide +kernel
theorem d_Model_step_176 : decode b_Model_step 176 = .ok (.aload_n 0, 1) := by decide +kernel
theorem d_Model_step_177 : decode b_Model_step 177 = .ok (.ldc_w 501, 3) := by decide +kernel
theorem d_Model_step_180 : decode b_Model_step 180 = .ok (.invokevirtual 462, 3) := by decide +kernel
theorem d_Model_step_183 : decode b_Model_step 183 = .ok (.ifCond .eq 65, 3) := by decide +kernel
theorem d_Model_step_186 : decode b_Model_step 186 = .ok (.aload_n 0, 1) := by decide +kernel
theorem d_Model_step_187 : decode b_Model_step 187 = .ok (.getfield 439, 3) := by decide +kernel
theorem d_Model_step_190 : decode b_Model_step 190 = .ok (.bipush 8, 2) := by decide +kernel
theorem d_Model_step_192 : decode b_Model_step 192 = .ok (.if_icmp .ne 9, 3) := by decide +kernel
theorem d_Model_step_195 : decode b_Model_step 195 = .ok (.aload_n 0, 1) := by decide +kernel
theorem d_Model_step_196 : decode b_Model_step 196 = .ok (.iconst 1, 1) := by decide +kernel
theorem d_Model_step_197 : decode b_Model_step 197 = .ok (.iload_n 2, 1) := by decide +kernel
theorem d_Model_step_198 : decode b_Model_step 198 = .ok (.invokevirtual 381, 3) := by decide +kernel
theorem d_Model_step_201 : decode b_Model_step 201 = .ok (.aload_n 0, 1) := by decide +kernel
theorem d_Model_step_202 : decode b_Model_step 202 = .ok (.dup, 1) := by decide +kernel
theorem d_Model_step_203 : decode b_Model_step 203 = .ok (.getfield 439, 3) := by decide +kernel
theorem d_Model_step_206 : decode b_Model_step 206 = .ok (.iconst 1, 1) := by decide +kernel
theorem d_Model_step_207 : decode b_Model_step 207 = .ok (.iadd, 1) := by decide +kernel
theorem d_Model_step_208 : decode b_Model_step 208 = .ok (.putfield 439, 3) := by decide +kernel
theorem d_Model_step_211 : decode b_Model_step 211 = .ok (.aload_n 0, 1) := by decide +kernel
theorem d_Model_step_212 : decode b_Model_step 212 = .ok (.bipush 26, 2) := by decide +kernel
theorem d_Model_step_214 : decode b_Model_step 214 = .ok (.iload_n 2, 1) := by decide +kernel
theorem d_Model_step_215 : decode b_Model_step 215 = .ok (.invokevirtual 478, 3) := by decide +kernel
theorem d_Model_step_218 : decode b_Model_step 218 = .ok (.istore 4, 2) := by decide +kernel
theorem d_Model_step_220 : decode b_Model_step 220 = .ok (.aload_n 0, 1) := by decide +kernel
theorem d_Model_step_221 : decode b_Model_step 221 = .ok (.getfield 144, 3) := by decide +kernel
theorem fl_Model_144 : Cond.fieldLink R_Model 144 "PointerHouseModel" "use" "[I" ∈ lw_good := lg_right (i := 1877) (by decide +kernel) rfl
theorem d_Model_step_224 : decode b_Model_step 224 = .ok (.iload 4, 2) := by decide +kernel
theorem d_Model_step_226 : decode b_Model_step 226 = .ok (.aload_n 0, 1) := by decide +kernel
theorem d_Model_step_227 : decode b_Model_step 227 = .ok (.invokevirtual 465, 3) := by decide +kernel
theorem d_Model_step_230 : decode b_Model_step 230 = .ok (.iastore, 1) := by decide +kernel
theorem d_Model_step_231 : decode b_Model_step 231 = .ok (.aload_n 0, 1) := by decide +kernel
theorem d_Model_step_232 : decode b_Model_step 232 = .ok (.getfield 126, 3) := by decide +kernel
theorem d_Model_step_235 : decode b_Model_step 235 = .ok (.iload 4, 2) := by decide +kernel
theorem d_Model_step_237 : decode b_Model_step 237 = .ok (.aload_n 0, 1) := by decide +kernel
theorem d_Model_step_238 : decode b_Model_step 238 = .ok (.iload_n 1, 1) := by decide +kernel
theorem d_Model_step_239 : decode b_Model_step 239 = .ok (.iconst 1, 1) := by decide +kernel
theorem d_Model_step_240 : decode b_Model_step 240 = .ok (.iadd, 1) := by decide +kernel
theorem d_Model_step_241 : decode b_Model_step 241 = .ok (.invokevirtual 445, 3) := by decide +kernel
theorem d_Model_step_244 : decode b_Model_step 244 = .ok (.iastore, 1) := by decide +kernel
theorem d_Model_step_245 : decode b_Model_step 245 = .ok (.iload 4, 2) := by decide +kernel
theorem d_Model_step_247 : decode b_Model_step 247 = .ok (.ireturn, 1) := by decide +kernel
theorem d_Model_step_248 : decode b_Model_step 248 = .ok (.aload_n 0, 1) := by decide +kernel
theorem d_Model_step_249 : decode b_Model_step 249 = .ok (.ldc_w 503, 3) := by decide +kernel
theorem d_Model_step_252 : decode b_Model_step 252 = .ok (.invokevirtual 462, 3) := by decide +kernel
theorem d_Model_step_255 : decode b_Model_step 255 = .ok (.ifCond .eq 32, 3) := by decide +kernel
theorem d_Model_step_258 : decode b_Model_step 258 = .ok (.aload_n 0, 1) := by decide +kernel
theorem d_Model_step_259 : decode b_Model_step 259 = .ok (.bipush 27, 2) := by decide +kernel
theorem d_Model_step_261 : decode b_Model_step 261 = .ok (.iload_n 2, 1) := by decide +kernel
theorem d_Model_step_262 : decode b_Model_step 262 = .ok (.invokevirtual 478, 3) := by decide +kernel
theorem d_Model_step_265 : decode b_Model_step 265 = .ok (.istore 4, 2) := by decide +kernel
theorem d_Model_step_267 : decode b_Model_step 267 = .ok (.aload_n 0, 1) := by decide +kernel
theorem d_Model_step_268 : decode b_Model_step 268 = .ok (.getfield 144, 3) := by decide +kernel
theorem d_Model_step_271 : decode b_Model_step 271 = .ok (.iload 4, 2) := by decide +kernel
theorem d_Model_step_273 : decode b_Model_step 273 = .ok (.aload_n 0, 1) := by decide +kernel
theorem d_Model_step_274 : decode b_Model_step 274 = .ok (.invokevirtual 465, 3) := by decide +kernel
theorem d_Model_step_277 : decode b_Model_step 277 = .ok (.iastore, 1) := by decide +kernel
theorem d_Model_step_278 : decode b_Model_step 278 = .ok (.aload_n 0, 1) := by decide +kernel
theorem d_Model_step_279 : decode b_Model_step 279 = .ok (.bipush 59, 2) := by decide +kernel
theorem d_Model_step_281 : decode b_Model_step 281 = .ok (.invokevirtual 448, 3) := by decide +kernel
theorem d_Model_step_284 : decode b_Model_step 284 = .ok (.iload 4, 2) := by decide +kernel
theorem d_Model_step_286 : decode b_Model_step 286 = .ok (.ireturn, 1) := by decide +kernel
theorem d_Model_step_287 : decode b_Model_step 287 = .ok (.aload_n 0, 1) := by decide +kernel
theorem d_Model_step_288 : decode b_Model_step 288 = .ok (.ldc_w 505, 3) := by decide +kernel
theorem d_Model_step_291 : decode b_Model_step 291 = .ok (.invokevirtual 462, 3) := by decide +kernel
theorem d_Model_step_294 : decode b_Model_step 294 = .ok (.ifCond .eq 57, 3) := by decide +kernel
theorem d_Model_step_297 : decode b_Model_step 297 = .ok (.aload_n 0, 1) := by decide +kernel
theorem d_Model_step_298 : decode b_Model_step 298 = .ok (.bipush 28, 2) := by decide +kernel
theorem d_Model_step_300 : decode b_Model_step 300 = .ok (.iload_n 2, 1) := by decide +kernel
theorem d_Model_step_301 : decode b_Model_step 301 = .ok (.invokevirtual 478, 3) := by decide +kernel
theorem d_Model_step_304 : decode b_Model_step 304 = .ok (.istore 4, 2) := by decide +kernel
theorem d_Model_step_306 : decode b_Model_step 306 = .ok (.aload_n 0, 1) := by decide +kernel
theorem d_Model_step_307 : decode b_Model_step 307 = .ok (.getfield 126, 3) := by decide +kernel
theorem d_Model_step_310 : decode b_Model_step 310 = .ok (.iload 4, 2) := by decide +kernel
theorem d_Model_step_312 : decode b_Model_step 312 = .ok (.aload_n 0, 1) := by decide +kernel
theorem d_Model_step_313 : decode b_Model_step 313 = .ok (.iload_n 1, 1) := by decide +kernel
theorem d_Model_step_314 : decode b_Model_step 314 = .ok (.iconst 1, 1) := by decide +kernel
theorem d_Model_step_315 : decode b_Model_step 315 = .ok (.iadd, 1) := by decide +kernel
theorem d_Model_step_316 : decode b_Model_step 316 = .ok (.invokevirtual 445, 3) := by decide +kernel
theorem d_Model_step_319 : decode b_Model_step 319 = .ok (.iastore, 1) := by decide +kernel
theorem d_Model_step_320 : decode b_Model_step 320 = .ok (.aload_n 0, 1) := by decide +kernel
theorem d_Model_step_321 : decode b_Model_step 321 = .ok (.ldc_w 507, 3) := by decide +kernel
theorem d_Model_step_324 : decode b_Model_step 324 = .ok (.invokevirtual 462, 3) := by decide +kernel
theorem d_Model_step_327 : decode b_Model_step 327 = .ok (.ifCond .ne 7, 3) := by decide +kernel
theorem d_Model_step_330 : decode b_Model_step 330 = .ok (.aload_n 0, 1) := by decide +kernel
theorem d_Model_step_331 : decode b_Model_step 331 = .ok (.invokevirtual 406, 3) := by decide +kernel
theorem d_Model_step_334 : decode b_Model_step 334 = .ok (.aload_n 0, 1) := by decide +kernel
theorem d_Model_step_335 : decode b_Model_step 335 = .ok (.getfield 129, 3) := by decide +kernel
theorem d_Model_step_338 : decode b_Model_step 338 = .ok (.iload 4, 2) := by decide +kernel
theorem d_Model_step_340 : decode b_Model_step 340 = .ok (.aload_n 0, 1) := by decide +kernel
theorem d_Model_step_341 : decode b_Model_step 341 = .ok (.iload_n 1, 1) := by decide +kernel
theorem d_Model_step_342 : decode b_Model_step 342 = .ok (.iconst 1, 1) := by decide +kernel
theorem d_Model_step_343 : decode b_Model_step 343 = .ok (.iadd, 1) := by decide +kernel
theorem d_Model_step_344 : decode b_Model_step 344 = .ok (.invokevirtual 445, 3) := by decide +kernel
theorem d_Model_step_347 : decode b_Model_step 347 = .ok (.iastore, 1) := by decide +kernel
theorem d_Model_step_348 : decode b_Model_step 348 = .ok (.iload 4, 2) := by decide +kernel
theorem d_Model_step_350 : decode b_Model_step 350 = .ok (.ireturn, 1) := by decide +kernel
theorem d_Model_step_351 : decode b_Model_step 351 = .ok (.aload_n 0, 1) := by decide +kernel
theorem d_Model_step_352 : decode b_Model_step 352 = .ok (.ldc_w 509, 3) := by decide +kernel
theorem d_Model_step_355 : decode b_Model_step 355 = .ok (.invokevirtual 399, 3) := by decide +kernel
theorem d_Model_step_358 : decode b_Model_step 358 = .ok (.istore 4, 2) := by decide +kernel
theorem d_Model_step_360 : decode b_Model_step 360 = .ok (.aload_n 0, 1) := by decide +kernel
theorem d_Model_step_361 : decode b_Model_step 361 = .ok (.ldc_w 511, 3) := by decide +kernel
theorem d_Model_step_364 : decode b_Model_step 364 = .ok (.invokevirtual 399, 3) := by decide +kernel
theorem d_Model_step_367 : decode b_Model_step 367 = .ok (.istore 5, 2) := by decide +kernel
theorem d_Model_step_369 : decode b_Model_step 369 = .ok (.iload 4, 2) := by decide +kernel
theorem d_Model_step_371 : decode b_Model_step 371 = .ok (.ifCond .ne 8, 3) := by decide +kernel
theorem d_Model_step_374 : decode b_Model_step 374 = .ok (.iload 5, 2) := by decide +kernel
theorem d_Model_step_376 : decode b_Model_step 376 = .ok (.ifCond .eq 7, 3) := by decide +kernel
theorem d_Model_step_379 : decode b_Model_step 379 = .ok (.aload_n 0, 1) := by decide +kernel
theorem d_Model_step_380 : decode b_Model_step 380 = .ok (.invokevirtual 396, 3) := by decide +kernel
theorem d_Model_step_383 : decode b_Model_step 383 = .ok (.aload_n 0, 1) := by decide +kernel
theorem d_Model_step_384 : decode b_Model_step 384 = .ok (.iload_n 1, 1) := by decide +kernel
theorem d_Model_step_385 : decode b_Model_step 385 = .ok (.iconst 1, 1) := by decide +kernel
theorem d_Model_step_386 : decode b_Model_step 386 = .ok (.iadd, 1) := by decide +kernel
theorem d_Model_step_387 : decode b_Model_step 387 = .ok (.invokevirtual 494, 3) := by decide +kernel
theorem d_Model_step_390 : decode b_Model_step 390 = .ok (.istore 6, 2) := by decide +kernel
theorem d_Model_step_392 : decode b_Model_step 392 = .ok (.aload_n 0, 1) := by decide +kernel
theorem d_Model_step_393 : decode b_Model_step 393 = .ok (.iload 4, 2) := by decide +kernel
theorem d_Model_step_395 : decode b_Model_step 395 = .ok (.ifCond .eq 8, 3) := by decide +kernel
theorem d_Model_step_398 : decode b_Model_step 398 = .ok (.bipush 24, 2) := by decide +kernel
theorem d_Model_step_400 : decode b_Model_step 400 = .ok (.goto 15, 3) := by decide +kernel
theorem d_Model_step_403 : decode b_Model_step 403 = .ok (.iload 5, 2) := by decide +kernel
theorem d_Model_step_405 : decode b_Model_step 405 = .ok (.ifCond .eq 8, 3) := by decide +kernel
theorem d_Model_step_408 : decode b_Model_step 408 = .ok (.bipush 25, 2) := by decide +kernel
theorem d_Model_step_410 : decode b_Model_step 410 = .ok (.goto 5, 3) := by decide +kernel
theorem d_Model_step_413 : decode b_Model_step 413 = .ok (.bipush 30, 2) := by decide +kernel
theorem d_Model_step_415 : decode b_Model_step 415 = .ok (.iload_n 2, 1) := by decide +kernel
theorem d_Model_step_416 : decode b_Model_step 416 = .ok (.invokevirtual 478, 3) := by decide +kernel
theorem d_Model_step_419 : decode b_Model_step 419 = .ok (.istore 7, 2) := by decide +kernel
theorem d_Model_step_421 : decode b_Model_step 421 = .ok (.aload_n 0, 1) := by decide +kernel
theorem d_Model_step_422 : decode b_Model_step 422 = .ok (.getfield 126, 3) := by decide +kernel
theorem d_Model_step_425 : decode b_Model_step 425 = .ok (.iload 7, 2) := by decide +kernel
theorem d_Model_step_427 : decode b_Model_step 427 = .ok (.iload 6, 2) := by decide +kernel
theorem d_Model_step_429 : decode b_Model_step 429 = .ok (.iastore, 1) := by decide +kernel
theorem d_Model_step_430 : decode b_Model_step 430 = .ok (.iload 4, 2) := by decide +kernel
theorem d_Model_step_432 : decode b_Model_step 432 = .ok (.ifCond .ne 40, 3) := by decide +kernel
theorem d_Model_step_435 : decode b_Model_step 435 = .ok (.iload 5, 2) := by decide +kernel
theorem d_Model_step_437 : decode b_Model_step 437 = .ok (.ifCond .ne 35, 3) := by decide +kernel
theorem d_Model_step_440 : decode b_Model_step 440 = .ok (.aload_n 0, 1) := by decide +kernel
theorem d_Model_step_441 : decode b_Model_step 441 = .ok (.bipush 61, 2) := by decide +kernel
theorem d_Model_step_443 : decode b_Model_step 443 = .ok (.invokevirtual 403, 3) := by decide +kernel
theorem d_Model_step_446 : decode b_Model_step 446 = .ok (.ifCond .eq 26, 3) := by decide +kernel
theorem d_Model_step_449 : decode b_Model_step 449 = .ok (.aload_n 0, 1) := by decide +kernel
theorem d_Model_step_450 : decode b_Model_step 450 = .ok (.getfield 120, 3) := by decide +kernel
theorem d_Model_step_453 : decode b_Model_step 453 = .ok (.iload 7, 2) := by decide +kernel
theorem d_Model_step_455 : decode b_Model_step 455 = .ok (.bipush 29, 2) := by decide +kernel
theorem d_Model_step_457 : decode b_Model_step 457 = .ok (.iastore, 1) := by decide +kernel
theorem d_Model_step_458 : decode b_Model_step 458 = .ok (.aload_n 0, 1) := by decide +kernel
theorem d_Model_step_459 : decode b_Model_step 459 = .ok (.getfield 129, 3) := by decide +kernel
theorem d_Model_step_462 : decode b_Model_step 462 = .ok (.iload 7, 2) := by decide +kernel
theorem d_Model_step_464 : decode b_Model_step 464 = .ok (.aload_n 0, 1) := by decide +kernel
theorem d_Model_step_465 : decode b_Model_step 465 = .ok (.iload_n 1, 1) := by decide +kernel
theorem d_Model_step_466 : decode b_Model_step 466 = .ok (.iconst 1, 1) := by decide +kernel
theorem d_Model_step_467 : decode b_Model_step 467 = .ok (.iadd, 1) := by decide +kernel
theorem d_Model_step_468 : decode b_Model_step 468 = .ok (.invokevirtual 494, 3) := by decide +kernel
theorem d_Model_step_471 : decode b_Model_step 471 = .ok (.iastore, 1) := by decide +kernel
theorem d_Model_step_472 : decode b_Model_step 472 = .ok (.aload_n 0, 1) := by decide +kernel
theorem d_Model_step_473 : decode b_Model_step 473 = .ok (.bipush 59, 2) := by decide +kernel
theorem d_Model_step_475 : decode b_Model_step 475 = .ok (.invokevirtual 448, 3) := by decide +kernel
theorem d_Model_step_478 : decode b_Model_step 478 = .ok (.iload 7, 2) := by decide +kernel
theorem d_Model_step_480 : decode b_Model_step 480 = .ok (.ireturn, 1) := by decide +kernel
section GV
variable {p : Program} {l : Launch} {e : Env} {R : Room} {s : State} {m : MethodId} {args : Array Value} {below : List Frame} {meth : Method} {c : Code} {H : Heap} {locs : List Loc} {cells slots : Nat} {Q : State → Prop}
variable {cc : ByteArray} {pc : Nat} {ls : Array Slot} {rest st0 : List Value} {dC : Nat → ClassId} {dI : Nat → Nat → Nat} {A : Nat → Prop} {ad ea ev : Nat → Nat} {km : Nat → ClassId} {T T' : gSt} {H0 : Heap}
theorem rd_Model_7 (hx : p.tables.exec = Jvm.exec) (hb : c.code = cc) (hT : ∀ w ∈ lw_good, w.before args s = true) (hown : s.vm.findClass R_Model = some m.cls) (hK : va_K (dC, dI) cls_all (gT LM km) s) (hP : va_P (dC, dI) cls_all (gW LM ad km T) H) (hdg : decode cc pc = .ok (.getfield 7, 3)) (kk : W p l e R s m args below meth c H locs cells slots Q (F0 m (pc + 3) ls (.ref (ad 1) :: rest))) : W p l e R s m args below meth c H locs cells slots Q (F0 m pc ls (.ref (ad 0) :: rest)) := gw_get hx hb hT i_Model hown hK hP 0 0 0 (Nat.le_of_ble_eq_true rfl) rfl rfl (Nat.le_of_ble_eq_true rfl) rfl (gv_a rfl) (hT _ fl_Model_7) (fun _ h9 => h9) hdg kk
theorem rd_Model_313 (hx : p.tables.exec = Jvm.exec) (hb : c.code = cc) (hT : ∀ w ∈ lw_good, w.before args s = true) (hown : s.vm.findClass R_Model = some m.cls) (hK : va_K (dC, dI) cls_all (gT LM km) s) (hP : va_P (dC, dI) cls_all (gW LM ad km T) H) (hdg : decode cc pc = .ok (.getfield 313, 3)) (kk : W p l e R s m args below meth c H locs cells slots Q (F0 m (pc + 3) ls (.int (T.1 1 0) :: rest))) : W p l e R s m args below meth c H locs cells slots Q (F0 m pc ls (.ref (ad 0) :: rest)) := gw_get hx hb hT i_Model hown hK hP 0 1 1 (Nat.le_of_ble_eq_true rfl) rfl rfl (Nat.le_of_ble_eq_true rfl) rfl (gv_i rfl) (hT _ fl_Model_313) (fun _ h9 => h9) hdg kk
theorem laM_0 (hx : p.tables.exec = Jvm.exec) (hb : c.code = cc) (hK : va_K (dC, dI) cls_all (gT LM km) s) (hP : va_P (dC, dI) cls_all (gW LM ad km T) H) {x : Int32} (hin : inb x 4000) (hdg : decode cc pc = .ok (.iaload, 1)) (kk : W p l e R s m args below meth c H locs cells slots Q (F0 m (pc + 1) ls (.int (T.1 0 x.toNatClampNeg) :: rest))) : W p l e R s m args below meth c H locs cells slots Q (F0 m pc ls (.int x :: .ref (ad 1) :: rest)) := gw_iald hx hb hK hP 0 0 4000 1 (Nat.le_of_ble_eq_true rfl) rfl rfl rfl rfl rfl hin hdg kk
theorem saM_0 (hx : p.tables.exec = Jvm.exec) (hb : c.code = cc) (hK : va_K (dC, dI) cls_all (gT LM km) s) (hP : va_P (dC, dI) cls_all (gW LM ad km T) H) (hD : va_D A (gW LM ad km T)) (hS : va_S A H0 H locs) {x : Int32} {v : Int32} (hin : inb x 4000) (hdg : decode cc pc = .ok (.iastore, 1)) (kk : ∀ (T1 : gSt), T1 = sI T 0 x.toNatClampNeg v → ∀ (H1 : Heap) (locs1 : List Loc), va_P (dC, dI) cls_all (gW LM ad km T1) H1 → va_D A (gW LM ad km T1) → va_S A H0 H1 locs1 → W p l e R s m args below meth c H1 locs1 cells slots Q (F0 m (pc + 1) ls rest)) : W p l e R s m args below meth c H locs cells slots Q (F0 m pc ls (.int v :: .int x :: .ref (ad 1) :: rest)) := gw_iast okM hx hb hK hP hD hS 0 0 4000 1 (Nat.le_of_ble_eq_true rfl) rfl rfl rfl rfl rfl hin hdg kk
theorem wr_Model_313 (hx : p.tables.exec = Jvm.exec) (hb : c.code = cc) (hT : ∀ w ∈ lw_good, w.before args s = true) (hown : s.vm.findClass R_Model = some m.cls) (hK : va_K (dC, dI) cls_all (gT LM km) s) (hP : va_P (dC, dI) cls_all (gW LM ad km T) H) (hD : va_D A (gW LM ad km T)) (hS : va_S A H0 H locs) {v : Int32} (hdg : decode cc pc = .ok (.putfield 313, 3)) (kk : ∀ (T1 : gSt), T1 = sI T 1 0 v → ∀ (H1 : Heap) (locs1 : List Loc), va_P (dC, dI) cls_all (gW LM ad km T1) H1 → va_D A (gW LM ad km T1) → va_S A H0 H1 locs1 → W p l e R s m args below meth c H1 locs1 cells slots Q (F0 m (pc + 3) ls rest)) : W p l e R s m args below meth c H locs cells slots Q (F0 m pc ls (.int v :: .ref (ad 0) :: rest)) := gw_puti okM hx hb hT i_Model t_Model t_Model_ok n_Model hown hK hP hD hS 0 1 1 (Nat.le_of_ble_eq_true rfl) rfl rfl (Nat.le_of_ble_eq_true rfl) rfl rfl (hT _ fl_Model_313) (fun _ h9 => h9) rfl (ty := .int) (by decide +kernel) rfl rfl hdg kk
theorem rd_Model_378 (hx : p.tables.exec = Jvm.exec) (hb : c.code = cc) (hT : ∀ w ∈ lw_good, w.before args s = true) (hown : s.vm.findClass R_Model = some m.cls) (hK : va_K (dC, dI) cls_all (gT LM km) s) (hP : va_P (dC, dI) cls_all (gW LM ad km T) H) (hdg : decode cc pc = .ok (.getfield 378, 3)) (kk : W p l e R s m args below meth c H locs cells slots Q (F0 m (pc + 3) ls (.int (T.1 7 0) :: rest))) : W p l e R s m args below meth c H locs cells slots Q (F0 m pc ls (.ref (ad 0) :: rest)) := gw_get hx hb hT i_Model hown hK hP 0 7 7 (Nat.le_of_ble_eq_true rfl) rfl rfl (Nat.le_of_ble_eq_true rfl) rfl (gv_i rfl) (hT _ fl_Model_378) (fun _ h9 => h9) hdg kk
theorem wr_Model_378 (hx : p.tables.exec = Jvm.exec) (hb : c.code = cc) (hT : ∀ w ∈ lw_good, w.before args s = true) (hown : s.vm.findClass R_Model = some m.cls) (hK : va_K (dC, dI) cls_all (gT LM km) s) (hP : va_P (dC, dI) cls_all (gW LM ad km T) H) (hD : va_D A (gW LM ad km T)) (hS : va_S A H0 H locs) {v : Int32} (hdg : decode cc pc = .ok (.putfield 378, 3)) (kk : ∀ (T1 : gSt), T1 = sI T 7 0 v → ∀ (H1 : Heap) (locs1 : List Loc), va_P (dC, dI) cls_all (gW LM ad km T1) H1 → va_D A (gW LM ad km T1) → va_S A H0 H1 locs1 → W p l e R s m args below meth c H1 locs1 cells slots Q (F0 m (pc + 3) ls rest)) : W p l e R s m args below meth c H locs cells slots Q (F0 m pc ls (.int v :: .ref (ad 0) :: rest)) := gw_puti okM hx hb hT i_Model t_Model t_Model_ok n_Model hown hK hP hD hS 0 7 7 (Nat.le_of_ble_eq_true rfl) rfl rfl (Nat.le_of_ble_eq_true rfl) rfl rfl (hT _ fl_Model_378) (fun _ h9 => h9) rfl (ty := .int) (by decide +kernel) rfl rfl hdg kk
theorem wr_Model_13 (hx : p.tables.exec = Jvm.exec) (hb : c.code = cc) (hT : ∀ w ∈ lw_good, w.before args s = true) (hown : s.vm.findClass R_Model = some m.cls) (hK : va_K (dC, dI) cls_all (gT LM km) s) (hP : va_P (dC, dI) cls_all (gW LM ad km T) H) (hD : va_D A (gW LM ad km T)) (hS : va_S A H0 H locs) {v : Int32} (hdg : decode cc pc = .ok (.putfield 13, 3)) (kk : ∀ (T1 : gSt), T1 = sI T 8 0 v → ∀ (H1 : Heap) (locs1 : List Loc), va_P (dC, dI) cls_all (gW LM ad km T1) H1 → va_D A (gW LM ad km T1) → va_S A H0 H1 locs1 → W p l e R s m args below meth c H1 locs1 cells slots Q (F0 m (pc + 3) ls rest)) : W p l e R s m args below meth c H locs cells slots Q (F0 m pc ls (.int v :: .ref (ad 0) :: rest)) := gw_puti okM hx hb hT i_Model t_Model t_Model_ok n_Model hown hK hP hD hS 0 8 8 (Nat.le_of_ble_eq_true rfl) rfl rfl (Nat.le_of_ble_eq_true rfl) rfl rfl (hT _ fl_Model_13) (fun _ h9 => h9) rfl (ty := .int) (by decide +kernel) rfl rfl hdg kk
theorem rd_Model_349 (hx : p.tables.exec = Jvm.exec) (hb : c.code = cc) (hT : ∀ w ∈ lw_good, w.before args s = true) (hown : s.vm.findClass R_Model = some m.cls) (hK : va_K (dC, dI) cls_all (gT LM km) s) (hP : va_P (dC, dI) cls_all (gW LM ad km T) H) (hdg : decode cc pc = .ok (.getfield 349, 3)) (kk : W p l e R s m args below meth c H locs cells slots Q (F0 m (pc + 3) ls (.int (T.1 3 0) :: rest))) : W p l e R s m args below meth c H locs cells slots Q (F0 m pc ls (.ref (ad 0) :: rest)) := gw_get hx hb hT i_Model hown hK hP 0 3 3 (Nat.le_of_ble_eq_true rfl) rfl rfl (Nat.le_of_ble_eq_true rfl) rfl (gv_i rfl) (hT _ fl_Model_349) (fun _ h9 => h9) hdg kk
theorem rd_Model_352 (hx : p.tables.exec = Jvm.exec) (hb : c.code = cc) (hT : ∀ w ∈ lw_good, w.before args s = true) (hown : s.vm.findClass R_Model = some m.cls) (hK : va_K (dC, dI) cls_all (gT LM km) s) (hP : va_P (dC, dI) cls_all (gW LM ad km T) H) (hdg : decode cc pc = .ok (.getfield 352, 3)) (kk : W p l e R s m args below meth c H locs cells slots Q (F0 m (pc + 3) ls (.int (T.1 2 0) :: rest))) : W p l e R s m args below meth c H locs cells slots Q (F0 m pc ls (.ref (ad 0) :: rest)) := gw_get hx hb hT i_Model hown hK hP 0 2 2 (Nat.le_of_ble_eq_true rfl) rfl rfl (Nat.le_of_ble_eq_true rfl) rfl (gv_i rfl) (hT _ fl_Model_352) (fun _ h9 => h9) hdg kk
theorem rd_Model_369 (hx : p.tables.exec = Jvm.exec) (hb : c.code = cc) (hT : ∀ w ∈ lw_good, w.before args s = true) (hown : s.vm.findClass R_Model = some m.cls) (hK : va_K (dC, dI) cls_all (gT LM km) s) (hP : va_P (dC, dI) cls_all (gW LM ad km T) H) (hdg : decode cc pc = .ok (.getfield 369, 3)) (kk : W p l e R s m args below meth c H locs cells slots Q (F0 m (pc + 3) ls (.int (T.1 5 0) :: rest))) : W p l e R s m args below meth c H locs cells slots Q (F0 m pc ls (.ref (ad 0) :: rest)) := gw_get hx hb hT i_Model hown hK hP 0 5 5 (Nat.le_of_ble_eq_true rfl) rfl rfl (Nat.le_of_ble_eq_true rfl) rfl (gv_i rfl) (hT _ fl_Model_369) (fun _ h9 => h9) hdg kk
theorem rd_Model_365 (hx : p.tables.exec = Jvm.exec) (hb : c.code = cc) (hT : ∀ w ∈ lw_good, w.before args s = true) (hown : s.vm.findClass R_Model = some m.cls) (hK : va_K (dC, dI) cls_all (gT LM km) s) (hP : va_P (dC, dI) cls_all (gW LM ad km T) H) (hdg : decode cc pc = .ok (.getfield 365, 3)) (kk : W p l e R s m args below meth c H locs cells slots Q (F0 m (pc + 3) ls (.long (T.2 6 0) :: rest))) : W p l e R s m args below meth c H locs cells slots Q (F0 m pc ls (.ref (ad 0) :: rest)) := gw_get hx hb hT i_Model hown hK hP 0 6 6 (Nat.le_of_ble_eq_true rfl) rfl rfl (Nat.le_of_ble_eq_true rfl) rfl (gv_l rfl) (hT _ fl_Model_365) (fun _ h9 => h9) hdg kk
theorem rd_Model_111 (hx : p.tables.exec = Jvm.exec) (hb : c.code = cc) (hT : ∀ w ∈ lw_good, w.before args s = true) (hown : s.vm.findClass R_Model = some m.cls) (hK : va_K (dC, dI) cls_all (gT LM km) s) (hP : va_P (dC, dI) cls_all (gW LM ad km T) H) (hdg : decode cc pc = .ok (.getfield 111, 3)) (kk : W p l e R s m args below meth c H locs cells slots Q (F0 m (pc + 3) ls (.ref (ad 33) :: rest))) : W p l e R s m args below meth c H locs cells slots Q (F0 m pc ls (.ref (ad 0) :: rest)) := gw_get hx hb hT i_Model hown hK hP 0 46 46 (Nat.le_of_ble_eq_true rfl) rfl rfl (Nat.le_of_ble_eq_true rfl) rfl (gv_a rfl) (hT _ fl_Model_111) (fun _ h9 => h9) hdg kk
theorem rd_Model_409 (hx : p.tables.exec = Jvm.exec) (hb : c.code = cc) (hT : ∀ w ∈ lw_good, w.before args s = true) (hown : s.vm.findClass R_Model = some m.cls) (hK : va_K (dC, dI) cls_all (gT LM km) s) (hP : va_P (dC, dI) cls_all (gW LM ad km T) H) (hdg : decode cc pc = .ok (.getfield 409, 3)) (kk : W p l e R s m args below meth c H locs cells slots Q (F0 m (pc + 3) ls (.int (T.1 45 0) :: rest))) : W p l e R s m args below meth c H locs cells slots Q (F0 m pc ls (.ref (ad 0) :: rest)) := gw_get hx hb hT i_Model hown hK hP 0 45 45 (Nat.le_of_ble_eq_true rfl) rfl rfl (Nat.le_of_ble_eq_true rfl) rfl (gv_i rfl) (hT _ fl_Model_409) (fun _ h9 => h9) hdg kk
theorem laM_32 (hx : p.tables.exec = Jvm.exec) (hb : c.code = cc) (hK : va_K (dC, dI) cls_all (gT LM km) s) (hP : va_P (dC, dI) cls_all (gW LM ad km T) H) {x : Int32} (hin : inb x 4000) (hdg : decode cc pc = .ok (.laload, 1)) (kk : W p l e R s m args below meth c H locs cells slots Q (F0 m (pc + 1) ls (.long (T.2 46 x.toNatClampNeg) :: rest))) : W p l e R s m args below meth c H locs cells slots Q (F0 m pc ls (.int x :: .ref (ad 33) :: rest)) := gw_lald hx hb hK hP 32 46 4000 33 (Nat.le_of_ble_eq_true rfl) rfl rfl rfl rfl rfl hin hdg kk
theorem saM_32 (hx : p.tables.exec = Jvm.exec) (hb : c.code = cc) (hK : va_K (dC, dI) cls_all (gT LM km) s) (hP : va_P (dC, dI) cls_all (gW LM ad km T) H) (hD : va_D A (gW LM ad km T)) (hS : va_S A H0 H locs) {x : Int32} {v : Int64} (hin : inb x 4000) (hdg : decode cc pc = .ok (.lastore, 1)) (kk : ∀ (T1 : gSt), T1 = sJ T 46 x.toNatClampNeg v → ∀ (H1 : Heap) (locs1 : List Loc), va_P (dC, dI) cls_all (gW LM ad km T1) H1 → va_D A (gW LM ad km T1) → va_S A H0 H1 locs1 → W p l e R s m args below meth c H1 locs1 cells slots Q (F0 m (pc + 1) ls rest)) : W p l e R s m args below meth c H locs cells slots Q (F0 m pc ls (.long v :: .int x :: .ref (ad 33) :: rest)) := gw_last okM hx hb hK hP hD hS 32 46 4000 33 (Nat.le_of_ble_eq_true rfl) rfl rfl rfl rfl rfl hin hdg kk
theorem rd_Model_114 (hx : p.tables.exec = Jvm.exec) (hb : c.code = cc) (hT : ∀ w ∈ lw_good, w.before args s = true) (hown : s.vm.findClass R_Model = some m.cls) (hK : va_K (dC, dI) cls_all (gT LM km) s) (hP : va_P (dC, dI) cls_all (gW LM ad km T) H) (hdg : decode cc pc = .ok (.getfield 114, 3)) (kk : W p l e R s m args below meth c H locs cells slots Q (F0 m (pc + 3) ls (.ref (ad 34) :: rest))) : W p l e R s m args below meth c H locs cells slots Q (F0 m pc ls (.ref (ad 0) :: rest)) := gw_get hx hb hT i_Model hown hK hP 0 47 47 (Nat.le_of_ble_eq_true rfl) rfl rfl (Nat.le_of_ble_eq_true rfl) rfl (gv_a rfl) (hT _ fl_Model_114) (fun _ h9 => h9) hdg kk
theorem laM_33 (hx : p.tables.exec = Jvm.exec) (hb : c.code = cc) (hK : va_K (dC, dI) cls_all (gT LM km) s) (hP : va_P (dC, dI) cls_all (gW LM ad km T) H) {x : Int32} (hin : inb x 4000) (hdg : decode cc pc = .ok (.iaload, 1)) (kk : W p l e R s m args below meth c H locs cells slots Q (F0 m (pc + 1) ls (.int (T.1 47 x.toNatClampNeg) :: rest))) : W p l e R s m args below meth c H locs cells slots Q (F0 m pc ls (.int x :: .ref (ad 34) :: rest)) := gw_iald hx hb hK hP 33 47 4000 34 (Nat.le_of_ble_eq_true rfl) rfl rfl rfl rfl rfl hin hdg kk
theorem saM_33 (hx : p.tables.exec = Jvm.exec) (hb : c.code = cc) (hK : va_K (dC, dI) cls_all (gT LM km) s) (hP : va_P (dC, dI) cls_all (gW LM ad km T) H) (hD : va_D A (gW LM ad km T)) (hS : va_S A H0 H locs) {x : Int32} {v : Int32} (hin : inb x 4000) (hdg : decode cc pc = .ok (.iastore, 1)) (kk : ∀ (T1 : gSt), T1 = sI T 47 x.toNatClampNeg v → ∀ (H1 : Heap) (locs1 : List Loc), va_P (dC, dI) cls_all (gW LM ad km T1) H1 → va_D A (gW LM ad km T1) → va_S A H0 H1 locs1 → W p l e R s m args below meth c H1 locs1 cells slots Q (F0 m (pc + 1) ls rest)) : W p l e R s m args below meth c H locs cells slots Q (F0 m pc ls (.int v :: .int x :: .ref (ad 34) :: rest)) := gw_iast okM hx hb hK hP hD hS 33 47 4000 34 (Nat.le_of_ble_eq_true rfl) rfl rfl rfl rfl rfl hin hdg kk
theorem wr_Model_409 (hx : p.tables.exec = Jvm.exec) (hb : c.code = cc) (hT : ∀ w ∈ lw_good, w.before args s = true) (hown : s.vm.findClass R_Model = some m.cls) (hK : va_K (dC, dI) cls_all (gT LM km) s) (hP : va_P (dC, dI) cls_all (gW LM ad km T) H) (hD : va_D A (gW LM ad km T)) (hS : va_S A H0 H locs) {v : Int32} (hdg : decode cc pc = .ok (.putfield 409, 3)) (kk : ∀ (T1 : gSt), T1 = sI T 45 0 v → ∀ (H1 : Heap) (locs1 : List Loc), va_P (dC, dI) cls_all (gW LM ad km T1) H1 → va_D A (gW LM ad km T1) → va_S A H0 H1 locs1 → W p l e R s m args below meth c H1 locs1 cells slots Q (F0 m (pc + 3) ls rest)) : W p l e R s m args below meth c H locs cells slots Q (F0 m pc ls (.int v :: .ref (ad 0) :: rest)) := gw_puti okM hx hb hT i_Model t_Model t_Model_ok n_Model hown hK hP hD hS 0 45 45 (Nat.le_of_ble_eq_true rfl) rfl rfl (Nat.le_of_ble_eq_true rfl) rfl rfl (hT _ fl_Model_409) (fun _ h9 => h9) rfl (ty := .int) (by decide +kernel) rfl rfl hdg kk
theorem wr_Model_342 (hx : p.tables.exec = Jvm.exec) (hb : c.code = cc) (hT : ∀ w ∈ lw_good, w.before args s = true) (hown : s.vm.findClass R_Model = some m.cls) (hK : va_K (dC, dI) cls_all (gT LM km) s) (hP : va_P (dC, dI) cls_all (gW LM ad km T) H) (hD : va_D A (gW LM ad km T)) (hS : va_S A H0 H locs) {v : Int32} (hdg : decode cc pc = .ok (.putfield 342, 3)) (kk : ∀ (T1 : gSt), T1 = sI T 4 0 v → ∀ (H1 : Heap) (locs1 : List Loc), va_P (dC, dI) cls_all (gW LM ad km T1) H1 → va_D A (gW LM ad km T1) → va_S A H0 H1 locs1 → W p l e R s m args below meth c H1 locs1 cells slots Q (F0 m (pc + 3) ls rest)) : W p l e R s m args below meth c H locs cells slots Q (F0 m pc ls (.int v :: .ref (ad 0) :: rest)) := gw_puti okM hx hb hT i_Model t_Model t_Model_ok n_Model hown hK hP hD hS 0 4 4 (Nat.le_of_ble_eq_true rfl) rfl rfl (Nat.le_of_ble_eq_true rfl) rfl rfl (hT _ fl_Model_342) (fun _ h9 => h9) rfl (ty := .int) (by decide +kernel) rfl rfl hdg kk
theorem wr_Model_412 (hx : p.tables.exec = Jvm.exec) (hb : c.code = cc) (hT : ∀ w ∈ lw_good, w.before args s = true) (hown : s.vm.findClass R_Model = some m.cls) (hK : va_K (dC, dI) cls_all (gT LM km) s) (hP : va_P (dC, dI) cls_all (gW LM ad km T) H) (hD : va_D A (gW LM ad km T)) (hS : va_S A H0 H locs) {v : Int32} (hdg : decode cc pc = .ok (.putfield 412, 3)) (kk : ∀ (T1 : gSt), T1 = sI T 11 0 v → ∀ (H1 : Heap) (locs1 : List Loc), va_P (dC, dI) cls_all (gW LM ad km T1) H1 → va_D A (gW LM ad km T1) → va_S A H0 H1 locs1 → W p l e R s m args below meth c H1 locs1 cells slots Q (F0 m (pc + 3) ls rest)) : W p l e R s m args below meth c H locs cells slots Q (F0 m pc ls (.int v :: .ref (ad 0) :: rest)) := gw_puti okM hx hb hT i_Model t_Model t_Model_ok n_Model hown hK hP hD hS 0 11 11 (Nat.le_of_ble_eq_true rfl) rfl rfl (Nat.le_of_ble_eq_true rfl) rfl rfl (hT _ fl_Model_412) (fun _ h9 => h9) rfl (ty := .int) (by decide +kernel) rfl rfl hdg kk
theorem wr_Model_415 (hx : p.tables.exec = Jvm.exec) (hb : c.code = cc) (hT : ∀ w ∈ lw_good, w.before args s = true) (hown : s.vm.findClass R_Model = some m.cls) (hK : va_K (dC, dI) cls_all (gT LM km) s) (hP : va_P (dC, dI) cls_all (gW LM ad km T) H) (hD : va_D A (gW LM ad km T)) (hS : va_S A H0 H locs) {v : Int32} (hdg : decode cc pc = .ok (.putfield 415, 3)) (kk : ∀ (T1 : gSt), T1 = sI T 20 0 v → ∀ (H1 : Heap) (locs1 : List Loc), va_P (dC, dI) cls_all (gW LM ad km T1) H1 → va_D A (gW LM ad km T1) → va_S A H0 H1 locs1 → W p l e R s m args below meth c H1 locs1 cells slots Q (F0 m (pc + 3) ls rest)) : W p l e R s m args below meth c H locs cells slots Q (F0 m pc ls (.int v :: .ref (ad 0) :: rest)) := gw_puti okM hx hb hT i_Model t_Model t_Model_ok n_Model hown hK hP hD hS 0 20 20 (Nat.le_of_ble_eq_true rfl) rfl rfl (Nat.le_of_ble_eq_true rfl) rfl rfl (hT _ fl_Model_415) (fun _ h9 => h9) rfl (ty := .int) (by decide +kernel) rfl rfl hdg kk
theorem wr_Model_418 (hx : p.tables.exec = Jvm.exec) (hb : c.code = cc) (hT : ∀ w ∈ lw_good, w.before args s = true) (hown : s.vm.findClass R_Model = some m.cls) (hK : va_K (dC, dI) cls_all (gT LM km) s) (hP : va_P (dC, dI) cls_all (gW LM ad km T) H) (hD : va_D A (gW LM ad km T)) (hS : va_S A H0 H locs) {v : Int32} (hdg : decode cc pc = .ok (.putfield 418, 3)) (kk : ∀ (T1 : gSt), T1 = sI T 37 0 v → ∀ (H1 : Heap) (locs1 : List Loc), va_P (dC, dI) cls_all (gW LM ad km T1) H1 → va_D A (gW LM ad km T1) → va_S A H0 H1 locs1 → W p l e R s m args below meth c H1 locs1 cells slots Q (F0 m (pc + 3) ls rest)) : W p l e R s m args below meth c H locs cells slots Q (F0 m pc ls (.int v :: .ref (ad 0) :: rest)) := gw_puti okM hx hb hT i_Model t_Model t_Model_ok n_Model hown hK hP hD hS 0 37 37 (Nat.le_of_ble_eq_true rfl) rfl rfl (Nat.le_of_ble_eq_true rfl) rfl rfl (hT _ fl_Model_418) (fun _ h9 => h9) rfl (ty := .int) (by decide +kernel) rfl rfl hdg kk
theorem wr_Model_421 (hx : p.tables.exec = Jvm.exec) (hb : c.code = cc) (hT : ∀ w ∈ lw_good, w.before args s = true) (hown : s.vm.findClass R_Model = some m.cls) (hK : va_K (dC, dI) cls_all (gT LM km) s) (hP : va_P (dC, dI) cls_all (gW LM ad km T) H) (hD : va_D A (gW LM ad km T)) (hS : va_S A H0 H locs) {v : Int32} (hdg : decode cc pc = .ok (.putfield 421, 3)) (kk : ∀ (T1 : gSt), T1 = sI T 49 0 v → ∀ (H1 : Heap) (locs1 : List Loc), va_P (dC, dI) cls_all (gW LM ad km T1) H1 → va_D A (gW LM ad km T1) → va_S A H0 H1 locs1 → W p l e R s m args below meth c H1 locs1 cells slots Q (F0 m (pc + 3) ls rest)) : W p l e R s m args below meth c H locs cells slots Q (F0 m pc ls (.int v :: .ref (ad 0) :: rest)) := gw_puti okM hx hb hT i_Model t_Model t_Model_ok n_Model hown hK hP hD hS 0 49 49 (Nat.le_of_ble_eq_true rfl) rfl rfl (Nat.le_of_ble_eq_true rfl) rfl rfl (hT _ fl_Model_421) (fun _ h9 => h9) rfl (ty := .int) (by decide +kernel) rfl rfl hdg kk
theorem rd_Model_412 (hx : p.tables.exec = Jvm.exec) (hb : c.code = cc) (hT : ∀ w ∈ lw_good, w.before args s = true) (hown : s.vm.findClass R_Model = some m.cls) (hK : va_K (dC, dI) cls_all (gT LM km) s) (hP : va_P (dC, dI) cls_all (gW LM ad km T) H) (hdg : decode cc pc = .ok (.getfield 412, 3)) (kk : W p l e R s m args below meth c H locs cells slots Q (F0 m (pc + 3) ls (.int (T.1 11 0) :: rest))) : W p l e R s m args below meth c H locs cells slots Q (F0 m pc ls (.ref (ad 0) :: rest)) := gw_get hx hb hT i_Model hown hK hP 0 11 11 (Nat.le_of_ble_eq_true rfl) rfl rfl (Nat.le_of_ble_eq_true rfl) rfl (gv_i rfl) (hT _ fl_Model_412) (fun _ h9 => h9) hdg kk
theorem wr_Model_433 (hx : p.tables.exec = Jvm.exec) (hb : c.code = cc) (hT : ∀ w ∈ lw_good, w.before args s = true) (hown : s.vm.findClass R_Model = some m.cls) (hK : va_K (dC, dI) cls_all (gT LM km) s) (hP : va_P (dC, dI) cls_all (gW LM ad km T) H) (hD : va_D A (gW LM ad km T)) (hS : va_S A H0 H locs) {v : Int32} (hdg : decode cc pc = .ok (.putfield 433, 3)) (kk : ∀ (T1 : gSt), T1 = sI T 64 0 v → ∀ (H1 : Heap) (locs1 : List Loc), va_P (dC, dI) cls_all (gW LM ad km T1) H1 → va_D A (gW LM ad km T1) → va_S A H0 H1 locs1 → W p l e R s m args below meth c H1 locs1 cells slots Q (F0 m (pc + 3) ls rest)) : W p l e R s m args below meth c H locs cells slots Q (F0 m pc ls (.int v :: .ref (ad 0) :: rest)) := gw_puti okM hx hb hT i_Model t_Model t_Model_ok n_Model hown hK hP hD hS 0 64 64 (Nat.le_of_ble_eq_true rfl) rfl rfl (Nat.le_of_ble_eq_true rfl) rfl rfl (hT _ fl_Model_433) (fun _ h9 => h9) rfl (ty := .int) (by decide +kernel) rfl rfl hdg kk
theorem rd_Model_17 (hx : p.tables.exec = Jvm.exec) (hb : c.code = cc) (hT : ∀ w ∈ lw_good, w.before args s = true) (hown : s.vm.findClass R_Model = some m.cls) (hK : va_K (dC, dI) cls_all (gT LM km) s) (hP : va_P (dC, dI) cls_all (gW LM ad km T) H) (hdg : decode cc pc = .ok (.getfield 17, 3)) (kk : W p l e R s m args below meth c H locs cells slots Q (F0 m (pc + 3) ls (.ref (ad 2) :: rest))) : W p l e R s m args below meth c H locs cells slots Q (F0 m pc ls (.ref (ad 0) :: rest)) := gw_get hx hb hT i_Model hown hK hP 0 12 12 (Nat.le_of_ble_eq_true rfl) rfl rfl (Nat.le_of_ble_eq_true rfl) rfl (gv_a rfl) (hT _ fl_Model_17) (fun _ h9 => h9) hdg kk
theorem rd_Model_433 (hx : p.tables.exec = Jvm.exec) (hb : c.code = cc) (hT : ∀ w ∈ lw_good, w.before args s = true) (hown : s.vm.findClass R_Model = some m.cls) (hK : va_K (dC, dI) cls_all (gT LM km) s) (hP : va_P (dC, dI) cls_all (gW LM ad km T) H) (hdg : decode cc pc = .ok (.getfield 433, 3)) (kk : W p l e R s m args below meth c H locs cells slots Q (F0 m (pc + 3) ls (.int (T.1 64 0) :: rest))) : W p l e R s m args below meth c H locs cells slots Q (F0 m pc ls (.ref (ad 0) :: rest)) := gw_get hx hb hT i_Model hown hK hP 0 64 64 (Nat.le_of_ble_eq_true rfl) rfl rfl (Nat.le_of_ble_eq_true rfl) rfl (gv_i rfl) (hT _ fl_Model_433) (fun _ h9 => h9) hdg kk
theorem laM_1 (hx : p.tables.exec = Jvm.exec) (hb : c.code = cc) (hK : va_K (dC, dI) cls_all (gT LM km) s) (hP : va_P (dC, dI) cls_all (gW LM ad km T) H) {x : Int32} (hin : inb x 24) (hdg : decode cc pc = .ok (.iaload, 1)) (kk : W p l e R s m args below meth c H locs cells slots Q (F0 m (pc + 1) ls (.int (T.1 12 x.toNatClampNeg) :: rest))) : W p l e R s m args below meth c H locs cells slots Q (F0 m pc ls (.int x :: .ref (ad 2) :: rest)) := gw_iald hx hb hK hP 1 12 24 2 (Nat.le_of_ble_eq_true rfl) rfl rfl rfl rfl rfl hin hdg kk
theorem saM_1 (hx : p.tables.exec = Jvm.exec) (hb : c.code = cc) (hK : va_K (dC, dI) cls_all (gT LM km) s) (hP : va_P (dC, dI) cls_all (gW LM ad km T) H) (hD : va_D A (gW LM ad km T)) (hS : va_S A H0 H locs) {x : Int32} {v : Int32} (hin : inb x 24) (hdg : decode cc pc = .ok (.iastore, 1)) (kk : ∀ (T1 : gSt), T1 = sI T 12 x.toNatClampNeg v → ∀ (H1 : Heap) (locs1 : List Loc), va_P (dC, dI) cls_all (gW LM ad km T1) H1 → va_D A (gW LM ad km T1) → va_S A H0 H1 locs1 → W p l e R s m args below meth c H1 locs1 cells slots Q (F0 m (pc + 1) ls rest)) : W p l e R s m args below meth c H locs cells slots Q (F0 m pc ls (.int v :: .int x :: .ref (ad 2) :: rest)) := gw_iast okM hx hb hK hP hD hS 1 12 24 2 (Nat.le_of_ble_eq_true rfl) rfl rfl rfl rfl rfl hin hdg kk
theorem rd_Model_24 (hx : p.tables.exec = Jvm.exec) (hb : c.code = cc) (hT : ∀ w ∈ lw_good, w.before args s = true) (hown : s.vm.findClass R_Model = some m.cls) (hK : va_K (dC, dI) cls_all (gT LM km) s) (hP : va_P (dC, dI) cls_all (gW LM ad km T) H) (hdg : decode cc pc = .ok (.getfield 24, 3)) (kk : W p l e R s m args below meth c H locs cells slots Q (F0 m (pc + 3) ls (.ref (ad 4) :: rest))) : W p l e R s m args below meth c H locs cells slots Q (F0 m pc ls (.ref (ad 0) :: rest)) := gw_get hx hb hT i_Model hown hK hP 0 14 14 (Nat.le_of_ble_eq_true rfl) rfl rfl (Nat.le_of_ble_eq_true rfl) rfl (gv_a rfl) (hT _ fl_Model_24) (fun _ h9 => h9) hdg kk
theorem laM_3 (hx : p.tables.exec = Jvm.exec) (hb : c.code = cc) (hK : va_K (dC, dI) cls_all (gT LM km) s) (hP : va_P (dC, dI) cls_all (gW LM ad km T) H) {x : Int32} (hin : inb x 24) (hdg : decode cc pc = .ok (.iaload, 1)) (kk : W p l e R s m args below meth c H locs cells slots Q (F0 m (pc + 1) ls (.int (T.1 14 x.toNatClampNeg) :: rest))) : W p l e R s m args below meth c H locs cells slots Q (F0 m pc ls (.int x :: .ref (ad 4) :: rest)) := gw_iald hx hb hK hP 3 14 24 4 (Nat.le_of_ble_eq_true rfl) rfl rfl rfl rfl rfl hin hdg kk
theorem saM_3 (hx : p.tables.exec = Jvm.exec) (hb : c.code = cc) (hK : va_K (dC, dI) cls_all (gT LM km) s) (hP : va_P (dC, dI) cls_all (gW LM ad km T) H) (hD : va_D A (gW LM ad km T)) (hS : va_S A H0 H locs) {x : Int32} {v : Int32} (hin : inb x 24) (hdg : decode cc pc = .ok (.iastore, 1)) (kk : ∀ (T1 : gSt), T1 = sI T 14 x.toNatClampNeg v → ∀ (H1 : Heap) (locs1 : List Loc), va_P (dC, dI) cls_all (gW LM ad km T1) H1 → va_D A (gW LM ad km T1) → va_S A H0 H1 locs1 → W p l e R s m args below meth c H1 locs1 cells slots Q (F0 m (pc + 1) ls rest)) : W p l e R s m args below meth c H locs cells slots Q (F0 m pc ls (.int v :: .int x :: .ref (ad 4) :: rest)) := gw_iast okM hx hb hK hP hD hS 3 14 24 4 (Nat.le_of_ble_eq_true rfl) rfl rfl rfl rfl rfl hin hdg kk
theorem rd_Model_20 (hx : p.tables.exec = Jvm.exec) (hb : c.code = cc) (hT : ∀ w ∈ lw_good, w.before args s = true) (hown : s.vm.findClass R_Model = some m.cls) (hK : va_K (dC, dI) cls_all (gT LM km) s) (hP : va_P (dC, dI) cls_all (gW LM ad km T) H) (hdg : decode cc pc = .ok (.getfield 20, 3)) (kk : W p l e R s m args below meth c H locs cells slots Q (F0 m (pc + 3) ls (.ref (ad 3) :: rest))) : W p l e R s m args below meth c H locs cells slots Q (F0 m pc ls (.ref (ad 0) :: rest)) := gw_get hx hb hT i_Model hown hK hP 0 13 13 (Nat.le_of_ble_eq_true rfl) rfl rfl (Nat.le_of_ble_eq_true rfl) rfl (gv_a rfl) (hT _ fl_Model_20) (fun _ h9 => h9) hdg kk
theorem laM_2 (hx : p.tables.exec = Jvm.exec) (hb : c.code = cc) (hK : va_K (dC, dI) cls_all (gT LM km) s) (hP : va_P (dC, dI) cls_all (gW LM ad km T) H) {x : Int32} (hin : inb x 24) (hdg : decode cc pc = .ok (.laload, 1)) (kk : W p l e R s m args below meth c H locs cells slots Q (F0 m (pc + 1) ls (.long (T.2 13 x.toNatClampNeg) :: rest))) : W p l e R s m args below meth c H locs cells slots Q (F0 m pc ls (.int x :: .ref (ad 3) :: rest)) := gw_lald hx hb hK hP 2 13 24 3 (Nat.le_of_ble_eq_true rfl) rfl rfl rfl rfl rfl hin hdg kk
theorem saM_2 (hx : p.tables.exec = Jvm.exec) (hb : c.code = cc) (hK : va_K (dC, dI) cls_all (gT LM km) s) (hP : va_P (dC, dI) cls_all (gW LM ad km T) H) (hD : va_D A (gW LM ad km T)) (hS : va_S A H0 H locs) {x : Int32} {v : Int64} (hin : inb x 24) (hdg : decode cc pc = .ok (.lastore, 1)) (kk : ∀ (T1 : gSt), T1 = sJ T 13 x.toNatClampNeg v → ∀ (H1 : Heap) (locs1 : List Loc), va_P (dC, dI) cls_all (gW LM ad km T1) H1 → va_D A (gW LM ad km T1) → va_S A H0 H1 locs1 → W p l e R s m args below meth c H1 locs1 cells slots Q (F0 m (pc + 1) ls rest)) : W p l e R s m args below meth c H locs cells slots Q (F0 m pc ls (.long v :: .int x :: .ref (ad 3) :: rest)) := gw_last okM hx hb hK hP hD hS 2 13 24 3 (Nat.le_of_ble_eq_true rfl) rfl rfl rfl rfl rfl hin hdg kk
theorem rd_Model_27 (hx : p.tables.exec = Jvm.exec) (hb : c.code = cc) (hT : ∀ w ∈ lw_good, w.before args s = true) (hown : s.vm.findClass R_Model = some m.cls) (hK : va_K (dC, dI) cls_all (gT LM km) s) (hP : va_P (dC, dI) cls_all (gW LM ad km T) H) (hdg : decode cc pc = .ok (.getfield 27, 3)) (kk : W p l e R s m args below meth c H locs cells slots Q (F0 m (pc + 3) ls (.ref (ad 5) :: rest))) : W p l e R s m args below meth c H locs cells slots Q (F0 m pc ls (.ref (ad 0) :: rest)) := gw_get hx hb hT i_Model hown hK hP 0 15 15 (Nat.le_of_ble_eq_true rfl) rfl rfl (Nat.le_of_ble_eq_true rfl) rfl (gv_a rfl) (hT _ fl_Model_27) (fun _ h9 => h9) hdg kk
theorem laM_4 (hx : p.tables.exec = Jvm.exec) (hb : c.code = cc) (hK : va_K (dC, dI) cls_all (gT LM km) s) (hP : va_P (dC, dI) cls_all (gW LM ad km T) H) {x : Int32} (hin : inb x 24) (hdg : decode cc pc = .ok (.iaload, 1)) (kk : W p l e R s m args below meth c H locs cells slots Q (F0 m (pc + 1) ls (.int (T.1 15 x.toNatClampNeg) :: rest))) : W p l e R s m args below meth c H locs cells slots Q (F0 m pc ls (.int x :: .ref (ad 5) :: rest)) := gw_iald hx hb hK hP 4 15 24 5 (Nat.le_of_ble_eq_true rfl) rfl rfl rfl rfl rfl hin hdg kk
theorem saM_4 (hx : p.tables.exec = Jvm.exec) (hb : c.code = cc) (hK : va_K (dC, dI) cls_all (gT LM km) s) (hP : va_P (dC, dI) cls_all (gW LM ad km T) H) (hD : va_D A (gW LM ad km T)) (hS : va_S A H0 H locs) {x : Int32} {v : Int32} (hin : inb x 24) (hdg : decode cc pc = .ok (.iastore, 1)) (kk : ∀ (T1 : gSt), T1 = sI T 15 x.toNatClampNeg v → ∀ (H1 : Heap) (locs1 : List Loc), va_P (dC, dI) cls_all (gW LM ad km T1) H1 → va_D A (gW LM ad km T1) → va_S A H0 H1 locs1 → W p l e R s m args below meth c H1 locs1 cells slots Q (F0 m (pc + 1) ls rest)) : W p l e R s m args below meth c H locs cells slots Q (F0 m pc ls (.int v :: .int x :: .ref (ad 5) :: rest)) := gw_iast okM hx hb hK hP hD hS 4 15 24 5 (Nat.le_of_ble_eq_true rfl) rfl rfl rfl rfl rfl hin hdg kk
theorem rd_Model_30 (hx : p.tables.exec = Jvm.exec) (hb : c.code = cc) (hT : ∀ w ∈ lw_good, w.before args s = true) (hown : s.vm.findClass R_Model = some m.cls) (hK : va_K (dC, dI) cls_all (gT LM km) s) (hP : va_P (dC, dI) cls_all (gW LM ad km T) H) (hdg : decode cc pc = .ok (.getfield 30, 3)) (kk : W p l e R s m args below meth c H locs cells slots Q (F0 m (pc + 3) ls (.ref (ad 6) :: rest))) : W p l e R s m args below meth c H locs cells slots Q (F0 m pc ls (.ref (ad 0) :: rest)) := gw_get hx hb hT i_Model hown hK hP 0 16 16 (Nat.le_of_ble_eq_true rfl) rfl rfl (Nat.le_of_ble_eq_true rfl) rfl (gv_a rfl) (hT _ fl_Model_30) (fun _ h9 => h9) hdg kk
theorem laM_5 (hx : p.tables.exec = Jvm.exec) (hb : c.code = cc) (hK : va_K (dC, dI) cls_all (gT LM km) s) (hP : va_P (dC, dI) cls_all (gW LM ad km T) H) {x : Int32} (hin : inb x 72) (hdg : decode cc pc = .ok (.laload, 1)) (kk : W p l e R s m args below meth c H locs cells slots Q (F0 m (pc + 1) ls (.long (T.2 16 x.toNatClampNeg) :: rest))) : W p l e R s m args below meth c H locs cells slots Q (F0 m pc ls (.int x :: .ref (ad 6) :: rest)) := gw_lald hx hb hK hP 5 16 72 6 (Nat.le_of_ble_eq_true rfl) rfl rfl rfl rfl rfl hin hdg kk
theorem saM_5 (hx : p.tables.exec = Jvm.exec) (hb : c.code = cc) (hK : va_K (dC, dI) cls_all (gT LM km) s) (hP : va_P (dC, dI) cls_all (gW LM ad km T) H) (hD : va_D A (gW LM ad km T)) (hS : va_S A H0 H locs) {x : Int32} {v : Int64} (hin : inb x 72) (hdg : decode cc pc = .ok (.lastore, 1)) (kk : ∀ (T1 : gSt), T1 = sJ T 16 x.toNatClampNeg v → ∀ (H1 : Heap) (locs1 : List Loc), va_P (dC, dI) cls_all (gW LM ad km T1) H1 → va_D A (gW LM ad km T1) → va_S A H0 H1 locs1 → W p l e R s m args below meth c H1 locs1 cells slots Q (F0 m (pc + 1) ls rest)) : W p l e R s m args below meth c H locs cells slots Q (F0 m pc ls (.long v :: .int x :: .ref (ad 6) :: rest)) := gw_last okM hx hb hK hP hD hS 5 16 72 6 (Nat.le_of_ble_eq_true rfl) rfl rfl rfl rfl rfl hin hdg kk
theorem rd_Model_33 (hx : p.tables.exec = Jvm.exec) (hb : c.code = cc) (hT : ∀ w ∈ lw_good, w.before args s = true) (hown : s.vm.findClass R_Model = some m.cls) (hK : va_K (dC, dI) cls_all (gT LM km) s) (hP : va_P (dC, dI) cls_all (gW LM ad km T) H) (hdg : decode cc pc = .ok (.getfield 33, 3)) (kk : W p l e R s m args below meth c H locs cells slots Q (F0 m (pc + 3) ls (.ref (ad 7) :: rest))) : W p l e R s m args below meth c H locs cells slots Q (F0 m pc ls (.ref (ad 0) :: rest)) := gw_get hx hb hT i_Model hown hK hP 0 17 17 (Nat.le_of_ble_eq_true rfl) rfl rfl (Nat.le_of_ble_eq_true rfl) rfl (gv_a rfl) (hT _ fl_Model_33) (fun _ h9 => h9) hdg kk
theorem laM_6 (hx : p.tables.exec = Jvm.exec) (hb : c.code = cc) (hK : va_K (dC, dI) cls_all (gT LM km) s) (hP : va_P (dC, dI) cls_all (gW LM ad km T) H) {x : Int32} (hin : inb x 72) (hdg : decode cc pc = .ok (.iaload, 1)) (kk : W p l e R s m args below meth c H locs cells slots Q (F0 m (pc + 1) ls (.int (T.1 17 x.toNatClampNeg) :: rest))) : W p l e R s m args below meth c H locs cells slots Q (F0 m pc ls (.int x :: .ref (ad 7) :: rest)) := gw_iald hx hb hK hP 6 17 72 7 (Nat.le_of_ble_eq_true rfl) rfl rfl rfl rfl rfl hin hdg kk
theorem saM_6 (hx : p.tables.exec = Jvm.exec) (hb : c.code = cc) (hK : va_K (dC, dI) cls_all (gT LM km) s) (hP : va_P (dC, dI) cls_all (gW LM ad km T) H) (hD : va_D A (gW LM ad km T)) (hS : va_S A H0 H locs) {x : Int32} {v : Int32} (hin : inb x 72) (hdg : decode cc pc = .ok (.iastore, 1)) (kk : ∀ (T1 : gSt), T1 = sI T 17 x.toNatClampNeg v → ∀ (H1 : Heap) (locs1 : List Loc), va_P (dC, dI) cls_all (gW LM ad km T1) H1 → va_D A (gW LM ad km T1) → va_S A H0 H1 locs1 → W p l e R s m args below meth c H1 locs1 cells slots Q (F0 m (pc + 1) ls rest)) : W p l e R s m args below meth c H locs cells slots Q (F0 m pc ls (.int v :: .int x :: .ref (ad 7) :: rest)) := gw_iast okM hx hb hK hP hD hS 6 17 72 7 (Nat.le_of_ble_eq_true rfl) rfl rfl rfl rfl rfl hin hdg kk
theorem rd_Model_36 (hx : p.tables.exec = Jvm.exec) (hb : c.code = cc) (hT : ∀ w ∈ lw_good, w.before args s = true) (hown : s.vm.findClass R_Model = some m.cls) (hK : va_K (dC, dI) cls_all (gT LM km) s) (hP : va_P (dC, dI) cls_all (gW LM ad km T) H) (hdg : decode cc pc = .ok (.getfield 36, 3)) (kk : W p l e R s m args below meth c H locs cells slots Q (F0 m (pc + 3) ls (.ref (ad 8) :: rest))) : W p l e R s m args below meth c H locs cells slots Q (F0 m pc ls (.ref (ad 0) :: rest)) := gw_get hx hb hT i_Model hown hK hP 0 18 18 (Nat.le_of_ble_eq_true rfl) rfl rfl (Nat.le_of_ble_eq_true rfl) rfl (gv_a rfl) (hT _ fl_Model_36) (fun _ h9 => h9) hdg kk
theorem rd_Model_415 (hx : p.tables.exec = Jvm.exec) (hb : c.code = cc) (hT : ∀ w ∈ lw_good, w.before args s = true) (hown : s.vm.findClass R_Model = some m.cls) (hK : va_K (dC, dI) cls_all (gT LM km) s) (hP : va_P (dC, dI) cls_all (gW LM ad km T) H) (hdg : decode cc pc = .ok (.getfield 415, 3)) (kk : W p l e R s m args below meth c H locs cells slots Q (F0 m (pc + 3) ls (.int (T.1 20 0) :: rest))) : W p l e R s m args below meth c H locs cells slots Q (F0 m pc ls (.ref (ad 0) :: rest)) := gw_get hx hb hT i_Model hown hK hP 0 20 20 (Nat.le_of_ble_eq_true rfl) rfl rfl (Nat.le_of_ble_eq_true rfl) rfl (gv_i rfl) (hT _ fl_Model_415) (fun _ h9 => h9) hdg kk
theorem laM_7 (hx : p.tables.exec = Jvm.exec) (hb : c.code = cc) (hK : va_K (dC, dI) cls_all (gT LM km) s) (hP : va_P (dC, dI) cls_all (gW LM ad km T) H) {x : Int32} (hin : inb x 24) (hdg : decode cc pc = .ok (.iaload, 1)) (kk : W p l e R s m args below meth c H locs cells slots Q (F0 m (pc + 1) ls (.int (T.1 18 x.toNatClampNeg) :: rest))) : W p l e R s m args below meth c H locs cells slots Q (F0 m pc ls (.int x :: .ref (ad 8) :: rest)) := gw_iald hx hb hK hP 7 18 24 8 (Nat.le_of_ble_eq_true rfl) rfl rfl rfl rfl rfl hin hdg kk
theorem saM_7 (hx : p.tables.exec = Jvm.exec) (hb : c.code = cc) (hK : va_K (dC, dI) cls_all (gT LM km) s) (hP : va_P (dC, dI) cls_all (gW LM ad km T) H) (hD : va_D A (gW LM ad km T)) (hS : va_S A H0 H locs) {x : Int32} {v : Int32} (hin : inb x 24) (hdg : decode cc pc = .ok (.iastore, 1)) (kk : ∀ (T1 : gSt), T1 = sI T 18 x.toNatClampNeg v → ∀ (H1 : Heap) (locs1 : List Loc), va_P (dC, dI) cls_all (gW LM ad km T1) H1 → va_D A (gW LM ad km T1) → va_S A H0 H1 locs1 → W p l e R s m args below meth c H1 locs1 cells slots Q (F0 m (pc + 1) ls rest)) : W p l e R s m args below meth c H locs cells slots Q (F0 m pc ls (.int v :: .int x :: .ref (ad 8) :: rest)) := gw_iast okM hx hb hK hP hD hS 7 18 24 8 (Nat.le_of_ble_eq_true rfl) rfl rfl rfl rfl rfl hin hdg kk
theorem rd_Model_39 (hx : p.tables.exec = Jvm.exec) (hb : c.code = cc) (hT : ∀ w ∈ lw_good, w.before args s = true) (hown : s.vm.findClass R_Model = some m.cls) (hK : va_K (dC, dI) cls_all (gT LM km) s) (hP : va_P (dC, dI) cls_all (gW LM ad km T) H) (hdg : decode cc pc = .ok (.getfield 39, 3)) (kk : W p l e R s m args below meth c H locs cells slots Q (F0 m (pc + 3) ls (.ref (ad 9) :: rest))) : W p l e R s m args below meth c H locs cells slots Q (F0 m pc ls (.ref (ad 0) :: rest)) := gw_get hx hb hT i_Model hown hK hP 0 19 19 (Nat.le_of_ble_eq_true rfl) rfl rfl (Nat.le_of_ble_eq_true rfl) rfl (gv_a rfl) (hT _ fl_Model_39) (fun _ h9 => h9) hdg kk
theorem laM_8 (hx : p.tables.exec = Jvm.exec) (hb : c.code = cc) (hK : va_K (dC, dI) cls_all (gT LM km) s) (hP : va_P (dC, dI) cls_all (gW LM ad km T) H) {x : Int32} (hin : inb x 24) (hdg : decode cc pc = .ok (.iaload, 1)) (kk : W p l e R s m args below meth c H locs cells slots Q (F0 m (pc + 1) ls (.int (T.1 19 x.toNatClampNeg) :: rest))) : W p l e R s m args below meth c H locs cells slots Q (F0 m pc ls (.int x :: .ref (ad 9) :: rest)) := gw_iald hx hb hK hP 8 19 24 9 (Nat.le_of_ble_eq_true rfl) rfl rfl rfl rfl rfl hin hdg kk
theorem saM_8 (hx : p.tables.exec = Jvm.exec) (hb : c.code = cc) (hK : va_K (dC, dI) cls_all (gT LM km) s) (hP : va_P (dC, dI) cls_all (gW LM ad km T) H) (hD : va_D A (gW LM ad km T)) (hS : va_S A H0 H locs) {x : Int32} {v : Int32} (hin : inb x 24) (hdg : decode cc pc = .ok (.iastore, 1)) (kk : ∀ (T1 : gSt), T1 = sI T 19 x.toNatClampNeg v → ∀ (H1 : Heap) (locs1 : List Loc), va_P (dC, dI) cls_all (gW LM ad km T1) H1 → va_D A (gW LM ad km T1) → va_S A H0 H1 locs1 → W p l e R s m args below meth c H1 locs1 cells slots Q (F0 m (pc + 1) ls rest)) : W p l e R s m args below meth c H locs cells slots Q (F0 m pc ls (.int v :: .int x :: .ref (ad 9) :: rest)) := gw_iast okM hx hb hK hP hD hS 8 19 24 9 (Nat.le_of_ble_eq_true rfl) rfl rfl rfl rfl rfl hin hdg kk
theorem wr_Model_436 (hx : p.tables.exec = Jvm.exec) (hb : c.code = cc) (hT : ∀ w ∈ lw_good, w.before args s = true) (hown : s.vm.findClass R_Model = some m.cls) (hK : va_K (dC, dI) cls_all (gT LM km) s) (hP : va_P (dC, dI) cls_all (gW LM ad km T) H) (hD : va_D A (gW LM ad km T)) (hS : va_S A H0 H locs) {v : Int32} (hdg : decode cc pc = .ok (.putfield 436, 3)) (kk : ∀ (T1 : gSt), T1 = sI T 62 0 v → ∀ (H1 : Heap) (locs1 : List Loc), va_P (dC, dI) cls_all (gW LM ad km T1) H1 → va_D A (gW LM ad km T1) → va_S A H0 H1 locs1 → W p l e R s m args below meth c H1 locs1 cells slots Q (F0 m (pc + 3) ls rest)) : W p l e R s m args below meth c H locs cells slots Q (F0 m pc ls (.int v :: .ref (ad 0) :: rest)) := gw_puti okM hx hb hT i_Model t_Model t_Model_ok n_Model hown hK hP hD hS 0 62 62 (Nat.le_of_ble_eq_true rfl) rfl rfl (Nat.le_of_ble_eq_true rfl) rfl rfl (hT _ fl_Model_436) (fun _ h9 => h9) rfl (ty := .int) (by decide +kernel) rfl rfl hdg kk
theorem wr_Model_439 (hx : p.tables.exec = Jvm.exec) (hb : c.code = cc) (hT : ∀ w ∈ lw_good, w.before args s = true) (hown : s.vm.findClass R_Model = some m.cls) (hK : va_K (dC, dI) cls_all (gT LM km) s) (hP : va_P (dC, dI) cls_all (gW LM ad km T) H) (hD : va_D A (gW LM ad km T)) (hS : va_S A H0 H locs) {v : Int32} (hdg : decode cc pc = .ok (.putfield 439, 3)) (kk : ∀ (T1 : gSt), T1 = sI T 63 0 v → ∀ (H1 : Heap) (locs1 : List Loc), va_P (dC, dI) cls_all (gW LM ad km T1) H1 → va_D A (gW LM ad km T1) → va_S A H0 H1 locs1 → W p l e R s m args below meth c H1 locs1 cells slots Q (F0 m (pc + 3) ls rest)) : W p l e R s m args below meth c H locs cells slots Q (F0 m pc ls (.int v :: .ref (ad 0) :: rest)) := gw_puti okM hx hb hT i_Model t_Model t_Model_ok n_Model hown hK hP hD hS 0 63 63 (Nat.le_of_ble_eq_true rfl) rfl rfl (Nat.le_of_ble_eq_true rfl) rfl rfl (hT _ fl_Model_439) (fun _ h9 => h9) rfl (ty := .int) (by decide +kernel) rfl rfl hdg kk
theorem rd_Model_54 (hx : p.tables.exec = Jvm.exec) (hb : c.code = cc) (hT : ∀ w ∈ lw_good, w.before args s = true) (hown : s.vm.findClass R_Model = some m.cls) (hK : va_K (dC, dI) cls_all (gT LM km) s) (hP : va_P (dC, dI) cls_all (gW LM ad km T) H) (hdg : decode cc pc = .ok (.getfield 54, 3)) (kk : W p l e R s m args below meth c H locs cells slots Q (F0 m (pc + 3) ls (.ref (ad 14) :: rest))) : W p l e R s m args below meth c H locs cells slots Q (F0 m pc ls (.ref (ad 0) :: rest)) := gw_get hx hb hT i_Model hown hK hP 0 25 25 (Nat.le_of_ble_eq_true rfl) rfl rfl (Nat.le_of_ble_eq_true rfl) rfl (gv_a rfl) (hT _ fl_Model_54) (fun _ h9 => h9) hdg kk
theorem laM_13 (hx : p.tables.exec = Jvm.exec) (hb : c.code = cc) (hK : va_K (dC, dI) cls_all (gT LM km) s) (hP : va_P (dC, dI) cls_all (gW LM ad km T) H) {x : Int32} (hin : inb x 24) (hdg : decode cc pc = .ok (.iaload, 1)) (kk : W p l e R s m args below meth c H locs cells slots Q (F0 m (pc + 1) ls (.int (T.1 25 x.toNatClampNeg) :: rest))) : W p l e R s m args below meth c H locs cells slots Q (F0 m pc ls (.int x :: .ref (ad 14) :: rest)) := gw_iald hx hb hK hP 13 25 24 14 (Nat.le_of_ble_eq_true rfl) rfl rfl rfl rfl rfl hin hdg kk
theorem saM_13 (hx : p.tables.exec = Jvm.exec) (hb : c.code = cc) (hK : va_K (dC, dI) cls_all (gT LM km) s) (hP : va_P (dC, dI) cls_all (gW LM ad km T) H) (hD : va_D A (gW LM ad km T)) (hS : va_S A H0 H locs) {x : Int32} {v : Int32} (hin : inb x 24) (hdg : decode cc pc = .ok (.iastore, 1)) (kk : ∀ (T1 : gSt), T1 = sI T 25 x.toNatClampNeg v → ∀ (H1 : Heap) (locs1 : List Loc), va_P (dC, dI) cls_all (gW LM ad km T1) H1 → va_D A (gW LM ad km T1) → va_S A H0 H1 locs1 → W p l e R s m args below meth c H1 locs1 cells slots Q (F0 m (pc + 1) ls rest)) : W p l e R s m args below meth c H locs cells slots Q (F0 m pc ls (.int v :: .int x :: .ref (ad 14) :: rest)) := gw_iast okM hx hb hK hP hD hS 13 25 24 14 (Nat.le_of_ble_eq_true rfl) rfl rfl rfl rfl rfl hin hdg kk
theorem rd_Model_60 (hx : p.tables.exec = Jvm.exec) (hb : c.code = cc) (hT : ∀ w ∈ lw_good, w.before args s = true) (hown : s.vm.findClass R_Model = some m.cls) (hK : va_K (dC, dI) cls_all (gT LM km) s) (hP : va_P (dC, dI) cls_all (gW LM ad km T) H) (hdg : decode cc pc = .ok (.getfield 60, 3)) (kk : W p l e R s m args below meth c H locs cells slots Q (F0 m (pc + 3) ls (.ref (ad 16) :: rest))) : W p l e R s m args below meth c H locs cells slots Q (F0 m pc ls (.ref (ad 0) :: rest)) := gw_get hx hb hT i_Model hown hK hP 0 27 27 (Nat.le_of_ble_eq_true rfl) rfl rfl (Nat.le_of_ble_eq_true rfl) rfl (gv_a rfl) (hT _ fl_Model_60) (fun _ h9 => h9) hdg kk
theorem laM_15 (hx : p.tables.exec = Jvm.exec) (hb : c.code = cc) (hK : va_K (dC, dI) cls_all (gT LM km) s) (hP : va_P (dC, dI) cls_all (gW LM ad km T) H) {x : Int32} (hin : inb x 24) (hdg : decode cc pc = .ok (.iaload, 1)) (kk : W p l e R s m args below meth c H locs cells slots Q (F0 m (pc + 1) ls (.int (T.1 27 x.toNatClampNeg) :: rest))) : W p l e R s m args below meth c H locs cells slots Q (F0 m pc ls (.int x :: .ref (ad 16) :: rest)) := gw_iald hx hb hK hP 15 27 24 16 (Nat.le_of_ble_eq_true rfl) rfl rfl rfl rfl rfl hin hdg kk
theorem saM_15 (hx : p.tables.exec = Jvm.exec) (hb : c.code = cc) (hK : va_K (dC, dI) cls_all (gT LM km) s) (hP : va_P (dC, dI) cls_all (gW LM ad km T) H) (hD : va_D A (gW LM ad km T)) (hS : va_S A H0 H locs) {x : Int32} {v : Int32} (hin : inb x 24) (hdg : decode cc pc = .ok (.iastore, 1)) (kk : ∀ (T1 : gSt), T1 = sI T 27 x.toNatClampNeg v → ∀ (H1 : Heap) (locs1 : List Loc), va_P (dC, dI) cls_all (gW LM ad km T1) H1 → va_D A (gW LM ad km T1) → va_S A H0 H1 locs1 → W p l e R s m args below meth c H1 locs1 cells slots Q (F0 m (pc + 1) ls rest)) : W p l e R s m args below meth c H locs cells slots Q (F0 m pc ls (.int v :: .int x :: .ref (ad 16) :: rest)) := gw_iast okM hx hb hK hP hD hS 15 27 24 16 (Nat.le_of_ble_eq_true rfl) rfl rfl rfl rfl rfl hin hdg kk
theorem rd_Model_72 (hx : p.tables.exec = Jvm.exec) (hb : c.code = cc) (hT : ∀ w ∈ lw_good, w.before args s = true) (hown : s.vm.findClass R_Model = some m.cls) (hK : va_K (dC, dI) cls_all (gT LM km) s) (hP : va_P (dC, dI) cls_all (gW LM ad km T) H) (hdg : decode cc pc = .ok (.getfield 72, 3)) (kk : W p l e R s m args below meth c H locs cells slots Q (F0 m (pc + 3) ls (.ref (ad 20) :: rest))) : W p l e R s m args below meth c H locs cells slots Q (F0 m pc ls (.ref (ad 0) :: rest)) := gw_get hx hb hT i_Model hown hK hP 0 31 31 (Nat.le_of_ble_eq_true rfl) rfl rfl (Nat.le_of_ble_eq_true rfl) rfl (gv_a rfl) (hT _ fl_Model_72) (fun _ h9 => h9) hdg kk
theorem laM_19 (hx : p.tables.exec = Jvm.exec) (hb : c.code = cc) (hK : va_K (dC, dI) cls_all (gT LM km) s) (hP : va_P (dC, dI) cls_all (gW LM ad km T) H) {x : Int32} (hin : inb x 24) (hdg : decode cc pc = .ok (.iaload, 1)) (kk : W p l e R s m args below meth c H locs cells slots Q (F0 m (pc + 1) ls (.int (T.1 31 x.toNatClampNeg) :: rest))) : W p l e R s m args below meth c H locs cells slots Q (F0 m pc ls (.int x :: .ref (ad 20) :: rest)) := gw_iald hx hb hK hP 19 31 24 20 (Nat.le_of_ble_eq_true rfl) rfl rfl rfl rfl rfl hin hdg kk
theorem saM_19 (hx : p.tables.exec = Jvm.exec) (hb : c.code = cc) (hK : va_K (dC, dI) cls_all (gT LM km) s) (hP : va_P (dC, dI) cls_all (gW LM ad km T) H) (hD : va_D A (gW LM ad km T)) (hS : va_S A H0 H locs) {x : Int32} {v : Int32} (hin : inb x 24) (hdg : decode cc pc = .ok (.iastore, 1)) (kk : ∀ (T1 : gSt), T1 = sI T 31 x.toNatClampNeg v → ∀ (H1 : Heap) (locs1 : List Loc), va_P (dC, dI) cls_all (gW LM ad km T1) H1 → va_D A (gW LM ad km T1) → va_S A H0 H1 locs1 → W p l e R s m args below meth c H1 locs1 cells slots Q (F0 m (pc + 1) ls rest)) : W p l e R s m args below meth c H locs cells slots Q (F0 m pc ls (.int v :: .int x :: .ref (ad 20) :: rest)) := gw_iast okM hx hb hK hP hD hS 19 31 24 20 (Nat.le_of_ble_eq_true rfl) rfl rfl rfl rfl rfl hin hdg kk
theorem rd_Model_81 (hx : p.tables.exec = Jvm.exec) (hb : c.code = cc) (hT : ∀ w ∈ lw_good, w.before args s = true) (hown : s.vm.findClass R_Model = some m.cls) (hK : va_K (dC, dI) cls_all (gT LM km) s) (hP : va_P (dC, dI) cls_all (gW LM ad km T) H) (hdg : decode cc pc = .ok (.getfield 81, 3)) (kk : W p l e R s m args below meth c H locs cells slots Q (F0 m (pc + 3) ls (.ref (ad 23) :: rest))) : W p l e R s m args below meth c H locs cells slots Q (F0 m pc ls (.ref (ad 0) :: rest)) := gw_get hx hb hT i_Model hown hK hP 0 34 34 (Nat.le_of_ble_eq_true rfl) rfl rfl (Nat.le_of_ble_eq_true rfl) rfl (gv_a rfl) (hT _ fl_Model_81) (fun _ h9 => h9) hdg kk
theorem laM_22 (hx : p.tables.exec = Jvm.exec) (hb : c.code = cc) (hK : va_K (dC, dI) cls_all (gT LM km) s) (hP : va_P (dC, dI) cls_all (gW LM ad km T) H) {x : Int32} (hin : inb x 24) (hdg : decode cc pc = .ok (.iaload, 1)) (kk : W p l e R s m args below meth c H locs cells slots Q (F0 m (pc + 1) ls (.int (T.1 34 x.toNatClampNeg) :: rest))) : W p l e R s m args below meth c H locs cells slots Q (F0 m pc ls (.int x :: .ref (ad 23) :: rest)) := gw_iald hx hb hK hP 22 34 24 23 (Nat.le_of_ble_eq_true rfl) rfl rfl rfl rfl rfl hin hdg kk
theorem saM_22 (hx : p.tables.exec = Jvm.exec) (hb : c.code = cc) (hK : va_K (dC, dI) cls_all (gT LM km) s) (hP : va_P (dC, dI) cls_all (gW LM ad km T) H) (hD : va_D A (gW LM ad km T)) (hS : va_S A H0 H locs) {x : Int32} {v : Int32} (hin : inb x 24) (hdg : decode cc pc = .ok (.iastore, 1)) (kk : ∀ (T1 : gSt), T1 = sI T 34 x.toNatClampNeg v → ∀ (H1 : Heap) (locs1 : List Loc), va_P (dC, dI) cls_all (gW LM ad km T1) H1 → va_D A (gW LM ad km T1) → va_S A H0 H1 locs1 → W p l e R s m args below meth c H1 locs1 cells slots Q (F0 m (pc + 1) ls rest)) : W p l e R s m args below meth c H locs cells slots Q (F0 m pc ls (.int v :: .int x :: .ref (ad 23) :: rest)) := gw_iast okM hx hb hK hP hD hS 22 34 24 23 (Nat.le_of_ble_eq_true rfl) rfl rfl rfl rfl rfl hin hdg kk
theorem rd_Model_84 (hx : p.tables.exec = Jvm.exec) (hb : c.code = cc) (hT : ∀ w ∈ lw_good, w.before args s = true) (hown : s.vm.findClass R_Model = some m.cls) (hK : va_K (dC, dI) cls_all (gT LM km) s) (hP : va_P (dC, dI) cls_all (gW LM ad km T) H) (hdg : decode cc pc = .ok (.getfield 84, 3)) (kk : W p l e R s m args below meth c H locs cells slots Q (F0 m (pc + 3) ls (.ref (ad 24) :: rest))) : W p l e R s m args below meth c H locs cells slots Q (F0 m pc ls (.ref (ad 0) :: rest)) := gw_get hx hb hT i_Model hown hK hP 0 35 35 (Nat.le_of_ble_eq_true rfl) rfl rfl (Nat.le_of_ble_eq_true rfl) rfl (gv_a rfl) (hT _ fl_Model_84) (fun _ h9 => h9) hdg kk
theorem rd_Model_436 (hx : p.tables.exec = Jvm.exec) (hb : c.code = cc) (hT : ∀ w ∈ lw_good, w.before args s = true) (hown : s.vm.findClass R_Model = some m.cls) (hK : va_K (dC, dI) cls_all (gT LM km) s) (hP : va_P (dC, dI) cls_all (gW LM ad km T) H) (hdg : decode cc pc = .ok (.getfield 436, 3)) (kk : W p l e R s m args below meth c H locs cells slots Q (F0 m (pc + 3) ls (.int (T.1 62 0) :: rest))) : W p l e R s m args below meth c H locs cells slots Q (F0 m pc ls (.ref (ad 0) :: rest)) := gw_get hx hb hT i_Model hown hK hP 0 62 62 (Nat.le_of_ble_eq_true rfl) rfl rfl (Nat.le_of_ble_eq_true rfl) rfl (gv_i rfl) (hT _ fl_Model_436) (fun _ h9 => h9) hdg kk
theorem laM_23 (hx : p.tables.exec = Jvm.exec) (hb : c.code = cc) (hK : va_K (dC, dI) cls_all (gT LM km) s) (hP : va_P (dC, dI) cls_all (gW LM ad km T) H) {x : Int32} (hin : inb x 24) (hdg : decode cc pc = .ok (.iaload, 1)) (kk : W p l e R s m args below meth c H locs cells slots Q (F0 m (pc + 1) ls (.int (T.1 35 x.toNatClampNeg) :: rest))) : W p l e R s m args below meth c H locs cells slots Q (F0 m pc ls (.int x :: .ref (ad 24) :: rest)) := gw_iald hx hb hK hP 23 35 24 24 (Nat.le_of_ble_eq_true rfl) rfl rfl rfl rfl rfl hin hdg kk
theorem saM_23 (hx : p.tables.exec = Jvm.exec) (hb : c.code = cc) (hK : va_K (dC, dI) cls_all (gT LM km) s) (hP : va_P (dC, dI) cls_all (gW LM ad km T) H) (hD : va_D A (gW LM ad km T)) (hS : va_S A H0 H locs) {x : Int32} {v : Int32} (hin : inb x 24) (hdg : decode cc pc = .ok (.iastore, 1)) (kk : ∀ (T1 : gSt), T1 = sI T 35 x.toNatClampNeg v → ∀ (H1 : Heap) (locs1 : List Loc), va_P (dC, dI) cls_all (gW LM ad km T1) H1 → va_D A (gW LM ad km T1) → va_S A H0 H1 locs1 → W p l e R s m args below meth c H1 locs1 cells slots Q (F0 m (pc + 1) ls rest)) : W p l e R s m args below meth c H locs cells slots Q (F0 m pc ls (.int v :: .int x :: .ref (ad 24) :: rest)) := gw_iast okM hx hb hK hP hD hS 23 35 24 24 (Nat.le_of_ble_eq_true rfl) rfl rfl rfl rfl rfl hin hdg kk
theorem rd_Model_42 (hx : p.tables.exec = Jvm.exec) (hb : c.code = cc) (hT : ∀ w ∈ lw_good, w.before args s = true) (hown : s.vm.findClass R_Model = some m.cls) (hK : va_K (dC, dI) cls_all (gT LM km) s) (hP : va_P (dC, dI) cls_all (gW LM ad km T) H) (hdg : decode cc pc = .ok (.getfield 42, 3)) (kk : W p l e R s m args below meth c H locs cells slots Q (F0 m (pc + 3) ls (.ref (ad 10) :: rest))) : W p l e R s m args below meth c H locs cells slots Q (F0 m pc ls (.ref (ad 0) :: rest)) := gw_get hx hb hT i_Model hown hK hP 0 21 21 (Nat.le_of_ble_eq_true rfl) rfl rfl (Nat.le_of_ble_eq_true rfl) rfl (gv_a rfl) (hT _ fl_Model_42) (fun _ h9 => h9) hdg kk
theorem laM_9 (hx : p.tables.exec = Jvm.exec) (hb : c.code = cc) (hK : va_K (dC, dI) cls_all (gT LM km) s) (hP : va_P (dC, dI) cls_all (gW LM ad km T) H) {x : Int32} (hin : inb x 220) (hdg : decode cc pc = .ok (.laload, 1)) (kk : W p l e R s m args below meth c H locs cells slots Q (F0 m (pc + 1) ls (.long (T.2 21 x.toNatClampNeg) :: rest))) : W p l e R s m args below meth c H locs cells slots Q (F0 m pc ls (.int x :: .ref (ad 10) :: rest)) := gw_lald hx hb hK hP 9 21 220 10 (Nat.le_of_ble_eq_true rfl) rfl rfl rfl rfl rfl hin hdg kk
theorem saM_9 (hx : p.tables.exec = Jvm.exec) (hb : c.code = cc) (hK : va_K (dC, dI) cls_all (gT LM km) s) (hP : va_P (dC, dI) cls_all (gW LM ad km T) H) (hD : va_D A (gW LM ad km T)) (hS : va_S A H0 H locs) {x : Int32} {v : Int64} (hin : inb x 220) (hdg : decode cc pc = .ok (.lastore, 1)) (kk : ∀ (T1 : gSt), T1 = sJ T 21 x.toNatClampNeg v → ∀ (H1 : Heap) (locs1 : List Loc), va_P (dC, dI) cls_all (gW LM ad km T1) H1 → va_D A (gW LM ad km T1) → va_S A H0 H1 locs1 → W p l e R s m args below meth c H1 locs1 cells slots Q (F0 m (pc + 1) ls rest)) : W p l e R s m args below meth c H locs cells slots Q (F0 m pc ls (.long v :: .int x :: .ref (ad 10) :: rest)) := gw_last okM hx hb hK hP hD hS 9 21 220 10 (Nat.le_of_ble_eq_true rfl) rfl rfl rfl rfl rfl hin hdg kk
theorem rd_Model_45 (hx : p.tables.exec = Jvm.exec) (hb : c.code = cc) (hT : ∀ w ∈ lw_good, w.before args s = true) (hown : s.vm.findClass R_Model = some m.cls) (hK : va_K (dC, dI) cls_all (gT LM km) s) (hP : va_P (dC, dI) cls_all (gW LM ad km T) H) (hdg : decode cc pc = .ok (.getfield 45, 3)) (kk : W p l e R s m args below meth c H locs cells slots Q (F0 m (pc + 3) ls (.ref (ad 11) :: rest))) : W p l e R s m args below meth c H locs cells slots Q (F0 m pc ls (.ref (ad 0) :: rest)) := gw_get hx hb hT i_Model hown hK hP 0 22 22 (Nat.le_of_ble_eq_true rfl) rfl rfl (Nat.le_of_ble_eq_true rfl) rfl (gv_a rfl) (hT _ fl_Model_45) (fun _ h9 => h9) hdg kk
theorem laM_10 (hx : p.tables.exec = Jvm.exec) (hb : c.code = cc) (hK : va_K (dC, dI) cls_all (gT LM km) s) (hP : va_P (dC, dI) cls_all (gW LM ad km T) H) {x : Int32} (hin : inb x 220) (hdg : decode cc pc = .ok (.iaload, 1)) (kk : W p l e R s m args below meth c H locs cells slots Q (F0 m (pc + 1) ls (.int (T.1 22 x.toNatClampNeg) :: rest))) : W p l e R s m args below meth c H locs cells slots Q (F0 m pc ls (.int x :: .ref (ad 11) :: rest)) := gw_iald hx hb hK hP 10 22 220 11 (Nat.le_of_ble_eq_true rfl) rfl rfl rfl rfl rfl hin hdg kk
theorem saM_10 (hx : p.tables.exec = Jvm.exec) (hb : c.code = cc) (hK : va_K (dC, dI) cls_all (gT LM km) s) (hP : va_P (dC, dI) cls_all (gW LM ad km T) H) (hD : va_D A (gW LM ad km T)) (hS : va_S A H0 H locs) {x : Int32} {v : Int32} (hin : inb x 220) (hdg : decode cc pc = .ok (.iastore, 1)) (kk : ∀ (T1 : gSt), T1 = sI T 22 x.toNatClampNeg v → ∀ (H1 : Heap) (locs1 : List Loc), va_P (dC, dI) cls_all (gW LM ad km T1) H1 → va_D A (gW LM ad km T1) → va_S A H0 H1 locs1 → W p l e R s m args below meth c H1 locs1 cells slots Q (F0 m (pc + 1) ls rest)) : W p l e R s m args below meth c H locs cells slots Q (F0 m pc ls (.int v :: .int x :: .ref (ad 11) :: rest)) := gw_iast okM hx hb hK hP hD hS 10 22 220 11 (Nat.le_of_ble_eq_true rfl) rfl rfl rfl rfl rfl hin hdg kk
theorem rd_Model_48 (hx : p.tables.exec = Jvm.exec) (hb : c.code = cc) (hT : ∀ w ∈ lw_good, w.before args s = true) (hown : s.vm.findClass R_Model = some m.cls) (hK : va_K (dC, dI) cls_all (gT LM km) s) (hP : va_P (dC, dI) cls_all (gW LM ad km T) H) (hdg : decode cc pc = .ok (.getfield 48, 3)) (kk : W p l e R s m args below meth c H locs cells slots Q (F0 m (pc + 3) ls (.ref (ad 12) :: rest))) : W p l e R s m args below meth c H locs cells slots Q (F0 m pc ls (.ref (ad 0) :: rest)) := gw_get hx hb hT i_Model hown hK hP 0 23 23 (Nat.le_of_ble_eq_true rfl) rfl rfl (Nat.le_of_ble_eq_true rfl) rfl (gv_a rfl) (hT _ fl_Model_48) (fun _ h9 => h9) hdg kk
theorem laM_11 (hx : p.tables.exec = Jvm.exec) (hb : c.code = cc) (hK : va_K (dC, dI) cls_all (gT LM km) s) (hP : va_P (dC, dI) cls_all (gW LM ad km T) H) {x : Int32} (hin : inb x 220) (hdg : decode cc pc = .ok (.iaload, 1)) (kk : W p l e R s m args below meth c H locs cells slots Q (F0 m (pc + 1) ls (.int (T.1 23 x.toNatClampNeg) :: rest))) : W p l e R s m args below meth c H locs cells slots Q (F0 m pc ls (.int x :: .ref (ad 12) :: rest)) := gw_iald hx hb hK hP 11 23 220 12 (Nat.le_of_ble_eq_true rfl) rfl rfl rfl rfl rfl hin hdg kk
theorem saM_11 (hx : p.tables.exec = Jvm.exec) (hb : c.code = cc) (hK : va_K (dC, dI) cls_all (gT LM km) s) (hP : va_P (dC, dI) cls_all (gW LM ad km T) H) (hD : va_D A (gW LM ad km T)) (hS : va_S A H0 H locs) {x : Int32} {v : Int32} (hin : inb x 220) (hdg : decode cc pc = .ok (.iastore, 1)) (kk : ∀ (T1 : gSt), T1 = sI T 23 x.toNatClampNeg v → ∀ (H1 : Heap) (locs1 : List Loc), va_P (dC, dI) cls_all (gW LM ad km T1) H1 → va_D A (gW LM ad km T1) → va_S A H0 H1 locs1 → W p l e R s m args below meth c H1 locs1 cells slots Q (F0 m (pc + 1) ls rest)) : W p l e R s m args below meth c H locs cells slots Q (F0 m pc ls (.int v :: .int x :: .ref (ad 12) :: rest)) := gw_iast okM hx hb hK hP hD hS 11 23 220 12 (Nat.le_of_ble_eq_true rfl) rfl rfl rfl rfl rfl hin hdg kk
theorem rd_Model_63 (hx : p.tables.exec = Jvm.exec) (hb : c.code = cc) (hT : ∀ w ∈ lw_good, w.before args s = true) (hown : s.vm.findClass R_Model = some m.cls) (hK : va_K (dC, dI) cls_all (gT LM km) s) (hP : va_P (dC, dI) cls_all (gW LM ad km T) H) (hdg : decode cc pc = .ok (.getfield 63, 3)) (kk : W p l e R s m args below meth c H locs cells slots Q (F0 m (pc + 3) ls (.ref (ad 17) :: rest))) : W p l e R s m args below meth c H locs cells slots Q (F0 m pc ls (.ref (ad 0) :: rest)) := gw_get hx hb hT i_Model hown hK hP 0 28 28 (Nat.le_of_ble_eq_true rfl) rfl rfl (Nat.le_of_ble_eq_true rfl) rfl (gv_a rfl) (hT _ fl_Model_63) (fun _ h9 => h9) hdg kk
theorem laM_16 (hx : p.tables.exec = Jvm.exec) (hb : c.code = cc) (hK : va_K (dC, dI) cls_all (gT LM km) s) (hP : va_P (dC, dI) cls_all (gW LM ad km T) H) {x : Int32} (hin : inb x 72) (hdg : decode cc pc = .ok (.laload, 1)) (kk : W p l e R s m args below meth c H locs cells slots Q (F0 m (pc + 1) ls (.long (T.2 28 x.toNatClampNeg) :: rest))) : W p l e R s m args below meth c H locs cells slots Q (F0 m pc ls (.int x :: .ref (ad 17) :: rest)) := gw_lald hx hb hK hP 16 28 72 17 (Nat.le_of_ble_eq_true rfl) rfl rfl rfl rfl rfl hin hdg kk
theorem saM_16 (hx : p.tables.exec = Jvm.exec) (hb : c.code = cc) (hK : va_K (dC, dI) cls_all (gT LM km) s) (hP : va_P (dC, dI) cls_all (gW LM ad km T) H) (hD : va_D A (gW LM ad km T)) (hS : va_S A H0 H locs) {x : Int32} {v : Int64} (hin : inb x 72) (hdg : decode cc pc = .ok (.lastore, 1)) (kk : ∀ (T1 : gSt), T1 = sJ T 28 x.toNatClampNeg v → ∀ (H1 : Heap) (locs1 : List Loc), va_P (dC, dI) cls_all (gW LM ad km T1) H1 → va_D A (gW LM ad km T1) → va_S A H0 H1 locs1 → W p l e R s m args below meth c H1 locs1 cells slots Q (F0 m (pc + 1) ls rest)) : W p l e R s m args below meth c H locs cells slots Q (F0 m pc ls (.long v :: .int x :: .ref (ad 17) :: rest)) := gw_last okM hx hb hK hP hD hS 16 28 72 17 (Nat.le_of_ble_eq_true rfl) rfl rfl rfl rfl rfl hin hdg kk
theorem rd_Model_66 (hx : p.tables.exec = Jvm.exec) (hb : c.code = cc) (hT : ∀ w ∈ lw_good, w.before args s = true) (hown : s.vm.findClass R_Model = some m.cls) (hK : va_K (dC, dI) cls_all (gT LM km) s) (hP : va_P (dC, dI) cls_all (gW LM ad km T) H) (hdg : decode cc pc = .ok (.getfield 66, 3)) (kk : W p l e R s m args below meth c H locs cells slots Q (F0 m (pc + 3) ls (.ref (ad 18) :: rest))) : W p l e R s m args below meth c H locs cells slots Q (F0 m pc ls (.ref (ad 0) :: rest)) := gw_get hx hb hT i_Model hown hK hP 0 29 29 (Nat.le_of_ble_eq_true rfl) rfl rfl (Nat.le_of_ble_eq_true rfl) rfl (gv_a rfl) (hT _ fl_Model_66) (fun _ h9 => h9) hdg kk
theorem laM_17 (hx : p.tables.exec = Jvm.exec) (hb : c.code = cc) (hK : va_K (dC, dI) cls_all (gT LM km) s) (hP : va_P (dC, dI) cls_all (gW LM ad km T) H) {x : Int32} (hin : inb x 72) (hdg : decode cc pc = .ok (.iaload, 1)) (kk : W p l e R s m args below meth c H locs cells slots Q (F0 m (pc + 1) ls (.int (T.1 29 x.toNatClampNeg) :: rest))) : W p l e R s m args below meth c H locs cells slots Q (F0 m pc ls (.int x :: .ref (ad 18) :: rest)) := gw_iald hx hb hK hP 17 29 72 18 (Nat.le_of_ble_eq_true rfl) rfl rfl rfl rfl rfl hin hdg kk
theorem saM_17 (hx : p.tables.exec = Jvm.exec) (hb : c.code = cc) (hK : va_K (dC, dI) cls_all (gT LM km) s) (hP : va_P (dC, dI) cls_all (gW LM ad km T) H) (hD : va_D A (gW LM ad km T)) (hS : va_S A H0 H locs) {x : Int32} {v : Int32} (hin : inb x 72) (hdg : decode cc pc = .ok (.iastore, 1)) (kk : ∀ (T1 : gSt), T1 = sI T 29 x.toNatClampNeg v → ∀ (H1 : Heap) (locs1 : List Loc), va_P (dC, dI) cls_all (gW LM ad km T1) H1 → va_D A (gW LM ad km T1) → va_S A H0 H1 locs1 → W p l e R s m args below meth c H1 locs1 cells slots Q (F0 m (pc + 1) ls rest)) : W p l e R s m args below meth c H locs cells slots Q (F0 m pc ls (.int v :: .int x :: .ref (ad 18) :: rest)) := gw_iast okM hx hb hK hP hD hS 17 29 72 18 (Nat.le_of_ble_eq_true rfl) rfl rfl rfl rfl rfl hin hdg kk
theorem rd_Model_75 (hx : p.tables.exec = Jvm.exec) (hb : c.code = cc) (hT : ∀ w ∈ lw_good, w.before args s = true) (hown : s.vm.findClass R_Model = some m.cls) (hK : va_K (dC, dI) cls_all (gT LM km) s) (hP : va_P (dC, dI) cls_all (gW LM ad km T) H) (hdg : decode cc pc = .ok (.getfield 75, 3)) (kk : W p l e R s m args below meth c H locs cells slots Q (F0 m (pc + 3) ls (.ref (ad 21) :: rest))) : W p l e R s m args below meth c H locs cells slots Q (F0 m pc ls (.ref (ad 0) :: rest)) := gw_get hx hb hT i_Model hown hK hP 0 32 32 (Nat.le_of_ble_eq_true rfl) rfl rfl (Nat.le_of_ble_eq_true rfl) rfl (gv_a rfl) (hT _ fl_Model_75) (fun _ h9 => h9) hdg kk
theorem laM_20 (hx : p.tables.exec = Jvm.exec) (hb : c.code = cc) (hK : va_K (dC, dI) cls_all (gT LM km) s) (hP : va_P (dC, dI) cls_all (gW LM ad km T) H) {x : Int32} (hin : inb x 144) (hdg : decode cc pc = .ok (.laload, 1)) (kk : W p l e R s m args below meth c H locs cells slots Q (F0 m (pc + 1) ls (.long (T.2 32 x.toNatClampNeg) :: rest))) : W p l e R s m args below meth c H locs cells slots Q (F0 m pc ls (.int x :: .ref (ad 21) :: rest)) := gw_lald hx hb hK hP 20 32 144 21 (Nat.le_of_ble_eq_true rfl) rfl rfl rfl rfl rfl hin hdg kk
theorem saM_20 (hx : p.tables.exec = Jvm.exec) (hb : c.code = cc) (hK : va_K (dC, dI) cls_all (gT LM km) s) (hP : va_P (dC, dI) cls_all (gW LM ad km T) H) (hD : va_D A (gW LM ad km T)) (hS : va_S A H0 H locs) {x : Int32} {v : Int64} (hin : inb x 144) (hdg : decode cc pc = .ok (.lastore, 1)) (kk : ∀ (T1 : gSt), T1 = sJ T 32 x.toNatClampNeg v → ∀ (H1 : Heap) (locs1 : List Loc), va_P (dC, dI) cls_all (gW LM ad km T1) H1 → va_D A (gW LM ad km T1) → va_S A H0 H1 locs1 → W p l e R s m args below meth c H1 locs1 cells slots Q (F0 m (pc + 1) ls rest)) : W p l e R s m args below meth c H locs cells slots Q (F0 m pc ls (.long v :: .int x :: .ref (ad 21) :: rest)) := gw_last okM hx hb hK hP hD hS 20 32 144 21 (Nat.le_of_ble_eq_true rfl) rfl rfl rfl rfl rfl hin hdg kk
theorem rd_Model_78 (hx : p.tables.exec = Jvm.exec) (hb : c.code = cc) (hT : ∀ w ∈ lw_good, w.before args s = true) (hown : s.vm.findClass R_Model = some m.cls) (hK : va_K (dC, dI) cls_all (gT LM km) s) (hP : va_P (dC, dI) cls_all (gW LM ad km T) H) (hdg : decode cc pc = .ok (.getfield 78, 3)) (kk : W p l e R s m args below meth c H locs cells slots Q (F0 m (pc + 3) ls (.ref (ad 22) :: rest))) : W p l e R s m args below meth c H locs cells slots Q (F0 m pc ls (.ref (ad 0) :: rest)) := gw_get hx hb hT i_Model hown hK hP 0 33 33 (Nat.le_of_ble_eq_true rfl) rfl rfl (Nat.le_of_ble_eq_true rfl) rfl (gv_a rfl) (hT _ fl_Model_78) (fun _ h9 => h9) hdg kk
theorem laM_21 (hx : p.tables.exec = Jvm.exec) (hb : c.code = cc) (hK : va_K (dC, dI) cls_all (gT LM km) s) (hP : va_P (dC, dI) cls_all (gW LM ad km T) H) {x : Int32} (hin : inb x 144) (hdg : decode cc pc = .ok (.iaload, 1)) (kk : W p l e R s m args below meth c H locs cells slots Q (F0 m (pc + 1) ls (.int (T.1 33 x.toNatClampNeg) :: rest))) : W p l e R s m args below meth c H locs cells slots Q (F0 m pc ls (.int x :: .ref (ad 22) :: rest)) := gw_iald hx hb hK hP 21 33 144 22 (Nat.le_of_ble_eq_true rfl) rfl rfl rfl rfl rfl hin hdg kk
theorem saM_21 (hx : p.tables.exec = Jvm.exec) (hb : c.code = cc) (hK : va_K (dC, dI) cls_all (gT LM km) s) (hP : va_P (dC, dI) cls_all (gW LM ad km T) H) (hD : va_D A (gW LM ad km T)) (hS : va_S A H0 H locs) {x : Int32} {v : Int32} (hin : inb x 144) (hdg : decode cc pc = .ok (.iastore, 1)) (kk : ∀ (T1 : gSt), T1 = sI T 33 x.toNatClampNeg v → ∀ (H1 : Heap) (locs1 : List Loc), va_P (dC, dI) cls_all (gW LM ad km T1) H1 → va_D A (gW LM ad km T1) → va_S A H0 H1 locs1 → W p l e R s m args below meth c H1 locs1 cells slots Q (F0 m (pc + 1) ls rest)) : W p l e R s m args below meth c H locs cells slots Q (F0 m pc ls (.int v :: .int x :: .ref (ad 22) :: rest)) := gw_iast okM hx hb hK hP hD hS 21 33 144 22 (Nat.le_of_ble_eq_true rfl) rfl rfl rfl rfl rfl hin hdg kk
theorem rd_Model_418 (hx : p.tables.exec = Jvm.exec) (hb : c.code = cc) (hT : ∀ w ∈ lw_good, w.before args s = true) (hown : s.vm.findClass R_Model = some m.cls) (hK : va_K (dC, dI) cls_all (gT LM km) s) (hP : va_P (dC, dI) cls_all (gW LM ad km T) H) (hdg : decode cc pc = .ok (.getfield 418, 3)) (kk : W p l e R s m args below meth c H locs cells slots Q (F0 m (pc + 3) ls (.int (T.1 37 0) :: rest))) : W p l e R s m args below meth c H locs cells slots Q (F0 m pc ls (.ref (ad 0) :: rest)) := gw_get hx hb hT i_Model hown hK hP 0 37 37 (Nat.le_of_ble_eq_true rfl) rfl rfl (Nat.le_of_ble_eq_true rfl) rfl (gv_i rfl) (hT _ fl_Model_418) (fun _ h9 => h9) hdg kk
theorem rd_Model_90 (hx : p.tables.exec = Jvm.exec) (hb : c.code = cc) (hT : ∀ w ∈ lw_good, w.before args s = true) (hown : s.vm.findClass R_Model = some m.cls) (hK : va_K (dC, dI) cls_all (gT LM km) s) (hP : va_P (dC, dI) cls_all (gW LM ad km T) H) (hdg : decode cc pc = .ok (.getfield 90, 3)) (kk : W p l e R s m args below meth c H locs cells slots Q (F0 m (pc + 3) ls (.ref (ad 26) :: rest))) : W p l e R s m args below meth c H locs cells slots Q (F0 m pc ls (.ref (ad 0) :: rest)) := gw_get hx hb hT i_Model hown hK hP 0 38 38 (Nat.le_of_ble_eq_true rfl) rfl rfl (Nat.le_of_ble_eq_true rfl) rfl (gv_a rfl) (hT _ fl_Model_90) (fun _ h9 => h9) hdg kk
theorem laM_25 (hx : p.tables.exec = Jvm.exec) (hb : c.code = cc) (hK : va_K (dC, dI) cls_all (gT LM km) s) (hP : va_P (dC, dI) cls_all (gW LM ad km T) H) {x : Int32} (hin : inb x 4000) (hdg : decode cc pc = .ok (.iaload, 1)) (kk : W p l e R s m args below meth c H locs cells slots Q (F0 m (pc + 1) ls (.int (T.1 38 x.toNatClampNeg) :: rest))) : W p l e R s m args below meth c H locs cells slots Q (F0 m pc ls (.int x :: .ref (ad 26) :: rest)) := gw_iald hx hb hK hP 25 38 4000 26 (Nat.le_of_ble_eq_true rfl) rfl rfl rfl rfl rfl hin hdg kk
theorem saM_25 (hx : p.tables.exec = Jvm.exec) (hb : c.code = cc) (hK : va_K (dC, dI) cls_all (gT LM km) s) (hP : va_P (dC, dI) cls_all (gW LM ad km T) H) (hD : va_D A (gW LM ad km T)) (hS : va_S A H0 H locs) {x : Int32} {v : Int32} (hin : inb x 4000) (hdg : decode cc pc = .ok (.iastore, 1)) (kk : ∀ (T1 : gSt), T1 = sI T 38 x.toNatClampNeg v → ∀ (H1 : Heap) (locs1 : List Loc), va_P (dC, dI) cls_all (gW LM ad km T1) H1 → va_D A (gW LM ad km T1) → va_S A H0 H1 locs1 → W p l e R s m args below meth c H1 locs1 cells slots Q (F0 m (pc + 1) ls rest)) : W p l e R s m args below meth c H locs cells slots Q (F0 m pc ls (.int v :: .int x :: .ref (ad 26) :: rest)) := gw_iast okM hx hb hK hP hD hS 25 38 4000 26 (Nat.le_of_ble_eq_true rfl) rfl rfl rfl rfl rfl hin hdg kk
theorem rd_Model_96 (hx : p.tables.exec = Jvm.exec) (hb : c.code = cc) (hT : ∀ w ∈ lw_good, w.before args s = true) (hown : s.vm.findClass R_Model = some m.cls) (hK : va_K (dC, dI) cls_all (gT LM km) s) (hP : va_P (dC, dI) cls_all (gW LM ad km T) H) (hdg : decode cc pc = .ok (.getfield 96, 3)) (kk : W p l e R s m args below meth c H locs cells slots Q (F0 m (pc + 3) ls (.ref (ad 28) :: rest))) : W p l e R s m args below meth c H locs cells slots Q (F0 m pc ls (.ref (ad 0) :: rest)) := gw_get hx hb hT i_Model hown hK hP 0 40 40 (Nat.le_of_ble_eq_true rfl) rfl rfl (Nat.le_of_ble_eq_true rfl) rfl (gv_a rfl) (hT _ fl_Model_96) (fun _ h9 => h9) hdg kk
theorem laM_27 (hx : p.tables.exec = Jvm.exec) (hb : c.code = cc) (hK : va_K (dC, dI) cls_all (gT LM km) s) (hP : va_P (dC, dI) cls_all (gW LM ad km T) H) {x : Int32} (hin : inb x 4000) (hdg : decode cc pc = .ok (.iaload, 1)) (kk : W p l e R s m args below meth c H locs cells slots Q (F0 m (pc + 1) ls (.int (T.1 40 x.toNatClampNeg) :: rest))) : W p l e R s m args below meth c H locs cells slots Q (F0 m pc ls (.int x :: .ref (ad 28) :: rest)) := gw_iald hx hb hK hP 27 40 4000 28 (Nat.le_of_ble_eq_true rfl) rfl rfl rfl rfl rfl hin hdg kk
theorem saM_27 (hx : p.tables.exec = Jvm.exec) (hb : c.code = cc) (hK : va_K (dC, dI) cls_all (gT LM km) s) (hP : va_P (dC, dI) cls_all (gW LM ad km T) H) (hD : va_D A (gW LM ad km T)) (hS : va_S A H0 H locs) {x : Int32} {v : Int32} (hin : inb x 4000) (hdg : decode cc pc = .ok (.iastore, 1)) (kk : ∀ (T1 : gSt), T1 = sI T 40 x.toNatClampNeg v → ∀ (H1 : Heap) (locs1 : List Loc), va_P (dC, dI) cls_all (gW LM ad km T1) H1 → va_D A (gW LM ad km T1) → va_S A H0 H1 locs1 → W p l e R s m args below meth c H1 locs1 cells slots Q (F0 m (pc + 1) ls rest)) : W p l e R s m args below meth c H locs cells slots Q (F0 m pc ls (.int v :: .int x :: .ref (ad 28) :: rest)) := gw_iast okM hx hb hK hP hD hS 27 40 4000 28 (Nat.le_of_ble_eq_true rfl) rfl rfl rfl rfl rfl hin hdg kk
theorem rd_Model_102 (hx : p.tables.exec = Jvm.exec) (hb : c.code = cc) (hT : ∀ w ∈ lw_good, w.before args s = true) (hown : s.vm.findClass R_Model = some m.cls) (hK : va_K (dC, dI) cls_all (gT LM km) s) (hP : va_P (dC, dI) cls_all (gW LM ad km T) H) (hdg : decode cc pc = .ok (.getfield 102, 3)) (kk : W p l e R s m args below meth c H locs cells slots Q (F0 m (pc + 3) ls (.ref (ad 30) :: rest))) : W p l e R s m args below meth c H locs cells slots Q (F0 m pc ls (.ref (ad 0) :: rest)) := gw_get hx hb hT i_Model hown hK hP 0 42 42 (Nat.le_of_ble_eq_true rfl) rfl rfl (Nat.le_of_ble_eq_true rfl) rfl (gv_a rfl) (hT _ fl_Model_102) (fun _ h9 => h9) hdg kk
theorem laM_29 (hx : p.tables.exec = Jvm.exec) (hb : c.code = cc) (hK : va_K (dC, dI) cls_all (gT LM km) s) (hP : va_P (dC, dI) cls_all (gW LM ad km T) H) {x : Int32} (hin : inb x 4000) (hdg : decode cc pc = .ok (.iaload, 1)) (kk : W p l e R s m args below meth c H locs cells slots Q (F0 m (pc + 1) ls (.int (T.1 42 x.toNatClampNeg) :: rest))) : W p l e R s m args below meth c H locs cells slots Q (F0 m pc ls (.int x :: .ref (ad 30) :: rest)) := gw_iald hx hb hK hP 29 42 4000 30 (Nat.le_of_ble_eq_true rfl) rfl rfl rfl rfl rfl hin hdg kk
theorem saM_29 (hx : p.tables.exec = Jvm.exec) (hb : c.code = cc) (hK : va_K (dC, dI) cls_all (gT LM km) s) (hP : va_P (dC, dI) cls_all (gW LM ad km T) H) (hD : va_D A (gW LM ad km T)) (hS : va_S A H0 H locs) {x : Int32} {v : Int32} (hin : inb x 4000) (hdg : decode cc pc = .ok (.iastore, 1)) (kk : ∀ (T1 : gSt), T1 = sI T 42 x.toNatClampNeg v → ∀ (H1 : Heap) (locs1 : List Loc), va_P (dC, dI) cls_all (gW LM ad km T1) H1 → va_D A (gW LM ad km T1) → va_S A H0 H1 locs1 → W p l e R s m args below meth c H1 locs1 cells slots Q (F0 m (pc + 1) ls rest)) : W p l e R s m args below meth c H locs cells slots Q (F0 m pc ls (.int v :: .int x :: .ref (ad 30) :: rest)) := gw_iast okM hx hb hK hP hD hS 29 42 4000 30 (Nat.le_of_ble_eq_true rfl) rfl rfl rfl rfl rfl hin hdg kk
theorem rd_Model_108 (hx : p.tables.exec = Jvm.exec) (hb : c.code = cc) (hT : ∀ w ∈ lw_good, w.before args s = true) (hown : s.vm.findClass R_Model = some m.cls) (hK : va_K (dC, dI) cls_all (gT LM km) s) (hP : va_P (dC, dI) cls_all (gW LM ad km T) H) (hdg : decode cc pc = .ok (.getfield 108, 3)) (kk : W p l e R s m args below meth c H locs cells slots Q (F0 m (pc + 3) ls (.ref (ad 32) :: rest))) : W p l e R s m args below meth c H locs cells slots Q (F0 m pc ls (.ref (ad 0) :: rest)) := gw_get hx hb hT i_Model hown hK hP 0 44 44 (Nat.le_of_ble_eq_true rfl) rfl rfl (Nat.le_of_ble_eq_true rfl) rfl (gv_a rfl) (hT _ fl_Model_108) (fun _ h9 => h9) hdg kk
theorem laM_31 (hx : p.tables.exec = Jvm.exec) (hb : c.code = cc) (hK : va_K (dC, dI) cls_all (gT LM km) s) (hP : va_P (dC, dI) cls_all (gW LM ad km T) H) {x : Int32} (hin : inb x 4000) (hdg : decode cc pc = .ok (.iaload, 1)) (kk : W p l e R s m args below meth c H locs cells slots Q (F0 m (pc + 1) ls (.int (T.1 44 x.toNatClampNeg) :: rest))) : W p l e R s m args below meth c H locs cells slots Q (F0 m pc ls (.int x :: .ref (ad 32) :: rest)) := gw_iald hx hb hK hP 31 44 4000 32 (Nat.le_of_ble_eq_true rfl) rfl rfl rfl rfl rfl hin hdg kk
theorem saM_31 (hx : p.tables.exec = Jvm.exec) (hb : c.code = cc) (hK : va_K (dC, dI) cls_all (gT LM km) s) (hP : va_P (dC, dI) cls_all (gW LM ad km T) H) (hD : va_D A (gW LM ad km T)) (hS : va_S A H0 H locs) {x : Int32} {v : Int32} (hin : inb x 4000) (hdg : decode cc pc = .ok (.iastore, 1)) (kk : ∀ (T1 : gSt), T1 = sI T 44 x.toNatClampNeg v → ∀ (H1 : Heap) (locs1 : List Loc), va_P (dC, dI) cls_all (gW LM ad km T1) H1 → va_D A (gW LM ad km T1) → va_S A H0 H1 locs1 → W p l e R s m args below meth c H1 locs1 cells slots Q (F0 m (pc + 1) ls rest)) : W p l e R s m args below meth c H locs cells slots Q (F0 m pc ls (.int v :: .int x :: .ref (ad 32) :: rest)) := gw_iast okM hx hb hK hP hD hS 31 44 4000 32 (Nat.le_of_ble_eq_true rfl) rfl rfl rfl rfl rfl hin hdg kk
theorem rd_Model_93 (hx : p.tables.exec = Jvm.exec) (hb : c.code = cc) (hT : ∀ w ∈ lw_good, w.before args s = true) (hown : s.vm.findClass R_Model = some m.cls) (hK : va_K (dC, dI) cls_all (gT LM km) s) (hP : va_P (dC, dI) cls_all (gW LM ad km T) H) (hdg : decode cc pc = .ok (.getfield 93, 3)) (kk : W p l e R s m args below meth c H locs cells slots Q (F0 m (pc + 3) ls (.ref (ad 27) :: rest))) : W p l e R s m args below meth c H locs cells slots Q (F0 m pc ls (.ref (ad 0) :: rest)) := gw_get hx hb hT i_Model hown hK hP 0 39 39 (Nat.le_of_ble_eq_true rfl) rfl rfl (Nat.le_of_ble_eq_true rfl) rfl (gv_a rfl) (hT _ fl_Model_93) (fun _ h9 => h9) hdg kk
theorem laM_26 (hx : p.tables.exec = Jvm.exec) (hb : c.code = cc) (hK : va_K (dC, dI) cls_all (gT LM km) s) (hP : va_P (dC, dI) cls_all (gW LM ad km T) H) {x : Int32} (hin : inb x 4000) (hdg : decode cc pc = .ok (.iaload, 1)) (kk : W p l e R s m args below meth c H locs cells slots Q (F0 m (pc + 1) ls (.int (T.1 39 x.toNatClampNeg) :: rest))) : W p l e R s m args below meth c H locs cells slots Q (F0 m pc ls (.int x :: .ref (ad 27) :: rest)) := gw_iald hx hb hK hP 26 39 4000 27 (Nat.le_of_ble_eq_true rfl) rfl rfl rfl rfl rfl hin hdg kk
theorem saM_26 (hx : p.tables.exec = Jvm.exec) (hb : c.code = cc) (hK : va_K (dC, dI) cls_all (gT LM km) s) (hP : va_P (dC, dI) cls_all (gW LM ad km T) H) (hD : va_D A (gW LM ad km T)) (hS : va_S A H0 H locs) {x : Int32} {v : Int32} (hin : inb x 4000) (hdg : decode cc pc = .ok (.iastore, 1)) (kk : ∀ (T1 : gSt), T1 = sI T 39 x.toNatClampNeg v → ∀ (H1 : Heap) (locs1 : List Loc), va_P (dC, dI) cls_all (gW LM ad km T1) H1 → va_D A (gW LM ad km T1) → va_S A H0 H1 locs1 → W p l e R s m args below meth c H1 locs1 cells slots Q (F0 m (pc + 1) ls rest)) : W p l e R s m args below meth c H locs cells slots Q (F0 m pc ls (.int v :: .int x :: .ref (ad 27) :: rest)) := gw_iast okM hx hb hK hP hD hS 26 39 4000 27 (Nat.le_of_ble_eq_true rfl) rfl rfl rfl rfl rfl hin hdg kk
theorem rd_Model_99 (hx : p.tables.exec = Jvm.exec) (hb : c.code = cc) (hT : ∀ w ∈ lw_good, w.before args s = true) (hown : s.vm.findClass R_Model = some m.cls) (hK : va_K (dC, dI) cls_all (gT LM km) s) (hP : va_P (dC, dI) cls_all (gW LM ad km T) H) (hdg : decode cc pc = .ok (.getfield 99, 3)) (kk : W p l e R s m args below meth c H locs cells slots Q (F0 m (pc + 3) ls (.ref (ad 29) :: rest))) : W p l e R s m args below meth c H locs cells slots Q (F0 m pc ls (.ref (ad 0) :: rest)) := gw_get hx hb hT i_Model hown hK hP 0 41 41 (Nat.le_of_ble_eq_true rfl) rfl rfl (Nat.le_of_ble_eq_true rfl) rfl (gv_a rfl) (hT _ fl_Model_99) (fun _ h9 => h9) hdg kk
theorem laM_28 (hx : p.tables.exec = Jvm.exec) (hb : c.code = cc) (hK : va_K (dC, dI) cls_all (gT LM km) s) (hP : va_P (dC, dI) cls_all (gW LM ad km T) H) {x : Int32} (hin : inb x 4000) (hdg : decode cc pc = .ok (.laload, 1)) (kk : W p l e R s m args below meth c H locs cells slots Q (F0 m (pc + 1) ls (.long (T.2 41 x.toNatClampNeg) :: rest))) : W p l e R s m args below meth c H locs cells slots Q (F0 m pc ls (.int x :: .ref (ad 29) :: rest)) := gw_lald hx hb hK hP 28 41 4000 29 (Nat.le_of_ble_eq_true rfl) rfl rfl rfl rfl rfl hin hdg kk
theorem saM_28 (hx : p.tables.exec = Jvm.exec) (hb : c.code = cc) (hK : va_K (dC, dI) cls_all (gT LM km) s) (hP : va_P (dC, dI) cls_all (gW LM ad km T) H) (hD : va_D A (gW LM ad km T)) (hS : va_S A H0 H locs) {x : Int32} {v : Int64} (hin : inb x 4000) (hdg : decode cc pc = .ok (.lastore, 1)) (kk : ∀ (T1 : gSt), T1 = sJ T 41 x.toNatClampNeg v → ∀ (H1 : Heap) (locs1 : List Loc), va_P (dC, dI) cls_all (gW LM ad km T1) H1 → va_D A (gW LM ad km T1) → va_S A H0 H1 locs1 → W p l e R s m args below meth c H1 locs1 cells slots Q (F0 m (pc + 1) ls rest)) : W p l e R s m args below meth c H locs cells slots Q (F0 m pc ls (.long v :: .int x :: .ref (ad 29) :: rest)) := gw_last okM hx hb hK hP hD hS 28 41 4000 29 (Nat.le_of_ble_eq_true rfl) rfl rfl rfl rfl rfl hin hdg kk
theorem rd_Model_105 (hx : p.tables.exec = Jvm.exec) (hb : c.code = cc) (hT : ∀ w ∈ lw_good, w.before args s = true) (hown : s.vm.findClass R_Model = some m.cls) (hK : va_K (dC, dI) cls_all (gT LM km) s) (hP : va_P (dC, dI) cls_all (gW LM ad km T) H) (hdg : decode cc pc = .ok (.getfield 105, 3)) (kk : W p l e R s m args below meth c H locs cells slots Q (F0 m (pc + 3) ls (.ref (ad 31) :: rest))) : W p l e R s m args below meth c H locs cells slots Q (F0 m pc ls (.ref (ad 0) :: rest)) := gw_get hx hb hT i_Model hown hK hP 0 43 43 (Nat.le_of_ble_eq_true rfl) rfl rfl (Nat.le_of_ble_eq_true rfl) rfl (gv_a rfl) (hT _ fl_Model_105) (fun _ h9 => h9) hdg kk
theorem laM_30 (hx : p.tables.exec = Jvm.exec) (hb : c.code = cc) (hK : va_K (dC, dI) cls_all (gT LM km) s) (hP : va_P (dC, dI) cls_all (gW LM ad km T) H) {x : Int32} (hin : inb x 4000) (hdg : decode cc pc = .ok (.iaload, 1)) (kk : W p l e R s m args below meth c H locs cells slots Q (F0 m (pc + 1) ls (.int (T.1 43 x.toNatClampNeg) :: rest))) : W p l e R s m args below meth c H locs cells slots Q (F0 m pc ls (.int x :: .ref (ad 31) :: rest)) := gw_iald hx hb hK hP 30 43 4000 31 (Nat.le_of_ble_eq_true rfl) rfl rfl rfl rfl rfl hin hdg kk
theorem saM_30 (hx : p.tables.exec = Jvm.exec) (hb : c.code = cc) (hK : va_K (dC, dI) cls_all (gT LM km) s) (hP : va_P (dC, dI) cls_all (gW LM ad km T) H) (hD : va_D A (gW LM ad km T)) (hS : va_S A H0 H locs) {x : Int32} {v : Int32} (hin : inb x 4000) (hdg : decode cc pc = .ok (.iastore, 1)) (kk : ∀ (T1 : gSt), T1 = sI T 43 x.toNatClampNeg v → ∀ (H1 : Heap) (locs1 : List Loc), va_P (dC, dI) cls_all (gW LM ad km T1) H1 → va_D A (gW LM ad km T1) → va_S A H0 H1 locs1 → W p l e R s m args below meth c H1 locs1 cells slots Q (F0 m (pc + 1) ls rest)) : W p l e R s m args below meth c H locs cells slots Q (F0 m pc ls (.int v :: .int x :: .ref (ad 31) :: rest)) := gw_iast okM hx hb hK hP hD hS 30 43 4000 31 (Nat.le_of_ble_eq_true rfl) rfl rfl rfl rfl rfl hin hdg kk
theorem rd_Model_421 (hx : p.tables.exec = Jvm.exec) (hb : c.code = cc) (hT : ∀ w ∈ lw_good, w.before args s = true) (hown : s.vm.findClass R_Model = some m.cls) (hK : va_K (dC, dI) cls_all (gT LM km) s) (hP : va_P (dC, dI) cls_all (gW LM ad km T) H) (hdg : decode cc pc = .ok (.getfield 421, 3)) (kk : W p l e R s m args below meth c H locs cells slots Q (F0 m (pc + 3) ls (.int (T.1 49 0) :: rest))) : W p l e R s m args below meth c H locs cells slots Q (F0 m pc ls (.ref (ad 0) :: rest)) := gw_get hx hb hT i_Model hown hK hP 0 49 49 (Nat.le_of_ble_eq_true rfl) rfl rfl (Nat.le_of_ble_eq_true rfl) rfl (gv_i rfl) (hT _ fl_Model_421) (fun _ h9 => h9) hdg kk
theorem rd_Model_120 (hx : p.tables.exec = Jvm.exec) (hb : c.code = cc) (hT : ∀ w ∈ lw_good, w.before args s = true) (hown : s.vm.findClass R_Model = some m.cls) (hK : va_K (dC, dI) cls_all (gT LM km) s) (hP : va_P (dC, dI) cls_all (gW LM ad km T) H) (hdg : decode cc pc = .ok (.getfield 120, 3)) (kk : W p l e R s m args below meth c H locs cells slots Q (F0 m (pc + 3) ls (.ref (ad 36) :: rest))) : W p l e R s m args below meth c H locs cells slots Q (F0 m pc ls (.ref (ad 0) :: rest)) := gw_get hx hb hT i_Model hown hK hP 0 50 50 (Nat.le_of_ble_eq_true rfl) rfl rfl (Nat.le_of_ble_eq_true rfl) rfl (gv_a rfl) (hT _ fl_Model_120) (fun _ h9 => h9) hdg kk
theorem laM_35 (hx : p.tables.exec = Jvm.exec) (hb : c.code = cc) (hK : va_K (dC, dI) cls_all (gT LM km) s) (hP : va_P (dC, dI) cls_all (gW LM ad km T) H) {x : Int32} (hin : inb x 8200) (hdg : decode cc pc = .ok (.iaload, 1)) (kk : W p l e R s m args below meth c H locs cells slots Q (F0 m (pc + 1) ls (.int (T.1 50 x.toNatClampNeg) :: rest))) : W p l e R s m args below meth c H locs cells slots Q (F0 m pc ls (.int x :: .ref (ad 36) :: rest)) := gw_iald hx hb hK hP 35 50 8200 36 (Nat.le_of_ble_eq_true rfl) rfl rfl rfl rfl rfl hin hdg kk
theorem saM_35 (hx : p.tables.exec = Jvm.exec) (hb : c.code = cc) (hK : va_K (dC, dI) cls_all (gT LM km) s) (hP : va_P (dC, dI) cls_all (gW LM ad km T) H) (hD : va_D A (gW LM ad km T)) (hS : va_S A H0 H locs) {x : Int32} {v : Int32} (hin : inb x 8200) (hdg : decode cc pc = .ok (.iastore, 1)) (kk : ∀ (T1 : gSt), T1 = sI T 50 x.toNatClampNeg v → ∀ (H1 : Heap) (locs1 : List Loc), va_P (dC, dI) cls_all (gW LM ad km T1) H1 → va_D A (gW LM ad km T1) → va_S A H0 H1 locs1 → W p l e R s m args below meth c H1 locs1 cells slots Q (F0 m (pc + 1) ls rest)) : W p l e R s m args below meth c H locs cells slots Q (F0 m pc ls (.int v :: .int x :: .ref (ad 36) :: rest)) := gw_iast okM hx hb hK hP hD hS 35 50 8200 36 (Nat.le_of_ble_eq_true rfl) rfl rfl rfl rfl rfl hin hdg kk
theorem rd_Model_123 (hx : p.tables.exec = Jvm.exec) (hb : c.code = cc) (hT : ∀ w ∈ lw_good, w.before args s = true) (hown : s.vm.findClass R_Model = some m.cls) (hK : va_K (dC, dI) cls_all (gT LM km) s) (hP : va_P (dC, dI) cls_all (gW LM ad km T) H) (hdg : decode cc pc = .ok (.getfield 123, 3)) (kk : W p l e R s m args below meth c H locs cells slots Q (F0 m (pc + 3) ls (.ref (ad 37) :: rest))) : W p l e R s m args below meth c H locs cells slots Q (F0 m pc ls (.ref (ad 0) :: rest)) := gw_get hx hb hT i_Model hown hK hP 0 51 51 (Nat.le_of_ble_eq_true rfl) rfl rfl (Nat.le_of_ble_eq_true rfl) rfl (gv_a rfl) (hT _ fl_Model_123) (fun _ h9 => h9) hdg kk
theorem laM_36 (hx : p.tables.exec = Jvm.exec) (hb : c.code = cc) (hK : va_K (dC, dI) cls_all (gT LM km) s) (hP : va_P (dC, dI) cls_all (gW LM ad km T) H) {x : Int32} (hin : inb x 8200) (hdg : decode cc pc = .ok (.iaload, 1)) (kk : W p l e R s m args below meth c H locs cells slots Q (F0 m (pc + 1) ls (.int (T.1 51 x.toNatClampNeg) :: rest))) : W p l e R s m args below meth c H locs cells slots Q (F0 m pc ls (.int x :: .ref (ad 37) :: rest)) := gw_iald hx hb hK hP 36 51 8200 37 (Nat.le_of_ble_eq_true rfl) rfl rfl rfl rfl rfl hin hdg kk
theorem saM_36 (hx : p.tables.exec = Jvm.exec) (hb : c.code = cc) (hK : va_K (dC, dI) cls_all (gT LM km) s) (hP : va_P (dC, dI) cls_all (gW LM ad km T) H) (hD : va_D A (gW LM ad km T)) (hS : va_S A H0 H locs) {x : Int32} {v : Int32} (hin : inb x 8200) (hdg : decode cc pc = .ok (.iastore, 1)) (kk : ∀ (T1 : gSt), T1 = sI T 51 x.toNatClampNeg v → ∀ (H1 : Heap) (locs1 : List Loc), va_P (dC, dI) cls_all (gW LM ad km T1) H1 → va_D A (gW LM ad km T1) → va_S A H0 H1 locs1 → W p l e R s m args below meth c H1 locs1 cells slots Q (F0 m (pc + 1) ls rest)) : W p l e R s m args below meth c H locs cells slots Q (F0 m pc ls (.int v :: .int x :: .ref (ad 37) :: rest)) := gw_iast okM hx hb hK hP hD hS 36 51 8200 37 (Nat.le_of_ble_eq_true rfl) rfl rfl rfl rfl rfl hin hdg kk
theorem rd_Model_126 (hx : p.tables.exec = Jvm.exec) (hb : c.code = cc) (hT : ∀ w ∈ lw_good, w.before args s = true) (hown : s.vm.findClass R_Model = some m.cls) (hK : va_K (dC, dI) cls_all (gT LM km) s) (hP : va_P (dC, dI) cls_all (gW LM ad km T) H) (hdg : decode cc pc = .ok (.getfield 126, 3)) (kk : W p l e R s m args below meth c H locs cells slots Q (F0 m (pc + 3) ls (.ref (ad 38) :: rest))) : W p l e R s m args below meth c H locs cells slots Q (F0 m pc ls (.ref (ad 0) :: rest)) := gw_get hx hb hT i_Model hown hK hP 0 52 52 (Nat.le_of_ble_eq_true rfl) rfl rfl (Nat.le_of_ble_eq_true rfl) rfl (gv_a rfl) (hT _ fl_Model_126) (fun _ h9 => h9) hdg kk
theorem laM_37 (hx : p.tables.exec = Jvm.exec) (hb : c.code = cc) (hK : va_K (dC, dI) cls_all (gT LM km) s) (hP : va_P (dC, dI) cls_all (gW LM ad km T) H) {x : Int32} (hin : inb x 8200) (hdg : decode cc pc = .ok (.iaload, 1)) (kk : W p l e R s m args below meth c H locs cells slots Q (F0 m (pc + 1) ls (.int (T.1 52 x.toNatClampNeg) :: rest))) : W p l e R s m args below meth c H locs cells slots Q (F0 m pc ls (.int x :: .ref (ad 38) :: rest)) := gw_iald hx hb hK hP 37 52 8200 38 (Nat.le_of_ble_eq_true rfl) rfl rfl rfl rfl rfl hin hdg kk
theorem saM_37 (hx : p.tables.exec = Jvm.exec) (hb : c.code = cc) (hK : va_K (dC, dI) cls_all (gT LM km) s) (hP : va_P (dC, dI) cls_all (gW LM ad km T) H) (hD : va_D A (gW LM ad km T)) (hS : va_S A H0 H locs) {x : Int32} {v : Int32} (hin : inb x 8200) (hdg : decode cc pc = .ok (.iastore, 1)) (kk : ∀ (T1 : gSt), T1 = sI T 52 x.toNatClampNeg v → ∀ (H1 : Heap) (locs1 : List Loc), va_P (dC, dI) cls_all (gW LM ad km T1) H1 → va_D A (gW LM ad km T1) → va_S A H0 H1 locs1 → W p l e R s m args below meth c H1 locs1 cells slots Q (F0 m (pc + 1) ls rest)) : W p l e R s m args below meth c H locs cells slots Q (F0 m pc ls (.int v :: .int x :: .ref (ad 38) :: rest)) := gw_iast okM hx hb hK hP hD hS 37 52 8200 38 (Nat.le_of_ble_eq_true rfl) rfl rfl rfl rfl rfl hin hdg kk
theorem rd_Model_129 (hx : p.tables.exec = Jvm.exec) (hb : c.code = cc) (hT : ∀ w ∈ lw_good, w.before args s = true) (hown : s.vm.findClass R_Model = some m.cls) (hK : va_K (dC, dI) cls_all (gT LM km) s) (hP : va_P (dC, dI) cls_all (gW LM ad km T) H) (hdg : decode cc pc = .ok (.getfield 129, 3)) (kk : W p l e R s m args below meth c H locs cells slots Q (F0 m (pc + 3) ls (.ref (ad 39) :: rest))) : W p l e R s m args below meth c H locs cells slots Q (F0 m pc ls (.ref (ad 0) :: rest)) := gw_get hx hb hT i_Model hown hK hP 0 53 53 (Nat.le_of_ble_eq_true rfl) rfl rfl (Nat.le_of_ble_eq_true rfl) rfl (gv_a rfl) (hT _ fl_Model_129) (fun _ h9 => h9) hdg kk
theorem laM_38 (hx : p.tables.exec = Jvm.exec) (hb : c.code = cc) (hK : va_K (dC, dI) cls_all (gT LM km) s) (hP : va_P (dC, dI) cls_all (gW LM ad km T) H) {x : Int32} (hin : inb x 8200) (hdg : decode cc pc = .ok (.iaload, 1)) (kk : W p l e R s m args below meth c H locs cells slots Q (F0 m (pc + 1) ls (.int (T.1 53 x.toNatClampNeg) :: rest))) : W p l e R s m args below meth c H locs cells slots Q (F0 m pc ls (.int x :: .ref (ad 39) :: rest)) := gw_iald hx hb hK hP 38 53 8200 39 (Nat.le_of_ble_eq_true rfl) rfl rfl rfl rfl rfl hin hdg kk
theorem saM_38 (hx : p.tables.exec = Jvm.exec) (hb : c.code = cc) (hK : va_K (dC, dI) cls_all (gT LM km) s) (hP : va_P (dC, dI) cls_all (gW LM ad km T) H) (hD : va_D A (gW LM ad km T)) (hS : va_S A H0 H locs) {x : Int32} {v : Int32} (hin : inb x 8200) (hdg : decode cc pc = .ok (.iastore, 1)) (kk : ∀ (T1 : gSt), T1 = sI T 53 x.toNatClampNeg v → ∀ (H1 : Heap) (locs1 : List Loc), va_P (dC, dI) cls_all (gW LM ad km T1) H1 → va_D A (gW LM ad km T1) → va_S A H0 H1 locs1 → W p l e R s m args below meth c H1 locs1 cells slots Q (F0 m (pc + 1) ls rest)) : W p l e R s m args below meth c H locs cells slots Q (F0 m pc ls (.int v :: .int x :: .ref (ad 39) :: rest)) := gw_iast okM hx hb hK hP hD hS 38 53 8200 39 (Nat.le_of_ble_eq_true rfl) rfl rfl rfl rfl rfl hin hdg kk
theorem rd_Model_132 (hx : p.tables.exec = Jvm.exec) (hb : c.code = cc) (hT : ∀ w ∈ lw_good, w.before args s = true) (hown : s.vm.findClass R_Model = some m.cls) (hK : va_K (dC, dI) cls_all (gT LM km) s) (hP : va_P (dC, dI) cls_all (gW LM ad km T) H) (hdg : decode cc pc = .ok (.getfield 132, 3)) (kk : W p l e R s m args below meth c H locs cells slots Q (F0 m (pc + 3) ls (.ref (ad 40) :: rest))) : W p l e R s m args below meth c H locs cells slots Q (F0 m pc ls (.ref (ad 0) :: rest)) := gw_get hx hb hT i_Model hown hK hP 0 54 54 (Nat.le_of_ble_eq_true rfl) rfl rfl (Nat.le_of_ble_eq_true rfl) rfl (gv_a rfl) (hT _ fl_Model_132) (fun _ h9 => h9) hdg kk
theorem laM_39 (hx : p.tables.exec = Jvm.exec) (hb : c.code = cc) (hK : va_K (dC, dI) cls_all (gT LM km) s) (hP : va_P (dC, dI) cls_all (gW LM ad km T) H) {x : Int32} (hin : inb x 8200) (hdg : decode cc pc = .ok (.iaload, 1)) (kk : W p l e R s m args below meth c H locs cells slots Q (F0 m (pc + 1) ls (.int (T.1 54 x.toNatClampNeg) :: rest))) : W p l e R s m args below meth c H locs cells slots Q (F0 m pc ls (.int x :: .ref (ad 40) :: rest)) := gw_iald hx hb hK hP 39 54 8200 40 (Nat.le_of_ble_eq_true rfl) rfl rfl rfl rfl rfl hin hdg kk
theorem saM_39 (hx : p.tables.exec = Jvm.exec) (hb : c.code = cc) (hK : va_K (dC, dI) cls_all (gT LM km) s) (hP : va_P (dC, dI) cls_all (gW LM ad km T) H) (hD : va_D A (gW LM ad km T)) (hS : va_S A H0 H locs) {x : Int32} {v : Int32} (hin : inb x 8200) (hdg : decode cc pc = .ok (.iastore, 1)) (kk : ∀ (T1 : gSt), T1 = sI T 54 x.toNatClampNeg v → ∀ (H1 : Heap) (locs1 : List Loc), va_P (dC, dI) cls_all (gW LM ad km T1) H1 → va_D A (gW LM ad km T1) → va_S A H0 H1 locs1 → W p l e R s m args below meth c H1 locs1 cells slots Q (F0 m (pc + 1) ls rest)) : W p l e R s m args below meth c H locs cells slots Q (F0 m pc ls (.int v :: .int x :: .ref (ad 40) :: rest)) := gw_iast okM hx hb hK hP hD hS 39 54 8200 40 (Nat.le_of_ble_eq_true rfl) rfl rfl rfl rfl rfl hin hdg kk
theorem rd_Model_135 (hx : p.tables.exec = Jvm.exec) (hb : c.code = cc) (hT : ∀ w ∈ lw_good, w.before args s = true) (hown : s.vm.findClass R_Model = some m.cls) (hK : va_K (dC, dI) cls_all (gT LM km) s) (hP : va_P (dC, dI) cls_all (gW LM ad km T) H) (hdg : decode cc pc = .ok (.getfield 135, 3)) (kk : W p l e R s m args below meth c H locs cells slots Q (F0 m (pc + 3) ls (.ref (ad 41) :: rest))) : W p l e R s m args below meth c H locs cells slots Q (F0 m pc ls (.ref (ad 0) :: rest)) := gw_get hx hb hT i_Model hown hK hP 0 55 55 (Nat.le_of_ble_eq_true rfl) rfl rfl (Nat.le_of_ble_eq_true rfl) rfl (gv_a rfl) (hT _ fl_Model_135) (fun _ h9 => h9) hdg kk
theorem laM_40 (hx : p.tables.exec = Jvm.exec) (hb : c.code = cc) (hK : va_K (dC, dI) cls_all (gT LM km) s) (hP : va_P (dC, dI) cls_all (gW LM ad km T) H) {x : Int32} (hin : inb x 8200) (hdg : decode cc pc = .ok (.iaload, 1)) (kk : W p l e R s m args below meth c H locs cells slots Q (F0 m (pc + 1) ls (.int (T.1 55 x.toNatClampNeg) :: rest))) : W p l e R s m args below meth c H locs cells slots Q (F0 m pc ls (.int x :: .ref (ad 41) :: rest)) := gw_iald hx hb hK hP 40 55 8200 41 (Nat.le_of_ble_eq_true rfl) rfl rfl rfl rfl rfl hin hdg kk
theorem saM_40 (hx : p.tables.exec = Jvm.exec) (hb : c.code = cc) (hK : va_K (dC, dI) cls_all (gT LM km) s) (hP : va_P (dC, dI) cls_all (gW LM ad km T) H) (hD : va_D A (gW LM ad km T)) (hS : va_S A H0 H locs) {x : Int32} {v : Int32} (hin : inb x 8200) (hdg : decode cc pc = .ok (.iastore, 1)) (kk : ∀ (T1 : gSt), T1 = sI T 55 x.toNatClampNeg v → ∀ (H1 : Heap) (locs1 : List Loc), va_P (dC, dI) cls_all (gW LM ad km T1) H1 → va_D A (gW LM ad km T1) → va_S A H0 H1 locs1 → W p l e R s m args below meth c H1 locs1 cells slots Q (F0 m (pc + 1) ls rest)) : W p l e R s m args below meth c H locs cells slots Q (F0 m pc ls (.int v :: .int x :: .ref (ad 41) :: rest)) := gw_iast okM hx hb hK hP hD hS 40 55 8200 41 (Nat.le_of_ble_eq_true rfl) rfl rfl rfl rfl rfl hin hdg kk
theorem rd_Model_147 (hx : p.tables.exec = Jvm.exec) (hb : c.code = cc) (hT : ∀ w ∈ lw_good, w.before args s = true) (hown : s.vm.findClass R_Model = some m.cls) (hK : va_K (dC, dI) cls_all (gT LM km) s) (hP : va_P (dC, dI) cls_all (gW LM ad km T) H) (hdg : decode cc pc = .ok (.getfield 147, 3)) (kk : W p l e R s m args below meth c H locs cells slots Q (F0 m (pc + 3) ls (.ref (ad 45) :: rest))) : W p l e R s m args below meth c H locs cells slots Q (F0 m pc ls (.ref (ad 0) :: rest)) := gw_get hx hb hT i_Model hown hK hP 0 59 59 (Nat.le_of_ble_eq_true rfl) rfl rfl (Nat.le_of_ble_eq_true rfl) rfl (gv_a rfl) (hT _ fl_Model_147) (fun _ h9 => h9) hdg kk
theorem laM_44 (hx : p.tables.exec = Jvm.exec) (hb : c.code = cc) (hK : va_K (dC, dI) cls_all (gT LM km) s) (hP : va_P (dC, dI) cls_all (gW LM ad km T) H) {x : Int32} (hin : inb x 8200) (hdg : decode cc pc = .ok (.iaload, 1)) (kk : W p l e R s m args below meth c H locs cells slots Q (F0 m (pc + 1) ls (.int (T.1 59 x.toNatClampNeg) :: rest))) : W p l e R s m args below meth c H locs cells slots Q (F0 m pc ls (.int x :: .ref (ad 45) :: rest)) := gw_iald hx hb hK hP 44 59 8200 45 (Nat.le_of_ble_eq_true rfl) rfl rfl rfl rfl rfl hin hdg kk
theorem saM_44 (hx : p.tables.exec = Jvm.exec) (hb : c.code = cc) (hK : va_K (dC, dI) cls_all (gT LM km) s) (hP : va_P (dC, dI) cls_all (gW LM ad km T) H) (hD : va_D A (gW LM ad km T)) (hS : va_S A H0 H locs) {x : Int32} {v : Int32} (hin : inb x 8200) (hdg : decode cc pc = .ok (.iastore, 1)) (kk : ∀ (T1 : gSt), T1 = sI T 59 x.toNatClampNeg v → ∀ (H1 : Heap) (locs1 : List Loc), va_P (dC, dI) cls_all (gW LM ad km T1) H1 → va_D A (gW LM ad km T1) → va_S A H0 H1 locs1 → W p l e R s m args below meth c H1 locs1 cells slots Q (F0 m (pc + 1) ls rest)) : W p l e R s m args below meth c H locs cells slots Q (F0 m pc ls (.int v :: .int x :: .ref (ad 45) :: rest)) := gw_iast okM hx hb hK hP hD hS 44 59 8200 45 (Nat.le_of_ble_eq_true rfl) rfl rfl rfl rfl rfl hin hdg kk
theorem rd_Model_141 (hx : p.tables.exec = Jvm.exec) (hb : c.code = cc) (hT : ∀ w ∈ lw_good, w.before args s = true) (hown : s.vm.findClass R_Model = some m.cls) (hK : va_K (dC, dI) cls_all (gT LM km) s) (hP : va_P (dC, dI) cls_all (gW LM ad km T) H) (hdg : decode cc pc = .ok (.getfield 141, 3)) (kk : W p l e R s m args below meth c H locs cells slots Q (F0 m (pc + 3) ls (.ref (ad 43) :: rest))) : W p l e R s m args below meth c H locs cells slots Q (F0 m pc ls (.ref (ad 0) :: rest)) := gw_get hx hb hT i_Model hown hK hP 0 57 57 (Nat.le_of_ble_eq_true rfl) rfl rfl (Nat.le_of_ble_eq_true rfl) rfl (gv_a rfl) (hT _ fl_Model_141) (fun _ h9 => h9) hdg kk
theorem laM_42 (hx : p.tables.exec = Jvm.exec) (hb : c.code = cc) (hK : va_K (dC, dI) cls_all (gT LM km) s) (hP : va_P (dC, dI) cls_all (gW LM ad km T) H) {x : Int32} (hin : inb x 8200) (hdg : decode cc pc = .ok (.iaload, 1)) (kk : W p l e R s m args below meth c H locs cells slots Q (F0 m (pc + 1) ls (.int (T.1 57 x.toNatClampNeg) :: rest))) : W p l e R s m args below meth c H locs cells slots Q (F0 m pc ls (.int x :: .ref (ad 43) :: rest)) := gw_iald hx hb hK hP 42 57 8200 43 (Nat.le_of_ble_eq_true rfl) rfl rfl rfl rfl rfl hin hdg kk
theorem saM_42 (hx : p.tables.exec = Jvm.exec) (hb : c.code = cc) (hK : va_K (dC, dI) cls_all (gT LM km) s) (hP : va_P (dC, dI) cls_all (gW LM ad km T) H) (hD : va_D A (gW LM ad km T)) (hS : va_S A H0 H locs) {x : Int32} {v : Int32} (hin : inb x 8200) (hdg : decode cc pc = .ok (.iastore, 1)) (kk : ∀ (T1 : gSt), T1 = sI T 57 x.toNatClampNeg v → ∀ (H1 : Heap) (locs1 : List Loc), va_P (dC, dI) cls_all (gW LM ad km T1) H1 → va_D A (gW LM ad km T1) → va_S A H0 H1 locs1 → W p l e R s m args below meth c H1 locs1 cells slots Q (F0 m (pc + 1) ls rest)) : W p l e R s m args below meth c H locs cells slots Q (F0 m pc ls (.int v :: .int x :: .ref (ad 43) :: rest)) := gw_iast okM hx hb hK hP hD hS 42 57 8200 43 (Nat.le_of_ble_eq_true rfl) rfl rfl rfl rfl rfl hin hdg kk
end GV
def mt_Model_four (l : Launch) (dC : Nat → ClassId) (dI : Nat → Nat → Nat) (ea ev ad : Nat → Nat) (km : Nat → ClassId) (F : gF) (d : Nat) : Prop := ∀ (T : gSt) (p1 : Int32) (r : Int32) (rl : Int64) (T' : gSt), F 0 T [p1] [] = some (r, rl, T') → GMv l dC dI LM ad km ea ev y_Model_four w_Model_four (rmD d) [.ref (ad 0), .int p1] T T'
theorem pd_Model_four : (y_Model_four).cls = R_Model ∧ (y_Model_four).cls ≠ "java/lang/invoke/MethodHandle" ∧ (y_Model_four).cls ≠ "java/lang/invoke/VarHandle" ∧ (parseMethodDescriptor (y_Model_four).desc).map (fun d => d.parameters.length) = some 1 := by decide +kernel
def mt_Model_feed (l : Launch) (dC : Nat → ClassId) (dI : Nat → Nat → Nat) (ea ev ad : Nat → Nat) (km : Nat → ClassId) (F : gF) (d : Nat) : Prop := ∀ (T : gSt) (p1 : Int32) (p2 : Int32) (p3 : Int32) (p4 : Int32) (p5 : Int32) (r : Int32) (rl : Int64) (T' : gSt), F 1 T [p1, p2, p3, p4, p5] [] = some (r, rl, T') → GMi l dC dI LM ad km ea ev y_Model_feed w_Model_feed (rmD d) [.ref (ad 0), .int p1, .int p2, .int p3, .int p4, .int p5] T r T'
theorem pd_Model_feed : (y_Model_feed).cls = R_Model ∧ (y_Model_feed).cls ≠ "java/lang/invoke/MethodHandle" ∧ (y_Model_feed).cls ≠ "java/lang/invoke/VarHandle" ∧ (parseMethodDescriptor (y_Model_feed).desc).map (fun d => d.parameters.length) = some 5 := by decide +kernel
def mt_Model_end (l : Launch) (dC : Nat → ClassId) (dI : Nat → Nat → Nat) (ea ev ad : Nat → Nat) (km : Nat → ClassId) (F : gF) (d : Nat) : Prop := ∀ (T : gSt) (p1 : Int32) (r : Int32) (rl : Int64) (T' : gSt), F 2 T [p1] [] = some (r, rl, T') → GMi l dC dI LM ad km ea ev y_Model_end w_Model_end (rmD d) [.ref (ad 0), .int p1] T r T'
theorem pd_Model_end : (y_Model_end).cls = R_Model ∧ (y_Model_end).cls ≠ "java/lang/invoke/MethodHandle" ∧ (y_Model_end).cls ≠ "java/lang/invoke/VarHandle" ∧ (parseMethodDescriptor (y_Model_end).desc).map (fun d => d.parameters.length) = some 1 := by decide +kernel
def mt_Model_see_I (l : Launch) (dC : Nat → ClassId) (dI : Nat → Nat → Nat) (ea ev ad : Nat → Nat) (km : Nat → ClassId) (F : gF) (d : Nat) : Prop := ∀ (T : gSt) (p1 : Int32) (r : Int32) (rl : Int64) (T' : gSt), F 9 T [p1] [] = some (r, rl, T') → GMi l dC dI LM ad km ea ev y_Model_see_I w_Model_see_I (rmD d) [.ref (ad 0), .int p1] T r T'
theorem pd_Model_see_I : (y_Model_see_I).cls = R_Model ∧ (y_Model_see_I).cls ≠ "java/lang/invoke/MethodHandle" ∧ (y_Model_see_I).cls ≠ "java/lang/invoke/VarHandle" ∧ (parseMethodDescriptor (y_Model_see_I).desc).map (fun d => d.parameters.length) = some 1 := by decide +kernel
def mt_Model_fail (l : Launch) (dC : Nat → ClassId) (dI : Nat → Nat → Nat) (ea ev ad : Nat → Nat) (km : Nat → ClassId) (F : gF) (d : Nat) : Prop := ∀ (T : gSt) (p1 : Int32) (p2 : Int32) (r : Int32) (rl : Int64) (T' : gSt), F 13 T [p1, p2] [] = some (r, rl, T') → GMv l dC dI LM ad km ea ev y_Model_fail w_Model_fail (rmD d) [.ref (ad 0), .int p1, .int p2] T T'
theorem pd_Model_fail : (y_Model_fail).cls = R_Model ∧ (y_Model_fail).cls ≠ "java/lang/invoke/MethodHandle" ∧ (y_Model_fail).cls ≠ "java/lang/invoke/VarHandle" ∧ (parseMethodDescriptor (y_Model_fail).desc).map (fun d => d.parameters.length) = some 2 := by decide +kernel
def mt_Model_bad (l : Launch) (dC : Nat → ClassId) (dI : Nat → Nat → Nat) (ea ev ad : Nat → Nat) (km : Nat → ClassId) (F : gF) (d : Nat) : Prop := ∀ (T : gSt)  (r : Int32) (rl : Int64) (T' : gSt), F 14 T [] [] = some (r, rl, T') → GMi l dC dI LM ad km ea ev y_Model_bad w_Model_bad (rmD d) [.ref (ad 0)] T r T'
theorem pd_Model_bad : (y_Model_bad).cls = R_Model ∧ (y_Model_bad).cls ≠ "java/lang/invoke/MethodHandle" ∧ (y_Model_bad).cls ≠ "java/lang/invoke/VarHandle" ∧ (parseMethodDescriptor (y_Model_bad).desc).map (fun d => d.parameters.length) = some 0 := by decide +kernel
def mt_Model_wrong (l : Launch) (dC : Nat → ClassId) (dI : Nat → Nat → Nat) (ea ev ad : Nat → Nat) (km : Nat → ClassId) (F : gF) (d : Nat) : Prop := ∀ (T : gSt)  (r : Int32) (rl : Int64) (T' : gSt), F 15 T [] [] = some (r, rl, T') → GMv l dC dI LM ad km ea ev y_Model_wrong w_Model_wrong (rmD d) [.ref (ad 0)] T T'
theorem pd_Model_wrong : (y_Model_wrong).cls = R_Model ∧ (y_Model_wrong).cls ≠ "java/lang/invoke/MethodHandle" ∧ (y_Model_wrong).cls ≠ "java/lang/invoke/VarHandle" ∧ (parseMethodDescriptor (y_Model_wrong).desc).map (fun d => d.parameters.length) = some 0 := by decide +kernel
def mt_Model_isSign (l : Launch) (dC : Nat → ClassId) (dI : Nat → Nat → Nat) (ea ev ad : Nat → Nat) (km : Nat → ClassId) (F : gF) (d : Nat) : Prop := ∀ (T : gSt) (p1 : Int32) (r : Int32) (rl : Int64) (T' : gSt), F 16 T [p1] [] = some (r, rl, T') → GMi l dC dI LM ad km ea ev y_Model_isSign w_Model_isSign (rmD d) [.ref (ad 0), .int p1] T r T'
theorem pd_Model_isSign : (y_Model_isSign).cls = R_Model ∧ (y_Model_isSign).cls ≠ "java/lang/invoke/MethodHandle" ∧ (y_Model_isSign).cls ≠ "java/lang/invoke/VarHandle" ∧ (parseMethodDescriptor (y_Model_isSign).desc).map (fun d => d.parameters.length) = some 1 := by decide +kernel
def mt_Model_advance (l : Launch) (dC : Nat → ClassId) (dI : Nat → Nat → Nat) (ea ev ad : Nat → Nat) (km : Nat → ClassId) (F : gF) (d : Nat) : Prop := ∀ (T : gSt)  (r : Int32) (rl : Int64) (T' : gSt), F 10 T [] [] = some (r, rl, T') → GMv l dC dI LM ad km ea ev y_Model_advance w_Model_advance (rmD d) [.ref (ad 0)] T T'
theorem pd_Model_advance : (y_Model_advance).cls = R_Model ∧ (y_Model_advance).cls ≠ "java/lang/invoke/MethodHandle" ∧ (y_Model_advance).cls ≠ "java/lang/invoke/VarHandle" ∧ (parseMethodDescriptor (y_Model_advance).desc).map (fun d => d.parameters.length) = some 0 := by decide +kernel
def mt_Model_takes (l : Launch) (dC : Nat → ClassId) (dI : Nat → Nat → Nat) (ea ev ad : Nat → Nat) (km : Nat → ClassId) (F : gF) (d : Nat) : Prop := ∀ (T : gSt) (p1 : Int32) (r : Int32) (rl : Int64) (T' : gSt), F 18 T [p1] [] = some (r, rl, T') → GMi l dC dI LM ad km ea ev y_Model_takes w_Model_takes (rmD d) [.ref (ad 0), .int p1] T r T'
theorem pd_Model_takes : (y_Model_takes).cls = R_Model ∧ (y_Model_takes).cls ≠ "java/lang/invoke/MethodHandle" ∧ (y_Model_takes).cls ≠ "java/lang/invoke/VarHandle" ∧ (parseMethodDescriptor (y_Model_takes).desc).map (fun d => d.parameters.length) = some 1 := by decide +kernel
def mt_Model_isWord (l : Launch) (dC : Nat → ClassId) (dI : Nat → Nat → Nat) (ea ev ad : Nat → Nat) (km : Nat → ClassId) (F : gF) (d : Nat) : Prop := ∀ (T : gSt) (p1 : Nat) (r : Int32) (rl : Int64) (T' : gSt), p1 < 33 → F 17 T [nI p1] [] = some (r, rl, T') → GMi l dC dI LM ad km ea ev y_Model_isWord w_Model_isWord (rmD d) [.ref (ad 0), .ref (ea p1)] T r T'
theorem pd_Model_isWord : (y_Model_isWord).cls = R_Model ∧ (y_Model_isWord).cls ≠ "java/lang/invoke/MethodHandle" ∧ (y_Model_isWord).cls ≠ "java/lang/invoke/VarHandle" ∧ (parseMethodDescriptor (y_Model_isWord).desc).map (fun d => d.parameters.length) = some 1 := by decide +kernel
def mt_Model_takesWord (l : Launch) (dC : Nat → ClassId) (dI : Nat → Nat → Nat) (ea ev ad : Nat → Nat) (km : Nat → ClassId) (F : gF) (d : Nat) : Prop := ∀ (T : gSt) (p1 : Nat) (r : Int32) (rl : Int64) (T' : gSt), p1 < 33 → F 19 T [nI p1] [] = some (r, rl, T') → GMi l dC dI LM ad km ea ev y_Model_takesWord w_Model_takesWord (rmD d) [.ref (ad 0), .ref (ea p1)] T r T'
theorem pd_Model_takesWord : (y_Model_takesWord).cls = R_Model ∧ (y_Model_takesWord).cls ≠ "java/lang/invoke/MethodHandle" ∧ (y_Model_takesWord).cls ≠ "java/lang/invoke/VarHandle" ∧ (parseMethodDescriptor (y_Model_takesWord).desc).map (fun d => d.parameters.length) = some 1 := by decide +kernel
def mt_Model_need (l : Launch) (dC : Nat → ClassId) (dI : Nat → Nat → Nat) (ea ev ad : Nat → Nat) (km : Nat → ClassId) (F : gF) (d : Nat) : Prop := ∀ (T : gSt) (p1 : Int32) (r : Int32) (rl : Int64) (T' : gSt), F 20 T [p1] [] = some (r, rl, T') → GMv l dC dI LM ad km ea ev y_Model_need w_Model_need (rmD d) [.ref (ad 0), .int p1] T T'
theorem pd_Model_need : (y_Model_need).cls = R_Model ∧ (y_Model_need).cls ≠ "java/lang/invoke/MethodHandle" ∧ (y_Model_need).cls ≠ "java/lang/invoke/VarHandle" ∧ (parseMethodDescriptor (y_Model_need).desc).map (fun d => d.parameters.length) = some 1 := by decide +kernel
def mt_Model_needName (l : Launch) (dC : Nat → ClassId) (dI : Nat → Nat → Nat) (ea ev ad : Nat → Nat) (km : Nat → ClassId) (F : gF) (d : Nat) : Prop := ∀ (T : gSt)  (r : Int32) (rl : Int64) (T' : gSt), F 21 T [] [] = some (r, rl, T') → GMl l dC dI LM ad km ea ev y_Model_needName w_Model_needName (rmD d) [.ref (ad 0)] T rl T'
theorem pd_Model_needName : (y_Model_needName).cls = R_Model ∧ (y_Model_needName).cls ≠ "java/lang/invoke/MethodHandle" ∧ (y_Model_needName).cls ≠ "java/lang/invoke/VarHandle" ∧ (parseMethodDescriptor (y_Model_needName).desc).map (fun d => d.parameters.length) = some 0 := by decide +kernel
def mt_Model_needRegion (l : Launch) (dC : Nat → ClassId) (dI : Nat → Nat → Nat) (ea ev ad : Nat → Nat) (km : Nat → ClassId) (F : gF) (d : Nat) : Prop := ∀ (T : gSt)  (r : Int32) (rl : Int64) (T' : gSt), F 22 T [] [] = some (r, rl, T') → GMi l dC dI LM ad km ea ev y_Model_needRegion w_Model_needRegion (rmD d) [.ref (ad 0)] T r T'
theorem pd_Model_needRegion : (y_Model_needRegion).cls = R_Model ∧ (y_Model_needRegion).cls ≠ "java/lang/invoke/MethodHandle" ∧ (y_Model_needRegion).cls ≠ "java/lang/invoke/VarHandle" ∧ (parseMethodDescriptor (y_Model_needRegion).desc).map (fun d => d.parameters.length) = some 0 := by decide +kernel
def mt_Model_readItem (l : Launch) (dC : Nat → ClassId) (dI : Nat → Nat → Nat) (ea ev ad : Nat → Nat) (km : Nat → ClassId) (F : gF) (d : Nat) : Prop := ∀ (T : gSt) (p1 : Int32) (r : Int32) (rl : Int64) (T' : gSt), F 24 T [p1] [] = some (r, rl, T') → GMv l dC dI LM ad km ea ev y_Model_readItem w_Model_readItem (rmD d) [.ref (ad 0), .int p1] T T'
theorem pd_Model_readItem : (y_Model_readItem).cls = R_Model ∧ (y_Model_readItem).cls ≠ "java/lang/invoke/MethodHandle" ∧ (y_Model_readItem).cls ≠ "java/lang/invoke/VarHandle" ∧ (parseMethodDescriptor (y_Model_readItem).desc).map (fun d => d.parameters.length) = some 1 := by decide +kernel
def mt_Model_program_ (l : Launch) (dC : Nat → ClassId) (dI : Nat → Nat → Nat) (ea ev ad : Nat → Nat) (km : Nat → ClassId) (F : gF) (d : Nat) : Prop := ∀ (T : gSt)  (r : Int32) (rl : Int64) (T' : gSt), F 23 T [] [] = some (r, rl, T') → GMv l dC dI LM ad km ea ev y_Model_program_ w_Model_program_ (rmD d) [.ref (ad 0)] T T'
theorem pd_Model_program_ : (y_Model_program_).cls = R_Model ∧ (y_Model_program_).cls ≠ "java/lang/invoke/MethodHandle" ∧ (y_Model_program_).cls ≠ "java/lang/invoke/VarHandle" ∧ (parseMethodDescriptor (y_Model_program_).desc).map (fun d => d.parameters.length) = some 0 := by decide +kernel
def mt_Model_readHead (l : Launch) (dC : Nat → ClassId) (dI : Nat → Nat → Nat) (ea ev ad : Nat → Nat) (km : Nat → ClassId) (F : gF) (d : Nat) : Prop := ∀ (T : gSt)  (r : Int32) (rl : Int64) (T' : gSt), F 26 T [] [] = some (r, rl, T') → GMv l dC dI LM ad km ea ev y_Model_readHead w_Model_readHead (rmD d) [.ref (ad 0)] T T'
theorem pd_Model_readHead : (y_Model_readHead).cls = R_Model ∧ (y_Model_readHead).cls ≠ "java/lang/invoke/MethodHandle" ∧ (y_Model_readHead).cls ≠ "java/lang/invoke/VarHandle" ∧ (parseMethodDescriptor (y_Model_readHead).desc).map (fun d => d.parameters.length) = some 0 := by decide +kernel
def mt_Model_block (l : Launch) (dC : Nat → ClassId) (dI : Nat → Nat → Nat) (ea ev ad : Nat → Nat) (km : Nat → ClassId) (F : gF) (d : Nat) : Prop := ∀ (T : gSt) (p1 : Int32) (r : Int32) (rl : Int64) (T' : gSt), F 31 T [p1] [] = some (r, rl, T') → GMi l dC dI LM ad km ea ev y_Model_block w_Model_block (rmD d) [.ref (ad 0), .int p1] T r T'
theorem pd_Model_block : (y_Model_block).cls = R_Model ∧ (y_Model_block).cls ≠ "java/lang/invoke/MethodHandle" ∧ (y_Model_block).cls ≠ "java/lang/invoke/VarHandle" ∧ (parseMethodDescriptor (y_Model_block).desc).map (fun d => d.parameters.length) = some 1 := by decide +kernel
def mt_Model_readField (l : Launch) (dC : Nat → ClassId) (dI : Nat → Nat → Nat) (ea ev ad : Nat → Nat) (km : Nat → ClassId) (F : gF) (d : Nat) : Prop := ∀ (T : gSt)  (r : Int32) (rl : Int64) (T' : gSt), F 25 T [] [] = some (r, rl, T') → GMv l dC dI LM ad km ea ev y_Model_readField w_Model_readField (rmD d) [.ref (ad 0)] T T'
theorem pd_Model_readField : (y_Model_readField).cls = R_Model ∧ (y_Model_readField).cls ≠ "java/lang/invoke/MethodHandle" ∧ (y_Model_readField).cls ≠ "java/lang/invoke/VarHandle" ∧ (parseMethodDescriptor (y_Model_readField).desc).map (fun d => d.parameters.length) = some 0 := by decide +kernel
def mt_Model_type (l : Launch) (dC : Nat → ClassId) (dI : Nat → Nat → Nat) (ea ev ad : Nat → Nat) (km : Nat → ClassId) (F : gF) (d : Nat) : Prop := ∀ (T : gSt) (p1 : Int32) (r : Int32) (rl : Int64) (T' : gSt), F 28 T [p1] [] = some (r, rl, T') → GMi l dC dI LM ad km ea ev y_Model_type w_Model_type (rmD d) [.ref (ad 0), .int p1] T r T'
theorem pd_Model_type : (y_Model_type).cls = R_Model ∧ (y_Model_type).cls ≠ "java/lang/invoke/MethodHandle" ∧ (y_Model_type).cls ≠ "java/lang/invoke/VarHandle" ∧ (parseMethodDescriptor (y_Model_type).desc).map (fun d => d.parameters.length) = some 1 := by decide +kernel
def mt_Model_readWheres (l : Launch) (dC : Nat → ClassId) (dI : Nat → Nat → Nat) (ea ev ad : Nat → Nat) (km : Nat → ClassId) (F : gF) (d : Nat) : Prop := ∀ (T : gSt)  (r : Int32) (rl : Int64) (T' : gSt), F 27 T [] [] = some (r, rl, T') → GMv l dC dI LM ad km ea ev y_Model_readWheres w_Model_readWheres (rmD d) [.ref (ad 0)] T T'
theorem pd_Model_readWheres : (y_Model_readWheres).cls = R_Model ∧ (y_Model_readWheres).cls ≠ "java/lang/invoke/MethodHandle" ∧ (y_Model_readWheres).cls ≠ "java/lang/invoke/VarHandle" ∧ (parseMethodDescriptor (y_Model_readWheres).desc).map (fun d => d.parameters.length) = some 0 := by decide +kernel
def mt_Model_readUses (l : Launch) (dC : Nat → ClassId) (dI : Nat → Nat → Nat) (ea ev ad : Nat → Nat) (km : Nat → ClassId) (F : gF) (d : Nat) : Prop := ∀ (T : gSt)  (r : Int32) (rl : Int64) (T' : gSt), F 29 T [] [] = some (r, rl, T') → GMi l dC dI LM ad km ea ev y_Model_readUses w_Model_readUses (rmD d) [.ref (ad 0)] T r T'
theorem pd_Model_readUses : (y_Model_readUses).cls = R_Model ∧ (y_Model_readUses).cls ≠ "java/lang/invoke/MethodHandle" ∧ (y_Model_readUses).cls ≠ "java/lang/invoke/VarHandle" ∧ (parseMethodDescriptor (y_Model_readUses).desc).map (fun d => d.parameters.length) = some 0 := by decide +kernel
def mt_Model_node (l : Launch) (dC : Nat → ClassId) (dI : Nat → Nat → Nat) (ea ev ad : Nat → Nat) (km : Nat → ClassId) (F : gF) (d : Nat) : Prop := ∀ (T : gSt) (p1 : Int32) (p2 : Int32) (r : Int32) (rl : Int64) (T' : gSt), F 30 T [p1, p2] [] = some (r, rl, T') → GMi l dC dI LM ad km ea ev y_Model_node w_Model_node (rmD d) [.ref (ad 0), .int p1, .int p2] T r T'
theorem pd_Model_node : (y_Model_node).cls = R_Model ∧ (y_Model_node).cls ≠ "java/lang/invoke/MethodHandle" ∧ (y_Model_node).cls ≠ "java/lang/invoke/VarHandle" ∧ (parseMethodDescriptor (y_Model_node).desc).map (fun d => d.parameters.length) = some 2 := by decide +kernel
def mt_Model_step (l : Launch) (dC : Nat → ClassId) (dI : Nat → Nat → Nat) (ea ev ad : Nat → Nat) (km : Nat → ClassId) (F : gF) (d : Nat) : Prop := ∀ (T : gSt) (p1 : Int32) (r : Int32) (rl : Int64) (T' : gSt), F 32 T [p1] [] = some (r, rl, T') → GMi l dC dI LM ad km ea ev y_Model_step w_Model_step (rmD d) [.ref (ad 0), .int p1] T r T'
theorem pd_Model_step : (y_Model_step).cls = R_Model ∧ (y_Model_step).cls ≠ "java/lang/invoke/MethodHandle" ∧ (y_Model_step).cls ≠ "java/lang/invoke/VarHandle" ∧ (parseMethodDescriptor (y_Model_step).desc).map (fun d => d.parameters.length) = some 1 := by decide +kernel
set_option maxHeartbeats 4000000 in
set_option maxRecDepth 100000 in
theorem sp_Model_four (l : Launch) (dC : Nat → ClassId) (dI : Nat → Nat → Nat) (ea ev ad : Nat → Nat) (km : Nat → ClassId) (F : gF) (nf d : Nat) (T0 : gSt) (p1 : Int32) (r0 : Int32) (rl0 : Int64) (T9 : gSt) (hR : rb_Model_four F nf T0 p1 = some (r0, rl0, T9)) : GMv l dC dI LM ad km ea ev y_Model_four w_Model_four (rmD (d + 1)) [.ref (ad 0), .int p1] T0 T9 := by
  intro sz
  refine Met.ofW (cc := b_Model_four) (maxL := 3) (ret := none) (by decide) rfl ?_
  intro p e s m args below meth c s₁ B hml hv
  obtain ⟨rfl, hsz, hP, hK, hD0, hnw, henv⟩ := hv
  have hx := B.exec
  have hb := B.bytes
  have hr := B.returns
  have hT : ∀ w ∈ lw_good, w.before _ s = true := fun w h => atoms_spec (ws := w_Model_four) B.pre w (List.mem_cons_of_mem _ h)
  have hown : s.vm.findClass R_Model = some m.cls := findClass_of_methodNamed B.named
  subst hsz
  have hD := hD0.self (sz := s.heap.size)
  clear hD0
  generalize hAe : va_A (gW LM ad km T0) s.heap.size = A at hD henv ⊢
  have hA : ∀ q : Nat, s.heap.size ≤ q → A q := fun q h => by rw [← hAe]; exact Or.inr h
  have hS : va_S A s.heap s.heap [] := va_S.rf
  have hl := lv_entry ([.ref (ad 0), .int p1]) (n := 3) (Nat.le_of_ble_eq_true rfl)
  rw [lg_entry_eq]
  generalize (lg_sl ([.ref (ad 0), .int p1]) ++ List.replicate (3 - (lg_sl ([.ref (ad 0), .int p1])).length) Slot.unset).toArray = ls at hl ⊢
  have hl : lv_has ls 3 [(0, .ref (ad 0)), (1, .int p1)] := hl
  obtain ⟨G, hG⟩ : ∃ G : Nat → List (Nat × Value) → List Value → gSt → Prop, G = (fun pc lv stk T => ∀ (H : Heap) (locs : List Loc), va_P (dC, dI) cls_all (gW LM ad km T) H → va_D A (gW LM ad km T) → va_S A s.heap H locs → ∀ (ls : Array Slot), lv_has ls 3 lv → W p l e (headSpec w_Model_four (rmD (d + 1))).room s m ([.ref (ad 0), .int p1] : List Value).toArray below meth c H locs 0 0 (MQ below (va_Qv (fun (_ : Unit) => True) (fun _ t => gPost dC dI LM ad km T9 A t) A) ([.ref (ad 0), .int p1] : List Value).toArray s 0 0 A) (F0 m pc ls stk)) := ⟨_, rfl⟩
  have lb_3 : ∀ (n : Nat) (T : gSt) (x1 : Int32) (x2 : Int32), rl_Model_four_3 F nf n T x1 x2 = some (r0, rl0, T9) → G 3 [(0, .ref (ad 0)), (1, .int x1), (2, .int x2)] [] T := by
    intro n
    induction n with
    | zero => intro T x1 x2 hR; rw [rl_Model_four_3] at hR; cases hR
    | succ n ih =>
      intro T x1 x2 hR; rw [rl_Model_four_3] at hR; rw [hG]; intro H locs hP hD hS ls hl
      refine lv_iload_n hx hb d_Model_four_3 rfl (lv_at hl 2 rfl) ?_
      refine lv_if_lt (tgt := 39) hx hb d_Model_four_4 (by decide) (fun c1 => ?_) (fun c1 => ?_)
      · replace hR := if_p c1 hR
        obtain ⟨-, -, e3⟩ := re_e hR
        subst e3
        exact W.vret hx hb hr (fun t ht hW => ⟨⟨(), rfl, trivial, by rw [ht]; exact hP, va_K.moved hW.alike hK, hD⟩, hS.F ht⟩) hS.2.2 d_Model_four_39
      · replace hR := if_n c1 hR
        refine lv_aload_n hx hb d_Model_four_7 rfl (lv_at hl 0 rfl) ?_
        refine rd_Model_7 hx hb hT hown hK hP d_Model_four_8 ?_
        refine lv_aload_n hx hb d_Model_four_11 rfl (lv_at hl 0 rfl) ?_
        refine rd_Model_313 hx hb hT hown hK hP d_Model_four_12 ?_
        refine lv_iload_n hx hb d_Model_four_15 rfl (lv_at hl 1 rfl) ?_
        refine lv_iload_n hx hb d_Model_four_16 rfl (lv_at hl 2 rfl) ?_
        refine lv_ishr hx hb d_Model_four_17 ?_
        refine lv_sipush (v := 255) hx hb d_Model_four_18 (by decide) ?_
        refine lv_iand hx hb d_Model_four_21 ?_
        replace hR := gd_e hR
        obtain ⟨b2, hR⟩ := hR
        refine saM_0 hx hb hK hP hD hS b2 d_Model_four_22 (fun T2 eT H locs hP hD hS => ?_)
        replace hR := stK_e eT hR
        clear eT
        refine lv_aload_n hx hb d_Model_four_23 rfl (lv_at hl 0 rfl) ?_
        refine lv_dup hx hb d_Model_four_24 rfl ?_
        refine rd_Model_313 hx hb hT hown hK hP d_Model_four_25 ?_
        refine lv_iconst (v := 1) hx hb d_Model_four_28 (by decide) ?_
        refine lv_iadd hx hb d_Model_four_29 ?_
        refine wr_Model_313 hx hb hT hown hK hP hD hS d_Model_four_30 (fun T3 eT H locs hP hD hS => ?_)
        replace hR := stK_e eT hR
        clear eT
        obtain ⟨z4, e4⟩ : ∃ y : Int32, y = x2 + (-8 : Int32) := ⟨_, rfl⟩
        replace hR := vK_e e4 hR
        refine lv_iinc (v := z4) (lv' := [(2, .int z4), (0, .ref (ad 0)), (1, .int x1)]) hx hb d_Model_four_33 hl (k := 2) rfl (by rw [e4]; rfl) (by decide) rfl (fun ls hl => ?_)
        refine lv_goto (tgt := 3) hx hb d_Model_four_36 (by decide) ?_
        have g := ih T3 x1 z4 hR
        rw [hG] at g
        exact g _ _ hP hD hS _ (lv_sub hl [1, 2, 0] rfl)
  unfold rb_Model_four at hR
  refine lv_bipush (v := 24) hx hb d_Model_four_0 (by decide) ?_
  refine lv_istore_n (lv' := [(2, .int (24 : Int32)), (0, .ref (ad 0)), (1, .int p1)]) hx hb d_Model_four_2 rfl hl (by decide) rfl (fun ls hl => ?_)
  have g := lb_3 nf T0 p1 (24 : Int32) hR
  rw [hG] at g
  exact g _ _ hP hD hS _ (lv_sub hl [1, 2, 0] rfl)
set_option maxHeartbeats 4000000 in
set_option maxRecDepth 100000 in
theorem sp_Model_feed (l : Launch) (dC : Nat → ClassId) (dI : Nat → Nat → Nat) (ea ev ad : Nat → Nat) (km : Nat → ClassId) (F : gF) (nf d : Nat) (h_Model_four : mt_Model_four l dC dI ea ev ad km F d) (T0 : gSt) (p1 : Int32) (p2 : Int32) (p3 : Int32) (p4 : Int32) (p5 : Int32) (r0 : Int32) (rl0 : Int64) (T9 : gSt) (hR : rb_Model_feed F nf T0 p1 p2 p3 p4 p5 = some (r0, rl0, T9)) : GMi l dC dI LM ad km ea ev y_Model_feed w_Model_feed (rmD (d + 1)) [.ref (ad 0), .int p1, .int p2, .int p3, .int p4, .int p5] T0 r0 T9 := by
  intro sz
  refine Met.ofW (cc := b_Model_feed) (maxL := 6) (ret := (some .int)) (by decide) rfl ?_
  intro p e s m args below meth c s₁ B hml hv
  obtain ⟨rfl, hsz, hP, hK, hD0, hnw, henv⟩ := hv
  have hx := B.exec
  have hb := B.bytes
  have hr := B.returns
  have hT : ∀ w ∈ lw_good, w.before _ s = true := fun w h => atoms_spec (ws := w_Model_feed) B.pre w (List.mem_cons_of_mem _ h)
  have hown : s.vm.findClass R_Model = some m.cls := findClass_of_methodNamed B.named
  subst hsz
  have hD := hD0.self (sz := s.heap.size)
  clear hD0
  generalize hAe : va_A (gW LM ad km T0) s.heap.size = A at hD henv ⊢
  have hA : ∀ q : Nat, s.heap.size ≤ q → A q := fun q h => by rw [← hAe]; exact Or.inr h
  have hS : va_S A s.heap s.heap [] := va_S.rf
  have hl := lv_entry ([.ref (ad 0), .int p1, .int p2, .int p3, .int p4, .int p5]) (n := 6) (Nat.le_of_ble_eq_true rfl)
  rw [lg_entry_eq]
  generalize (lg_sl ([.ref (ad 0), .int p1, .int p2, .int p3, .int p4, .int p5]) ++ List.replicate (6 - (lg_sl ([.ref (ad 0), .int p1, .int p2, .int p3, .int p4, .int p5])).length) Slot.unset).toArray = ls at hl ⊢
  have hl : lv_has ls 6 [(0, .ref (ad 0)), (1, .int p1), (2, .int p2), (3, .int p3), (4, .int p4), (5, .int p5)] := hl
  unfold rb_Model_feed at hR
  refine lv_aload_n hx hb d_Model_feed_0 rfl (lv_at hl 0 rfl) ?_
  refine rd_Model_313 hx hb hT hown hK hP d_Model_feed_1 ?_
  refine lv_bipush (v := 20) hx hb d_Model_feed_4 (by decide) ?_
  refine lv_iadd hx hb d_Model_feed_6 ?_
  refine lv_sipush (v := 4000) hx hb d_Model_feed_7 (by decide) ?_
  refine lv_icmp_le (tgt := 15) hx hb d_Model_feed_10 (by decide) (fun c1 => ?_) (fun c1 => ?_)
  · replace hR := if_p c1 hR
    refine lv_aload_n hx hb d_Model_feed_15 rfl (lv_at hl 0 rfl) ?_
    refine lv_iload_n hx hb d_Model_feed_16 rfl (lv_at hl 1 rfl) ?_
    replace hR := bi_e hR
    obtain ⟨r2, l2, T2, hc2, hR⟩ := hR
    refine gcV_v (rest := []) ⟨hx, hb, hml, hown, hT⟩ (h_Model_four _ _ _ _ _ hc2) (cwV 1 hT (gV ml_Model_316 im_Model_four se_Model_four ini_Model co_Model_four) rfl rfl rfl pd_Model_four ⟨rm_hi, rm_lo (Nat.le_of_ble_eq_true rfl)⟩) hK hP hD hS hA hnw henv (Nat.le_of_ble_eq_true rfl) rfl rfl hl.1 rfl (Nat.le_of_ble_eq_true rfl) d_Model_feed_17 ⟨Nat.le_refl _, Nat.le_refl _⟩ (fun H locs hP hD hS => ?_)
    clear hc2
    refine lv_aload_n hx hb d_Model_feed_20 rfl (lv_at hl 0 rfl) ?_
    refine lv_iload_n hx hb d_Model_feed_21 rfl (lv_at hl 2 rfl) ?_
    replace hR := bi_e hR
    obtain ⟨r3, l3, T3, hc3, hR⟩ := hR
    refine gcV_v (rest := []) ⟨hx, hb, hml, hown, hT⟩ (h_Model_four _ _ _ _ _ hc3) (cwV 1 hT (gV ml_Model_316 im_Model_four se_Model_four ini_Model co_Model_four) rfl rfl rfl pd_Model_four ⟨rm_hi, rm_lo (Nat.le_of_ble_eq_true rfl)⟩) hK hP hD hS hA hnw henv (Nat.le_of_ble_eq_true rfl) rfl rfl hl.1 rfl (Nat.le_of_ble_eq_true rfl) d_Model_feed_22 ⟨Nat.le_refl _, Nat.le_refl _⟩ (fun H locs hP hD hS => ?_)
    clear hc3
    refine lv_aload_n hx hb d_Model_feed_25 rfl (lv_at hl 0 rfl) ?_
    refine lv_iload_n hx hb d_Model_feed_26 rfl (lv_at hl 3 rfl) ?_
    replace hR := bi_e hR
    obtain ⟨r4, l4, T4, hc4, hR⟩ := hR
    refine gcV_v (rest := []) ⟨hx, hb, hml, hown, hT⟩ (h_Model_four _ _ _ _ _ hc4) (cwV 1 hT (gV ml_Model_316 im_Model_four se_Model_four ini_Model co_Model_four) rfl rfl rfl pd_Model_four ⟨rm_hi, rm_lo (Nat.le_of_ble_eq_true rfl)⟩) hK hP hD hS hA hnw henv (Nat.le_of_ble_eq_true rfl) rfl rfl hl.1 rfl (Nat.le_of_ble_eq_true rfl) d_Model_feed_27 ⟨Nat.le_refl _, Nat.le_refl _⟩ (fun H locs hP hD hS => ?_)
    clear hc4
    refine lv_aload_n hx hb d_Model_feed_30 rfl (lv_at hl 0 rfl) ?_
    refine lv_iload hx hb d_Model_feed_31 (lv_at hl 4 rfl) ?_
    replace hR := bi_e hR
    obtain ⟨r5, l5, T5, hc5, hR⟩ := hR
    refine gcV_v (rest := []) ⟨hx, hb, hml, hown, hT⟩ (h_Model_four _ _ _ _ _ hc5) (cwV 1 hT (gV ml_Model_316 im_Model_four se_Model_four ini_Model co_Model_four) rfl rfl rfl pd_Model_four ⟨rm_hi, rm_lo (Nat.le_of_ble_eq_true rfl)⟩) hK hP hD hS hA hnw henv (Nat.le_of_ble_eq_true rfl) rfl rfl hl.1 rfl (Nat.le_of_ble_eq_true rfl) d_Model_feed_33 ⟨Nat.le_refl _, Nat.le_refl _⟩ (fun H locs hP hD hS => ?_)
    clear hc5
    refine lv_aload_n hx hb d_Model_feed_36 rfl (lv_at hl 0 rfl) ?_
    refine lv_iload hx hb d_Model_feed_37 (lv_at hl 5 rfl) ?_
    replace hR := bi_e hR
    obtain ⟨r6, l6, T6, hc6, hR⟩ := hR
    refine gcV_v (rest := []) ⟨hx, hb, hml, hown, hT⟩ (h_Model_four _ _ _ _ _ hc6) (cwV 1 hT (gV ml_Model_316 im_Model_four se_Model_four ini_Model co_Model_four) rfl rfl rfl pd_Model_four ⟨rm_hi, rm_lo (Nat.le_of_ble_eq_true rfl)⟩) hK hP hD hS hA hnw henv (Nat.le_of_ble_eq_true rfl) rfl rfl hl.1 rfl (Nat.le_of_ble_eq_true rfl) d_Model_feed_39 ⟨Nat.le_refl _, Nat.le_refl _⟩ (fun H locs hP hD hS => ?_)
    clear hc6
    refine lv_aload_n hx hb d_Model_feed_42 rfl (lv_at hl 0 rfl) ?_
    refine rd_Model_313 hx hb hT hown hK hP d_Model_feed_43 ?_
    obtain ⟨e1, -, e3⟩ := re_e hR
    subst e1; subst e3
    exact W.iret (v := T6.1 1 0) hx hb hr (fun t ht hW => ⟨⟨T6.1 1 0, (), rfl, rfl, by rw [ht]; exact hP, va_K.moved hW.alike hK, hD⟩, hS.F ht⟩) hS.2.2 d_Model_feed_46
  · replace hR := if_n c1 hR
    refine lv_iconst (v := (-1)) hx hb d_Model_feed_13 (by decide) ?_
    obtain ⟨e1, -, e3⟩ := re_e hR
    subst e1; subst e3
    exact W.iret (v := (-1 : Int32)) hx hb hr (fun t ht hW => ⟨⟨(-1 : Int32), (), rfl, rfl, by rw [ht]; exact hP, va_K.moved hW.alike hK, hD⟩, hS.F ht⟩) hS.2.2 d_Model_feed_14
set_option maxHeartbeats 4000000 in
set_option maxRecDepth 100000 in
theorem sp_Model_end (l : Launch) (dC : Nat → ClassId) (dI : Nat → Nat → Nat) (ea ev ad : Nat → Nat) (km : Nat → ClassId) (F : gF) (nf d : Nat) (T0 : gSt) (p1 : Int32) (r0 : Int32) (rl0 : Int64) (T9 : gSt) (hR : rb_Model_end F nf T0 p1 = some (r0, rl0, T9)) : GMi l dC dI LM ad km ea ev y_Model_end w_Model_end (rmD (d + 1)) [.ref (ad 0), .int p1] T0 r0 T9 := by
  intro sz
  refine Met.ofW (cc := b_Model_end) (maxL := 2) (ret := (some .int)) (by decide) rfl ?_
  intro p e s m args below meth c s₁ B hml hv
  obtain ⟨rfl, hsz, hP, hK, hD0, hnw, henv⟩ := hv
  have hx := B.exec
  have hb := B.bytes
  have hr := B.returns
  have hT : ∀ w ∈ lw_good, w.before _ s = true := fun w h => atoms_spec (ws := w_Model_end) B.pre w (List.mem_cons_of_mem _ h)
  have hown : s.vm.findClass R_Model = some m.cls := findClass_of_methodNamed B.named
  subst hsz
  have hD := hD0.self (sz := s.heap.size)
  clear hD0
  generalize hAe : va_A (gW LM ad km T0) s.heap.size = A at hD henv ⊢
  have hA : ∀ q : Nat, s.heap.size ≤ q → A q := fun q h => by rw [← hAe]; exact Or.inr h
  have hS : va_S A s.heap s.heap [] := va_S.rf
  have hl := lv_entry ([.ref (ad 0), .int p1]) (n := 2) (Nat.le_of_ble_eq_true rfl)
  rw [lg_entry_eq]
  generalize (lg_sl ([.ref (ad 0), .int p1]) ++ List.replicate (2 - (lg_sl ([.ref (ad 0), .int p1])).length) Slot.unset).toArray = ls at hl ⊢
  have hl : lv_has ls 2 [(0, .ref (ad 0)), (1, .int p1)] := hl
  unfold rb_Model_end at hR
  refine lv_iload_n hx hb d_Model_end_0 rfl (lv_at hl 1 rfl) ?_
  refine lv_if_lt (tgt := 12) hx hb d_Model_end_1 (by decide) (fun c1 => ?_) (fun c1 => ?_)
  · replace hR := if_p c1 hR
    refine lv_iconst (v := (-1)) hx hb d_Model_end_12 (by decide) ?_
    obtain ⟨e1, -, e3⟩ := re_e hR
    subst e1; subst e3
    exact W.iret (v := (-1 : Int32)) hx hb hr (fun t ht hW => ⟨⟨(-1 : Int32), (), rfl, rfl, by rw [ht]; exact hP, va_K.moved hW.alike hK, hD⟩, hS.F ht⟩) hS.2.2 d_Model_end_13
  · replace hR := if_n c1 hR
    refine lv_iload_n hx hb d_Model_end_4 rfl (lv_at hl 1 rfl) ?_
    refine lv_aload_n hx hb d_Model_end_5 rfl (lv_at hl 0 rfl) ?_
    refine rd_Model_313 hx hb hT hown hK hP d_Model_end_6 ?_
    refine lv_icmp_le (tgt := 14) hx hb d_Model_end_9 (by decide) (fun c3 => ?_) (fun c3 => ?_)
    · replace hR := if_p c3 hR
      refine lv_aload_n hx hb d_Model_end_14 rfl (lv_at hl 0 rfl) ?_
      refine lv_iload_n hx hb d_Model_end_15 rfl (lv_at hl 1 rfl) ?_
      refine wr_Model_313 hx hb hT hown hK hP hD hS d_Model_end_16 (fun T4 eT H locs hP hD hS => ?_)
      replace hR := stK_e eT hR
      clear eT
      refine lv_iload_n hx hb d_Model_end_19 rfl (lv_at hl 1 rfl) ?_
      obtain ⟨e1, -, e3⟩ := re_e hR
      subst e1; subst e3
      exact W.iret (v := p1) hx hb hr (fun t ht hW => ⟨⟨p1, (), rfl, rfl, by rw [ht]; exact hP, va_K.moved hW.alike hK, hD⟩, hS.F ht⟩) hS.2.2 d_Model_end_20
    · replace hR := if_n c3 hR
      refine lv_iconst (v := (-1)) hx hb d_Model_end_12 (by decide) ?_
      obtain ⟨e1, -, e3⟩ := re_e hR
      subst e1; subst e3
      exact W.iret (v := (-1 : Int32)) hx hb hr (fun t ht hW => ⟨⟨(-1 : Int32), (), rfl, rfl, by rw [ht]; exact hP, va_K.moved hW.alike hK, hD⟩, hS.F ht⟩) hS.2.2 d_Model_end_13
set_option maxHeartbeats 4000000 in
set_option maxRecDepth 100000 in
theorem sp_Model_see_I (l : Launch) (dC : Nat → ClassId) (dI : Nat → Nat → Nat) (ea ev ad : Nat → Nat) (km : Nat → ClassId) (F : gF) (nf d : Nat) (T0 : gSt) (p1 : Int32) (r0 : Int32) (rl0 : Int64) (T9 : gSt) (hR : rb_Model_see_I F nf T0 p1 = some (r0, rl0, T9)) : GMi l dC dI LM ad km ea ev y_Model_see_I w_Model_see_I (rmD (d + 1)) [.ref (ad 0), .int p1] T0 r0 T9 := by
  intro sz
  refine Met.ofW (cc := b_Model_see_I) (maxL := 2) (ret := (some .int)) (by decide) rfl ?_
  intro p e s m args below meth c s₁ B hml hv
  obtain ⟨rfl, hsz, hP, hK, hD0, hnw, henv⟩ := hv
  have hx := B.exec
  have hb := B.bytes
  have hr := B.returns
  have hT : ∀ w ∈ lw_good, w.before _ s = true := fun w h => atoms_spec (ws := w_Model_see_I) B.pre w (List.mem_cons_of_mem _ h)
  have hown : s.vm.findClass R_Model = some m.cls := findClass_of_methodNamed B.named
  subst hsz
  have hD := hD0.self (sz := s.heap.size)
  clear hD0
  generalize hAe : va_A (gW LM ad km T0) s.heap.size = A at hD henv ⊢
  have hA : ∀ q : Nat, s.heap.size ≤ q → A q := fun q h => by rw [← hAe]; exact Or.inr h
  have hS : va_S A s.heap s.heap [] := va_S.rf
  have hl := lv_entry ([.ref (ad 0), .int p1]) (n := 2) (Nat.le_of_ble_eq_true rfl)
  rw [lg_entry_eq]
  generalize (lg_sl ([.ref (ad 0), .int p1]) ++ List.replicate (2 - (lg_sl ([.ref (ad 0), .int p1])).length) Slot.unset).toArray = ls at hl ⊢
  have hl : lv_has ls 2 [(0, .ref (ad 0)), (1, .int p1)] := hl
  unfold rb_Model_see_I at hR
  refine lv_iload_n hx hb d_Model_see_I_0 rfl (lv_at hl 1 rfl) ?_
  refine lv_aload_n hx hb d_Model_see_I_1 rfl (lv_at hl 0 rfl) ?_
  refine rd_Model_313 hx hb hT hown hK hP d_Model_see_I_2 ?_
  refine lv_icmp_ge (tgt := 17) hx hb d_Model_see_I_5 (by decide) (fun c1 => ?_) (fun c1 => ?_)
  · replace hR := if_p c1 hR
    refine lv_iconst (v := (-1)) hx hb d_Model_see_I_17 (by decide) ?_
    obtain ⟨e1, -, e3⟩ := re_e hR
    subst e1; subst e3
    exact W.iret (v := (-1 : Int32)) hx hb hr (fun t ht hW => ⟨⟨(-1 : Int32), (), rfl, rfl, by rw [ht]; exact hP, va_K.moved hW.alike hK, hD⟩, hS.F ht⟩) hS.2.2 d_Model_see_I_18
  · replace hR := if_n c1 hR
    refine lv_aload_n hx hb d_Model_see_I_8 rfl (lv_at hl 0 rfl) ?_
    refine rd_Model_7 hx hb hT hown hK hP d_Model_see_I_9 ?_
    refine lv_iload_n hx hb d_Model_see_I_12 rfl (lv_at hl 1 rfl) ?_
    replace hR := gd_e hR
    obtain ⟨b3, hR⟩ := hR
    refine laM_0 hx hb hK hP b3 d_Model_see_I_13 ?_
    refine lv_goto (tgt := 18) hx hb d_Model_see_I_14 (by decide) ?_
    obtain ⟨e1, -, e3⟩ := re_e hR
    subst e1; subst e3
    exact W.iret (v := T0.1 0 p1.toNatClampNeg) hx hb hr (fun t ht hW => ⟨⟨T0.1 0 p1.toNatClampNeg, (), rfl, rfl, by rw [ht]; exact hP, va_K.moved hW.alike hK, hD⟩, hS.F ht⟩) hS.2.2 d_Model_see_I_18
set_option maxHeartbeats 4000000 in
set_option maxRecDepth 100000 in
theorem sp_Model_fail (l : Launch) (dC : Nat → ClassId) (dI : Nat → Nat → Nat) (ea ev ad : Nat → Nat) (km : Nat → ClassId) (F : gF) (nf d : Nat) (T0 : gSt) (p1 : Int32) (p2 : Int32) (r0 : Int32) (rl0 : Int64) (T9 : gSt) (hR : rb_Model_fail F nf T0 p1 p2 = some (r0, rl0, T9)) : GMv l dC dI LM ad km ea ev y_Model_fail w_Model_fail (rmD (d + 1)) [.ref (ad 0), .int p1, .int p2] T0 T9 := by
  intro sz
  refine Met.ofW (cc := b_Model_fail) (maxL := 3) (ret := none) (by decide) rfl ?_
  intro p e s m args below meth c s₁ B hml hv
  obtain ⟨rfl, hsz, hP, hK, hD0, hnw, henv⟩ := hv
  have hx := B.exec
  have hb := B.bytes
  have hr := B.returns
  have hT : ∀ w ∈ lw_good, w.before _ s = true := fun w h => atoms_spec (ws := w_Model_fail) B.pre w (List.mem_cons_of_mem _ h)
  have hown : s.vm.findClass R_Model = some m.cls := findClass_of_methodNamed B.named
  subst hsz
  have hD := hD0.self (sz := s.heap.size)
  clear hD0
  generalize hAe : va_A (gW LM ad km T0) s.heap.size = A at hD henv ⊢
  have hA : ∀ q : Nat, s.heap.size ≤ q → A q := fun q h => by rw [← hAe]; exact Or.inr h
  have hS : va_S A s.heap s.heap [] := va_S.rf
  have hl := lv_entry ([.ref (ad 0), .int p1, .int p2]) (n := 3) (Nat.le_of_ble_eq_true rfl)
  rw [lg_entry_eq]
  generalize (lg_sl ([.ref (ad 0), .int p1, .int p2]) ++ List.replicate (3 - (lg_sl ([.ref (ad 0), .int p1, .int p2])).length) Slot.unset).toArray = ls at hl ⊢
  have hl : lv_has ls 3 [(0, .ref (ad 0)), (1, .int p1), (2, .int p2)] := hl
  unfold rb_Model_fail at hR
  refine lv_aload_n hx hb d_Model_fail_0 rfl (lv_at hl 0 rfl) ?_
  refine rd_Model_378 hx hb hT hown hK hP d_Model_fail_1 ?_
  refine lv_if_eq (tgt := 8) hx hb d_Model_fail_4 (by decide) (fun c1 => ?_) (fun c1 => ?_)
  · replace hR := if_p c1 hR
    refine lv_aload_n hx hb d_Model_fail_8 rfl (lv_at hl 0 rfl) ?_
    refine lv_iload_n hx hb d_Model_fail_9 rfl (lv_at hl 1 rfl) ?_
    refine wr_Model_378 hx hb hT hown hK hP hD hS d_Model_fail_10 (fun T2 eT H locs hP hD hS => ?_)
    replace hR := stK_e eT hR
    clear eT
    refine lv_aload_n hx hb d_Model_fail_13 rfl (lv_at hl 0 rfl) ?_
    refine lv_iload_n hx hb d_Model_fail_14 rfl (lv_at hl 2 rfl) ?_
    refine wr_Model_13 hx hb hT hown hK hP hD hS d_Model_fail_15 (fun T3 eT H locs hP hD hS => ?_)
    replace hR := stK_e eT hR
    clear eT
    obtain ⟨-, -, e3⟩ := re_e hR
    subst e3
    exact W.vret hx hb hr (fun t ht hW => ⟨⟨(), rfl, trivial, by rw [ht]; exact hP, va_K.moved hW.alike hK, hD⟩, hS.F ht⟩) hS.2.2 d_Model_fail_18
  · replace hR := if_n c1 hR
    obtain ⟨-, -, e3⟩ := re_e hR
    subst e3
    exact W.vret hx hb hr (fun t ht hW => ⟨⟨(), rfl, trivial, by rw [ht]; exact hP, va_K.moved hW.alike hK, hD⟩, hS.F ht⟩) hS.2.2 d_Model_fail_7
set_option maxHeartbeats 4000000 in
set_option maxRecDepth 100000 in
theorem sp_Model_bad (l : Launch) (dC : Nat → ClassId) (dI : Nat → Nat → Nat) (ea ev ad : Nat → Nat) (km : Nat → ClassId) (F : gF) (nf d : Nat) (T0 : gSt) (r0 : Int32) (rl0 : Int64) (T9 : gSt) (hR : rb_Model_bad F nf T0 = some (r0, rl0, T9)) : GMi l dC dI LM ad km ea ev y_Model_bad w_Model_bad (rmD (d + 1)) [.ref (ad 0)] T0 r0 T9 := by
  intro sz
  refine Met.ofW (cc := b_Model_bad) (maxL := 1) (ret := (some .boolean)) (by decide) rfl ?_
  intro p e s m args below meth c s₁ B hml hv
  obtain ⟨rfl, hsz, hP, hK, hD0, hnw, henv⟩ := hv
  have hx := B.exec
  have hb := B.bytes
  have hr := B.returns
  have hT : ∀ w ∈ lw_good, w.before _ s = true := fun w h => atoms_spec (ws := w_Model_bad) B.pre w (List.mem_cons_of_mem _ h)
  have hown : s.vm.findClass R_Model = some m.cls := findClass_of_methodNamed B.named
  subst hsz
  have hD := hD0.self (sz := s.heap.size)
  clear hD0
  generalize hAe : va_A (gW LM ad km T0) s.heap.size = A at hD henv ⊢
  have hA : ∀ q : Nat, s.heap.size ≤ q → A q := fun q h => by rw [← hAe]; exact Or.inr h
  have hS : va_S A s.heap s.heap [] := va_S.rf
  have hl := lv_entry ([.ref (ad 0)]) (n := 1) (Nat.le_of_ble_eq_true rfl)
  rw [lg_entry_eq]
  generalize (lg_sl ([.ref (ad 0)]) ++ List.replicate (1 - (lg_sl ([.ref (ad 0)])).length) Slot.unset).toArray = ls at hl ⊢
  have hl : lv_has ls 1 [(0, .ref (ad 0))] := hl
  unfold rb_Model_bad at hR
  refine lv_aload_n hx hb d_Model_bad_0 rfl (lv_at hl 0 rfl) ?_
  refine rd_Model_378 hx hb hT hown hK hP d_Model_bad_1 ?_
  refine lv_if_eq (tgt := 11) hx hb d_Model_bad_4 (by decide) (fun c1 => ?_) (fun c1 => ?_)
  · replace hR := if_p c1 hR
    refine lv_iconst (v := 0) hx hb d_Model_bad_11 (by decide) ?_
    obtain ⟨e1, -, e3⟩ := re_e hR
    subst e1; subst e3
    exact W.zret (v := (0 : Int32)) hx hb hr (by first | rfl | decide) (fun t ht hW => ⟨⟨(0 : Int32), (), rfl, rfl, by rw [ht]; exact hP, va_K.moved hW.alike hK, hD⟩, hS.F ht⟩) hS.2.2 d_Model_bad_12
  · replace hR := if_n c1 hR
    refine lv_iconst (v := 1) hx hb d_Model_bad_7 (by decide) ?_
    refine lv_goto (tgt := 12) hx hb d_Model_bad_8 (by decide) ?_
    obtain ⟨e1, -, e3⟩ := re_e hR
    subst e1; subst e3
    exact W.zret (v := (1 : Int32)) hx hb hr (by first | rfl | decide) (fun t ht hW => ⟨⟨(1 : Int32), (), rfl, rfl, by rw [ht]; exact hP, va_K.moved hW.alike hK, hD⟩, hS.F ht⟩) hS.2.2 d_Model_bad_12
set_option maxHeartbeats 4000000 in
set_option maxRecDepth 100000 in
theorem sp_Model_wrong (l : Launch) (dC : Nat → ClassId) (dI : Nat → Nat → Nat) (ea ev ad : Nat → Nat) (km : Nat → ClassId) (F : gF) (nf d : Nat) (h_Model_fail : mt_Model_fail l dC dI ea ev ad km F d) (T0 : gSt) (r0 : Int32) (rl0 : Int64) (T9 : gSt) (hR : rb_Model_wrong F nf T0 = some (r0, rl0, T9)) : GMv l dC dI LM ad km ea ev y_Model_wrong w_Model_wrong (rmD (d + 1)) [.ref (ad 0)] T0 T9 := by
  intro sz
  refine Met.ofW (cc := b_Model_wrong) (maxL := 1) (ret := none) (by decide) rfl ?_
  intro p e s m args below meth c s₁ B hml hv
  obtain ⟨rfl, hsz, hP, hK, hD0, hnw, henv⟩ := hv
  have hx := B.exec
  have hb := B.bytes
  have hr := B.returns
  have hT : ∀ w ∈ lw_good, w.before _ s = true := fun w h => atoms_spec (ws := w_Model_wrong) B.pre w (List.mem_cons_of_mem _ h)
  have hown : s.vm.findClass R_Model = some m.cls := findClass_of_methodNamed B.named
  subst hsz
  have hD := hD0.self (sz := s.heap.size)
  clear hD0
  generalize hAe : va_A (gW LM ad km T0) s.heap.size = A at hD henv ⊢
  have hA : ∀ q : Nat, s.heap.size ≤ q → A q := fun q h => by rw [← hAe]; exact Or.inr h
  have hS : va_S A s.heap s.heap [] := va_S.rf
  have hl := lv_entry ([.ref (ad 0)]) (n := 1) (Nat.le_of_ble_eq_true rfl)
  rw [lg_entry_eq]
  generalize (lg_sl ([.ref (ad 0)]) ++ List.replicate (1 - (lg_sl ([.ref (ad 0)])).length) Slot.unset).toArray = ls at hl ⊢
  have hl : lv_has ls 1 [(0, .ref (ad 0))] := hl
  unfold rb_Model_wrong at hR
  refine lv_aload_n hx hb d_Model_wrong_0 rfl (lv_at hl 0 rfl) ?_
  refine lv_iconst (v := 1) hx hb d_Model_wrong_1 (by decide) ?_
  refine lv_aload_n hx hb d_Model_wrong_2 rfl (lv_at hl 0 rfl) ?_
  refine rd_Model_349 hx hb hT hown hK hP d_Model_wrong_3 ?_
  replace hR := bi_e hR
  obtain ⟨r1, l1, T1, hc1, hR⟩ := hR
  refine gcV_v (rest := []) ⟨hx, hb, hml, hown, hT⟩ (h_Model_fail _ _ _ _ _ _ hc1) (cwV 2 hT (gV ml_Model_381 im_Model_fail se_Model_fail ini_Model co_Model_fail) rfl rfl rfl pd_Model_fail ⟨rm_hi, rm_lo (Nat.le_of_ble_eq_true rfl)⟩) hK hP hD hS hA hnw henv (Nat.le_of_ble_eq_true rfl) rfl rfl hl.1 rfl (Nat.le_of_ble_eq_true rfl) d_Model_wrong_6 ⟨Nat.le_refl _, Nat.le_refl _⟩ (fun H locs hP hD hS => ?_)
  clear hc1
  obtain ⟨-, -, e3⟩ := re_e hR
  subst e3
  exact W.vret hx hb hr (fun t ht hW => ⟨⟨(), rfl, trivial, by rw [ht]; exact hP, va_K.moved hW.alike hK, hD⟩, hS.F ht⟩) hS.2.2 d_Model_wrong_9
set_option maxHeartbeats 4000000 in
set_option maxRecDepth 100000 in
theorem sp_Model_isSign (l : Launch) (dC : Nat → ClassId) (dI : Nat → Nat → Nat) (ea ev ad : Nat → Nat) (km : Nat → ClassId) (F : gF) (nf d : Nat) (h_Model_bad : mt_Model_bad l dC dI ea ev ad km F d) (T0 : gSt) (p1 : Int32) (r0 : Int32) (rl0 : Int64) (T9 : gSt) (hR : rb_Model_isSign F nf T0 p1 = some (r0, rl0, T9)) : GMi l dC dI LM ad km ea ev y_Model_isSign w_Model_isSign (rmD (d + 1)) [.ref (ad 0), .int p1] T0 r0 T9 := by
  intro sz
  refine Met.ofW (cc := b_Model_isSign) (maxL := 2) (ret := (some .boolean)) (by decide) rfl ?_
  intro p e s m args below meth c s₁ B hml hv
  obtain ⟨rfl, hsz, hP, hK, hD0, hnw, henv⟩ := hv
  have hx := B.exec
  have hb := B.bytes
  have hr := B.returns
  have hT : ∀ w ∈ lw_good, w.before _ s = true := fun w h => atoms_spec (ws := w_Model_isSign) B.pre w (List.mem_cons_of_mem _ h)
  have hown : s.vm.findClass R_Model = some m.cls := findClass_of_methodNamed B.named
  subst hsz
  have hD := hD0.self (sz := s.heap.size)
  clear hD0
  generalize hAe : va_A (gW LM ad km T0) s.heap.size = A at hD henv ⊢
  have hA : ∀ q : Nat, s.heap.size ≤ q → A q := fun q h => by rw [← hAe]; exact Or.inr h
  have hS : va_S A s.heap s.heap [] := va_S.rf
  have hl := lv_entry ([.ref (ad 0), .int p1]) (n := 2) (Nat.le_of_ble_eq_true rfl)
  rw [lg_entry_eq]
  generalize (lg_sl ([.ref (ad 0), .int p1]) ++ List.replicate (2 - (lg_sl ([.ref (ad 0), .int p1])).length) Slot.unset).toArray = ls at hl ⊢
  have hl : lv_has ls 2 [(0, .ref (ad 0)), (1, .int p1)] := hl
  unfold rb_Model_isSign at hR
  refine lv_aload_n hx hb d_Model_isSign_0 rfl (lv_at hl 0 rfl) ?_
  refine rd_Model_352 hx hb hT hown hK hP d_Model_isSign_1 ?_
  refine lv_bipush (v := 6) hx hb d_Model_isSign_4 (by decide) ?_
  refine lv_icmp_ne (tgt := 28) hx hb d_Model_isSign_6 (by decide) (fun c1 => ?_) (fun c1 => ?_)
  · replace hR := if_n c1 hR
    refine lv_iconst (v := 0) hx hb d_Model_isSign_28 (by decide) ?_
    obtain ⟨e1, -, e3⟩ := re_e hR
    subst e1; subst e3
    exact W.zret (v := (0 : Int32)) hx hb hr (by first | rfl | decide) (fun t ht hW => ⟨⟨(0 : Int32), (), rfl, rfl, by rw [ht]; exact hP, va_K.moved hW.alike hK, hD⟩, hS.F ht⟩) hS.2.2 d_Model_isSign_29
  · replace hR := if_p c1 hR
    refine lv_aload_n hx hb d_Model_isSign_9 rfl (lv_at hl 0 rfl) ?_
    refine rd_Model_369 hx hb hT hown hK hP d_Model_isSign_10 ?_
    refine lv_iload_n hx hb d_Model_isSign_13 rfl (lv_at hl 1 rfl) ?_
    refine lv_icmp_ne (tgt := 28) hx hb d_Model_isSign_14 (by decide) (fun c3 => ?_) (fun c3 => ?_)
    · replace hR := if_n c3 hR
      refine lv_iconst (v := 0) hx hb d_Model_isSign_28 (by decide) ?_
      obtain ⟨e1, -, e3⟩ := re_e hR
      subst e1; subst e3
      exact W.zret (v := (0 : Int32)) hx hb hr (by first | rfl | decide) (fun t ht hW => ⟨⟨(0 : Int32), (), rfl, rfl, by rw [ht]; exact hP, va_K.moved hW.alike hK, hD⟩, hS.F ht⟩) hS.2.2 d_Model_isSign_29
    · replace hR := if_p c3 hR
      refine lv_aload_n hx hb d_Model_isSign_17 rfl (lv_at hl 0 rfl) ?_
      replace hR := bi_e hR
      obtain ⟨r5, l5, T5, hc5, hR⟩ := hR
      refine gcV_i (rest := []) ⟨hx, hb, hml, hown, hT⟩ (h_Model_bad _ _ _ _ hc5) (cwV 0 hT (gV ml_Model_385 im_Model_bad se_Model_bad ini_Model co_Model_bad) rfl rfl rfl pd_Model_bad ⟨rm_hi, rm_lo (Nat.le_of_ble_eq_true rfl)⟩) hK hP hD hS hA hnw henv (Nat.le_of_ble_eq_true rfl) rfl rfl hl.1 rfl (Nat.le_of_ble_eq_true rfl) d_Model_isSign_18 ⟨Nat.le_refl _, Nat.le_refl _⟩ (fun H locs hP hD hS => ?_)
      clear hc5
      refine lv_if_ne (tgt := 28) hx hb d_Model_isSign_21 (by decide) (fun c6 => ?_) (fun c6 => ?_)
      · replace hR := if_n c6 hR
        refine lv_iconst (v := 0) hx hb d_Model_isSign_28 (by decide) ?_
        obtain ⟨e1, -, e3⟩ := re_e hR
        subst e1; subst e3
        exact W.zret (v := (0 : Int32)) hx hb hr (by first | rfl | decide) (fun t ht hW => ⟨⟨(0 : Int32), (), rfl, rfl, by rw [ht]; exact hP, va_K.moved hW.alike hK, hD⟩, hS.F ht⟩) hS.2.2 d_Model_isSign_29
      · replace hR := if_p c6 hR
        refine lv_iconst (v := 1) hx hb d_Model_isSign_24 (by decide) ?_
        refine lv_goto (tgt := 29) hx hb d_Model_isSign_25 (by decide) ?_
        obtain ⟨e1, -, e3⟩ := re_e hR
        subst e1; subst e3
        exact W.zret (v := (1 : Int32)) hx hb hr (by first | rfl | decide) (fun t ht hW => ⟨⟨(1 : Int32), (), rfl, rfl, by rw [ht]; exact hP, va_K.moved hW.alike hK, hD⟩, hS.F ht⟩) hS.2.2 d_Model_isSign_29
set_option maxHeartbeats 4000000 in
set_option maxRecDepth 100000 in
theorem sp_Model_takes (l : Launch) (dC : Nat → ClassId) (dI : Nat → Nat → Nat) (ea ev ad : Nat → Nat) (km : Nat → ClassId) (F : gF) (nf d : Nat) (h_Model_isSign : mt_Model_isSign l dC dI ea ev ad km F d) (h_Model_advance : mt_Model_advance l dC dI ea ev ad km F d) (T0 : gSt) (p1 : Int32) (r0 : Int32) (rl0 : Int64) (T9 : gSt) (hR : rb_Model_takes F nf T0 p1 = some (r0, rl0, T9)) : GMi l dC dI LM ad km ea ev y_Model_takes w_Model_takes (rmD (d + 1)) [.ref (ad 0), .int p1] T0 r0 T9 := by
  intro sz
  refine Met.ofW (cc := b_Model_takes) (maxL := 2) (ret := (some .boolean)) (by decide) rfl ?_
  intro p e s m args below meth c s₁ B hml hv
  obtain ⟨rfl, hsz, hP, hK, hD0, hnw, henv⟩ := hv
  have hx := B.exec
  have hb := B.bytes
  have hr := B.returns
  have hT : ∀ w ∈ lw_good, w.before _ s = true := fun w h => atoms_spec (ws := w_Model_takes) B.pre w (List.mem_cons_of_mem _ h)
  have hown : s.vm.findClass R_Model = some m.cls := findClass_of_methodNamed B.named
  subst hsz
  have hD := hD0.self (sz := s.heap.size)
  clear hD0
  generalize hAe : va_A (gW LM ad km T0) s.heap.size = A at hD henv ⊢
  have hA : ∀ q : Nat, s.heap.size ≤ q → A q := fun q h => by rw [← hAe]; exact Or.inr h
  have hS : va_S A s.heap s.heap [] := va_S.rf
  have hl := lv_entry ([.ref (ad 0), .int p1]) (n := 2) (Nat.le_of_ble_eq_true rfl)
  rw [lg_entry_eq]
  generalize (lg_sl ([.ref (ad 0), .int p1]) ++ List.replicate (2 - (lg_sl ([.ref (ad 0), .int p1])).length) Slot.unset).toArray = ls at hl ⊢
  have hl : lv_has ls 2 [(0, .ref (ad 0)), (1, .int p1)] := hl
  unfold rb_Model_takes at hR
  refine lv_aload_n hx hb d_Model_takes_0 rfl (lv_at hl 0 rfl) ?_
  refine lv_iload_n hx hb d_Model_takes_1 rfl (lv_at hl 1 rfl) ?_
  replace hR := bi_e hR
  obtain ⟨r1, l1, T1, hc1, hR⟩ := hR
  refine gcV_i (rest := []) ⟨hx, hb, hml, hown, hT⟩ (h_Model_isSign _ _ _ _ _ hc1) (cwV 1 hT (gV ml_Model_393 im_Model_isSign se_Model_isSign ini_Model co_Model_isSign) rfl rfl rfl pd_Model_isSign ⟨rm_hi, rm_lo (Nat.le_of_ble_eq_true rfl)⟩) hK hP hD hS hA hnw henv (Nat.le_of_ble_eq_true rfl) rfl rfl hl.1 rfl (Nat.le_of_ble_eq_true rfl) d_Model_takes_2 ⟨Nat.le_refl _, Nat.le_refl _⟩ (fun H locs hP hD hS => ?_)
  clear hc1
  refine lv_if_ne (tgt := 10) hx hb d_Model_takes_5 (by decide) (fun c2 => ?_) (fun c2 => ?_)
  · replace hR := if_n c2 hR
    refine lv_aload_n hx hb d_Model_takes_10 rfl (lv_at hl 0 rfl) ?_
    replace hR := bi_e hR
    obtain ⟨r3, l3, T3, hc3, hR⟩ := hR
    refine gcV_v (rest := []) ⟨hx, hb, hml, hown, hT⟩ (h_Model_advance _ _ _ _ hc3) (cwV 0 hT (gV ml_Model_396 im_Model_advance se_Model_advance ini_Model co_Model_advance) rfl rfl rfl pd_Model_advance ⟨rm_hi, rm_lo (Nat.le_of_ble_eq_true rfl)⟩) hK hP hD hS hA hnw henv (Nat.le_of_ble_eq_true rfl) rfl rfl hl.1 rfl (Nat.le_of_ble_eq_true rfl) d_Model_takes_11 ⟨Nat.le_refl _, Nat.le_refl _⟩ (fun H locs hP hD hS => ?_)
    clear hc3
    refine lv_iconst (v := 1) hx hb d_Model_takes_14 (by decide) ?_
    obtain ⟨e1, -, e3⟩ := re_e hR
    subst e1; subst e3
    exact W.zret (v := (1 : Int32)) hx hb hr (by first | rfl | decide) (fun t ht hW => ⟨⟨(1 : Int32), (), rfl, rfl, by rw [ht]; exact hP, va_K.moved hW.alike hK, hD⟩, hS.F ht⟩) hS.2.2 d_Model_takes_15
  · replace hR := if_p c2 hR
    refine lv_iconst (v := 0) hx hb d_Model_takes_8 (by decide) ?_
    obtain ⟨e1, -, e3⟩ := re_e hR
    subst e1; subst e3
    exact W.zret (v := (0 : Int32)) hx hb hr (by first | rfl | decide) (fun t ht hW => ⟨⟨(0 : Int32), (), rfl, rfl, by rw [ht]; exact hP, va_K.moved hW.alike hK, hD⟩, hS.F ht⟩) hS.2.2 d_Model_takes_9
set_option maxHeartbeats 4000000 in
set_option maxRecDepth 100000 in
theorem sp_Model_takesWord (l : Launch) (dC : Nat → ClassId) (dI : Nat → Nat → Nat) (ea ev ad : Nat → Nat) (km : Nat → ClassId) (F : gF) (nf d : Nat) (h_Model_isWord : mt_Model_isWord l dC dI ea ev ad km F d) (h_Model_advance : mt_Model_advance l dC dI ea ev ad km F d) (T0 : gSt) (p1 : Nat) (hp1 : p1 < 33) (r0 : Int32) (rl0 : Int64) (T9 : gSt) (hR : rb_Model_takesWord F nf T0 p1 = some (r0, rl0, T9)) : GMi l dC dI LM ad km ea ev y_Model_takesWord w_Model_takesWord (rmD (d + 1)) [.ref (ad 0), .ref (ea p1)] T0 r0 T9 := by
  intro sz
  refine Met.ofW (cc := b_Model_takesWord) (maxL := 2) (ret := (some .boolean)) (by decide) rfl ?_
  intro p e s m args below meth c s₁ B hml hv
  obtain ⟨rfl, hsz, hP, hK, hD0, hnw, henv⟩ := hv
  have hx := B.exec
  have hb := B.bytes
  have hr := B.returns
  have hT : ∀ w ∈ lw_good, w.before _ s = true := fun w h => atoms_spec (ws := w_Model_takesWord) B.pre w (List.mem_cons_of_mem _ h)
  have hown : s.vm.findClass R_Model = some m.cls := findClass_of_methodNamed B.named
  subst hsz
  have hD := hD0.self (sz := s.heap.size)
  clear hD0
  generalize hAe : va_A (gW LM ad km T0) s.heap.size = A at hD henv ⊢
  have hA : ∀ q : Nat, s.heap.size ≤ q → A q := fun q h => by rw [← hAe]; exact Or.inr h
  have hS : va_S A s.heap s.heap [] := va_S.rf
  have hl := lv_entry ([.ref (ad 0), .ref (ea p1)]) (n := 2) (Nat.le_of_ble_eq_true rfl)
  rw [lg_entry_eq]
  generalize (lg_sl ([.ref (ad 0), .ref (ea p1)]) ++ List.replicate (2 - (lg_sl ([.ref (ad 0), .ref (ea p1)])).length) Slot.unset).toArray = ls at hl ⊢
  have hl : lv_has ls 2 [(0, .ref (ad 0)), (1, .ref (ea p1))] := hl
  unfold rb_Model_takesWord at hR
  refine lv_aload_n hx hb d_Model_takesWord_0 rfl (lv_at hl 0 rfl) ?_
  refine lv_aload_n hx hb d_Model_takesWord_1 rfl (lv_at hl 1 rfl) ?_
  replace hR := bi_e hR
  obtain ⟨r1, l1, T1, hc1, hR⟩ := hR
  refine gcV_i (rest := []) ⟨hx, hb, hml, hown, hT⟩ (h_Model_isWord _ p1 _ _ _ (by first | decide | assumption) hc1) (cwV 1 hT (gV ml_Model_399 im_Model_isWord se_Model_isWord ini_Model co_Model_isWord) rfl rfl rfl pd_Model_isWord ⟨rm_hi, rm_lo (Nat.le_of_ble_eq_true rfl)⟩) hK hP hD hS hA hnw henv (Nat.le_of_ble_eq_true rfl) rfl rfl hl.1 rfl (Nat.le_of_ble_eq_true rfl) d_Model_takesWord_2 ⟨Nat.le_refl _, Nat.le_refl _⟩ (fun H locs hP hD hS => ?_)
  clear hc1
  refine lv_if_ne (tgt := 10) hx hb d_Model_takesWord_5 (by decide) (fun c2 => ?_) (fun c2 => ?_)
  · replace hR := if_n c2 hR
    refine lv_aload_n hx hb d_Model_takesWord_10 rfl (lv_at hl 0 rfl) ?_
    replace hR := bi_e hR
    obtain ⟨r3, l3, T3, hc3, hR⟩ := hR
    refine gcV_v (rest := []) ⟨hx, hb, hml, hown, hT⟩ (h_Model_advance _ _ _ _ hc3) (cwV 0 hT (gV ml_Model_396 im_Model_advance se_Model_advance ini_Model co_Model_advance) rfl rfl rfl pd_Model_advance ⟨rm_hi, rm_lo (Nat.le_of_ble_eq_true rfl)⟩) hK hP hD hS hA hnw henv (Nat.le_of_ble_eq_true rfl) rfl rfl hl.1 rfl (Nat.le_of_ble_eq_true rfl) d_Model_takesWord_11 ⟨Nat.le_refl _, Nat.le_refl _⟩ (fun H locs hP hD hS => ?_)
    clear hc3
    refine lv_iconst (v := 1) hx hb d_Model_takesWord_14 (by decide) ?_
    obtain ⟨e1, -, e3⟩ := re_e hR
    subst e1; subst e3
    exact W.zret (v := (1 : Int32)) hx hb hr (by first | rfl | decide) (fun t ht hW => ⟨⟨(1 : Int32), (), rfl, rfl, by rw [ht]; exact hP, va_K.moved hW.alike hK, hD⟩, hS.F ht⟩) hS.2.2 d_Model_takesWord_15
  · replace hR := if_p c2 hR
    refine lv_iconst (v := 0) hx hb d_Model_takesWord_8 (by decide) ?_
    obtain ⟨e1, -, e3⟩ := re_e hR
    subst e1; subst e3
    exact W.zret (v := (0 : Int32)) hx hb hr (by first | rfl | decide) (fun t ht hW => ⟨⟨(0 : Int32), (), rfl, rfl, by rw [ht]; exact hP, va_K.moved hW.alike hK, hD⟩, hS.F ht⟩) hS.2.2 d_Model_takesWord_9
set_option maxHeartbeats 4000000 in
set_option maxRecDepth 100000 in
theorem sp_Model_need (l : Launch) (dC : Nat → ClassId) (dI : Nat → Nat → Nat) (ea ev ad : Nat → Nat) (km : Nat → ClassId) (F : gF) (nf d : Nat) (h_Model_takes : mt_Model_takes l dC dI ea ev ad km F d) (h_Model_wrong : mt_Model_wrong l dC dI ea ev ad km F d) (T0 : gSt) (p1 : Int32) (r0 : Int32) (rl0 : Int64) (T9 : gSt) (hR : rb_Model_need F nf T0 p1 = some (r0, rl0, T9)) : GMv l dC dI LM ad km ea ev y_Model_need w_Model_need (rmD (d + 1)) [.ref (ad 0), .int p1] T0 T9 := by
  intro sz
  refine Met.ofW (cc := b_Model_need) (maxL := 2) (ret := none) (by decide) rfl ?_
  intro p e s m args below meth c s₁ B hml hv
  obtain ⟨rfl, hsz, hP, hK, hD0, hnw, henv⟩ := hv
  have hx := B.exec
  have hb := B.bytes
  have hr := B.returns
  have hT : ∀ w ∈ lw_good, w.before _ s = true := fun w h => atoms_spec (ws := w_Model_need) B.pre w (List.mem_cons_of_mem _ h)
  have hown : s.vm.findClass R_Model = some m.cls := findClass_of_methodNamed B.named
  subst hsz
  have hD := hD0.self (sz := s.heap.size)
  clear hD0
  generalize hAe : va_A (gW LM ad km T0) s.heap.size = A at hD henv ⊢
  have hA : ∀ q : Nat, s.heap.size ≤ q → A q := fun q h => by rw [← hAe]; exact Or.inr h
  have hS : va_S A s.heap s.heap [] := va_S.rf
  have hl := lv_entry ([.ref (ad 0), .int p1]) (n := 2) (Nat.le_of_ble_eq_true rfl)
  rw [lg_entry_eq]
  generalize (lg_sl ([.ref (ad 0), .int p1]) ++ List.replicate (2 - (lg_sl ([.ref (ad 0), .int p1])).length) Slot.unset).toArray = ls at hl ⊢
  have hl : lv_has ls 2 [(0, .ref (ad 0)), (1, .int p1)] := hl
  unfold rb_Model_need at hR
  refine lv_aload_n hx hb d_Model_need_0 rfl (lv_at hl 0 rfl) ?_
  refine lv_iload_n hx hb d_Model_need_1 rfl (lv_at hl 1 rfl) ?_
  replace hR := bi_e hR
  obtain ⟨r1, l1, T1, hc1, hR⟩ := hR
  refine gcV_i (rest := []) ⟨hx, hb, hml, hown, hT⟩ (h_Model_takes _ _ _ _ _ hc1) (cwV 1 hT (gV ml_Model_403 im_Model_takes se_Model_takes ini_Model co_Model_takes) rfl rfl rfl pd_Model_takes ⟨rm_hi, rm_lo (Nat.le_of_ble_eq_true rfl)⟩) hK hP hD hS hA hnw henv (Nat.le_of_ble_eq_true rfl) rfl rfl hl.1 rfl (Nat.le_of_ble_eq_true rfl) d_Model_need_2 ⟨Nat.le_refl _, Nat.le_refl _⟩ (fun H locs hP hD hS => ?_)
  clear hc1
  refine lv_if_ne (tgt := 12) hx hb d_Model_need_5 (by decide) (fun c2 => ?_) (fun c2 => ?_)
  · replace hR := if_n c2 hR
    obtain ⟨-, -, e3⟩ := re_e hR
    subst e3
    exact W.vret hx hb hr (fun t ht hW => ⟨⟨(), rfl, trivial, by rw [ht]; exact hP, va_K.moved hW.alike hK, hD⟩, hS.F ht⟩) hS.2.2 d_Model_need_12
  · replace hR := if_p c2 hR
    refine lv_aload_n hx hb d_Model_need_8 rfl (lv_at hl 0 rfl) ?_
    replace hR := bi_e hR
    obtain ⟨r3, l3, T3, hc3, hR⟩ := hR
    refine gcV_v (rest := []) ⟨hx, hb, hml, hown, hT⟩ (h_Model_wrong _ _ _ _ hc3) (cwV 0 hT (gV ml_Model_406 im_Model_wrong se_Model_wrong ini_Model co_Model_wrong) rfl rfl rfl pd_Model_wrong ⟨rm_hi, rm_lo (Nat.le_of_ble_eq_true rfl)⟩) hK hP hD hS hA hnw henv (Nat.le_of_ble_eq_true rfl) rfl rfl hl.1 rfl (Nat.le_of_ble_eq_true rfl) d_Model_need_9 ⟨Nat.le_refl _, Nat.le_refl _⟩ (fun H locs hP hD hS => ?_)
    clear hc3
    obtain ⟨-, -, e3⟩ := re_e hR
    subst e3
    exact W.vret hx hb hr (fun t ht hW => ⟨⟨(), rfl, trivial, by rw [ht]; exact hP, va_K.moved hW.alike hK, hD⟩, hS.F ht⟩) hS.2.2 d_Model_need_12
set_option maxHeartbeats 4000000 in
set_option maxRecDepth 100000 in
theorem sp_Model_needName (l : Launch) (dC : Nat → ClassId) (dI : Nat → Nat → Nat) (ea ev ad : Nat → Nat) (km : Nat → ClassId) (F : gF) (nf d : Nat) (h_Model_bad : mt_Model_bad l dC dI ea ev ad km F d) (h_Model_advance : mt_Model_advance l dC dI ea ev ad km F d) (h_Model_wrong : mt_Model_wrong l dC dI ea ev ad km F d) (T0 : gSt) (r0 : Int32) (rl0 : Int64) (T9 : gSt) (hR : rb_Model_needName F nf T0 = some (r0, rl0, T9)) : GMl l dC dI LM ad km ea ev y_Model_needName w_Model_needName (rmD (d + 1)) [.ref (ad 0)] T0 rl0 T9 := by
  intro sz
  refine Met.ofW (cc := b_Model_needName) (maxL := 3) (ret := (some .long)) (by decide) rfl ?_
  intro p e s m args below meth c s₁ B hml hv
  obtain ⟨rfl, hsz, hP, hK, hD0, hnw, henv⟩ := hv
  have hx := B.exec
  have hb := B.bytes
  have hr := B.returns
  have hT : ∀ w ∈ lw_good, w.before _ s = true := fun w h => atoms_spec (ws := w_Model_needName) B.pre w (List.mem_cons_of_mem _ h)
  have hown : s.vm.findClass R_Model = some m.cls := findClass_of_methodNamed B.named
  subst hsz
  have hD := hD0.self (sz := s.heap.size)
  clear hD0
  generalize hAe : va_A (gW LM ad km T0) s.heap.size = A at hD henv ⊢
  have hA : ∀ q : Nat, s.heap.size ≤ q → A q := fun q h => by rw [← hAe]; exact Or.inr h
  have hS : va_S A s.heap s.heap [] := va_S.rf
  have hl := lv_entry ([.ref (ad 0)]) (n := 3) (Nat.le_of_ble_eq_true rfl)
  rw [lg_entry_eq]
  generalize (lg_sl ([.ref (ad 0)]) ++ List.replicate (3 - (lg_sl ([.ref (ad 0)])).length) Slot.unset).toArray = ls at hl ⊢
  have hl : lv_has ls 3 [(0, .ref (ad 0))] := hl
  unfold rb_Model_needName at hR
  refine lv_aload_n hx hb d_Model_needName_0 rfl (lv_at hl 0 rfl) ?_
  refine rd_Model_352 hx hb hT hown hK hP d_Model_needName_1 ?_
  refine lv_iconst (v := 1) hx hb d_Model_needName_4 (by decide) ?_
  refine lv_icmp_eq (tgt := 12) hx hb d_Model_needName_5 (by decide) (fun c1 => ?_) (fun c1 => ?_)
  · replace hR := if_p c1 hR
    refine lv_aload_n hx hb d_Model_needName_12 rfl (lv_at hl 0 rfl) ?_
    refine rd_Model_365 hx hb hT hown hK hP d_Model_needName_13 ?_
    refine lv_topl (fun z2 e2 => ?_)
    replace hR := lK_e e2 hR
    refine lv_lstore_n (lv' := [(1, .long z2), (0, .ref (ad 0))]) hx hb d_Model_needName_16 rfl hl (by decide) rfl (fun ls hl => ?_)
    refine lv_aload_n hx hb d_Model_needName_17 rfl (lv_at hl 1 rfl) ?_
    replace hR := bi_e hR
    obtain ⟨r3, l3, T3, hc3, hR⟩ := hR
    refine gcV_i (rest := []) ⟨hx, hb, hml, hown, hT⟩ (h_Model_bad _ _ _ _ hc3) (cwV 0 hT (gV ml_Model_385 im_Model_bad se_Model_bad ini_Model co_Model_bad) rfl rfl rfl pd_Model_bad ⟨rm_hi, rm_lo (Nat.le_of_ble_eq_true rfl)⟩) hK hP hD hS hA hnw henv (Nat.le_of_ble_eq_true rfl) rfl rfl hl.1 rfl (Nat.le_of_ble_eq_true rfl) d_Model_needName_18 ⟨Nat.le_refl _, Nat.le_refl _⟩ (fun H locs hP hD hS => ?_)
    clear hc3
    refine lv_if_ne (tgt := 28) hx hb d_Model_needName_21 (by decide) (fun c4 => ?_) (fun c4 => ?_)
    · replace hR := if_n c4 hR
      refine lv_lload_n hx hb d_Model_needName_28 rfl (lv_at hl 0 rfl) ?_
      obtain ⟨-, e1, e3⟩ := re_e hR
      subst e1; subst e3
      exact W.lret (v := z2) hx hb hr (fun t ht hW => ⟨⟨z2, (), rfl, rfl, by rw [ht]; exact hP, va_K.moved hW.alike hK, hD⟩, hS.F ht⟩) hS.2.2 d_Model_needName_29
    · replace hR := if_p c4 hR
      refine lv_aload_n hx hb d_Model_needName_24 rfl (lv_at hl 1 rfl) ?_
      replace hR := bi_e hR
      obtain ⟨r5, l5, T5, hc5, hR⟩ := hR
      refine gcV_v (rest := []) ⟨hx, hb, hml, hown, hT⟩ (h_Model_advance _ _ _ _ hc5) (cwV 0 hT (gV ml_Model_396 im_Model_advance se_Model_advance ini_Model co_Model_advance) rfl rfl rfl pd_Model_advance ⟨rm_hi, rm_lo (Nat.le_of_ble_eq_true rfl)⟩) hK hP hD hS hA hnw henv (Nat.le_of_ble_eq_true rfl) rfl rfl hl.1 rfl (Nat.le_of_ble_eq_true rfl) d_Model_needName_25 ⟨Nat.le_refl _, Nat.le_refl _⟩ (fun H locs hP hD hS => ?_)
      clear hc5
      refine lv_lload_n hx hb d_Model_needName_28 rfl (lv_at hl 0 rfl) ?_
      obtain ⟨-, e1, e3⟩ := re_e hR
      subst e1; subst e3
      exact W.lret (v := z2) hx hb hr (fun t ht hW => ⟨⟨z2, (), rfl, rfl, by rw [ht]; exact hP, va_K.moved hW.alike hK, hD⟩, hS.F ht⟩) hS.2.2 d_Model_needName_29
  · replace hR := if_n c1 hR
    refine lv_aload_n hx hb d_Model_needName_8 rfl (lv_at hl 0 rfl) ?_
    replace hR := bi_e hR
    obtain ⟨r6, l6, T6, hc6, hR⟩ := hR
    refine gcV_v (rest := []) ⟨hx, hb, hml, hown, hT⟩ (h_Model_wrong _ _ _ _ hc6) (cwV 0 hT (gV ml_Model_406 im_Model_wrong se_Model_wrong ini_Model co_Model_wrong) rfl rfl rfl pd_Model_wrong ⟨rm_hi, rm_lo (Nat.le_of_ble_eq_true rfl)⟩) hK hP hD hS hA hnw henv (Nat.le_of_ble_eq_true rfl) rfl rfl hl.1 rfl (Nat.le_of_ble_eq_true rfl) d_Model_needName_9 ⟨Nat.le_refl _, Nat.le_refl _⟩ (fun H locs hP hD hS => ?_)
    clear hc6
    refine lv_aload_n hx hb d_Model_needName_12 rfl (lv_at hl 0 rfl) ?_
    refine rd_Model_365 hx hb hT hown hK hP d_Model_needName_13 ?_
    refine lv_topl (fun z7 e7 => ?_)
    replace hR := lK_e e7 hR
    refine lv_lstore_n (lv' := [(1, .long z7), (0, .ref (ad 0))]) hx hb d_Model_needName_16 rfl hl (by decide) rfl (fun ls hl => ?_)
    refine lv_aload_n hx hb d_Model_needName_17 rfl (lv_at hl 1 rfl) ?_
    replace hR := bi_e hR
    obtain ⟨r8, l8, T8, hc8, hR⟩ := hR
    refine gcV_i (rest := []) ⟨hx, hb, hml, hown, hT⟩ (h_Model_bad _ _ _ _ hc8) (cwV 0 hT (gV ml_Model_385 im_Model_bad se_Model_bad ini_Model co_Model_bad) rfl rfl rfl pd_Model_bad ⟨rm_hi, rm_lo (Nat.le_of_ble_eq_true rfl)⟩) hK hP hD hS hA hnw henv (Nat.le_of_ble_eq_true rfl) rfl rfl hl.1 rfl (Nat.le_of_ble_eq_true rfl) d_Model_needName_18 ⟨Nat.le_refl _, Nat.le_refl _⟩ (fun H locs hP hD hS => ?_)
    clear hc8
    refine lv_if_ne (tgt := 28) hx hb d_Model_needName_21 (by decide) (fun c9 => ?_) (fun c9 => ?_)
    · replace hR := if_n c9 hR
      refine lv_lload_n hx hb d_Model_needName_28 rfl (lv_at hl 0 rfl) ?_
      obtain ⟨-, e1, e3⟩ := re_e hR
      subst e1; subst e3
      exact W.lret (v := z7) hx hb hr (fun t ht hW => ⟨⟨z7, (), rfl, rfl, by rw [ht]; exact hP, va_K.moved hW.alike hK, hD⟩, hS.F ht⟩) hS.2.2 d_Model_needName_29
    · replace hR := if_p c9 hR
      refine lv_aload_n hx hb d_Model_needName_24 rfl (lv_at hl 1 rfl) ?_
      replace hR := bi_e hR
      obtain ⟨r10, l10, T10, hc10, hR⟩ := hR
      refine gcV_v (rest := []) ⟨hx, hb, hml, hown, hT⟩ (h_Model_advance _ _ _ _ hc10) (cwV 0 hT (gV ml_Model_396 im_Model_advance se_Model_advance ini_Model co_Model_advance) rfl rfl rfl pd_Model_advance ⟨rm_hi, rm_lo (Nat.le_of_ble_eq_true rfl)⟩) hK hP hD hS hA hnw henv (Nat.le_of_ble_eq_true rfl) rfl rfl hl.1 rfl (Nat.le_of_ble_eq_true rfl) d_Model_needName_25 ⟨Nat.le_refl _, Nat.le_refl _⟩ (fun H locs hP hD hS => ?_)
      clear hc10
      refine lv_lload_n hx hb d_Model_needName_28 rfl (lv_at hl 0 rfl) ?_
      obtain ⟨-, e1, e3⟩ := re_e hR
      subst e1; subst e3
      exact W.lret (v := z7) hx hb hr (fun t ht hW => ⟨⟨z7, (), rfl, rfl, by rw [ht]; exact hP, va_K.moved hW.alike hK, hD⟩, hS.F ht⟩) hS.2.2 d_Model_needName_29
set_option maxHeartbeats 4000000 in
set_option maxRecDepth 100000 in
theorem sp_Model_needRegion (l : Launch) (dC : Nat → ClassId) (dI : Nat → Nat → Nat) (ea ev ad : Nat → Nat) (km : Nat → ClassId) (F : gF) (nf d : Nat) (h_Model_wrong : mt_Model_wrong l dC dI ea ev ad km F d) (h_Model_bad : mt_Model_bad l dC dI ea ev ad km F d) (h_Model_advance : mt_Model_advance l dC dI ea ev ad km F d) (T0 : gSt) (r0 : Int32) (rl0 : Int64) (T9 : gSt) (hR : rb_Model_needRegion F nf T0 = some (r0, rl0, T9)) : GMi l dC dI LM ad km ea ev y_Model_needRegion w_Model_needRegion (rmD (d + 1)) [.ref (ad 0)] T0 r0 T9 := by
  intro sz
  refine Met.ofW (cc := b_Model_needRegion) (maxL := 1) (ret := (some .int)) (by decide) rfl ?_
  intro p e s m args below meth c s₁ B hml hv
  obtain ⟨rfl, hsz, hP, hK, hD0, hnw, henv⟩ := hv
  have hx := B.exec
  have hb := B.bytes
  have hr := B.returns
  have hT : ∀ w ∈ lw_good, w.before _ s = true := fun w h => atoms_spec (ws := w_Model_needRegion) B.pre w (List.mem_cons_of_mem _ h)
  have hown : s.vm.findClass R_Model = some m.cls := findClass_of_methodNamed B.named
  subst hsz
  have hD := hD0.self (sz := s.heap.size)
  clear hD0
  generalize hAe : va_A (gW LM ad km T0) s.heap.size = A at hD henv ⊢
  have hA : ∀ q : Nat, s.heap.size ≤ q → A q := fun q h => by rw [← hAe]; exact Or.inr h
  have hS : va_S A s.heap s.heap [] := va_S.rf
  have hl := lv_entry ([.ref (ad 0)]) (n := 1) (Nat.le_of_ble_eq_true rfl)
  rw [lg_entry_eq]
  generalize (lg_sl ([.ref (ad 0)]) ++ List.replicate (1 - (lg_sl ([.ref (ad 0)])).length) Slot.unset).toArray = ls at hl ⊢
  have hl : lv_has ls 1 [(0, .ref (ad 0))] := hl
  obtain ⟨G, hG⟩ : ∃ G : Nat → List (Nat × Value) → List Value → gSt → Prop, G = (fun pc lv stk T => ∀ (H : Heap) (locs : List Loc), va_P (dC, dI) cls_all (gW LM ad km T) H → va_D A (gW LM ad km T) → va_S A s.heap H locs → ∀ (ls : Array Slot), lv_has ls 1 lv → W p l e (headSpec w_Model_needRegion (rmD (d + 1))).room s m ([.ref (ad 0)] : List Value).toArray below meth c H locs 0 0 (MQ below (va_Qi (fun (z : Int32) (_ : Unit) => z = r0) (fun _ t => gPost dC dI LM ad km T9 A t) A) ([.ref (ad 0)] : List Value).toArray s 0 0 A) (F0 m pc ls stk)) := ⟨_, rfl⟩
  have lb_12 : ∀ (T : gSt), rj_Model_needRegion_12 F nf T = some (r0, rl0, T9) → G 12 [(0, .ref (ad 0))] [] T := by
    intro T hR; unfold rj_Model_needRegion_12 at hR; rw [hG]; intro H locs hP hD hS ls hl
    refine lv_aload_n hx hb d_Model_needRegion_12 rfl (lv_at hl 0 rfl) ?_
    replace hR := bi_e hR
    obtain ⟨r3, l3, T3, hc3, hR⟩ := hR
    refine gcV_i (rest := []) ⟨hx, hb, hml, hown, hT⟩ (h_Model_bad _ _ _ _ hc3) (cwV 0 hT (gV ml_Model_385 im_Model_bad se_Model_bad ini_Model co_Model_bad) rfl rfl rfl pd_Model_bad ⟨rm_hi, rm_lo (Nat.le_of_ble_eq_true rfl)⟩) hK hP hD hS hA hnw henv (Nat.le_of_ble_eq_true rfl) rfl rfl hl.1 rfl (Nat.le_of_ble_eq_true rfl) d_Model_needRegion_13 ⟨Nat.le_refl _, Nat.le_refl _⟩ (fun H locs hP hD hS => ?_)
    clear hc3
    refine lv_if_eq (tgt := 21) hx hb d_Model_needRegion_16 (by decide) (fun c4 => ?_) (fun c4 => ?_)
    · replace hR := if_p c4 hR
      refine lv_aload_n hx hb d_Model_needRegion_21 rfl (lv_at hl 0 rfl) ?_
      refine rd_Model_111 hx hb hT hown hK hP d_Model_needRegion_22 ?_
      refine lv_aload_n hx hb d_Model_needRegion_25 rfl (lv_at hl 0 rfl) ?_
      refine rd_Model_409 hx hb hT hown hK hP d_Model_needRegion_26 ?_
      refine lv_aload_n hx hb d_Model_needRegion_29 rfl (lv_at hl 0 rfl) ?_
      refine rd_Model_365 hx hb hT hown hK hP d_Model_needRegion_30 ?_
      replace hR := gd_e hR
      obtain ⟨b5, hR⟩ := hR
      refine saM_32 hx hb hK hP hD hS b5 d_Model_needRegion_33 (fun T5 eT H locs hP hD hS => ?_)
      replace hR := stK_e eT hR
      clear eT
      refine lv_aload_n hx hb d_Model_needRegion_34 rfl (lv_at hl 0 rfl) ?_
      refine rd_Model_114 hx hb hT hown hK hP d_Model_needRegion_35 ?_
      refine lv_aload_n hx hb d_Model_needRegion_38 rfl (lv_at hl 0 rfl) ?_
      refine rd_Model_409 hx hb hT hown hK hP d_Model_needRegion_39 ?_
      refine lv_aload_n hx hb d_Model_needRegion_42 rfl (lv_at hl 0 rfl) ?_
      refine rd_Model_349 hx hb hT hown hK hP d_Model_needRegion_43 ?_
      replace hR := gd_e hR
      obtain ⟨b6, hR⟩ := hR
      refine saM_33 hx hb hK hP hD hS b6 d_Model_needRegion_46 (fun T6 eT H locs hP hD hS => ?_)
      replace hR := stK_e eT hR
      clear eT
      refine lv_aload_n hx hb d_Model_needRegion_47 rfl (lv_at hl 0 rfl) ?_
      refine lv_dup hx hb d_Model_needRegion_48 rfl ?_
      refine rd_Model_409 hx hb hT hown hK hP d_Model_needRegion_49 ?_
      refine lv_iconst (v := 1) hx hb d_Model_needRegion_52 (by decide) ?_
      refine lv_iadd hx hb d_Model_needRegion_53 ?_
      refine wr_Model_409 hx hb hT hown hK hP hD hS d_Model_needRegion_54 (fun T7 eT H locs hP hD hS => ?_)
      replace hR := stK_e eT hR
      clear eT
      refine lv_aload_n hx hb d_Model_needRegion_57 rfl (lv_at hl 0 rfl) ?_
      replace hR := bi_e hR
      obtain ⟨r8, l8, T8, hc8, hR⟩ := hR
      refine gcV_v (rest := []) ⟨hx, hb, hml, hown, hT⟩ (h_Model_advance _ _ _ _ hc8) (cwV 0 hT (gV ml_Model_396 im_Model_advance se_Model_advance ini_Model co_Model_advance) rfl rfl rfl pd_Model_advance ⟨rm_hi, rm_lo (Nat.le_of_ble_eq_true rfl)⟩) hK hP hD hS hA hnw henv (Nat.le_of_ble_eq_true rfl) rfl rfl hl.1 rfl (Nat.le_of_ble_eq_true rfl) d_Model_needRegion_58 ⟨Nat.le_refl _, Nat.le_refl _⟩ (fun H locs hP hD hS => ?_)
      clear hc8
      refine lv_aload_n hx hb d_Model_needRegion_61 rfl (lv_at hl 0 rfl) ?_
      refine rd_Model_409 hx hb hT hown hK hP d_Model_needRegion_62 ?_
      refine lv_iconst (v := 1) hx hb d_Model_needRegion_65 (by decide) ?_
      refine lv_isub hx hb d_Model_needRegion_66 ?_
      obtain ⟨e1, -, e3⟩ := re_e hR
      subst e1; subst e3
      exact W.iret (v := (T8.1 45 0) - (1 : Int32)) hx hb hr (fun t ht hW => ⟨⟨(T8.1 45 0) - (1 : Int32), (), rfl, rfl, by rw [ht]; exact hP, va_K.moved hW.alike hK, hD⟩, hS.F ht⟩) hS.2.2 d_Model_needRegion_67
    · replace hR := if_n c4 hR
      refine lv_iconst (v := 0) hx hb d_Model_needRegion_19 (by decide) ?_
      obtain ⟨e1, -, e3⟩ := re_e hR
      subst e1; subst e3
      exact W.iret (v := (0 : Int32)) hx hb hr (fun t ht hW => ⟨⟨(0 : Int32), (), rfl, rfl, by rw [ht]; exact hP, va_K.moved hW.alike hK, hD⟩, hS.F ht⟩) hS.2.2 d_Model_needRegion_20
  unfold rb_Model_needRegion at hR
  refine lv_aload_n hx hb d_Model_needRegion_0 rfl (lv_at hl 0 rfl) ?_
  refine rd_Model_352 hx hb hT hown hK hP d_Model_needRegion_1 ?_
  refine lv_iconst (v := 4) hx hb d_Model_needRegion_4 (by decide) ?_
  refine lv_icmp_eq (tgt := 12) hx hb d_Model_needRegion_5 (by decide) (fun c1 => ?_) (fun c1 => ?_)
  · replace hR := if_p c1 hR
    have g := lb_12 T0 hR
    rw [hG] at g
    exact g _ _ hP hD hS _ (lv_sub hl [0] rfl)
  · replace hR := if_n c1 hR
    refine lv_aload_n hx hb d_Model_needRegion_8 rfl (lv_at hl 0 rfl) ?_
    replace hR := bi_e hR
    obtain ⟨r2, l2, T2, hc2, hR⟩ := hR
    refine gcV_v (rest := []) ⟨hx, hb, hml, hown, hT⟩ (h_Model_wrong _ _ _ _ hc2) (cwV 0 hT (gV ml_Model_406 im_Model_wrong se_Model_wrong ini_Model co_Model_wrong) rfl rfl rfl pd_Model_wrong ⟨rm_hi, rm_lo (Nat.le_of_ble_eq_true rfl)⟩) hK hP hD hS hA hnw henv (Nat.le_of_ble_eq_true rfl) rfl rfl hl.1 rfl (Nat.le_of_ble_eq_true rfl) d_Model_needRegion_9 ⟨Nat.le_refl _, Nat.le_refl _⟩ (fun H locs hP hD hS => ?_)
    clear hc2
    have g := lb_12 T2 hR
    rw [hG] at g
    exact g _ _ hP hD hS _ (lv_sub hl [0] rfl)
set_option maxHeartbeats 4000000 in
set_option maxRecDepth 100000 in
theorem sp_Model_program_ (l : Launch) (dC : Nat → ClassId) (dI : Nat → Nat → Nat) (ea ev ad : Nat → Nat) (km : Nat → ClassId) (F : gF) (nf d : Nat) (h_Model_advance : mt_Model_advance l dC dI ea ev ad km F d) (h_Model_bad : mt_Model_bad l dC dI ea ev ad km F d) (h_Model_isWord : mt_Model_isWord l dC dI ea ev ad km F d) (h_Model_wrong : mt_Model_wrong l dC dI ea ev ad km F d) (h_Model_readItem : mt_Model_readItem l dC dI ea ev ad km F d) (T0 : gSt) (r0 : Int32) (rl0 : Int64) (T9 : gSt) (hR : rb_Model_program_ F nf T0 = some (r0, rl0, T9)) : GMv l dC dI LM ad km ea ev y_Model_program_ w_Model_program_ (rmD (d + 1)) [.ref (ad 0)] T0 T9 := by
  intro sz
  refine Met.ofW (cc := b_Model_program_) (maxL := 3) (ret := none) (by decide) rfl ?_
  intro p e s m args below meth c s₁ B hml hv
  obtain ⟨rfl, hsz, hP, hK, hD0, hnw, henv⟩ := hv
  have hx := B.exec
  have hb := B.bytes
  have hr := B.returns
  have hT : ∀ w ∈ lw_good, w.before _ s = true := fun w h => atoms_spec (ws := w_Model_program_) B.pre w (List.mem_cons_of_mem _ h)
  have hown : s.vm.findClass R_Model = some m.cls := findClass_of_methodNamed B.named
  subst hsz
  have hD := hD0.self (sz := s.heap.size)
  clear hD0
  generalize hAe : va_A (gW LM ad km T0) s.heap.size = A at hD henv ⊢
  have hA : ∀ q : Nat, s.heap.size ≤ q → A q := fun q h => by rw [← hAe]; exact Or.inr h
  have hS : va_S A s.heap s.heap [] := va_S.rf
  have hl := lv_entry ([.ref (ad 0)]) (n := 3) (Nat.le_of_ble_eq_true rfl)
  rw [lg_entry_eq]
  generalize (lg_sl ([.ref (ad 0)]) ++ List.replicate (3 - (lg_sl ([.ref (ad 0)])).length) Slot.unset).toArray = ls at hl ⊢
  have hl : lv_has ls 3 [(0, .ref (ad 0))] := hl
  obtain ⟨G, hG⟩ : ∃ G : Nat → List (Nat × Value) → List Value → gSt → Prop, G = (fun pc lv stk T => ∀ (H : Heap) (locs : List Loc), va_P (dC, dI) cls_all (gW LM ad km T) H → va_D A (gW LM ad km T) → va_S A s.heap H locs → ∀ (ls : Array Slot), lv_has ls 3 lv → W p l e (headSpec w_Model_program_ (rmD (d + 1))).room s m ([.ref (ad 0)] : List Value).toArray below meth c H locs 0 0 (MQ below (va_Qv (fun (_ : Unit) => True) (fun _ t => gPost dC dI LM ad km T9 A t) A) ([.ref (ad 0)] : List Value).toArray s 0 0 A) (F0 m pc ls stk)) := ⟨_, rfl⟩
  have lb_90 : ∀ (rec_36 : gSt → Int32 → gR) (hrec_36 : ∀ (T : gSt) (x1 : Int32), rec_36 T x1 = some (r0, rl0, T9) → G 36 [(0, .ref (ad 0)), (1, .int x1)] [] T) (T : gSt) (y0 : Int32), rj_Model_program__90 F nf rec_36 T y0 = some (r0, rl0, T9) → G 90 [(0, .ref (ad 0))] [.int y0] T := by
    intro rec_36 hrec_36 T y0 hR; unfold rj_Model_program__90 at hR; rw [hG]; intro H locs hP hD hS ls hl
    refine lv_istore_n (lv' := [(2, .int y0), (0, .ref (ad 0))]) hx hb d_Model_program__90 rfl hl (by decide) rfl (fun ls hl => ?_)
    refine lv_iload_n hx hb d_Model_program__91 rfl (lv_at hl 0 rfl) ?_
    refine lv_if_lt (tgt := 104) hx hb d_Model_program__92 (by decide) (fun c17 => ?_) (fun c17 => ?_)
    · replace hR := if_p c17 hR
      refine lv_aload_n hx hb d_Model_program__104 rfl (lv_at hl 1 rfl) ?_
      replace hR := bi_e hR
      obtain ⟨r18, l18, T18, hc18, hR⟩ := hR
      refine gcV_v (rest := []) ⟨hx, hb, hml, hown, hT⟩ (h_Model_wrong _ _ _ _ hc18) (cwV 0 hT (gV ml_Model_406 im_Model_wrong se_Model_wrong ini_Model co_Model_wrong) rfl rfl rfl pd_Model_wrong ⟨rm_hi, rm_lo (Nat.le_of_ble_eq_true rfl)⟩) hK hP hD hS hA hnw henv (Nat.le_of_ble_eq_true rfl) rfl rfl hl.1 rfl (Nat.le_of_ble_eq_true rfl) d_Model_program__105 ⟨Nat.le_refl _, Nat.le_refl _⟩ (fun H locs hP hD hS => ?_)
      clear hc18
      obtain ⟨-, -, e3⟩ := re_e hR
      subst e3
      exact W.vret hx hb hr (fun t ht hW => ⟨⟨(), rfl, trivial, by rw [ht]; exact hP, va_K.moved hW.alike hK, hD⟩, hS.F ht⟩) hS.2.2 d_Model_program__108
    · replace hR := if_n c17 hR
      refine lv_aload_n hx hb d_Model_program__95 rfl (lv_at hl 1 rfl) ?_
      refine rd_Model_412 hx hb hT hown hK hP d_Model_program__96 ?_
      refine lv_bipush (v := 24) hx hb d_Model_program__99 (by decide) ?_
      refine lv_icmp_ne (tgt := 109) hx hb d_Model_program__101 (by decide) (fun c19 => ?_) (fun c19 => ?_)
      · replace hR := if_n c19 hR
        refine lv_aload_n hx hb d_Model_program__109 rfl (lv_at hl 1 rfl) ?_
        replace hR := bi_e hR
        obtain ⟨r20, l20, T20, hc20, hR⟩ := hR
        refine gcV_v (rest := []) ⟨hx, hb, hml, hown, hT⟩ (h_Model_advance _ _ _ _ hc20) (cwV 0 hT (gV ml_Model_396 im_Model_advance se_Model_advance ini_Model co_Model_advance) rfl rfl rfl pd_Model_advance ⟨rm_hi, rm_lo (Nat.le_of_ble_eq_true rfl)⟩) hK hP hD hS hA hnw henv (Nat.le_of_ble_eq_true rfl) rfl rfl hl.1 rfl (Nat.le_of_ble_eq_true rfl) d_Model_program__110 ⟨Nat.le_refl _, Nat.le_refl _⟩ (fun H locs hP hD hS => ?_)
        clear hc20
        refine lv_aload_n hx hb d_Model_program__113 rfl (lv_at hl 1 rfl) ?_
        refine lv_iload_n hx hb d_Model_program__114 rfl (lv_at hl 0 rfl) ?_
        replace hR := bi_e hR
        obtain ⟨r21, l21, T21, hc21, hR⟩ := hR
        refine gcV_v (rest := []) ⟨hx, hb, hml, hown, hT⟩ (h_Model_readItem _ _ _ _ _ hc21) (cwV 1 hT (gV ml_Model_430 im_Model_readItem se_Model_readItem ini_Model co_Model_readItem) rfl rfl rfl pd_Model_readItem ⟨rm_hi, rm_lo (Nat.le_of_ble_eq_true rfl)⟩) hK hP hD hS hA hnw henv (Nat.le_of_ble_eq_true rfl) rfl rfl hl.1 rfl (Nat.le_of_ble_eq_true rfl) d_Model_program__115 ⟨Nat.le_refl _, Nat.le_refl _⟩ (fun H locs hP hD hS => ?_)
        clear hc21
        refine lv_aload_n hx hb d_Model_program__118 rfl (lv_at hl 1 rfl) ?_
        refine rd_Model_352 hx hb hT hown hK hP d_Model_program__119 ?_
        refine lv_bipush (v := 7) hx hb d_Model_program__122 (by decide) ?_
        refine lv_icmp_eq (tgt := 131) hx hb d_Model_program__124 (by decide) (fun c22 => ?_) (fun c22 => ?_)
        · replace hR := if_p c22 hR
          refine lv_iconst (v := 0) hx hb d_Model_program__131 (by decide) ?_
          refine lv_istore_n (lv' := [(1, .int (0 : Int32)), (2, .int y0), (0, .ref (ad 0))]) hx hb d_Model_program__132 rfl hl (by decide) rfl (fun ls hl => ?_)
          refine lv_goto (tgt := 36) hx hb d_Model_program__133 (by decide) ?_
          have g := hrec_36 T21 (0 : Int32) hR
          rw [hG] at g
          exact g _ _ hP hD hS _ (lv_sub hl [2, 0] rfl)
        · replace hR := if_n c22 hR
          refine lv_iconst (v := 1) hx hb d_Model_program__127 (by decide) ?_
          refine lv_goto (tgt := 132) hx hb d_Model_program__128 (by decide) ?_
          refine lv_istore_n (lv' := [(1, .int (1 : Int32)), (2, .int y0), (0, .ref (ad 0))]) hx hb d_Model_program__132 rfl hl (by decide) rfl (fun ls hl => ?_)
          refine lv_goto (tgt := 36) hx hb d_Model_program__133 (by decide) ?_
          have g := hrec_36 T21 (1 : Int32) hR
          rw [hG] at g
          exact g _ _ hP hD hS _ (lv_sub hl [2, 0] rfl)
      · replace hR := if_p c19 hR
        refine lv_aload_n hx hb d_Model_program__104 rfl (lv_at hl 1 rfl) ?_
        replace hR := bi_e hR
        obtain ⟨r23, l23, T23, hc23, hR⟩ := hR
        refine gcV_v (rest := []) ⟨hx, hb, hml, hown, hT⟩ (h_Model_wrong _ _ _ _ hc23) (cwV 0 hT (gV ml_Model_406 im_Model_wrong se_Model_wrong ini_Model co_Model_wrong) rfl rfl rfl pd_Model_wrong ⟨rm_hi, rm_lo (Nat.le_of_ble_eq_true rfl)⟩) hK hP hD hS hA hnw henv (Nat.le_of_ble_eq_true rfl) rfl rfl hl.1 rfl (Nat.le_of_ble_eq_true rfl) d_Model_program__105 ⟨Nat.le_refl _, Nat.le_refl _⟩ (fun H locs hP hD hS => ?_)
        clear hc23
        obtain ⟨-, -, e3⟩ := re_e hR
        subst e3
        exact W.vret hx hb hr (fun t ht hW => ⟨⟨(), rfl, trivial, by rw [ht]; exact hP, va_K.moved hW.alike hK, hD⟩, hS.F ht⟩) hS.2.2 d_Model_program__108
  have lb_36 : ∀ (n : Nat) (T : gSt) (x1 : Int32), rl_Model_program__36 F nf n T x1 = some (r0, rl0, T9) → G 36 [(0, .ref (ad 0)), (1, .int x1)] [] T := by
    intro n
    induction n with
    | zero => intro T x1 hR; rw [rl_Model_program__36] at hR; cases hR
    | succ n ih =>
      intro T x1 hR; rw [rl_Model_program__36] at hR; rw [hG]; intro H locs hP hD hS ls hl
      refine lv_iload_n hx hb d_Model_program__36 rfl (lv_at hl 1 rfl) ?_
      refine lv_if_eq (tgt := 136) hx hb d_Model_program__37 (by decide) (fun c8 => ?_) (fun c8 => ?_)
      · replace hR := if_p c8 hR
        obtain ⟨-, -, e3⟩ := re_e hR
        subst e3
        exact W.vret hx hb hr (fun t ht hW => ⟨⟨(), rfl, trivial, by rw [ht]; exact hP, va_K.moved hW.alike hK, hD⟩, hS.F ht⟩) hS.2.2 d_Model_program__136
      · replace hR := if_n c8 hR
        refine lv_aload_n hx hb d_Model_program__40 rfl (lv_at hl 0 rfl) ?_
        replace hR := bi_e hR
        obtain ⟨r9, l9, T9, hc9, hR⟩ := hR
        refine gcV_i (rest := []) ⟨hx, hb, hml, hown, hT⟩ (h_Model_bad _ _ _ _ hc9) (cwV 0 hT (gV ml_Model_385 im_Model_bad se_Model_bad ini_Model co_Model_bad) rfl rfl rfl pd_Model_bad ⟨rm_hi, rm_lo (Nat.le_of_ble_eq_true rfl)⟩) hK hP hD hS hA hnw henv (Nat.le_of_ble_eq_true rfl) rfl rfl hl.1 rfl (Nat.le_of_ble_eq_true rfl) d_Model_program__41 ⟨Nat.le_refl _, Nat.le_refl _⟩ (fun H locs hP hD hS => ?_)
        clear hc9
        refine lv_if_ne (tgt := 136) hx hb d_Model_program__44 (by decide) (fun c10 => ?_) (fun c10 => ?_)
        · replace hR := if_n c10 hR
          obtain ⟨-, -, e3⟩ := re_e hR
          subst e3
          exact W.vret hx hb hr (fun t ht hW => ⟨⟨(), rfl, trivial, by rw [ht]; exact hP, va_K.moved hW.alike hK, hD⟩, hS.F ht⟩) hS.2.2 d_Model_program__136
        · replace hR := if_p c10 hR
          refine lv_aload_n hx hb d_Model_program__47 rfl (lv_at hl 0 rfl) ?_
          refine gldcw (own := R_Model) (index := 424) (q := ea 6) hx hb hown (henv.2.2 6 (by decide)).2 d_Model_program__48 ?_
          replace hR := bi_e hR
          obtain ⟨r11, l11, T11, hc11, hR⟩ := hR
          refine gcV_i (rest := []) ⟨hx, hb, hml, hown, hT⟩ (h_Model_isWord _ 6 _ _ _ (by first | decide | assumption) hc11) (cwV 1 hT (gV ml_Model_399 im_Model_isWord se_Model_isWord ini_Model co_Model_isWord) rfl rfl rfl pd_Model_isWord ⟨rm_hi, rm_lo (Nat.le_of_ble_eq_true rfl)⟩) hK hP hD hS hA hnw henv (Nat.le_of_ble_eq_true rfl) rfl rfl hl.1 rfl (Nat.le_of_ble_eq_true rfl) d_Model_program__51 ⟨Nat.le_refl _, Nat.le_refl _⟩ (fun H locs hP hD hS => ?_)
          clear hc11
          refine lv_if_eq (tgt := 61) hx hb d_Model_program__54 (by decide) (fun c12 => ?_) (fun c12 => ?_)
          · replace hR := if_p c12 hR
            refine lv_aload_n hx hb d_Model_program__61 rfl (lv_at hl 0 rfl) ?_
            refine gldcw (own := R_Model) (index := 426) (q := ea 7) hx hb hown (henv.2.2 7 (by decide)).2 d_Model_program__62 ?_
            replace hR := bi_e hR
            obtain ⟨r13, l13, T13, hc13, hR⟩ := hR
            refine gcV_i (rest := []) ⟨hx, hb, hml, hown, hT⟩ (h_Model_isWord _ 7 _ _ _ (by first | decide | assumption) hc13) (cwV 1 hT (gV ml_Model_399 im_Model_isWord se_Model_isWord ini_Model co_Model_isWord) rfl rfl rfl pd_Model_isWord ⟨rm_hi, rm_lo (Nat.le_of_ble_eq_true rfl)⟩) hK hP hD hS hA hnw henv (Nat.le_of_ble_eq_true rfl) rfl rfl hl.1 rfl (Nat.le_of_ble_eq_true rfl) d_Model_program__65 ⟨Nat.le_refl _, Nat.le_refl _⟩ (fun H locs hP hD hS => ?_)
            clear hc13
            refine lv_if_eq (tgt := 75) hx hb d_Model_program__68 (by decide) (fun c14 => ?_) (fun c14 => ?_)
            · replace hR := if_p c14 hR
              refine lv_aload_n hx hb d_Model_program__75 rfl (lv_at hl 0 rfl) ?_
              refine gldcw (own := R_Model) (index := 428) (q := ea 8) hx hb hown (henv.2.2 8 (by decide)).2 d_Model_program__76 ?_
              replace hR := bi_e hR
              obtain ⟨r15, l15, T15, hc15, hR⟩ := hR
              refine gcV_i (rest := []) ⟨hx, hb, hml, hown, hT⟩ (h_Model_isWord _ 8 _ _ _ (by first | decide | assumption) hc15) (cwV 1 hT (gV ml_Model_399 im_Model_isWord se_Model_isWord ini_Model co_Model_isWord) rfl rfl rfl pd_Model_isWord ⟨rm_hi, rm_lo (Nat.le_of_ble_eq_true rfl)⟩) hK hP hD hS hA hnw henv (Nat.le_of_ble_eq_true rfl) rfl rfl hl.1 rfl (Nat.le_of_ble_eq_true rfl) d_Model_program__79 ⟨Nat.le_refl _, Nat.le_refl _⟩ (fun H locs hP hD hS => ?_)
              clear hc15
              refine lv_if_eq (tgt := 89) hx hb d_Model_program__82 (by decide) (fun c16 => ?_) (fun c16 => ?_)
              · replace hR := if_p c16 hR
                refine lv_iconst (v := (-1)) hx hb d_Model_program__89 (by decide) ?_
                have g := lb_90 (rl_Model_program__36 F nf n) ih T15 (-1 : Int32) hR
                rw [hG] at g
                exact g _ _ hP hD hS _ (lv_sub hl [0] rfl)
              · replace hR := if_n c16 hR
                refine lv_iconst (v := 2) hx hb d_Model_program__85 (by decide) ?_
                refine lv_goto (tgt := 90) hx hb d_Model_program__86 (by decide) ?_
                have g := lb_90 (rl_Model_program__36 F nf n) ih T15 (2 : Int32) hR
                rw [hG] at g
                exact g _ _ hP hD hS _ (lv_sub hl [0] rfl)
            · replace hR := if_n c14 hR
              refine lv_iconst (v := 1) hx hb d_Model_program__71 (by decide) ?_
              refine lv_goto (tgt := 90) hx hb d_Model_program__72 (by decide) ?_
              have g := lb_90 (rl_Model_program__36 F nf n) ih T13 (1 : Int32) hR
              rw [hG] at g
              exact g _ _ hP hD hS _ (lv_sub hl [0] rfl)
          · replace hR := if_n c12 hR
            refine lv_iconst (v := 0) hx hb d_Model_program__57 (by decide) ?_
            refine lv_goto (tgt := 90) hx hb d_Model_program__58 (by decide) ?_
            have g := lb_90 (rl_Model_program__36 F nf n) ih T11 (0 : Int32) hR
            rw [hG] at g
            exact g _ _ hP hD hS _ (lv_sub hl [0] rfl)
  unfold rb_Model_program_ at hR
  refine lv_aload_n hx hb d_Model_program__0 rfl (lv_at hl 0 rfl) ?_
  refine lv_iconst (v := 0) hx hb d_Model_program__1 (by decide) ?_
  refine wr_Model_342 hx hb hT hown hK hP hD hS d_Model_program__2 (fun T1 eT H locs hP hD hS => ?_)
  replace hR := stK_e eT hR
  clear eT
  refine lv_aload_n hx hb d_Model_program__5 rfl (lv_at hl 0 rfl) ?_
  refine lv_iconst (v := 0) hx hb d_Model_program__6 (by decide) ?_
  refine wr_Model_412 hx hb hT hown hK hP hD hS d_Model_program__7 (fun T2 eT H locs hP hD hS => ?_)
  replace hR := stK_e eT hR
  clear eT
  refine lv_aload_n hx hb d_Model_program__10 rfl (lv_at hl 0 rfl) ?_
  refine lv_iconst (v := 0) hx hb d_Model_program__11 (by decide) ?_
  refine wr_Model_415 hx hb hT hown hK hP hD hS d_Model_program__12 (fun T3 eT H locs hP hD hS => ?_)
  replace hR := stK_e eT hR
  clear eT
  refine lv_aload_n hx hb d_Model_program__15 rfl (lv_at hl 0 rfl) ?_
  refine lv_iconst (v := 0) hx hb d_Model_program__16 (by decide) ?_
  refine wr_Model_418 hx hb hT hown hK hP hD hS d_Model_program__17 (fun T4 eT H locs hP hD hS => ?_)
  replace hR := stK_e eT hR
  clear eT
  refine lv_aload_n hx hb d_Model_program__20 rfl (lv_at hl 0 rfl) ?_
  refine lv_iconst (v := 0) hx hb d_Model_program__21 (by decide) ?_
  refine wr_Model_409 hx hb hT hown hK hP hD hS d_Model_program__22 (fun T5 eT H locs hP hD hS => ?_)
  replace hR := stK_e eT hR
  clear eT
  refine lv_aload_n hx hb d_Model_program__25 rfl (lv_at hl 0 rfl) ?_
  refine lv_iconst (v := 0) hx hb d_Model_program__26 (by decide) ?_
  refine wr_Model_421 hx hb hT hown hK hP hD hS d_Model_program__27 (fun T6 eT H locs hP hD hS => ?_)
  replace hR := stK_e eT hR
  clear eT
  refine lv_aload_n hx hb d_Model_program__30 rfl (lv_at hl 0 rfl) ?_
  replace hR := bi_e hR
  obtain ⟨r7, l7, T7, hc7, hR⟩ := hR
  refine gcV_v (rest := []) ⟨hx, hb, hml, hown, hT⟩ (h_Model_advance _ _ _ _ hc7) (cwV 0 hT (gV ml_Model_396 im_Model_advance se_Model_advance ini_Model co_Model_advance) rfl rfl rfl pd_Model_advance ⟨rm_hi, rm_lo (Nat.le_of_ble_eq_true rfl)⟩) hK hP hD hS hA hnw henv (Nat.le_of_ble_eq_true rfl) rfl rfl hl.1 rfl (Nat.le_of_ble_eq_true rfl) d_Model_program__31 ⟨Nat.le_refl _, Nat.le_refl _⟩ (fun H locs hP hD hS => ?_)
  clear hc7
  refine lv_iconst (v := 1) hx hb d_Model_program__34 (by decide) ?_
  refine lv_istore_n (lv' := [(1, .int (1 : Int32)), (0, .ref (ad 0))]) hx hb d_Model_program__35 rfl hl (by decide) rfl (fun ls hl => ?_)
  have g := lb_36 nf T7 (1 : Int32) hR
  rw [hG] at g
  exact g _ _ hP hD hS _ (lv_sub hl [1, 0] rfl)
set_option maxHeartbeats 4000000 in
set_option maxRecDepth 100000 in
theorem sp_Model_readItem (l : Launch) (dC : Nat → ClassId) (dI : Nat → Nat → Nat) (ea ev ad : Nat → Nat) (km : Nat → ClassId) (F : gF) (nf d : Nat) (h_Model_wrong : mt_Model_wrong l dC dI ea ev ad km F d) (h_Model_bad : mt_Model_bad l dC dI ea ev ad km F d) (h_Model_advance : mt_Model_advance l dC dI ea ev ad km F d) (h_Model_need : mt_Model_need l dC dI ea ev ad km F d) (h_Model_readHead : mt_Model_readHead l dC dI ea ev ad km F d) (h_Model_block : mt_Model_block l dC dI ea ev ad km F d) (h_Model_readField : mt_Model_readField l dC dI ea ev ad km F d) (h_Model_isSign : mt_Model_isSign l dC dI ea ev ad km F d) (T0 : gSt) (p1 : Int32) (r0 : Int32) (rl0 : Int64) (T9 : gSt) (hR : rb_Model_readItem F nf T0 p1 = some (r0, rl0, T9)) : GMv l dC dI LM ad km ea ev y_Model_readItem w_Model_readItem (rmD (d + 1)) [.ref (ad 0), .int p1] T0 T9 := by
  intro sz
  refine Met.ofW (cc := b_Model_readItem) (maxL := 2) (ret := none) (by decide) rfl ?_
  intro p e s m args below meth c s₁ B hml hv
  obtain ⟨rfl, hsz, hP, hK, hD0, hnw, henv⟩ := hv
  have hx := B.exec
  have hb := B.bytes
  have hr := B.returns
  have hT : ∀ w ∈ lw_good, w.before _ s = true := fun w h => atoms_spec (ws := w_Model_readItem) B.pre w (List.mem_cons_of_mem _ h)
  have hown : s.vm.findClass R_Model = some m.cls := findClass_of_methodNamed B.named
  subst hsz
  have hD := hD0.self (sz := s.heap.size)
  clear hD0
  generalize hAe : va_A (gW LM ad km T0) s.heap.size = A at hD henv ⊢
  have hA : ∀ q : Nat, s.heap.size ≤ q → A q := fun q h => by rw [← hAe]; exact Or.inr h
  have hS : va_S A s.heap s.heap [] := va_S.rf
  have hl := lv_entry ([.ref (ad 0), .int p1]) (n := 2) (Nat.le_of_ble_eq_true rfl)
  rw [lg_entry_eq]
  generalize (lg_sl ([.ref (ad 0), .int p1]) ++ List.replicate (2 - (lg_sl ([.ref (ad 0), .int p1])).length) Slot.unset).toArray = ls at hl ⊢
  have hl : lv_has ls 2 [(0, .ref (ad 0)), (1, .int p1)] := hl
  obtain ⟨G, hG⟩ : ∃ G : Nat → List (Nat × Value) → List Value → gSt → Prop, G = (fun pc lv stk T => ∀ (H : Heap) (locs : List Loc), va_P (dC, dI) cls_all (gW LM ad km T) H → va_D A (gW LM ad km T) → va_S A s.heap H locs → ∀ (ls : Array Slot), lv_has ls 2 lv → W p l e (headSpec w_Model_readItem (rmD (d + 1))).room s m ([.ref (ad 0), .int p1] : List Value).toArray below meth c H locs 0 0 (MQ below (va_Qv (fun (_ : Unit) => True) (fun _ t => gPost dC dI LM ad km T9 A t) A) ([.ref (ad 0), .int p1] : List Value).toArray s 0 0 A) (F0 m pc ls stk)) := ⟨_, rfl⟩
  have lb_312 : ∀ (rec_294 : gSt → gR) (hrec_294 : ∀ (T : gSt), rec_294 T = some (r0, rl0, T9) → G 294 [(0, .ref (ad 0))] [] T) (T : gSt), rj_Model_readItem_312 F nf rec_294 T = some (r0, rl0, T9) → G 312 [(0, .ref (ad 0))] [] T := by
    intro rec_294 hrec_294 T hR; unfold rj_Model_readItem_312 at hR; rw [hG]; intro H locs hP hD hS ls hl
    refine lv_aload_n hx hb d_Model_readItem_312 rfl (lv_at hl 0 rfl) ?_
    replace hR := bi_e hR
    obtain ⟨r41, l41, T41, hc41, hR⟩ := hR
    refine gcV_v (rest := []) ⟨hx, hb, hml, hown, hT⟩ (h_Model_readField _ _ _ _ hc41) (cwV 0 hT (gV ml_Model_451 im_Model_readField se_Model_readField ini_Model co_Model_readField) rfl rfl rfl pd_Model_readField ⟨rm_hi, rm_lo (Nat.le_of_ble_eq_true rfl)⟩) hK hP hD hS hA hnw henv (Nat.le_of_ble_eq_true rfl) rfl rfl hl.1 rfl (Nat.le_of_ble_eq_true rfl) d_Model_readItem_313 ⟨Nat.le_refl _, Nat.le_refl _⟩ (fun H locs hP hD hS => ?_)
    clear hc41
    refine lv_aload_n hx hb d_Model_readItem_316 rfl (lv_at hl 0 rfl) ?_
    refine lv_bipush (v := 59) hx hb d_Model_readItem_317 (by decide) ?_
    replace hR := bi_e hR
    obtain ⟨r42, l42, T42, hc42, hR⟩ := hR
    refine gcV_v (rest := []) ⟨hx, hb, hml, hown, hT⟩ (h_Model_need _ _ _ _ _ hc42) (cwV 1 hT (gV ml_Model_448 im_Model_need se_Model_need ini_Model co_Model_need) rfl rfl rfl pd_Model_need ⟨rm_hi, rm_lo (Nat.le_of_ble_eq_true rfl)⟩) hK hP hD hS hA hnw henv (Nat.le_of_ble_eq_true rfl) rfl rfl hl.1 rfl (Nat.le_of_ble_eq_true rfl) d_Model_readItem_319 ⟨Nat.le_refl _, Nat.le_refl _⟩ (fun H locs hP hD hS => ?_)
    clear hc42
    refine lv_aload_n hx hb d_Model_readItem_322 rfl (lv_at hl 0 rfl) ?_
    replace hR := bi_e hR
    obtain ⟨r43, l43, T43, hc43, hR⟩ := hR
    refine gcV_i (rest := []) ⟨hx, hb, hml, hown, hT⟩ (h_Model_bad _ _ _ _ hc43) (cwV 0 hT (gV ml_Model_385 im_Model_bad se_Model_bad ini_Model co_Model_bad) rfl rfl rfl pd_Model_bad ⟨rm_hi, rm_lo (Nat.le_of_ble_eq_true rfl)⟩) hK hP hD hS hA hnw henv (Nat.le_of_ble_eq_true rfl) rfl rfl hl.1 rfl (Nat.le_of_ble_eq_true rfl) d_Model_readItem_323 ⟨Nat.le_refl _, Nat.le_refl _⟩ (fun H locs hP hD hS => ?_)
    clear hc43
    refine lv_if_ne (tgt := 338) hx hb d_Model_readItem_326 (by decide) (fun c44 => ?_) (fun c44 => ?_)
    · replace hR := if_n c44 hR
      refine lv_aload_n hx hb d_Model_readItem_338 rfl (lv_at hl 0 rfl) ?_
      refine lv_bipush (v := 125) hx hb d_Model_readItem_339 (by decide) ?_
      replace hR := bi_e hR
      obtain ⟨r45, l45, T45, hc45, hR⟩ := hR
      refine gcV_v (rest := []) ⟨hx, hb, hml, hown, hT⟩ (h_Model_need _ _ _ _ _ hc45) (cwV 1 hT (gV ml_Model_448 im_Model_need se_Model_need ini_Model co_Model_need) rfl rfl rfl pd_Model_need ⟨rm_hi, rm_lo (Nat.le_of_ble_eq_true rfl)⟩) hK hP hD hS hA hnw henv (Nat.le_of_ble_eq_true rfl) rfl rfl hl.1 rfl (Nat.le_of_ble_eq_true rfl) d_Model_readItem_341 ⟨Nat.le_refl _, Nat.le_refl _⟩ (fun H locs hP hD hS => ?_)
      clear hc45
      refine lv_aload_n hx hb d_Model_readItem_344 rfl (lv_at hl 0 rfl) ?_
      refine lv_bipush (v := 59) hx hb d_Model_readItem_345 (by decide) ?_
      replace hR := bi_e hR
      obtain ⟨r46, l46, T46, hc46, hR⟩ := hR
      refine gcV_v (rest := []) ⟨hx, hb, hml, hown, hT⟩ (h_Model_need _ _ _ _ _ hc46) (cwV 1 hT (gV ml_Model_448 im_Model_need se_Model_need ini_Model co_Model_need) rfl rfl rfl pd_Model_need ⟨rm_hi, rm_lo (Nat.le_of_ble_eq_true rfl)⟩) hK hP hD hS hA hnw henv (Nat.le_of_ble_eq_true rfl) rfl rfl hl.1 rfl (Nat.le_of_ble_eq_true rfl) d_Model_readItem_347 ⟨Nat.le_refl _, Nat.le_refl _⟩ (fun H locs hP hD hS => ?_)
      clear hc46
      obtain ⟨-, -, e3⟩ := re_e hR
      subst e3
      exact W.vret hx hb hr (fun t ht hW => ⟨⟨(), rfl, trivial, by rw [ht]; exact hP, va_K.moved hW.alike hK, hD⟩, hS.F ht⟩) hS.2.2 d_Model_readItem_350
    · replace hR := if_p c44 hR
      refine lv_aload_n hx hb d_Model_readItem_329 rfl (lv_at hl 0 rfl) ?_
      refine lv_bipush (v := 125) hx hb d_Model_readItem_330 (by decide) ?_
      replace hR := bi_e hR
      obtain ⟨r47, l47, T47, hc47, hR⟩ := hR
      refine gcV_i (rest := []) ⟨hx, hb, hml, hown, hT⟩ (h_Model_isSign _ _ _ _ _ hc47) (cwV 1 hT (gV ml_Model_393 im_Model_isSign se_Model_isSign ini_Model co_Model_isSign) rfl rfl rfl pd_Model_isSign ⟨rm_hi, rm_lo (Nat.le_of_ble_eq_true rfl)⟩) hK hP hD hS hA hnw henv (Nat.le_of_ble_eq_true rfl) rfl rfl hl.1 rfl (Nat.le_of_ble_eq_true rfl) d_Model_readItem_332 ⟨Nat.le_refl _, Nat.le_refl _⟩ (fun H locs hP hD hS => ?_)
      clear hc47
      refine lv_if_eq (tgt := 294) hx hb d_Model_readItem_335 (by decide) (fun c48 => ?_) (fun c48 => ?_)
      · replace hR := if_p c48 hR
        have g := hrec_294 T47 hR
        rw [hG] at g
        exact g _ _ hP hD hS _ (lv_sub hl [0] rfl)
      · replace hR := if_n c48 hR
        refine lv_aload_n hx hb d_Model_readItem_338 rfl (lv_at hl 0 rfl) ?_
        refine lv_bipush (v := 125) hx hb d_Model_readItem_339 (by decide) ?_
        replace hR := bi_e hR
        obtain ⟨r49, l49, T49, hc49, hR⟩ := hR
        refine gcV_v (rest := []) ⟨hx, hb, hml, hown, hT⟩ (h_Model_need _ _ _ _ _ hc49) (cwV 1 hT (gV ml_Model_448 im_Model_need se_Model_need ini_Model co_Model_need) rfl rfl rfl pd_Model_need ⟨rm_hi, rm_lo (Nat.le_of_ble_eq_true rfl)⟩) hK hP hD hS hA hnw henv (Nat.le_of_ble_eq_true rfl) rfl rfl hl.1 rfl (Nat.le_of_ble_eq_true rfl) d_Model_readItem_341 ⟨Nat.le_refl _, Nat.le_refl _⟩ (fun H locs hP hD hS => ?_)
        clear hc49
        refine lv_aload_n hx hb d_Model_readItem_344 rfl (lv_at hl 0 rfl) ?_
        refine lv_bipush (v := 59) hx hb d_Model_readItem_345 (by decide) ?_
        replace hR := bi_e hR
        obtain ⟨r50, l50, T50, hc50, hR⟩ := hR
        refine gcV_v (rest := []) ⟨hx, hb, hml, hown, hT⟩ (h_Model_need _ _ _ _ _ hc50) (cwV 1 hT (gV ml_Model_448 im_Model_need se_Model_need ini_Model co_Model_need) rfl rfl rfl pd_Model_need ⟨rm_hi, rm_lo (Nat.le_of_ble_eq_true rfl)⟩) hK hP hD hS hA hnw henv (Nat.le_of_ble_eq_true rfl) rfl rfl hl.1 rfl (Nat.le_of_ble_eq_true rfl) d_Model_readItem_347 ⟨Nat.le_refl _, Nat.le_refl _⟩ (fun H locs hP hD hS => ?_)
        clear hc50
        obtain ⟨-, -, e3⟩ := re_e hR
        subst e3
        exact W.vret hx hb hr (fun t ht hW => ⟨⟨(), rfl, trivial, by rw [ht]; exact hP, va_K.moved hW.alike hK, hD⟩, hS.F ht⟩) hS.2.2 d_Model_readItem_350
  have lb_294 : ∀ (n : Nat) (T : gSt), rl_Model_readItem_294 F nf n T = some (r0, rl0, T9) → G 294 [(0, .ref (ad 0))] [] T := by
    intro n
    induction n with
    | zero => intro T hR; rw [rl_Model_readItem_294] at hR; cases hR
    | succ n ih =>
      intro T hR; rw [rl_Model_readItem_294] at hR; rw [hG]; intro H locs hP hD hS ls hl
      refine lv_aload_n hx hb d_Model_readItem_294 rfl (lv_at hl 0 rfl) ?_
      refine rd_Model_39 hx hb hT hown hK hP d_Model_readItem_295 ?_
      refine lv_aload_n hx hb d_Model_readItem_298 rfl (lv_at hl 0 rfl) ?_
      refine rd_Model_433 hx hb hT hown hK hP d_Model_readItem_299 ?_
      replace hR := gd_e hR
      obtain ⟨b38, hR⟩ := hR
      refine laM_8 hx hb hK hP b38 d_Model_readItem_302 ?_
      refine lv_bipush (v := 8) hx hb d_Model_readItem_303 (by decide) ?_
      refine lv_icmp_ne (tgt := 312) hx hb d_Model_readItem_305 (by decide) (fun c39 => ?_) (fun c39 => ?_)
      · replace hR := if_n c39 hR
        have g := lb_312 (rl_Model_readItem_294 F nf n) ih T hR
        rw [hG] at g
        exact g _ _ hP hD hS _ (lv_sub hl [0] rfl)
      · replace hR := if_p c39 hR
        refine lv_aload_n hx hb d_Model_readItem_308 rfl (lv_at hl 0 rfl) ?_
        replace hR := bi_e hR
        obtain ⟨r40, l40, T40, hc40, hR⟩ := hR
        refine gcV_v (rest := []) ⟨hx, hb, hml, hown, hT⟩ (h_Model_wrong _ _ _ _ hc40) (cwV 0 hT (gV ml_Model_406 im_Model_wrong se_Model_wrong ini_Model co_Model_wrong) rfl rfl rfl pd_Model_wrong ⟨rm_hi, rm_lo (Nat.le_of_ble_eq_true rfl)⟩) hK hP hD hS hA hnw henv (Nat.le_of_ble_eq_true rfl) rfl rfl hl.1 rfl (Nat.le_of_ble_eq_true rfl) d_Model_readItem_309 ⟨Nat.le_refl _, Nat.le_refl _⟩ (fun H locs hP hD hS => ?_)
        clear hc40
        have g := lb_312 (rl_Model_readItem_294 F nf n) ih T40 hR
        rw [hG] at g
        exact g _ _ hP hD hS _ (lv_sub hl [0] rfl)
  have lb_188 : ∀ (T : gSt) (x1 : Int32), rj_Model_readItem_188 F nf T x1 = some (r0, rl0, T9) → G 188 [(0, .ref (ad 0)), (1, .int x1)] [] T := by
    intro T x1 hR; unfold rj_Model_readItem_188 at hR; rw [hG]; intro H locs hP hD hS ls hl
    refine lv_aload_n hx hb d_Model_readItem_188 rfl (lv_at hl 0 rfl) ?_
    refine rd_Model_36 hx hb hT hown hK hP d_Model_readItem_189 ?_
    refine lv_aload_n hx hb d_Model_readItem_192 rfl (lv_at hl 0 rfl) ?_
    refine rd_Model_433 hx hb hT hown hK hP d_Model_readItem_193 ?_
    refine lv_aload_n hx hb d_Model_readItem_196 rfl (lv_at hl 0 rfl) ?_
    refine rd_Model_415 hx hb hT hown hK hP d_Model_readItem_197 ?_
    replace hR := gd_e hR
    obtain ⟨b25, hR⟩ := hR
    refine saM_7 hx hb hK hP hD hS b25 d_Model_readItem_200 (fun T25 eT H locs hP hD hS => ?_)
    replace hR := stK_e eT hR
    clear eT
    refine lv_aload_n hx hb d_Model_readItem_201 rfl (lv_at hl 0 rfl) ?_
    refine rd_Model_39 hx hb hT hown hK hP d_Model_readItem_202 ?_
    refine lv_aload_n hx hb d_Model_readItem_205 rfl (lv_at hl 0 rfl) ?_
    refine rd_Model_433 hx hb hT hown hK hP d_Model_readItem_206 ?_
    refine lv_iconst (v := 0) hx hb d_Model_readItem_209 (by decide) ?_
    replace hR := gd_e hR
    obtain ⟨b26, hR⟩ := hR
    refine saM_8 hx hb hK hP hD hS b26 d_Model_readItem_210 (fun T26 eT H locs hP hD hS => ?_)
    replace hR := stK_e eT hR
    clear eT
    refine lv_aload_n hx hb d_Model_readItem_211 rfl (lv_at hl 0 rfl) ?_
    refine lv_iconst (v := 0) hx hb d_Model_readItem_212 (by decide) ?_
    refine wr_Model_436 hx hb hT hown hK hP hD hS d_Model_readItem_213 (fun T27 eT H locs hP hD hS => ?_)
    replace hR := stK_e eT hR
    clear eT
    refine lv_aload_n hx hb d_Model_readItem_216 rfl (lv_at hl 0 rfl) ?_
    refine lv_iconst (v := 0) hx hb d_Model_readItem_217 (by decide) ?_
    refine wr_Model_439 hx hb hT hown hK hP hD hS d_Model_readItem_218 (fun T28 eT H locs hP hD hS => ?_)
    replace hR := stK_e eT hR
    clear eT
    refine lv_aload_n hx hb d_Model_readItem_221 rfl (lv_at hl 0 rfl) ?_
    refine rd_Model_54 hx hb hT hown hK hP d_Model_readItem_222 ?_
    refine lv_aload_n hx hb d_Model_readItem_225 rfl (lv_at hl 0 rfl) ?_
    refine rd_Model_433 hx hb hT hown hK hP d_Model_readItem_226 ?_
    refine lv_iconst (v := (-1)) hx hb d_Model_readItem_229 (by decide) ?_
    replace hR := gd_e hR
    obtain ⟨b29, hR⟩ := hR
    refine saM_13 hx hb hK hP hD hS b29 d_Model_readItem_230 (fun T29 eT H locs hP hD hS => ?_)
    replace hR := stK_e eT hR
    clear eT
    refine lv_aload_n hx hb d_Model_readItem_231 rfl (lv_at hl 0 rfl) ?_
    refine rd_Model_60 hx hb hT hown hK hP d_Model_readItem_232 ?_
    refine lv_aload_n hx hb d_Model_readItem_235 rfl (lv_at hl 0 rfl) ?_
    refine rd_Model_433 hx hb hT hown hK hP d_Model_readItem_236 ?_
    refine lv_iconst (v := 0) hx hb d_Model_readItem_239 (by decide) ?_
    replace hR := gd_e hR
    obtain ⟨b30, hR⟩ := hR
    refine saM_15 hx hb hK hP hD hS b30 d_Model_readItem_240 (fun T30 eT H locs hP hD hS => ?_)
    replace hR := stK_e eT hR
    clear eT
    refine lv_aload_n hx hb d_Model_readItem_241 rfl (lv_at hl 0 rfl) ?_
    refine rd_Model_72 hx hb hT hown hK hP d_Model_readItem_242 ?_
    refine lv_aload_n hx hb d_Model_readItem_245 rfl (lv_at hl 0 rfl) ?_
    refine rd_Model_433 hx hb hT hown hK hP d_Model_readItem_246 ?_
    refine lv_iconst (v := 0) hx hb d_Model_readItem_249 (by decide) ?_
    replace hR := gd_e hR
    obtain ⟨b31, hR⟩ := hR
    refine saM_19 hx hb hK hP hD hS b31 d_Model_readItem_250 (fun T31 eT H locs hP hD hS => ?_)
    replace hR := stK_e eT hR
    clear eT
    refine lv_iload_n hx hb d_Model_readItem_251 rfl (lv_at hl 1 rfl) ?_
    refine lv_iconst (v := 2) hx hb d_Model_readItem_252 (by decide) ?_
    refine lv_icmp_ne (tgt := 288) hx hb d_Model_readItem_253 (by decide) (fun c32 => ?_) (fun c32 => ?_)
    · replace hR := if_n c32 hR
      refine lv_aload_n hx hb d_Model_readItem_288 rfl (lv_at hl 0 rfl) ?_
      refine lv_bipush (v := 123) hx hb d_Model_readItem_289 (by decide) ?_
      replace hR := bi_e hR
      obtain ⟨r33, l33, T33, hc33, hR⟩ := hR
      refine gcV_v (rest := []) ⟨hx, hb, hml, hown, hT⟩ (h_Model_need _ _ _ _ _ hc33) (cwV 1 hT (gV ml_Model_448 im_Model_need se_Model_need ini_Model co_Model_need) rfl rfl rfl pd_Model_need ⟨rm_hi, rm_lo (Nat.le_of_ble_eq_true rfl)⟩) hK hP hD hS hA hnw henv (Nat.le_of_ble_eq_true rfl) rfl rfl hl.1 rfl (Nat.le_of_ble_eq_true rfl) d_Model_readItem_291 ⟨Nat.le_refl _, Nat.le_refl _⟩ (fun H locs hP hD hS => ?_)
      clear hc33
      have g := lb_294 nf T33 hR
      rw [hG] at g
      exact g _ _ hP hD hS _ (lv_sub hl [0] rfl)
    · replace hR := if_p c32 hR
      refine lv_aload_n hx hb d_Model_readItem_256 rfl (lv_at hl 0 rfl) ?_
      replace hR := bi_e hR
      obtain ⟨r34, l34, T34, hc34, hR⟩ := hR
      refine gcV_v (rest := []) ⟨hx, hb, hml, hown, hT⟩ (h_Model_readHead _ _ _ _ hc34) (cwV 0 hT (gV ml_Model_442 im_Model_readHead se_Model_readHead ini_Model co_Model_readHead) rfl rfl rfl pd_Model_readHead ⟨rm_hi, rm_lo (Nat.le_of_ble_eq_true rfl)⟩) hK hP hD hS hA hnw henv (Nat.le_of_ble_eq_true rfl) rfl rfl hl.1 rfl (Nat.le_of_ble_eq_true rfl) d_Model_readItem_257 ⟨Nat.le_refl _, Nat.le_refl _⟩ (fun H locs hP hD hS => ?_)
      clear hc34
      refine lv_aload_n hx hb d_Model_readItem_260 rfl (lv_at hl 0 rfl) ?_
      refine rd_Model_81 hx hb hT hown hK hP d_Model_readItem_261 ?_
      refine lv_aload_n hx hb d_Model_readItem_264 rfl (lv_at hl 0 rfl) ?_
      refine rd_Model_433 hx hb hT hown hK hP d_Model_readItem_265 ?_
      refine lv_aload_n hx hb d_Model_readItem_268 rfl (lv_at hl 0 rfl) ?_
      refine lv_iconst (v := 1) hx hb d_Model_readItem_269 (by decide) ?_
      replace hR := bi_e hR
      obtain ⟨r35, l35, T35, hc35, hR⟩ := hR
      refine gcV_i (rest := [.int (T34.1 64 0), .ref (ad 23)]) ⟨hx, hb, hml, hown, hT⟩ (h_Model_block _ _ _ _ _ hc35) (cwV 1 hT (gV ml_Model_445 im_Model_block se_Model_block ini_Model co_Model_block) rfl rfl rfl pd_Model_block ⟨rm_hi, rm_lo (Nat.le_of_ble_eq_true rfl)⟩) hK hP hD hS hA hnw henv (Nat.le_of_ble_eq_true rfl) rfl rfl hl.1 rfl (Nat.le_of_ble_eq_true rfl) d_Model_readItem_270 ⟨Nat.le_refl _, Nat.le_refl _⟩ (fun H locs hP hD hS => ?_)
      clear hc35
      replace hR := gd_e hR
      obtain ⟨b36, hR⟩ := hR
      refine saM_22 hx hb hK hP hD hS b36 d_Model_readItem_273 (fun T36 eT H locs hP hD hS => ?_)
      replace hR := stK_e eT hR
      clear eT
      refine lv_aload_n hx hb d_Model_readItem_274 rfl (lv_at hl 0 rfl) ?_
      refine rd_Model_84 hx hb hT hown hK hP d_Model_readItem_275 ?_
      refine lv_aload_n hx hb d_Model_readItem_278 rfl (lv_at hl 0 rfl) ?_
      refine rd_Model_433 hx hb hT hown hK hP d_Model_readItem_279 ?_
      refine lv_aload_n hx hb d_Model_readItem_282 rfl (lv_at hl 0 rfl) ?_
      refine rd_Model_436 hx hb hT hown hK hP d_Model_readItem_283 ?_
      replace hR := gd_e hR
      obtain ⟨b37, hR⟩ := hR
      refine saM_23 hx hb hK hP hD hS b37 d_Model_readItem_286 (fun T37 eT H locs hP hD hS => ?_)
      replace hR := stK_e eT hR
      clear eT
      obtain ⟨-, -, e3⟩ := re_e hR
      subst e3
      exact W.vret hx hb hr (fun t ht hW => ⟨⟨(), rfl, trivial, by rw [ht]; exact hP, va_K.moved hW.alike hK, hD⟩, hS.F ht⟩) hS.2.2 d_Model_readItem_287
  have lb_97 : ∀ (n : Nat) (T : gSt) (x1 : Int32), rl_Model_readItem_97 F nf n T x1 = some (r0, rl0, T9) → G 97 [(0, .ref (ad 0)), (1, .int x1)] [] T := by
    intro n
    induction n with
    | zero => intro T x1 hR; rw [rl_Model_readItem_97] at hR; cases hR
    | succ n ih =>
      intro T x1 hR; rw [rl_Model_readItem_97] at hR; rw [hG]; intro H locs hP hD hS ls hl
      refine lv_aload_n hx hb d_Model_readItem_97 rfl (lv_at hl 0 rfl) ?_
      refine rd_Model_352 hx hb hT hown hK hP d_Model_readItem_98 ?_
      refine lv_iconst (v := 4) hx hb d_Model_readItem_101 (by decide) ?_
      refine lv_icmp_ne (tgt := 188) hx hb d_Model_readItem_102 (by decide) (fun c15 => ?_) (fun c15 => ?_)
      · replace hR := if_n c15 hR
        have g := lb_188 T x1 hR
        rw [hG] at g
        exact g _ _ hP hD hS _ (lv_sub hl [0, 1] rfl)
      · replace hR := if_p c15 hR
        refine lv_aload_n hx hb d_Model_readItem_105 rfl (lv_at hl 0 rfl) ?_
        refine rd_Model_27 hx hb hT hown hK hP d_Model_readItem_106 ?_
        refine lv_aload_n hx hb d_Model_readItem_109 rfl (lv_at hl 0 rfl) ?_
        refine rd_Model_433 hx hb hT hown hK hP d_Model_readItem_110 ?_
        replace hR := gd_e hR
        obtain ⟨b16, hR⟩ := hR
        refine laM_4 hx hb hK hP b16 d_Model_readItem_113 ?_
        refine lv_iconst (v := 3) hx hb d_Model_readItem_114 (by decide) ?_
        refine lv_icmp_ge (tgt := 188) hx hb d_Model_readItem_115 (by decide) (fun c17 => ?_) (fun c17 => ?_)
        · replace hR := if_p c17 hR
          have g := lb_188 T x1 hR
          rw [hG] at g
          exact g _ _ hP hD hS _ (lv_sub hl [0, 1] rfl)
        · replace hR := if_n c17 hR
          refine lv_aload_n hx hb d_Model_readItem_118 rfl (lv_at hl 0 rfl) ?_
          refine rd_Model_30 hx hb hT hown hK hP d_Model_readItem_119 ?_
          refine lv_iconst (v := 3) hx hb d_Model_readItem_122 (by decide) ?_
          refine lv_aload_n hx hb d_Model_readItem_123 rfl (lv_at hl 0 rfl) ?_
          refine rd_Model_433 hx hb hT hown hK hP d_Model_readItem_124 ?_
          refine lv_imul hx hb d_Model_readItem_127 ?_
          refine lv_aload_n hx hb d_Model_readItem_128 rfl (lv_at hl 0 rfl) ?_
          refine rd_Model_27 hx hb hT hown hK hP d_Model_readItem_129 ?_
          refine lv_aload_n hx hb d_Model_readItem_132 rfl (lv_at hl 0 rfl) ?_
          refine rd_Model_433 hx hb hT hown hK hP d_Model_readItem_133 ?_
          replace hR := gd_e hR
          obtain ⟨b18, hR⟩ := hR
          refine laM_4 hx hb hK hP b18 d_Model_readItem_136 ?_
          refine lv_iadd hx hb d_Model_readItem_137 ?_
          refine lv_aload_n hx hb d_Model_readItem_138 rfl (lv_at hl 0 rfl) ?_
          refine rd_Model_365 hx hb hT hown hK hP d_Model_readItem_139 ?_
          replace hR := gd_e hR
          obtain ⟨b19, hR⟩ := hR
          refine saM_5 hx hb hK hP hD hS b19 d_Model_readItem_142 (fun T19 eT H locs hP hD hS => ?_)
          replace hR := stK_e eT hR
          clear eT
          refine lv_aload_n hx hb d_Model_readItem_143 rfl (lv_at hl 0 rfl) ?_
          refine rd_Model_33 hx hb hT hown hK hP d_Model_readItem_144 ?_
          refine lv_iconst (v := 3) hx hb d_Model_readItem_147 (by decide) ?_
          refine lv_aload_n hx hb d_Model_readItem_148 rfl (lv_at hl 0 rfl) ?_
          refine rd_Model_433 hx hb hT hown hK hP d_Model_readItem_149 ?_
          refine lv_imul hx hb d_Model_readItem_152 ?_
          refine lv_aload_n hx hb d_Model_readItem_153 rfl (lv_at hl 0 rfl) ?_
          refine rd_Model_27 hx hb hT hown hK hP d_Model_readItem_154 ?_
          refine lv_aload_n hx hb d_Model_readItem_157 rfl (lv_at hl 0 rfl) ?_
          refine rd_Model_433 hx hb hT hown hK hP d_Model_readItem_158 ?_
          replace hR := gd_e hR
          obtain ⟨b20, hR⟩ := hR
          refine laM_4 hx hb hK hP b20 d_Model_readItem_161 ?_
          refine lv_iadd hx hb d_Model_readItem_162 ?_
          refine lv_aload_n hx hb d_Model_readItem_163 rfl (lv_at hl 0 rfl) ?_
          refine rd_Model_349 hx hb hT hown hK hP d_Model_readItem_164 ?_
          replace hR := gd_e hR
          obtain ⟨b21, hR⟩ := hR
          refine saM_6 hx hb hK hP hD hS b21 d_Model_readItem_167 (fun T21 eT H locs hP hD hS => ?_)
          replace hR := stK_e eT hR
          clear eT
          refine lv_aload_n hx hb d_Model_readItem_168 rfl (lv_at hl 0 rfl) ?_
          refine rd_Model_27 hx hb hT hown hK hP d_Model_readItem_169 ?_
          refine lv_aload_n hx hb d_Model_readItem_172 rfl (lv_at hl 0 rfl) ?_
          refine rd_Model_433 hx hb hT hown hK hP d_Model_readItem_173 ?_
          refine lv_dup2_11 hx hb d_Model_readItem_176 rfl rfl ?_
          replace hR := gd_e hR
          obtain ⟨b22, hR⟩ := hR
          refine laM_4 hx hb hK hP b22 d_Model_readItem_177 ?_
          refine lv_iconst (v := 1) hx hb d_Model_readItem_178 (by decide) ?_
          refine lv_iadd hx hb d_Model_readItem_179 ?_
          replace hR := gd_e hR
          obtain ⟨b23, hR⟩ := hR
          refine saM_4 hx hb hK hP hD hS b23 d_Model_readItem_180 (fun T23 eT H locs hP hD hS => ?_)
          replace hR := stK_e eT hR
          clear eT
          refine lv_aload_n hx hb d_Model_readItem_181 rfl (lv_at hl 0 rfl) ?_
          replace hR := bi_e hR
          obtain ⟨r24, l24, T24, hc24, hR⟩ := hR
          refine gcV_v (rest := []) ⟨hx, hb, hml, hown, hT⟩ (h_Model_advance _ _ _ _ hc24) (cwV 0 hT (gV ml_Model_396 im_Model_advance se_Model_advance ini_Model co_Model_advance) rfl rfl rfl pd_Model_advance ⟨rm_hi, rm_lo (Nat.le_of_ble_eq_true rfl)⟩) hK hP hD hS hA hnw henv (Nat.le_of_ble_eq_true rfl) rfl rfl hl.1 rfl (Nat.le_of_ble_eq_true rfl) d_Model_readItem_182 ⟨Nat.le_refl _, Nat.le_refl _⟩ (fun H locs hP hD hS => ?_)
          clear hc24
          refine lv_goto (tgt := 97) hx hb d_Model_readItem_185 (by decide) ?_
          have g := ih T24 x1 hR
          rw [hG] at g
          exact g _ _ hP hD hS _ (lv_sub hl [0, 1] rfl)
  have lb_65 : ∀ (T : gSt) (x1 : Int32), rj_Model_readItem_65 F nf T x1 = some (r0, rl0, T9) → G 65 [(0, .ref (ad 0)), (1, .int x1)] [] T := by
    intro T x1 hR; unfold rj_Model_readItem_65 at hR; rw [hG]; intro H locs hP hD hS ls hl
    refine lv_aload_n hx hb d_Model_readItem_65 rfl (lv_at hl 0 rfl) ?_
    replace hR := bi_e hR
    obtain ⟨r10, l10, T10, hc10, hR⟩ := hR
    refine gcV_i (rest := []) ⟨hx, hb, hml, hown, hT⟩ (h_Model_bad _ _ _ _ hc10) (cwV 0 hT (gV ml_Model_385 im_Model_bad se_Model_bad ini_Model co_Model_bad) rfl rfl rfl pd_Model_bad ⟨rm_hi, rm_lo (Nat.le_of_ble_eq_true rfl)⟩) hK hP hD hS hA hnw henv (Nat.le_of_ble_eq_true rfl) rfl rfl hl.1 rfl (Nat.le_of_ble_eq_true rfl) d_Model_readItem_66 ⟨Nat.le_refl _, Nat.le_refl _⟩ (fun H locs hP hD hS => ?_)
    clear hc10
    refine lv_if_eq (tgt := 73) hx hb d_Model_readItem_69 (by decide) (fun c11 => ?_) (fun c11 => ?_)
    · replace hR := if_p c11 hR
      refine lv_aload_n hx hb d_Model_readItem_73 rfl (lv_at hl 0 rfl) ?_
      refine lv_dup hx hb d_Model_readItem_74 rfl ?_
      refine rd_Model_412 hx hb hT hown hK hP d_Model_readItem_75 ?_
      refine lv_iconst (v := 1) hx hb d_Model_readItem_78 (by decide) ?_
      refine lv_iadd hx hb d_Model_readItem_79 ?_
      refine wr_Model_412 hx hb hT hown hK hP hD hS d_Model_readItem_80 (fun T12 eT H locs hP hD hS => ?_)
      replace hR := stK_e eT hR
      clear eT
      refine lv_aload_n hx hb d_Model_readItem_83 rfl (lv_at hl 0 rfl) ?_
      replace hR := bi_e hR
      obtain ⟨r13, l13, T13, hc13, hR⟩ := hR
      refine gcV_v (rest := []) ⟨hx, hb, hml, hown, hT⟩ (h_Model_advance _ _ _ _ hc13) (cwV 0 hT (gV ml_Model_396 im_Model_advance se_Model_advance ini_Model co_Model_advance) rfl rfl rfl pd_Model_advance ⟨rm_hi, rm_lo (Nat.le_of_ble_eq_true rfl)⟩) hK hP hD hS hA hnw henv (Nat.le_of_ble_eq_true rfl) rfl rfl hl.1 rfl (Nat.le_of_ble_eq_true rfl) d_Model_readItem_84 ⟨Nat.le_refl _, Nat.le_refl _⟩ (fun H locs hP hD hS => ?_)
      clear hc13
      refine lv_aload_n hx hb d_Model_readItem_87 rfl (lv_at hl 0 rfl) ?_
      refine rd_Model_27 hx hb hT hown hK hP d_Model_readItem_88 ?_
      refine lv_aload_n hx hb d_Model_readItem_91 rfl (lv_at hl 0 rfl) ?_
      refine rd_Model_433 hx hb hT hown hK hP d_Model_readItem_92 ?_
      refine lv_iconst (v := 0) hx hb d_Model_readItem_95 (by decide) ?_
      replace hR := gd_e hR
      obtain ⟨b14, hR⟩ := hR
      refine saM_4 hx hb hK hP hD hS b14 d_Model_readItem_96 (fun T14 eT H locs hP hD hS => ?_)
      replace hR := stK_e eT hR
      clear eT
      have g := lb_97 nf T14 x1 hR
      rw [hG] at g
      exact g _ _ hP hD hS _ (lv_sub hl [0, 1] rfl)
    · replace hR := if_n c11 hR
      obtain ⟨-, -, e3⟩ := re_e hR
      subst e3
      exact W.vret hx hb hr (fun t ht hW => ⟨⟨(), rfl, trivial, by rw [ht]; exact hP, va_K.moved hW.alike hK, hD⟩, hS.F ht⟩) hS.2.2 d_Model_readItem_72
  unfold rb_Model_readItem at hR
  refine lv_aload_n hx hb d_Model_readItem_0 rfl (lv_at hl 0 rfl) ?_
  refine lv_aload_n hx hb d_Model_readItem_1 rfl (lv_at hl 0 rfl) ?_
  refine rd_Model_412 hx hb hT hown hK hP d_Model_readItem_2 ?_
  refine wr_Model_433 hx hb hT hown hK hP hD hS d_Model_readItem_5 (fun T1 eT H locs hP hD hS => ?_)
  replace hR := stK_e eT hR
  clear eT
  refine lv_aload_n hx hb d_Model_readItem_8 rfl (lv_at hl 0 rfl) ?_
  refine rd_Model_17 hx hb hT hown hK hP d_Model_readItem_9 ?_
  refine lv_aload_n hx hb d_Model_readItem_12 rfl (lv_at hl 0 rfl) ?_
  refine rd_Model_433 hx hb hT hown hK hP d_Model_readItem_13 ?_
  refine lv_iload_n hx hb d_Model_readItem_16 rfl (lv_at hl 1 rfl) ?_
  replace hR := gd_e hR
  obtain ⟨b2, hR⟩ := hR
  refine saM_1 hx hb hK hP hD hS b2 d_Model_readItem_17 (fun T2 eT H locs hP hD hS => ?_)
  replace hR := stK_e eT hR
  clear eT
  refine lv_aload_n hx hb d_Model_readItem_18 rfl (lv_at hl 0 rfl) ?_
  refine rd_Model_24 hx hb hT hown hK hP d_Model_readItem_19 ?_
  refine lv_aload_n hx hb d_Model_readItem_22 rfl (lv_at hl 0 rfl) ?_
  refine rd_Model_433 hx hb hT hown hK hP d_Model_readItem_23 ?_
  refine lv_aload_n hx hb d_Model_readItem_26 rfl (lv_at hl 0 rfl) ?_
  refine rd_Model_349 hx hb hT hown hK hP d_Model_readItem_27 ?_
  replace hR := gd_e hR
  obtain ⟨b3, hR⟩ := hR
  refine saM_3 hx hb hK hP hD hS b3 d_Model_readItem_30 (fun T3 eT H locs hP hD hS => ?_)
  replace hR := stK_e eT hR
  clear eT
  refine lv_aload_n hx hb d_Model_readItem_31 rfl (lv_at hl 0 rfl) ?_
  refine rd_Model_20 hx hb hT hown hK hP d_Model_readItem_32 ?_
  refine lv_aload_n hx hb d_Model_readItem_35 rfl (lv_at hl 0 rfl) ?_
  refine rd_Model_433 hx hb hT hown hK hP d_Model_readItem_36 ?_
  refine lv_aload_n hx hb d_Model_readItem_39 rfl (lv_at hl 0 rfl) ?_
  refine rd_Model_365 hx hb hT hown hK hP d_Model_readItem_40 ?_
  replace hR := gd_e hR
  obtain ⟨b4, hR⟩ := hR
  refine saM_2 hx hb hK hP hD hS b4 d_Model_readItem_43 (fun T4 eT H locs hP hD hS => ?_)
  replace hR := stK_e eT hR
  clear eT
  refine lv_aload_n hx hb d_Model_readItem_44 rfl (lv_at hl 0 rfl) ?_
  refine rd_Model_352 hx hb hT hown hK hP d_Model_readItem_45 ?_
  refine lv_iload_n hx hb d_Model_readItem_48 rfl (lv_at hl 1 rfl) ?_
  refine lv_iconst (v := 2) hx hb d_Model_readItem_49 (by decide) ?_
  refine lv_icmp_ne (tgt := 57) hx hb d_Model_readItem_50 (by decide) (fun c5 => ?_) (fun c5 => ?_)
  · replace hR := if_n c5 hR
    refine lv_iconst (v := 3) hx hb d_Model_readItem_57 (by decide) ?_
    refine lv_icmp_eq (tgt := 65) hx hb d_Model_readItem_58 (by decide) (fun c6 => ?_) (fun c6 => ?_)
    · replace hR := if_p c6 hR
      have g := lb_65 T4 p1 hR
      rw [hG] at g
      exact g _ _ hP hD hS _ (lv_sub hl [0, 1] rfl)
    · replace hR := if_n c6 hR
      refine lv_aload_n hx hb d_Model_readItem_61 rfl (lv_at hl 0 rfl) ?_
      replace hR := bi_e hR
      obtain ⟨r7, l7, T7, hc7, hR⟩ := hR
      refine gcV_v (rest := []) ⟨hx, hb, hml, hown, hT⟩ (h_Model_wrong _ _ _ _ hc7) (cwV 0 hT (gV ml_Model_406 im_Model_wrong se_Model_wrong ini_Model co_Model_wrong) rfl rfl rfl pd_Model_wrong ⟨rm_hi, rm_lo (Nat.le_of_ble_eq_true rfl)⟩) hK hP hD hS hA hnw henv (Nat.le_of_ble_eq_true rfl) rfl rfl hl.1 rfl (Nat.le_of_ble_eq_true rfl) d_Model_readItem_62 ⟨Nat.le_refl _, Nat.le_refl _⟩ (fun H locs hP hD hS => ?_)
      clear hc7
      have g := lb_65 T7 p1 hR
      rw [hG] at g
      exact g _ _ hP hD hS _ (lv_sub hl [0, 1] rfl)
  · replace hR := if_p c5 hR
    refine lv_iconst (v := 1) hx hb d_Model_readItem_53 (by decide) ?_
    refine lv_goto (tgt := 58) hx hb d_Model_readItem_54 (by decide) ?_
    refine lv_icmp_eq (tgt := 65) hx hb d_Model_readItem_58 (by decide) (fun c8 => ?_) (fun c8 => ?_)
    · replace hR := if_p c8 hR
      have g := lb_65 T4 p1 hR
      rw [hG] at g
      exact g _ _ hP hD hS _ (lv_sub hl [0, 1] rfl)
    · replace hR := if_n c8 hR
      refine lv_aload_n hx hb d_Model_readItem_61 rfl (lv_at hl 0 rfl) ?_
      replace hR := bi_e hR
      obtain ⟨r9, l9, T9, hc9, hR⟩ := hR
      refine gcV_v (rest := []) ⟨hx, hb, hml, hown, hT⟩ (h_Model_wrong _ _ _ _ hc9) (cwV 0 hT (gV ml_Model_406 im_Model_wrong se_Model_wrong ini_Model co_Model_wrong) rfl rfl rfl pd_Model_wrong ⟨rm_hi, rm_lo (Nat.le_of_ble_eq_true rfl)⟩) hK hP hD hS hA hnw henv (Nat.le_of_ble_eq_true rfl) rfl rfl hl.1 rfl (Nat.le_of_ble_eq_true rfl) d_Model_readItem_62 ⟨Nat.le_refl _, Nat.le_refl _⟩ (fun H locs hP hD hS => ?_)
      clear hc9
      have g := lb_65 T9 p1 hR
      rw [hG] at g
      exact g _ _ hP hD hS _ (lv_sub hl [0, 1] rfl)
set_option maxHeartbeats 4000000 in
set_option maxRecDepth 100000 in
theorem sp_Model_readField (l : Launch) (dC : Nat → ClassId) (dI : Nat → Nat → Nat) (ea ev ad : Nat → Nat) (km : Nat → ClassId) (F : gF) (nf d : Nat) (h_Model_needName : mt_Model_needName l dC dI ea ev ad km F d) (h_Model_need : mt_Model_need l dC dI ea ev ad km F d) (h_Model_bad : mt_Model_bad l dC dI ea ev ad km F d) (h_Model_type : mt_Model_type l dC dI ea ev ad km F d) (T0 : gSt) (r0 : Int32) (rl0 : Int64) (T9 : gSt) (hR : rb_Model_readField F nf T0 = some (r0, rl0, T9)) : GMv l dC dI LM ad km ea ev y_Model_readField w_Model_readField (rmD (d + 1)) [.ref (ad 0)] T0 T9 := by
  intro sz
  refine Met.ofW (cc := b_Model_readField) (maxL := 2) (ret := none) (by decide) rfl ?_
  intro p e s m args below meth c s₁ B hml hv
  obtain ⟨rfl, hsz, hP, hK, hD0, hnw, henv⟩ := hv
  have hx := B.exec
  have hb := B.bytes
  have hr := B.returns
  have hT : ∀ w ∈ lw_good, w.before _ s = true := fun w h => atoms_spec (ws := w_Model_readField) B.pre w (List.mem_cons_of_mem _ h)
  have hown : s.vm.findClass R_Model = some m.cls := findClass_of_methodNamed B.named
  subst hsz
  have hD := hD0.self (sz := s.heap.size)
  clear hD0
  generalize hAe : va_A (gW LM ad km T0) s.heap.size = A at hD henv ⊢
  have hA : ∀ q : Nat, s.heap.size ≤ q → A q := fun q h => by rw [← hAe]; exact Or.inr h
  have hS : va_S A s.heap s.heap [] := va_S.rf
  have hl := lv_entry ([.ref (ad 0)]) (n := 2) (Nat.le_of_ble_eq_true rfl)
  rw [lg_entry_eq]
  generalize (lg_sl ([.ref (ad 0)]) ++ List.replicate (2 - (lg_sl ([.ref (ad 0)])).length) Slot.unset).toArray = ls at hl ⊢
  have hl : lv_has ls 2 [(0, .ref (ad 0))] := hl
  unfold rb_Model_readField at hR
  refine lv_aload_n hx hb d_Model_readField_0 rfl (lv_at hl 0 rfl) ?_
  refine rd_Model_42 hx hb hT hown hK hP d_Model_readField_1 ?_
  refine lv_aload_n hx hb d_Model_readField_4 rfl (lv_at hl 0 rfl) ?_
  refine rd_Model_415 hx hb hT hown hK hP d_Model_readField_5 ?_
  refine lv_aload_n hx hb d_Model_readField_8 rfl (lv_at hl 0 rfl) ?_
  refine rd_Model_365 hx hb hT hown hK hP d_Model_readField_9 ?_
  replace hR := gd_e hR
  obtain ⟨b1, hR⟩ := hR
  refine saM_9 hx hb hK hP hD hS b1 d_Model_readField_12 (fun T1 eT H locs hP hD hS => ?_)
  replace hR := stK_e eT hR
  clear eT
  refine lv_aload_n hx hb d_Model_readField_13 rfl (lv_at hl 0 rfl) ?_
  refine rd_Model_45 hx hb hT hown hK hP d_Model_readField_14 ?_
  refine lv_aload_n hx hb d_Model_readField_17 rfl (lv_at hl 0 rfl) ?_
  refine rd_Model_415 hx hb hT hown hK hP d_Model_readField_18 ?_
  refine lv_aload_n hx hb d_Model_readField_21 rfl (lv_at hl 0 rfl) ?_
  refine rd_Model_349 hx hb hT hown hK hP d_Model_readField_22 ?_
  replace hR := gd_e hR
  obtain ⟨b2, hR⟩ := hR
  refine saM_10 hx hb hK hP hD hS b2 d_Model_readField_25 (fun T2 eT H locs hP hD hS => ?_)
  replace hR := stK_e eT hR
  clear eT
  refine lv_aload_n hx hb d_Model_readField_26 rfl (lv_at hl 0 rfl) ?_
  replace hR := bi_e hR
  obtain ⟨r3, l3, T3, hc3, hR⟩ := hR
  refine gcV_l (rest := []) ⟨hx, hb, hml, hown, hT⟩ (h_Model_needName _ _ _ _ hc3) (cwV 0 hT (gV ml_Model_454 im_Model_needName se_Model_needName ini_Model co_Model_needName) rfl rfl rfl pd_Model_needName ⟨rm_hi, rm_lo (Nat.le_of_ble_eq_true rfl)⟩) hK hP hD hS hA hnw henv (Nat.le_of_ble_eq_true rfl) rfl rfl hl.1 rfl (Nat.le_of_ble_eq_true rfl) d_Model_readField_27 ⟨Nat.le_refl _, Nat.le_refl _⟩ (fun H locs hP hD hS => ?_)
  clear hc3
  refine lv_pop2_2 hx hb d_Model_readField_30 rfl ?_
  refine lv_aload_n hx hb d_Model_readField_31 rfl (lv_at hl 0 rfl) ?_
  refine lv_bipush (v := 58) hx hb d_Model_readField_32 (by decide) ?_
  replace hR := bi_e hR
  obtain ⟨r4, l4, T4, hc4, hR⟩ := hR
  refine gcV_v (rest := []) ⟨hx, hb, hml, hown, hT⟩ (h_Model_need _ _ _ _ _ hc4) (cwV 1 hT (gV ml_Model_448 im_Model_need se_Model_need ini_Model co_Model_need) rfl rfl rfl pd_Model_need ⟨rm_hi, rm_lo (Nat.le_of_ble_eq_true rfl)⟩) hK hP hD hS hA hnw henv (Nat.le_of_ble_eq_true rfl) rfl rfl hl.1 rfl (Nat.le_of_ble_eq_true rfl) d_Model_readField_34 ⟨Nat.le_refl _, Nat.le_refl _⟩ (fun H locs hP hD hS => ?_)
  clear hc4
  refine lv_aload_n hx hb d_Model_readField_37 rfl (lv_at hl 0 rfl) ?_
  replace hR := bi_e hR
  obtain ⟨r5, l5, T5, hc5, hR⟩ := hR
  refine gcV_i (rest := []) ⟨hx, hb, hml, hown, hT⟩ (h_Model_bad _ _ _ _ hc5) (cwV 0 hT (gV ml_Model_385 im_Model_bad se_Model_bad ini_Model co_Model_bad) rfl rfl rfl pd_Model_bad ⟨rm_hi, rm_lo (Nat.le_of_ble_eq_true rfl)⟩) hK hP hD hS hA hnw henv (Nat.le_of_ble_eq_true rfl) rfl rfl hl.1 rfl (Nat.le_of_ble_eq_true rfl) d_Model_readField_38 ⟨Nat.le_refl _, Nat.le_refl _⟩ (fun H locs hP hD hS => ?_)
  clear hc5
  refine lv_if_eq (tgt := 45) hx hb d_Model_readField_41 (by decide) (fun c6 => ?_) (fun c6 => ?_)
  · replace hR := if_p c6 hR
    refine lv_aload_n hx hb d_Model_readField_45 rfl (lv_at hl 0 rfl) ?_
    refine rd_Model_415 hx hb hT hown hK hP d_Model_readField_46 ?_
    refine lv_topi (fun z7 e7 => ?_)
    replace hR := vK_e e7 hR
    refine lv_istore_n (lv' := [(1, .int z7), (0, .ref (ad 0))]) hx hb d_Model_readField_49 rfl hl (by decide) rfl (fun ls hl => ?_)
    refine lv_aload_n hx hb d_Model_readField_50 rfl (lv_at hl 1 rfl) ?_
    refine lv_dup hx hb d_Model_readField_51 rfl ?_
    refine rd_Model_415 hx hb hT hown hK hP d_Model_readField_52 ?_
    refine lv_iconst (v := 1) hx hb d_Model_readField_55 (by decide) ?_
    refine lv_iadd hx hb d_Model_readField_56 ?_
    refine wr_Model_415 hx hb hT hown hK hP hD hS d_Model_readField_57 (fun T8 eT H locs hP hD hS => ?_)
    replace hR := stK_e eT hR
    clear eT
    refine lv_aload_n hx hb d_Model_readField_60 rfl (lv_at hl 1 rfl) ?_
    refine rd_Model_39 hx hb hT hown hK hP d_Model_readField_61 ?_
    refine lv_aload_n hx hb d_Model_readField_64 rfl (lv_at hl 1 rfl) ?_
    refine rd_Model_433 hx hb hT hown hK hP d_Model_readField_65 ?_
    refine lv_dup2_11 hx hb d_Model_readField_68 rfl rfl ?_
    replace hR := gd_e hR
    obtain ⟨b9, hR⟩ := hR
    refine laM_8 hx hb hK hP b9 d_Model_readField_69 ?_
    refine lv_iconst (v := 1) hx hb d_Model_readField_70 (by decide) ?_
    refine lv_iadd hx hb d_Model_readField_71 ?_
    replace hR := gd_e hR
    obtain ⟨b10, hR⟩ := hR
    refine saM_8 hx hb hK hP hD hS b10 d_Model_readField_72 (fun T10 eT H locs hP hD hS => ?_)
    replace hR := stK_e eT hR
    clear eT
    refine lv_aload_n hx hb d_Model_readField_73 rfl (lv_at hl 1 rfl) ?_
    refine rd_Model_48 hx hb hT hown hK hP d_Model_readField_74 ?_
    refine lv_iload_n hx hb d_Model_readField_77 rfl (lv_at hl 0 rfl) ?_
    refine lv_aload_n hx hb d_Model_readField_78 rfl (lv_at hl 1 rfl) ?_
    refine lv_iconst (v := 1) hx hb d_Model_readField_79 (by decide) ?_
    replace hR := bi_e hR
    obtain ⟨r11, l11, T11, hc11, hR⟩ := hR
    refine gcV_i (rest := [.int z7, .ref (ad 12)]) ⟨hx, hb, hml, hown, hT⟩ (h_Model_type _ _ _ _ _ hc11) (cwV 1 hT (gV ml_Model_458 im_Model_type se_Model_type ini_Model co_Model_type) rfl rfl rfl pd_Model_type ⟨rm_hi, rm_lo (Nat.le_of_ble_eq_true rfl)⟩) hK hP hD hS hA hnw henv (Nat.le_of_ble_eq_true rfl) rfl rfl hl.1 rfl (Nat.le_of_ble_eq_true rfl) d_Model_readField_80 ⟨Nat.le_refl _, Nat.le_refl _⟩ (fun H locs hP hD hS => ?_)
    clear hc11
    replace hR := gd_e hR
    obtain ⟨b12, hR⟩ := hR
    refine saM_11 hx hb hK hP hD hS b12 d_Model_readField_83 (fun T12 eT H locs hP hD hS => ?_)
    replace hR := stK_e eT hR
    clear eT
    obtain ⟨-, -, e3⟩ := re_e hR
    subst e3
    exact W.vret hx hb hr (fun t ht hW => ⟨⟨(), rfl, trivial, by rw [ht]; exact hP, va_K.moved hW.alike hK, hD⟩, hS.F ht⟩) hS.2.2 d_Model_readField_84
  · replace hR := if_n c6 hR
    obtain ⟨-, -, e3⟩ := re_e hR
    subst e3
    exact W.vret hx hb hr (fun t ht hW => ⟨⟨(), rfl, trivial, by rw [ht]; exact hP, va_K.moved hW.alike hK, hD⟩, hS.F ht⟩) hS.2.2 d_Model_readField_44
set_option maxHeartbeats 4000000 in
set_option maxRecDepth 100000 in
theorem sp_Model_readHead (l : Launch) (dC : Nat → ClassId) (dI : Nat → Nat → Nat) (ea ev ad : Nat → Nat) (km : Nat → ClassId) (F : gF) (nf d : Nat) (h_Model_need : mt_Model_need l dC dI ea ev ad km F d) (h_Model_bad : mt_Model_bad l dC dI ea ev ad km F d) (h_Model_isSign : mt_Model_isSign l dC dI ea ev ad km F d) (h_Model_wrong : mt_Model_wrong l dC dI ea ev ad km F d) (h_Model_readField : mt_Model_readField l dC dI ea ev ad km F d) (h_Model_takes : mt_Model_takes l dC dI ea ev ad km F d) (h_Model_takesWord : mt_Model_takesWord l dC dI ea ev ad km F d) (h_Model_readWheres : mt_Model_readWheres l dC dI ea ev ad km F d) (h_Model_type : mt_Model_type l dC dI ea ev ad km F d) (h_Model_needRegion : mt_Model_needRegion l dC dI ea ev ad km F d) (T0 : gSt) (r0 : Int32) (rl0 : Int64) (T9 : gSt) (hR : rb_Model_readHead F nf T0 = some (r0, rl0, T9)) : GMv l dC dI LM ad km ea ev y_Model_readHead w_Model_readHead (rmD (d + 1)) [.ref (ad 0)] T0 T9 := by
  intro sz
  refine Met.ofW (cc := b_Model_readHead) (maxL := 2) (ret := none) (by decide) rfl ?_
  intro p e s m args below meth c s₁ B hml hv
  obtain ⟨rfl, hsz, hP, hK, hD0, hnw, henv⟩ := hv
  have hx := B.exec
  have hb := B.bytes
  have hr := B.returns
  have hT : ∀ w ∈ lw_good, w.before _ s = true := fun w h => atoms_spec (ws := w_Model_readHead) B.pre w (List.mem_cons_of_mem _ h)
  have hown : s.vm.findClass R_Model = some m.cls := findClass_of_methodNamed B.named
  subst hsz
  have hD := hD0.self (sz := s.heap.size)
  clear hD0
  generalize hAe : va_A (gW LM ad km T0) s.heap.size = A at hD henv ⊢
  have hA : ∀ q : Nat, s.heap.size ≤ q → A q := fun q h => by rw [← hAe]; exact Or.inr h
  have hS : va_S A s.heap s.heap [] := va_S.rf
  have hl := lv_entry ([.ref (ad 0)]) (n := 2) (Nat.le_of_ble_eq_true rfl)
  rw [lg_entry_eq]
  generalize (lg_sl ([.ref (ad 0)]) ++ List.replicate (2 - (lg_sl ([.ref (ad 0)])).length) Slot.unset).toArray = ls at hl ⊢
  have hl : lv_has ls 2 [(0, .ref (ad 0))] := hl
  obtain ⟨G, hG⟩ : ∃ G : Nat → List (Nat × Value) → List Value → gSt → Prop, G = (fun pc lv stk T => ∀ (H : Heap) (locs : List Loc), va_P (dC, dI) cls_all (gW LM ad km T) H → va_D A (gW LM ad km T) → va_S A s.heap H locs → ∀ (ls : Array Slot), lv_has ls 2 lv → W p l e (headSpec w_Model_readHead (rmD (d + 1))).room s m ([.ref (ad 0)] : List Value).toArray below meth c H locs 0 0 (MQ below (va_Qv (fun (_ : Unit) => True) (fun _ t => gPost dC dI LM ad km T9 A t) A) ([.ref (ad 0)] : List Value).toArray s 0 0 A) (F0 m pc ls stk)) := ⟨_, rfl⟩
  have lb_123 : ∀ (n : Nat) (T : gSt), rl_Model_readHead_123 F nf n T = some (r0, rl0, T9) → G 123 [(0, .ref (ad 0))] [] T := by
    intro n
    induction n with
    | zero => intro T hR; rw [rl_Model_readHead_123] at hR; cases hR
    | succ n ih =>
      intro T hR; rw [rl_Model_readHead_123] at hR; rw [hG]; intro H locs hP hD hS ls hl
      refine lv_aload_n hx hb d_Model_readHead_123 rfl (lv_at hl 0 rfl) ?_
      replace hR := bi_e hR
      obtain ⟨r35, l35, T35, hc35, hR⟩ := hR
      refine gcV_i (rest := []) ⟨hx, hb, hml, hown, hT⟩ (h_Model_needRegion _ _ _ _ hc35) (cwV 0 hT (gV ml_Model_465 im_Model_needRegion se_Model_needRegion ini_Model co_Model_needRegion) rfl rfl rfl pd_Model_needRegion ⟨rm_hi, rm_lo (Nat.le_of_ble_eq_true rfl)⟩) hK hP hD hS hA hnw henv (Nat.le_of_ble_eq_true rfl) rfl rfl hl.1 rfl (Nat.le_of_ble_eq_true rfl) d_Model_readHead_124 ⟨Nat.le_refl _, Nat.le_refl _⟩ (fun H locs hP hD hS => ?_)
      clear hc35
      refine lv_istore_n (lv' := [(1, .int r35), (0, .ref (ad 0))]) hx hb d_Model_readHead_127 rfl hl (by decide) rfl (fun ls hl => ?_)
      refine lv_aload_n hx hb d_Model_readHead_128 rfl (lv_at hl 1 rfl) ?_
      refine rd_Model_63 hx hb hT hown hK hP d_Model_readHead_129 ?_
      refine lv_iconst (v := 3) hx hb d_Model_readHead_132 (by decide) ?_
      refine lv_aload_n hx hb d_Model_readHead_133 rfl (lv_at hl 1 rfl) ?_
      refine rd_Model_433 hx hb hT hown hK hP d_Model_readHead_134 ?_
      refine lv_imul hx hb d_Model_readHead_137 ?_
      refine lv_aload_n hx hb d_Model_readHead_138 rfl (lv_at hl 1 rfl) ?_
      refine rd_Model_60 hx hb hT hown hK hP d_Model_readHead_139 ?_
      refine lv_aload_n hx hb d_Model_readHead_142 rfl (lv_at hl 1 rfl) ?_
      refine rd_Model_433 hx hb hT hown hK hP d_Model_readHead_143 ?_
      replace hR := gd_e hR
      obtain ⟨b36, hR⟩ := hR
      refine laM_15 hx hb hK hP b36 d_Model_readHead_146 ?_
      refine lv_iadd hx hb d_Model_readHead_147 ?_
      refine lv_aload_n hx hb d_Model_readHead_148 rfl (lv_at hl 1 rfl) ?_
      refine rd_Model_111 hx hb hT hown hK hP d_Model_readHead_149 ?_
      refine lv_iload_n hx hb d_Model_readHead_152 rfl (lv_at hl 0 rfl) ?_
      replace hR := gd_e hR
      obtain ⟨b37, hR⟩ := hR
      refine laM_32 hx hb hK hP b37 d_Model_readHead_153 ?_
      replace hR := gd_e hR
      obtain ⟨b38, hR⟩ := hR
      refine saM_16 hx hb hK hP hD hS b38 d_Model_readHead_154 (fun T38 eT H locs hP hD hS => ?_)
      replace hR := stK_e eT hR
      clear eT
      refine lv_aload_n hx hb d_Model_readHead_155 rfl (lv_at hl 1 rfl) ?_
      refine rd_Model_66 hx hb hT hown hK hP d_Model_readHead_156 ?_
      refine lv_iconst (v := 3) hx hb d_Model_readHead_159 (by decide) ?_
      refine lv_aload_n hx hb d_Model_readHead_160 rfl (lv_at hl 1 rfl) ?_
      refine rd_Model_433 hx hb hT hown hK hP d_Model_readHead_161 ?_
      refine lv_imul hx hb d_Model_readHead_164 ?_
      refine lv_aload_n hx hb d_Model_readHead_165 rfl (lv_at hl 1 rfl) ?_
      refine rd_Model_60 hx hb hT hown hK hP d_Model_readHead_166 ?_
      refine lv_aload_n hx hb d_Model_readHead_169 rfl (lv_at hl 1 rfl) ?_
      refine rd_Model_433 hx hb hT hown hK hP d_Model_readHead_170 ?_
      replace hR := gd_e hR
      obtain ⟨b39, hR⟩ := hR
      refine laM_15 hx hb hK hP b39 d_Model_readHead_173 ?_
      refine lv_iadd hx hb d_Model_readHead_174 ?_
      refine lv_aload_n hx hb d_Model_readHead_175 rfl (lv_at hl 1 rfl) ?_
      refine rd_Model_114 hx hb hT hown hK hP d_Model_readHead_176 ?_
      refine lv_iload_n hx hb d_Model_readHead_179 rfl (lv_at hl 0 rfl) ?_
      replace hR := gd_e hR
      obtain ⟨b40, hR⟩ := hR
      refine laM_33 hx hb hK hP b40 d_Model_readHead_180 ?_
      replace hR := gd_e hR
      obtain ⟨b41, hR⟩ := hR
      refine saM_17 hx hb hK hP hD hS b41 d_Model_readHead_181 (fun T41 eT H locs hP hD hS => ?_)
      replace hR := stK_e eT hR
      clear eT
      refine lv_aload_n hx hb d_Model_readHead_182 rfl (lv_at hl 1 rfl) ?_
      refine rd_Model_60 hx hb hT hown hK hP d_Model_readHead_183 ?_
      refine lv_aload_n hx hb d_Model_readHead_186 rfl (lv_at hl 1 rfl) ?_
      refine rd_Model_433 hx hb hT hown hK hP d_Model_readHead_187 ?_
      refine lv_dup2_11 hx hb d_Model_readHead_190 rfl rfl ?_
      replace hR := gd_e hR
      obtain ⟨b42, hR⟩ := hR
      refine laM_15 hx hb hK hP b42 d_Model_readHead_191 ?_
      refine lv_iconst (v := 1) hx hb d_Model_readHead_192 (by decide) ?_
      refine lv_iadd hx hb d_Model_readHead_193 ?_
      replace hR := gd_e hR
      obtain ⟨b43, hR⟩ := hR
      refine saM_15 hx hb hK hP hD hS b43 d_Model_readHead_194 (fun T43 eT H locs hP hD hS => ?_)
      replace hR := stK_e eT hR
      clear eT
      refine lv_aload_n hx hb d_Model_readHead_195 rfl (lv_at hl 1 rfl) ?_
      replace hR := bi_e hR
      obtain ⟨r44, l44, T44, hc44, hR⟩ := hR
      refine gcV_i (rest := []) ⟨hx, hb, hml, hown, hT⟩ (h_Model_bad _ _ _ _ hc44) (cwV 0 hT (gV ml_Model_385 im_Model_bad se_Model_bad ini_Model co_Model_bad) rfl rfl rfl pd_Model_bad ⟨rm_hi, rm_lo (Nat.le_of_ble_eq_true rfl)⟩) hK hP hD hS hA hnw henv (Nat.le_of_ble_eq_true rfl) rfl rfl hl.1 rfl (Nat.le_of_ble_eq_true rfl) d_Model_readHead_196 ⟨Nat.le_refl _, Nat.le_refl _⟩ (fun H locs hP hD hS => ?_)
      clear hc44
      refine lv_if_ne (tgt := 223) hx hb d_Model_readHead_199 (by decide) (fun c45 => ?_) (fun c45 => ?_)
      · replace hR := if_n c45 hR
        refine lv_aload_n hx hb d_Model_readHead_223 rfl (lv_at hl 1 rfl) ?_
        refine gldcw (own := R_Model) (index := 468) (q := ea 11) hx hb hown (henv.2.2 11 (by decide)).2 d_Model_readHead_224 ?_
        replace hR := bi_e hR
        obtain ⟨r46, l46, T46, hc46, hR⟩ := hR
        refine gcV_i (rest := []) ⟨hx, hb, hml, hown, hT⟩ (h_Model_takesWord _ 11 _ _ _ (by first | decide | assumption) hc46) (cwV 1 hT (gV ml_Model_462 im_Model_takesWord se_Model_takesWord ini_Model co_Model_takesWord) rfl rfl rfl pd_Model_takesWord ⟨rm_hi, rm_lo (Nat.le_of_ble_eq_true rfl)⟩) hK hP hD hS hA hnw henv (Nat.le_of_ble_eq_true rfl) rfl rfl hl.1 rfl (Nat.le_of_ble_eq_true rfl) d_Model_readHead_227 ⟨Nat.le_refl _, Nat.le_refl _⟩ (fun H locs hP hD hS => ?_)
        clear hc46
        refine lv_if_eq (tgt := 237) hx hb d_Model_readHead_230 (by decide) (fun c47 => ?_) (fun c47 => ?_)
        · replace hR := if_p c47 hR
          obtain ⟨-, -, e3⟩ := re_e hR
          subst e3
          exact W.vret hx hb hr (fun t ht hW => ⟨⟨(), rfl, trivial, by rw [ht]; exact hP, va_K.moved hW.alike hK, hD⟩, hS.F ht⟩) hS.2.2 d_Model_readHead_237
        · replace hR := if_n c47 hR
          refine lv_aload_n hx hb d_Model_readHead_233 rfl (lv_at hl 1 rfl) ?_
          replace hR := bi_e hR
          obtain ⟨r48, l48, T48, hc48, hR⟩ := hR
          refine gcV_v (rest := []) ⟨hx, hb, hml, hown, hT⟩ (h_Model_readWheres _ _ _ _ hc48) (cwV 0 hT (gV ml_Model_470 im_Model_readWheres se_Model_readWheres ini_Model co_Model_readWheres) rfl rfl rfl pd_Model_readWheres ⟨rm_hi, rm_lo (Nat.le_of_ble_eq_true rfl)⟩) hK hP hD hS hA hnw henv (Nat.le_of_ble_eq_true rfl) rfl rfl hl.1 rfl (Nat.le_of_ble_eq_true rfl) d_Model_readHead_234 ⟨Nat.le_refl _, Nat.le_refl _⟩ (fun H locs hP hD hS => ?_)
          clear hc48
          obtain ⟨-, -, e3⟩ := re_e hR
          subst e3
          exact W.vret hx hb hr (fun t ht hW => ⟨⟨(), rfl, trivial, by rw [ht]; exact hP, va_K.moved hW.alike hK, hD⟩, hS.F ht⟩) hS.2.2 d_Model_readHead_237
      · replace hR := if_p c45 hR
        refine lv_aload_n hx hb d_Model_readHead_202 rfl (lv_at hl 1 rfl) ?_
        refine rd_Model_352 hx hb hT hown hK hP d_Model_readHead_203 ?_
        refine lv_iconst (v := 4) hx hb d_Model_readHead_206 (by decide) ?_
        refine lv_icmp_ne (tgt := 223) hx hb d_Model_readHead_207 (by decide) (fun c49 => ?_) (fun c49 => ?_)
        · replace hR := if_n c49 hR
          refine lv_aload_n hx hb d_Model_readHead_223 rfl (lv_at hl 1 rfl) ?_
          refine gldcw (own := R_Model) (index := 468) (q := ea 11) hx hb hown (henv.2.2 11 (by decide)).2 d_Model_readHead_224 ?_
          replace hR := bi_e hR
          obtain ⟨r50, l50, T50, hc50, hR⟩ := hR
          refine gcV_i (rest := []) ⟨hx, hb, hml, hown, hT⟩ (h_Model_takesWord _ 11 _ _ _ (by first | decide | assumption) hc50) (cwV 1 hT (gV ml_Model_462 im_Model_takesWord se_Model_takesWord ini_Model co_Model_takesWord) rfl rfl rfl pd_Model_takesWord ⟨rm_hi, rm_lo (Nat.le_of_ble_eq_true rfl)⟩) hK hP hD hS hA hnw henv (Nat.le_of_ble_eq_true rfl) rfl rfl hl.1 rfl (Nat.le_of_ble_eq_true rfl) d_Model_readHead_227 ⟨Nat.le_refl _, Nat.le_refl _⟩ (fun H locs hP hD hS => ?_)
          clear hc50
          refine lv_if_eq (tgt := 237) hx hb d_Model_readHead_230 (by decide) (fun c51 => ?_) (fun c51 => ?_)
          · replace hR := if_p c51 hR
            obtain ⟨-, -, e3⟩ := re_e hR
            subst e3
            exact W.vret hx hb hr (fun t ht hW => ⟨⟨(), rfl, trivial, by rw [ht]; exact hP, va_K.moved hW.alike hK, hD⟩, hS.F ht⟩) hS.2.2 d_Model_readHead_237
          · replace hR := if_n c51 hR
            refine lv_aload_n hx hb d_Model_readHead_233 rfl (lv_at hl 1 rfl) ?_
            replace hR := bi_e hR
            obtain ⟨r52, l52, T52, hc52, hR⟩ := hR
            refine gcV_v (rest := []) ⟨hx, hb, hml, hown, hT⟩ (h_Model_readWheres _ _ _ _ hc52) (cwV 0 hT (gV ml_Model_470 im_Model_readWheres se_Model_readWheres ini_Model co_Model_readWheres) rfl rfl rfl pd_Model_readWheres ⟨rm_hi, rm_lo (Nat.le_of_ble_eq_true rfl)⟩) hK hP hD hS hA hnw henv (Nat.le_of_ble_eq_true rfl) rfl rfl hl.1 rfl (Nat.le_of_ble_eq_true rfl) d_Model_readHead_234 ⟨Nat.le_refl _, Nat.le_refl _⟩ (fun H locs hP hD hS => ?_)
            clear hc52
            obtain ⟨-, -, e3⟩ := re_e hR
            subst e3
            exact W.vret hx hb hr (fun t ht hW => ⟨⟨(), rfl, trivial, by rw [ht]; exact hP, va_K.moved hW.alike hK, hD⟩, hS.F ht⟩) hS.2.2 d_Model_readHead_237
        · replace hR := if_p c49 hR
          refine lv_aload_n hx hb d_Model_readHead_210 rfl (lv_at hl 1 rfl) ?_
          refine rd_Model_60 hx hb hT hown hK hP d_Model_readHead_211 ?_
          refine lv_aload_n hx hb d_Model_readHead_214 rfl (lv_at hl 1 rfl) ?_
          refine rd_Model_433 hx hb hT hown hK hP d_Model_readHead_215 ?_
          replace hR := gd_e hR
          obtain ⟨b53, hR⟩ := hR
          refine laM_15 hx hb hK hP b53 d_Model_readHead_218 ?_
          refine lv_iconst (v := 3) hx hb d_Model_readHead_219 (by decide) ?_
          refine lv_icmp_lt (tgt := 123) hx hb d_Model_readHead_220 (by decide) (fun c54 => ?_) (fun c54 => ?_)
          · replace hR := if_p c54 hR
            have g := ih T44 hR
            rw [hG] at g
            exact g _ _ hP hD hS _ (lv_sub hl [1] rfl)
          · replace hR := if_n c54 hR
            refine lv_aload_n hx hb d_Model_readHead_223 rfl (lv_at hl 1 rfl) ?_
            refine gldcw (own := R_Model) (index := 468) (q := ea 11) hx hb hown (henv.2.2 11 (by decide)).2 d_Model_readHead_224 ?_
            replace hR := bi_e hR
            obtain ⟨r55, l55, T55, hc55, hR⟩ := hR
            refine gcV_i (rest := []) ⟨hx, hb, hml, hown, hT⟩ (h_Model_takesWord _ 11 _ _ _ (by first | decide | assumption) hc55) (cwV 1 hT (gV ml_Model_462 im_Model_takesWord se_Model_takesWord ini_Model co_Model_takesWord) rfl rfl rfl pd_Model_takesWord ⟨rm_hi, rm_lo (Nat.le_of_ble_eq_true rfl)⟩) hK hP hD hS hA hnw henv (Nat.le_of_ble_eq_true rfl) rfl rfl hl.1 rfl (Nat.le_of_ble_eq_true rfl) d_Model_readHead_227 ⟨Nat.le_refl _, Nat.le_refl _⟩ (fun H locs hP hD hS => ?_)
            clear hc55
            refine lv_if_eq (tgt := 237) hx hb d_Model_readHead_230 (by decide) (fun c56 => ?_) (fun c56 => ?_)
            · replace hR := if_p c56 hR
              obtain ⟨-, -, e3⟩ := re_e hR
              subst e3
              exact W.vret hx hb hr (fun t ht hW => ⟨⟨(), rfl, trivial, by rw [ht]; exact hP, va_K.moved hW.alike hK, hD⟩, hS.F ht⟩) hS.2.2 d_Model_readHead_237
            · replace hR := if_n c56 hR
              refine lv_aload_n hx hb d_Model_readHead_233 rfl (lv_at hl 1 rfl) ?_
              replace hR := bi_e hR
              obtain ⟨r57, l57, T57, hc57, hR⟩ := hR
              refine gcV_v (rest := []) ⟨hx, hb, hml, hown, hT⟩ (h_Model_readWheres _ _ _ _ hc57) (cwV 0 hT (gV ml_Model_470 im_Model_readWheres se_Model_readWheres ini_Model co_Model_readWheres) rfl rfl rfl pd_Model_readWheres ⟨rm_hi, rm_lo (Nat.le_of_ble_eq_true rfl)⟩) hK hP hD hS hA hnw henv (Nat.le_of_ble_eq_true rfl) rfl rfl hl.1 rfl (Nat.le_of_ble_eq_true rfl) d_Model_readHead_234 ⟨Nat.le_refl _, Nat.le_refl _⟩ (fun H locs hP hD hS => ?_)
              clear hc57
              obtain ⟨-, -, e3⟩ := re_e hR
              subst e3
              exact W.vret hx hb hr (fun t ht hW => ⟨⟨(), rfl, trivial, by rw [ht]; exact hP, va_K.moved hW.alike hK, hD⟩, hS.F ht⟩) hS.2.2 d_Model_readHead_237
  have lb_84 : ∀ (T : gSt), rj_Model_readHead_84 F nf T = some (r0, rl0, T9) → G 84 [(0, .ref (ad 0))] [] T := by
    intro T hR; unfold rj_Model_readHead_84 at hR; rw [hG]; intro H locs hP hD hS ls hl
    refine lv_aload_n hx hb d_Model_readHead_84 rfl (lv_at hl 0 rfl) ?_
    refine lv_bipush (v := 41) hx hb d_Model_readHead_85 (by decide) ?_
    replace hR := bi_e hR
    obtain ⟨r20, l20, T20, hc20, hR⟩ := hR
    refine gcV_v (rest := []) ⟨hx, hb, hml, hown, hT⟩ (h_Model_need _ _ _ _ _ hc20) (cwV 1 hT (gV ml_Model_448 im_Model_need se_Model_need ini_Model co_Model_need) rfl rfl rfl pd_Model_need ⟨rm_hi, rm_lo (Nat.le_of_ble_eq_true rfl)⟩) hK hP hD hS hA hnw henv (Nat.le_of_ble_eq_true rfl) rfl rfl hl.1 rfl (Nat.le_of_ble_eq_true rfl) d_Model_readHead_87 ⟨Nat.le_refl _, Nat.le_refl _⟩ (fun H locs hP hD hS => ?_)
    clear hc20
    refine lv_aload_n hx hb d_Model_readHead_90 rfl (lv_at hl 0 rfl) ?_
    refine lv_bipush (v := 58) hx hb d_Model_readHead_91 (by decide) ?_
    replace hR := bi_e hR
    obtain ⟨r21, l21, T21, hc21, hR⟩ := hR
    refine gcV_i (rest := []) ⟨hx, hb, hml, hown, hT⟩ (h_Model_takes _ _ _ _ _ hc21) (cwV 1 hT (gV ml_Model_403 im_Model_takes se_Model_takes ini_Model co_Model_takes) rfl rfl rfl pd_Model_takes ⟨rm_hi, rm_lo (Nat.le_of_ble_eq_true rfl)⟩) hK hP hD hS hA hnw henv (Nat.le_of_ble_eq_true rfl) rfl rfl hl.1 rfl (Nat.le_of_ble_eq_true rfl) d_Model_readHead_93 ⟨Nat.le_refl _, Nat.le_refl _⟩ (fun H locs hP hD hS => ?_)
    clear hc21
    refine lv_if_eq (tgt := 113) hx hb d_Model_readHead_96 (by decide) (fun c22 => ?_) (fun c22 => ?_)
    · replace hR := if_p c22 hR
      refine lv_aload_n hx hb d_Model_readHead_113 rfl (lv_at hl 0 rfl) ?_
      refine gldcw (own := R_Model) (index := 461) (q := ea 10) hx hb hown (henv.2.2 10 (by decide)).2 d_Model_readHead_114 ?_
      replace hR := bi_e hR
      obtain ⟨r23, l23, T23, hc23, hR⟩ := hR
      refine gcV_i (rest := []) ⟨hx, hb, hml, hown, hT⟩ (h_Model_takesWord _ 10 _ _ _ (by first | decide | assumption) hc23) (cwV 1 hT (gV ml_Model_462 im_Model_takesWord se_Model_takesWord ini_Model co_Model_takesWord) rfl rfl rfl pd_Model_takesWord ⟨rm_hi, rm_lo (Nat.le_of_ble_eq_true rfl)⟩) hK hP hD hS hA hnw henv (Nat.le_of_ble_eq_true rfl) rfl rfl hl.1 rfl (Nat.le_of_ble_eq_true rfl) d_Model_readHead_117 ⟨Nat.le_refl _, Nat.le_refl _⟩ (fun H locs hP hD hS => ?_)
      clear hc23
      refine lv_if_eq (tgt := 223) hx hb d_Model_readHead_120 (by decide) (fun c24 => ?_) (fun c24 => ?_)
      · replace hR := if_p c24 hR
        refine lv_aload_n hx hb d_Model_readHead_223 rfl (lv_at hl 0 rfl) ?_
        refine gldcw (own := R_Model) (index := 468) (q := ea 11) hx hb hown (henv.2.2 11 (by decide)).2 d_Model_readHead_224 ?_
        replace hR := bi_e hR
        obtain ⟨r25, l25, T25, hc25, hR⟩ := hR
        refine gcV_i (rest := []) ⟨hx, hb, hml, hown, hT⟩ (h_Model_takesWord _ 11 _ _ _ (by first | decide | assumption) hc25) (cwV 1 hT (gV ml_Model_462 im_Model_takesWord se_Model_takesWord ini_Model co_Model_takesWord) rfl rfl rfl pd_Model_takesWord ⟨rm_hi, rm_lo (Nat.le_of_ble_eq_true rfl)⟩) hK hP hD hS hA hnw henv (Nat.le_of_ble_eq_true rfl) rfl rfl hl.1 rfl (Nat.le_of_ble_eq_true rfl) d_Model_readHead_227 ⟨Nat.le_refl _, Nat.le_refl _⟩ (fun H locs hP hD hS => ?_)
        clear hc25
        refine lv_if_eq (tgt := 237) hx hb d_Model_readHead_230 (by decide) (fun c26 => ?_) (fun c26 => ?_)
        · replace hR := if_p c26 hR
          obtain ⟨-, -, e3⟩ := re_e hR
          subst e3
          exact W.vret hx hb hr (fun t ht hW => ⟨⟨(), rfl, trivial, by rw [ht]; exact hP, va_K.moved hW.alike hK, hD⟩, hS.F ht⟩) hS.2.2 d_Model_readHead_237
        · replace hR := if_n c26 hR
          refine lv_aload_n hx hb d_Model_readHead_233 rfl (lv_at hl 0 rfl) ?_
          replace hR := bi_e hR
          obtain ⟨r27, l27, T27, hc27, hR⟩ := hR
          refine gcV_v (rest := []) ⟨hx, hb, hml, hown, hT⟩ (h_Model_readWheres _ _ _ _ hc27) (cwV 0 hT (gV ml_Model_470 im_Model_readWheres se_Model_readWheres ini_Model co_Model_readWheres) rfl rfl rfl pd_Model_readWheres ⟨rm_hi, rm_lo (Nat.le_of_ble_eq_true rfl)⟩) hK hP hD hS hA hnw henv (Nat.le_of_ble_eq_true rfl) rfl rfl hl.1 rfl (Nat.le_of_ble_eq_true rfl) d_Model_readHead_234 ⟨Nat.le_refl _, Nat.le_refl _⟩ (fun H locs hP hD hS => ?_)
          clear hc27
          obtain ⟨-, -, e3⟩ := re_e hR
          subst e3
          exact W.vret hx hb hr (fun t ht hW => ⟨⟨(), rfl, trivial, by rw [ht]; exact hP, va_K.moved hW.alike hK, hD⟩, hS.F ht⟩) hS.2.2 d_Model_readHead_237
      · replace hR := if_n c24 hR
        have g := lb_123 nf T23 hR
        rw [hG] at g
        exact g _ _ hP hD hS _ (lv_sub hl [0] rfl)
    · replace hR := if_n c22 hR
      refine lv_aload_n hx hb d_Model_readHead_99 rfl (lv_at hl 0 rfl) ?_
      refine rd_Model_54 hx hb hT hown hK hP d_Model_readHead_100 ?_
      refine lv_aload_n hx hb d_Model_readHead_103 rfl (lv_at hl 0 rfl) ?_
      refine rd_Model_433 hx hb hT hown hK hP d_Model_readHead_104 ?_
      refine lv_aload_n hx hb d_Model_readHead_107 rfl (lv_at hl 0 rfl) ?_
      refine lv_iconst (v := 1) hx hb d_Model_readHead_108 (by decide) ?_
      replace hR := bi_e hR
      obtain ⟨r28, l28, T28, hc28, hR⟩ := hR
      refine gcV_i (rest := [.int (T21.1 64 0), .ref (ad 14)]) ⟨hx, hb, hml, hown, hT⟩ (h_Model_type _ _ _ _ _ hc28) (cwV 1 hT (gV ml_Model_458 im_Model_type se_Model_type ini_Model co_Model_type) rfl rfl rfl pd_Model_type ⟨rm_hi, rm_lo (Nat.le_of_ble_eq_true rfl)⟩) hK hP hD hS hA hnw henv (Nat.le_of_ble_eq_true rfl) rfl rfl hl.1 rfl (Nat.le_of_ble_eq_true rfl) d_Model_readHead_109 ⟨Nat.le_refl _, Nat.le_refl _⟩ (fun H locs hP hD hS => ?_)
      clear hc28
      replace hR := gd_e hR
      obtain ⟨b29, hR⟩ := hR
      refine saM_13 hx hb hK hP hD hS b29 d_Model_readHead_112 (fun T29 eT H locs hP hD hS => ?_)
      replace hR := stK_e eT hR
      clear eT
      refine lv_aload_n hx hb d_Model_readHead_113 rfl (lv_at hl 0 rfl) ?_
      refine gldcw (own := R_Model) (index := 461) (q := ea 10) hx hb hown (henv.2.2 10 (by decide)).2 d_Model_readHead_114 ?_
      replace hR := bi_e hR
      obtain ⟨r30, l30, T30, hc30, hR⟩ := hR
      refine gcV_i (rest := []) ⟨hx, hb, hml, hown, hT⟩ (h_Model_takesWord _ 10 _ _ _ (by first | decide | assumption) hc30) (cwV 1 hT (gV ml_Model_462 im_Model_takesWord se_Model_takesWord ini_Model co_Model_takesWord) rfl rfl rfl pd_Model_takesWord ⟨rm_hi, rm_lo (Nat.le_of_ble_eq_true rfl)⟩) hK hP hD hS hA hnw henv (Nat.le_of_ble_eq_true rfl) rfl rfl hl.1 rfl (Nat.le_of_ble_eq_true rfl) d_Model_readHead_117 ⟨Nat.le_refl _, Nat.le_refl _⟩ (fun H locs hP hD hS => ?_)
      clear hc30
      refine lv_if_eq (tgt := 223) hx hb d_Model_readHead_120 (by decide) (fun c31 => ?_) (fun c31 => ?_)
      · replace hR := if_p c31 hR
        refine lv_aload_n hx hb d_Model_readHead_223 rfl (lv_at hl 0 rfl) ?_
        refine gldcw (own := R_Model) (index := 468) (q := ea 11) hx hb hown (henv.2.2 11 (by decide)).2 d_Model_readHead_224 ?_
        replace hR := bi_e hR
        obtain ⟨r32, l32, T32, hc32, hR⟩ := hR
        refine gcV_i (rest := []) ⟨hx, hb, hml, hown, hT⟩ (h_Model_takesWord _ 11 _ _ _ (by first | decide | assumption) hc32) (cwV 1 hT (gV ml_Model_462 im_Model_takesWord se_Model_takesWord ini_Model co_Model_takesWord) rfl rfl rfl pd_Model_takesWord ⟨rm_hi, rm_lo (Nat.le_of_ble_eq_true rfl)⟩) hK hP hD hS hA hnw henv (Nat.le_of_ble_eq_true rfl) rfl rfl hl.1 rfl (Nat.le_of_ble_eq_true rfl) d_Model_readHead_227 ⟨Nat.le_refl _, Nat.le_refl _⟩ (fun H locs hP hD hS => ?_)
        clear hc32
        refine lv_if_eq (tgt := 237) hx hb d_Model_readHead_230 (by decide) (fun c33 => ?_) (fun c33 => ?_)
        · replace hR := if_p c33 hR
          obtain ⟨-, -, e3⟩ := re_e hR
          subst e3
          exact W.vret hx hb hr (fun t ht hW => ⟨⟨(), rfl, trivial, by rw [ht]; exact hP, va_K.moved hW.alike hK, hD⟩, hS.F ht⟩) hS.2.2 d_Model_readHead_237
        · replace hR := if_n c33 hR
          refine lv_aload_n hx hb d_Model_readHead_233 rfl (lv_at hl 0 rfl) ?_
          replace hR := bi_e hR
          obtain ⟨r34, l34, T34, hc34, hR⟩ := hR
          refine gcV_v (rest := []) ⟨hx, hb, hml, hown, hT⟩ (h_Model_readWheres _ _ _ _ hc34) (cwV 0 hT (gV ml_Model_470 im_Model_readWheres se_Model_readWheres ini_Model co_Model_readWheres) rfl rfl rfl pd_Model_readWheres ⟨rm_hi, rm_lo (Nat.le_of_ble_eq_true rfl)⟩) hK hP hD hS hA hnw henv (Nat.le_of_ble_eq_true rfl) rfl rfl hl.1 rfl (Nat.le_of_ble_eq_true rfl) d_Model_readHead_234 ⟨Nat.le_refl _, Nat.le_refl _⟩ (fun H locs hP hD hS => ?_)
          clear hc34
          obtain ⟨-, -, e3⟩ := re_e hR
          subst e3
          exact W.vret hx hb hr (fun t ht hW => ⟨⟨(), rfl, trivial, by rw [ht]; exact hP, va_K.moved hW.alike hK, hD⟩, hS.F ht⟩) hS.2.2 d_Model_readHead_237
      · replace hR := if_n c31 hR
        have g := lb_123 nf T30 hR
        rw [hG] at g
        exact g _ _ hP hD hS _ (lv_sub hl [0] rfl)
  have lb_40 : ∀ (rec_6 : gSt → gR) (hrec_6 : ∀ (T : gSt), rec_6 T = some (r0, rl0, T9) → G 6 [(0, .ref (ad 0))] [] T) (T : gSt), rj_Model_readHead_40 F nf rec_6 T = some (r0, rl0, T9) → G 40 [(0, .ref (ad 0))] [] T := by
    intro rec_6 hrec_6 T hR; unfold rj_Model_readHead_40 at hR; rw [hG]; intro H locs hP hD hS ls hl
    refine lv_aload_n hx hb d_Model_readHead_40 rfl (lv_at hl 0 rfl) ?_
    refine rd_Model_39 hx hb hT hown hK hP d_Model_readHead_41 ?_
    refine lv_aload_n hx hb d_Model_readHead_44 rfl (lv_at hl 0 rfl) ?_
    refine rd_Model_433 hx hb hT hown hK hP d_Model_readHead_45 ?_
    replace hR := gd_e hR
    obtain ⟨b9, hR⟩ := hR
    refine laM_8 hx hb hK hP b9 d_Model_readHead_48 ?_
    refine lv_bipush (v := 6) hx hb d_Model_readHead_49 (by decide) ?_
    refine lv_icmp_eq (tgt := 63) hx hb d_Model_readHead_51 (by decide) (fun c10 => ?_) (fun c10 => ?_)
    · replace hR := if_p c10 hR
      refine lv_aload_n hx hb d_Model_readHead_63 rfl (lv_at hl 0 rfl) ?_
      replace hR := bi_e hR
      obtain ⟨r11, l11, T11, hc11, hR⟩ := hR
      refine gcV_v (rest := []) ⟨hx, hb, hml, hown, hT⟩ (h_Model_wrong _ _ _ _ hc11) (cwV 0 hT (gV ml_Model_406 im_Model_wrong se_Model_wrong ini_Model co_Model_wrong) rfl rfl rfl pd_Model_wrong ⟨rm_hi, rm_lo (Nat.le_of_ble_eq_true rfl)⟩) hK hP hD hS hA hnw henv (Nat.le_of_ble_eq_true rfl) rfl rfl hl.1 rfl (Nat.le_of_ble_eq_true rfl) d_Model_readHead_64 ⟨Nat.le_refl _, Nat.le_refl _⟩ (fun H locs hP hD hS => ?_)
      clear hc11
      refine lv_aload_n hx hb d_Model_readHead_67 rfl (lv_at hl 0 rfl) ?_
      replace hR := bi_e hR
      obtain ⟨r12, l12, T12, hc12, hR⟩ := hR
      refine gcV_v (rest := []) ⟨hx, hb, hml, hown, hT⟩ (h_Model_readField _ _ _ _ hc12) (cwV 0 hT (gV ml_Model_451 im_Model_readField se_Model_readField ini_Model co_Model_readField) rfl rfl rfl pd_Model_readField ⟨rm_hi, rm_lo (Nat.le_of_ble_eq_true rfl)⟩) hK hP hD hS hA hnw henv (Nat.le_of_ble_eq_true rfl) rfl rfl hl.1 rfl (Nat.le_of_ble_eq_true rfl) d_Model_readHead_68 ⟨Nat.le_refl _, Nat.le_refl _⟩ (fun H locs hP hD hS => ?_)
      clear hc12
      refine lv_aload_n hx hb d_Model_readHead_71 rfl (lv_at hl 0 rfl) ?_
      refine lv_dup hx hb d_Model_readHead_72 rfl ?_
      refine rd_Model_436 hx hb hT hown hK hP d_Model_readHead_73 ?_
      refine lv_iconst (v := 1) hx hb d_Model_readHead_76 (by decide) ?_
      refine lv_iadd hx hb d_Model_readHead_77 ?_
      refine wr_Model_436 hx hb hT hown hK hP hD hS d_Model_readHead_78 (fun T13 eT H locs hP hD hS => ?_)
      replace hR := stK_e eT hR
      clear eT
      refine lv_goto (tgt := 6) hx hb d_Model_readHead_81 (by decide) ?_
      have g := hrec_6 T13 hR
      rw [hG] at g
      exact g _ _ hP hD hS _ (lv_sub hl [0] rfl)
    · replace hR := if_n c10 hR
      refine lv_aload_n hx hb d_Model_readHead_54 rfl (lv_at hl 0 rfl) ?_
      refine rd_Model_436 hx hb hT hown hK hP d_Model_readHead_55 ?_
      refine lv_bipush (v := 20) hx hb d_Model_readHead_58 (by decide) ?_
      refine lv_icmp_ne (tgt := 67) hx hb d_Model_readHead_60 (by decide) (fun c14 => ?_) (fun c14 => ?_)
      · replace hR := if_n c14 hR
        refine lv_aload_n hx hb d_Model_readHead_67 rfl (lv_at hl 0 rfl) ?_
        replace hR := bi_e hR
        obtain ⟨r15, l15, T15, hc15, hR⟩ := hR
        refine gcV_v (rest := []) ⟨hx, hb, hml, hown, hT⟩ (h_Model_readField _ _ _ _ hc15) (cwV 0 hT (gV ml_Model_451 im_Model_readField se_Model_readField ini_Model co_Model_readField) rfl rfl rfl pd_Model_readField ⟨rm_hi, rm_lo (Nat.le_of_ble_eq_true rfl)⟩) hK hP hD hS hA hnw henv (Nat.le_of_ble_eq_true rfl) rfl rfl hl.1 rfl (Nat.le_of_ble_eq_true rfl) d_Model_readHead_68 ⟨Nat.le_refl _, Nat.le_refl _⟩ (fun H locs hP hD hS => ?_)
        clear hc15
        refine lv_aload_n hx hb d_Model_readHead_71 rfl (lv_at hl 0 rfl) ?_
        refine lv_dup hx hb d_Model_readHead_72 rfl ?_
        refine rd_Model_436 hx hb hT hown hK hP d_Model_readHead_73 ?_
        refine lv_iconst (v := 1) hx hb d_Model_readHead_76 (by decide) ?_
        refine lv_iadd hx hb d_Model_readHead_77 ?_
        refine wr_Model_436 hx hb hT hown hK hP hD hS d_Model_readHead_78 (fun T16 eT H locs hP hD hS => ?_)
        replace hR := stK_e eT hR
        clear eT
        refine lv_goto (tgt := 6) hx hb d_Model_readHead_81 (by decide) ?_
        have g := hrec_6 T16 hR
        rw [hG] at g
        exact g _ _ hP hD hS _ (lv_sub hl [0] rfl)
      · replace hR := if_p c14 hR
        refine lv_aload_n hx hb d_Model_readHead_63 rfl (lv_at hl 0 rfl) ?_
        replace hR := bi_e hR
        obtain ⟨r17, l17, T17, hc17, hR⟩ := hR
        refine gcV_v (rest := []) ⟨hx, hb, hml, hown, hT⟩ (h_Model_wrong _ _ _ _ hc17) (cwV 0 hT (gV ml_Model_406 im_Model_wrong se_Model_wrong ini_Model co_Model_wrong) rfl rfl rfl pd_Model_wrong ⟨rm_hi, rm_lo (Nat.le_of_ble_eq_true rfl)⟩) hK hP hD hS hA hnw henv (Nat.le_of_ble_eq_true rfl) rfl rfl hl.1 rfl (Nat.le_of_ble_eq_true rfl) d_Model_readHead_64 ⟨Nat.le_refl _, Nat.le_refl _⟩ (fun H locs hP hD hS => ?_)
        clear hc17
        refine lv_aload_n hx hb d_Model_readHead_67 rfl (lv_at hl 0 rfl) ?_
        replace hR := bi_e hR
        obtain ⟨r18, l18, T18, hc18, hR⟩ := hR
        refine gcV_v (rest := []) ⟨hx, hb, hml, hown, hT⟩ (h_Model_readField _ _ _ _ hc18) (cwV 0 hT (gV ml_Model_451 im_Model_readField se_Model_readField ini_Model co_Model_readField) rfl rfl rfl pd_Model_readField ⟨rm_hi, rm_lo (Nat.le_of_ble_eq_true rfl)⟩) hK hP hD hS hA hnw henv (Nat.le_of_ble_eq_true rfl) rfl rfl hl.1 rfl (Nat.le_of_ble_eq_true rfl) d_Model_readHead_68 ⟨Nat.le_refl _, Nat.le_refl _⟩ (fun H locs hP hD hS => ?_)
        clear hc18
        refine lv_aload_n hx hb d_Model_readHead_71 rfl (lv_at hl 0 rfl) ?_
        refine lv_dup hx hb d_Model_readHead_72 rfl ?_
        refine rd_Model_436 hx hb hT hown hK hP d_Model_readHead_73 ?_
        refine lv_iconst (v := 1) hx hb d_Model_readHead_76 (by decide) ?_
        refine lv_iadd hx hb d_Model_readHead_77 ?_
        refine wr_Model_436 hx hb hT hown hK hP hD hS d_Model_readHead_78 (fun T19 eT H locs hP hD hS => ?_)
        replace hR := stK_e eT hR
        clear eT
        refine lv_goto (tgt := 6) hx hb d_Model_readHead_81 (by decide) ?_
        have g := hrec_6 T19 hR
        rw [hG] at g
        exact g _ _ hP hD hS _ (lv_sub hl [0] rfl)
  have lb_6 : ∀ (n : Nat) (T : gSt), rl_Model_readHead_6 F nf n T = some (r0, rl0, T9) → G 6 [(0, .ref (ad 0))] [] T := by
    intro n
    induction n with
    | zero => intro T hR; rw [rl_Model_readHead_6] at hR; cases hR
    | succ n ih =>
      intro T hR; rw [rl_Model_readHead_6] at hR; rw [hG]; intro H locs hP hD hS ls hl
      refine lv_aload_n hx hb d_Model_readHead_6 rfl (lv_at hl 0 rfl) ?_
      replace hR := bi_e hR
      obtain ⟨r2, l2, T2, hc2, hR⟩ := hR
      refine gcV_i (rest := []) ⟨hx, hb, hml, hown, hT⟩ (h_Model_bad _ _ _ _ hc2) (cwV 0 hT (gV ml_Model_385 im_Model_bad se_Model_bad ini_Model co_Model_bad) rfl rfl rfl pd_Model_bad ⟨rm_hi, rm_lo (Nat.le_of_ble_eq_true rfl)⟩) hK hP hD hS hA hnw henv (Nat.le_of_ble_eq_true rfl) rfl rfl hl.1 rfl (Nat.le_of_ble_eq_true rfl) d_Model_readHead_7 ⟨Nat.le_refl _, Nat.le_refl _⟩ (fun H locs hP hD hS => ?_)
      clear hc2
      refine lv_if_ne (tgt := 84) hx hb d_Model_readHead_10 (by decide) (fun c3 => ?_) (fun c3 => ?_)
      · replace hR := if_n c3 hR
        have g := lb_84 T2 hR
        rw [hG] at g
        exact g _ _ hP hD hS _ (lv_sub hl [0] rfl)
      · replace hR := if_p c3 hR
        refine lv_aload_n hx hb d_Model_readHead_13 rfl (lv_at hl 0 rfl) ?_
        refine lv_bipush (v := 41) hx hb d_Model_readHead_14 (by decide) ?_
        replace hR := bi_e hR
        obtain ⟨r4, l4, T4, hc4, hR⟩ := hR
        refine gcV_i (rest := []) ⟨hx, hb, hml, hown, hT⟩ (h_Model_isSign _ _ _ _ _ hc4) (cwV 1 hT (gV ml_Model_393 im_Model_isSign se_Model_isSign ini_Model co_Model_isSign) rfl rfl rfl pd_Model_isSign ⟨rm_hi, rm_lo (Nat.le_of_ble_eq_true rfl)⟩) hK hP hD hS hA hnw henv (Nat.le_of_ble_eq_true rfl) rfl rfl hl.1 rfl (Nat.le_of_ble_eq_true rfl) d_Model_readHead_16 ⟨Nat.le_refl _, Nat.le_refl _⟩ (fun H locs hP hD hS => ?_)
        clear hc4
        refine lv_if_ne (tgt := 84) hx hb d_Model_readHead_19 (by decide) (fun c5 => ?_) (fun c5 => ?_)
        · replace hR := if_n c5 hR
          have g := lb_84 T4 hR
          rw [hG] at g
          exact g _ _ hP hD hS _ (lv_sub hl [0] rfl)
        · replace hR := if_p c5 hR
          refine lv_aload_n hx hb d_Model_readHead_22 rfl (lv_at hl 0 rfl) ?_
          refine rd_Model_39 hx hb hT hown hK hP d_Model_readHead_23 ?_
          refine lv_aload_n hx hb d_Model_readHead_26 rfl (lv_at hl 0 rfl) ?_
          refine rd_Model_433 hx hb hT hown hK hP d_Model_readHead_27 ?_
          replace hR := gd_e hR
          obtain ⟨b6, hR⟩ := hR
          refine laM_8 hx hb hK hP b6 d_Model_readHead_30 ?_
          refine lv_if_le (tgt := 40) hx hb d_Model_readHead_31 (by decide) (fun c7 => ?_) (fun c7 => ?_)
          · replace hR := if_p c7 hR
            have g := lb_40 (rl_Model_readHead_6 F nf n) ih T4 hR
            rw [hG] at g
            exact g _ _ hP hD hS _ (lv_sub hl [0] rfl)
          · replace hR := if_n c7 hR
            refine lv_aload_n hx hb d_Model_readHead_34 rfl (lv_at hl 0 rfl) ?_
            refine lv_bipush (v := 44) hx hb d_Model_readHead_35 (by decide) ?_
            replace hR := bi_e hR
            obtain ⟨r8, l8, T8, hc8, hR⟩ := hR
            refine gcV_v (rest := []) ⟨hx, hb, hml, hown, hT⟩ (h_Model_need _ _ _ _ _ hc8) (cwV 1 hT (gV ml_Model_448 im_Model_need se_Model_need ini_Model co_Model_need) rfl rfl rfl pd_Model_need ⟨rm_hi, rm_lo (Nat.le_of_ble_eq_true rfl)⟩) hK hP hD hS hA hnw henv (Nat.le_of_ble_eq_true rfl) rfl rfl hl.1 rfl (Nat.le_of_ble_eq_true rfl) d_Model_readHead_37 ⟨Nat.le_refl _, Nat.le_refl _⟩ (fun H locs hP hD hS => ?_)
            clear hc8
            have g := lb_40 (rl_Model_readHead_6 F nf n) ih T8 hR
            rw [hG] at g
            exact g _ _ hP hD hS _ (lv_sub hl [0] rfl)
  unfold rb_Model_readHead at hR
  refine lv_aload_n hx hb d_Model_readHead_0 rfl (lv_at hl 0 rfl) ?_
  refine lv_bipush (v := 40) hx hb d_Model_readHead_1 (by decide) ?_
  replace hR := bi_e hR
  obtain ⟨r1, l1, T1, hc1, hR⟩ := hR
  refine gcV_v (rest := []) ⟨hx, hb, hml, hown, hT⟩ (h_Model_need _ _ _ _ _ hc1) (cwV 1 hT (gV ml_Model_448 im_Model_need se_Model_need ini_Model co_Model_need) rfl rfl rfl pd_Model_need ⟨rm_hi, rm_lo (Nat.le_of_ble_eq_true rfl)⟩) hK hP hD hS hA hnw henv (Nat.le_of_ble_eq_true rfl) rfl rfl hl.1 rfl (Nat.le_of_ble_eq_true rfl) d_Model_readHead_3 ⟨Nat.le_refl _, Nat.le_refl _⟩ (fun H locs hP hD hS => ?_)
  clear hc1
  have g := lb_6 nf T1 hR
  rw [hG] at g
  exact g _ _ hP hD hS _ (lv_sub hl [0] rfl)
set_option maxHeartbeats 4000000 in
set_option maxRecDepth 100000 in
theorem sp_Model_readWheres (l : Launch) (dC : Nat → ClassId) (dI : Nat → Nat → Nat) (ea ev ad : Nat → Nat) (km : Nat → ClassId) (F : gF) (nf d : Nat) (h_Model_bad : mt_Model_bad l dC dI ea ev ad km F d) (h_Model_wrong : mt_Model_wrong l dC dI ea ev ad km F d) (h_Model_needRegion : mt_Model_needRegion l dC dI ea ev ad km F d) (h_Model_need : mt_Model_need l dC dI ea ev ad km F d) (h_Model_takes : mt_Model_takes l dC dI ea ev ad km F d) (T0 : gSt) (r0 : Int32) (rl0 : Int64) (T9 : gSt) (hR : rb_Model_readWheres F nf T0 = some (r0, rl0, T9)) : GMv l dC dI LM ad km ea ev y_Model_readWheres w_Model_readWheres (rmD (d + 1)) [.ref (ad 0)] T0 T9 := by
  intro sz
  refine Met.ofW (cc := b_Model_readWheres) (maxL := 5) (ret := none) (by decide) rfl ?_
  intro p e s m args below meth c s₁ B hml hv
  obtain ⟨rfl, hsz, hP, hK, hD0, hnw, henv⟩ := hv
  have hx := B.exec
  have hb := B.bytes
  have hr := B.returns
  have hT : ∀ w ∈ lw_good, w.before _ s = true := fun w h => atoms_spec (ws := w_Model_readWheres) B.pre w (List.mem_cons_of_mem _ h)
  have hown : s.vm.findClass R_Model = some m.cls := findClass_of_methodNamed B.named
  subst hsz
  have hD := hD0.self (sz := s.heap.size)
  clear hD0
  generalize hAe : va_A (gW LM ad km T0) s.heap.size = A at hD henv ⊢
  have hA : ∀ q : Nat, s.heap.size ≤ q → A q := fun q h => by rw [← hAe]; exact Or.inr h
  have hS : va_S A s.heap s.heap [] := va_S.rf
  have hl := lv_entry ([.ref (ad 0)]) (n := 5) (Nat.le_of_ble_eq_true rfl)
  rw [lg_entry_eq]
  generalize (lg_sl ([.ref (ad 0)]) ++ List.replicate (5 - (lg_sl ([.ref (ad 0)])).length) Slot.unset).toArray = ls at hl ⊢
  have hl : lv_has ls 5 [(0, .ref (ad 0))] := hl
  obtain ⟨G, hG⟩ : ∃ G : Nat → List (Nat × Value) → List Value → gSt → Prop, G = (fun pc lv stk T => ∀ (H : Heap) (locs : List Loc), va_P (dC, dI) cls_all (gW LM ad km T) H → va_D A (gW LM ad km T) → va_S A s.heap H locs → ∀ (ls : Array Slot), lv_has ls 5 lv → W p l e (headSpec w_Model_readWheres (rmD (d + 1))).room s m ([.ref (ad 0)] : List Value).toArray below meth c H locs 0 0 (MQ below (va_Qv (fun (_ : Unit) => True) (fun _ t => gPost dC dI LM ad km T9 A t) A) ([.ref (ad 0)] : List Value).toArray s 0 0 A) (F0 m pc ls stk)) := ⟨_, rfl⟩
  have lb_30 : ∀ (rec_2 : gSt → Int32 → gR) (hrec_2 : ∀ (T : gSt) (x1 : Int32), rec_2 T x1 = some (r0, rl0, T9) → G 2 [(0, .ref (ad 0)), (1, .int x1)] [] T) (T : gSt), rj_Model_readWheres_30 F nf rec_2 T = some (r0, rl0, T9) → G 30 [(0, .ref (ad 0))] [] T := by
    intro rec_2 hrec_2 T hR; unfold rj_Model_readWheres_30 at hR; rw [hG]; intro H locs hP hD hS ls hl
    refine lv_aload_n hx hb d_Model_readWheres_30 rfl (lv_at hl 0 rfl) ?_
    replace hR := bi_e hR
    obtain ⟨r7, l7, T7, hc7, hR⟩ := hR
    refine gcV_i (rest := []) ⟨hx, hb, hml, hown, hT⟩ (h_Model_needRegion _ _ _ _ hc7) (cwV 0 hT (gV ml_Model_465 im_Model_needRegion se_Model_needRegion ini_Model co_Model_needRegion) rfl rfl rfl pd_Model_needRegion ⟨rm_hi, rm_lo (Nat.le_of_ble_eq_true rfl)⟩) hK hP hD hS hA hnw henv (Nat.le_of_ble_eq_true rfl) rfl rfl hl.1 rfl (Nat.le_of_ble_eq_true rfl) d_Model_readWheres_31 ⟨Nat.le_refl _, Nat.le_refl _⟩ (fun H locs hP hD hS => ?_)
    clear hc7
    refine lv_istore_n (lv' := [(2, .int r7), (0, .ref (ad 0))]) hx hb d_Model_readWheres_34 rfl hl (by decide) rfl (fun ls hl => ?_)
    refine lv_aload_n hx hb d_Model_readWheres_35 rfl (lv_at hl 1 rfl) ?_
    refine lv_bipush (v := 62) hx hb d_Model_readWheres_36 (by decide) ?_
    replace hR := bi_e hR
    obtain ⟨r8, l8, T8, hc8, hR⟩ := hR
    refine gcV_v (rest := []) ⟨hx, hb, hml, hown, hT⟩ (h_Model_need _ _ _ _ _ hc8) (cwV 1 hT (gV ml_Model_448 im_Model_need se_Model_need ini_Model co_Model_need) rfl rfl rfl pd_Model_need ⟨rm_hi, rm_lo (Nat.le_of_ble_eq_true rfl)⟩) hK hP hD hS hA hnw henv (Nat.le_of_ble_eq_true rfl) rfl rfl hl.1 rfl (Nat.le_of_ble_eq_true rfl) d_Model_readWheres_38 ⟨Nat.le_refl _, Nat.le_refl _⟩ (fun H locs hP hD hS => ?_)
    clear hc8
    refine lv_aload_n hx hb d_Model_readWheres_41 rfl (lv_at hl 1 rfl) ?_
    replace hR := bi_e hR
    obtain ⟨r9, l9, T9, hc9, hR⟩ := hR
    refine gcV_i (rest := []) ⟨hx, hb, hml, hown, hT⟩ (h_Model_needRegion _ _ _ _ hc9) (cwV 0 hT (gV ml_Model_465 im_Model_needRegion se_Model_needRegion ini_Model co_Model_needRegion) rfl rfl rfl pd_Model_needRegion ⟨rm_hi, rm_lo (Nat.le_of_ble_eq_true rfl)⟩) hK hP hD hS hA hnw henv (Nat.le_of_ble_eq_true rfl) rfl rfl hl.1 rfl (Nat.le_of_ble_eq_true rfl) d_Model_readWheres_42 ⟨Nat.le_refl _, Nat.le_refl _⟩ (fun H locs hP hD hS => ?_)
    clear hc9
    refine lv_istore_n (lv' := [(3, .int r9), (2, .int r7), (0, .ref (ad 0))]) hx hb d_Model_readWheres_45 rfl hl (by decide) rfl (fun ls hl => ?_)
    refine lv_aload_n hx hb d_Model_readWheres_46 rfl (lv_at hl 2 rfl) ?_
    replace hR := bi_e hR
    obtain ⟨r10, l10, T10, hc10, hR⟩ := hR
    refine gcV_i (rest := []) ⟨hx, hb, hml, hown, hT⟩ (h_Model_bad _ _ _ _ hc10) (cwV 0 hT (gV ml_Model_385 im_Model_bad se_Model_bad ini_Model co_Model_bad) rfl rfl rfl pd_Model_bad ⟨rm_hi, rm_lo (Nat.le_of_ble_eq_true rfl)⟩) hK hP hD hS hA hnw henv (Nat.le_of_ble_eq_true rfl) rfl rfl hl.1 rfl (Nat.le_of_ble_eq_true rfl) d_Model_readWheres_47 ⟨Nat.le_refl _, Nat.le_refl _⟩ (fun H locs hP hD hS => ?_)
    clear hc10
    refine lv_if_eq (tgt := 54) hx hb d_Model_readWheres_50 (by decide) (fun c11 => ?_) (fun c11 => ?_)
    · replace hR := if_p c11 hR
      refine lv_bipush (v := 6) hx hb d_Model_readWheres_54 (by decide) ?_
      refine lv_aload_n hx hb d_Model_readWheres_56 rfl (lv_at hl 2 rfl) ?_
      refine rd_Model_433 hx hb hT hown hK hP d_Model_readWheres_57 ?_
      refine lv_imul hx hb d_Model_readWheres_60 ?_
      refine lv_iconst (v := 2) hx hb d_Model_readWheres_61 (by decide) ?_
      refine lv_aload_n hx hb d_Model_readWheres_62 rfl (lv_at hl 2 rfl) ?_
      refine rd_Model_72 hx hb hT hown hK hP d_Model_readWheres_63 ?_
      refine lv_aload_n hx hb d_Model_readWheres_66 rfl (lv_at hl 2 rfl) ?_
      refine rd_Model_433 hx hb hT hown hK hP d_Model_readWheres_67 ?_
      replace hR := gd_e hR
      obtain ⟨b12, hR⟩ := hR
      refine laM_19 hx hb hK hP b12 d_Model_readWheres_70 ?_
      refine lv_imul hx hb d_Model_readWheres_71 ?_
      refine lv_iadd hx hb d_Model_readWheres_72 ?_
      refine lv_topi (fun z13 e13 => ?_)
      replace hR := vK_e e13 hR
      refine lv_istore (lv' := [(4, .int z13), (3, .int r9), (2, .int r7), (0, .ref (ad 0))]) hx hb d_Model_readWheres_73 hl (by decide) rfl (fun ls hl => ?_)
      refine lv_aload_n hx hb d_Model_readWheres_75 rfl (lv_at hl 3 rfl) ?_
      refine rd_Model_75 hx hb hT hown hK hP d_Model_readWheres_76 ?_
      refine lv_iload hx hb d_Model_readWheres_79 (lv_at hl 0 rfl) ?_
      refine lv_aload_n hx hb d_Model_readWheres_81 rfl (lv_at hl 3 rfl) ?_
      refine rd_Model_111 hx hb hT hown hK hP d_Model_readWheres_82 ?_
      refine lv_iload_n hx hb d_Model_readWheres_85 rfl (lv_at hl 2 rfl) ?_
      replace hR := gd_e hR
      obtain ⟨b14, hR⟩ := hR
      refine laM_32 hx hb hK hP b14 d_Model_readWheres_86 ?_
      replace hR := gd_e hR
      obtain ⟨b15, hR⟩ := hR
      refine saM_20 hx hb hK hP hD hS b15 d_Model_readWheres_87 (fun T15 eT H locs hP hD hS => ?_)
      replace hR := stK_e eT hR
      clear eT
      refine lv_aload_n hx hb d_Model_readWheres_88 rfl (lv_at hl 3 rfl) ?_
      refine rd_Model_78 hx hb hT hown hK hP d_Model_readWheres_89 ?_
      refine lv_iload hx hb d_Model_readWheres_92 (lv_at hl 0 rfl) ?_
      refine lv_aload_n hx hb d_Model_readWheres_94 rfl (lv_at hl 3 rfl) ?_
      refine rd_Model_114 hx hb hT hown hK hP d_Model_readWheres_95 ?_
      refine lv_iload_n hx hb d_Model_readWheres_98 rfl (lv_at hl 2 rfl) ?_
      replace hR := gd_e hR
      obtain ⟨b16, hR⟩ := hR
      refine laM_33 hx hb hK hP b16 d_Model_readWheres_99 ?_
      replace hR := gd_e hR
      obtain ⟨b17, hR⟩ := hR
      refine saM_21 hx hb hK hP hD hS b17 d_Model_readWheres_100 (fun T17 eT H locs hP hD hS => ?_)
      replace hR := stK_e eT hR
      clear eT
      refine lv_aload_n hx hb d_Model_readWheres_101 rfl (lv_at hl 3 rfl) ?_
      refine rd_Model_75 hx hb hT hown hK hP d_Model_readWheres_102 ?_
      refine lv_iload hx hb d_Model_readWheres_105 (lv_at hl 0 rfl) ?_
      refine lv_iconst (v := 1) hx hb d_Model_readWheres_107 (by decide) ?_
      refine lv_iadd hx hb d_Model_readWheres_108 ?_
      refine lv_aload_n hx hb d_Model_readWheres_109 rfl (lv_at hl 3 rfl) ?_
      refine rd_Model_111 hx hb hT hown hK hP d_Model_readWheres_110 ?_
      refine lv_iload_n hx hb d_Model_readWheres_113 rfl (lv_at hl 1 rfl) ?_
      replace hR := gd_e hR
      obtain ⟨b18, hR⟩ := hR
      refine laM_32 hx hb hK hP b18 d_Model_readWheres_114 ?_
      replace hR := gd_e hR
      obtain ⟨b19, hR⟩ := hR
      refine saM_20 hx hb hK hP hD hS b19 d_Model_readWheres_115 (fun T19 eT H locs hP hD hS => ?_)
      replace hR := stK_e eT hR
      clear eT
      refine lv_aload_n hx hb d_Model_readWheres_116 rfl (lv_at hl 3 rfl) ?_
      refine rd_Model_78 hx hb hT hown hK hP d_Model_readWheres_117 ?_
      refine lv_iload hx hb d_Model_readWheres_120 (lv_at hl 0 rfl) ?_
      refine lv_iconst (v := 1) hx hb d_Model_readWheres_122 (by decide) ?_
      refine lv_iadd hx hb d_Model_readWheres_123 ?_
      refine lv_aload_n hx hb d_Model_readWheres_124 rfl (lv_at hl 3 rfl) ?_
      refine rd_Model_114 hx hb hT hown hK hP d_Model_readWheres_125 ?_
      refine lv_iload_n hx hb d_Model_readWheres_128 rfl (lv_at hl 1 rfl) ?_
      replace hR := gd_e hR
      obtain ⟨b20, hR⟩ := hR
      refine laM_33 hx hb hK hP b20 d_Model_readWheres_129 ?_
      replace hR := gd_e hR
      obtain ⟨b21, hR⟩ := hR
      refine saM_21 hx hb hK hP hD hS b21 d_Model_readWheres_130 (fun T21 eT H locs hP hD hS => ?_)
      replace hR := stK_e eT hR
      clear eT
      refine lv_aload_n hx hb d_Model_readWheres_131 rfl (lv_at hl 3 rfl) ?_
      refine rd_Model_72 hx hb hT hown hK hP d_Model_readWheres_132 ?_
      refine lv_aload_n hx hb d_Model_readWheres_135 rfl (lv_at hl 3 rfl) ?_
      refine rd_Model_433 hx hb hT hown hK hP d_Model_readWheres_136 ?_
      refine lv_dup2_11 hx hb d_Model_readWheres_139 rfl rfl ?_
      replace hR := gd_e hR
      obtain ⟨b22, hR⟩ := hR
      refine laM_19 hx hb hK hP b22 d_Model_readWheres_140 ?_
      refine lv_iconst (v := 1) hx hb d_Model_readWheres_141 (by decide) ?_
      refine lv_iadd hx hb d_Model_readWheres_142 ?_
      replace hR := gd_e hR
      obtain ⟨b23, hR⟩ := hR
      refine saM_19 hx hb hK hP hD hS b23 d_Model_readWheres_143 (fun T23 eT H locs hP hD hS => ?_)
      replace hR := stK_e eT hR
      clear eT
      refine lv_aload_n hx hb d_Model_readWheres_144 rfl (lv_at hl 3 rfl) ?_
      refine lv_bipush (v := 44) hx hb d_Model_readWheres_145 (by decide) ?_
      replace hR := bi_e hR
      obtain ⟨r24, l24, T24, hc24, hR⟩ := hR
      refine gcV_i (rest := []) ⟨hx, hb, hml, hown, hT⟩ (h_Model_takes _ _ _ _ _ hc24) (cwV 1 hT (gV ml_Model_403 im_Model_takes se_Model_takes ini_Model co_Model_takes) rfl rfl rfl pd_Model_takes ⟨rm_hi, rm_lo (Nat.le_of_ble_eq_true rfl)⟩) hK hP hD hS hA hnw henv (Nat.le_of_ble_eq_true rfl) rfl rfl hl.1 rfl (Nat.le_of_ble_eq_true rfl) d_Model_readWheres_147 ⟨Nat.le_refl _, Nat.le_refl _⟩ (fun H locs hP hD hS => ?_)
      clear hc24
      refine lv_istore_n (lv' := [(1, .int r24), (4, .int z13), (3, .int r9), (2, .int r7), (0, .ref (ad 0))]) hx hb d_Model_readWheres_150 rfl hl (by decide) rfl (fun ls hl => ?_)
      refine lv_goto (tgt := 2) hx hb d_Model_readWheres_151 (by decide) ?_
      have g := hrec_2 T24 r24 hR
      rw [hG] at g
      exact g _ _ hP hD hS _ (lv_sub hl [4, 0] rfl)
    · replace hR := if_n c11 hR
      obtain ⟨-, -, e3⟩ := re_e hR
      subst e3
      exact W.vret hx hb hr (fun t ht hW => ⟨⟨(), rfl, trivial, by rw [ht]; exact hP, va_K.moved hW.alike hK, hD⟩, hS.F ht⟩) hS.2.2 d_Model_readWheres_53
  have lb_2 : ∀ (n : Nat) (T : gSt) (x1 : Int32), rl_Model_readWheres_2 F nf n T x1 = some (r0, rl0, T9) → G 2 [(0, .ref (ad 0)), (1, .int x1)] [] T := by
    intro n
    induction n with
    | zero => intro T x1 hR; rw [rl_Model_readWheres_2] at hR; cases hR
    | succ n ih =>
      intro T x1 hR; rw [rl_Model_readWheres_2] at hR; rw [hG]; intro H locs hP hD hS ls hl
      refine lv_iload_n hx hb d_Model_readWheres_2 rfl (lv_at hl 1 rfl) ?_
      refine lv_if_eq (tgt := 154) hx hb d_Model_readWheres_3 (by decide) (fun c1 => ?_) (fun c1 => ?_)
      · replace hR := if_p c1 hR
        obtain ⟨-, -, e3⟩ := re_e hR
        subst e3
        exact W.vret hx hb hr (fun t ht hW => ⟨⟨(), rfl, trivial, by rw [ht]; exact hP, va_K.moved hW.alike hK, hD⟩, hS.F ht⟩) hS.2.2 d_Model_readWheres_154
      · replace hR := if_n c1 hR
        refine lv_aload_n hx hb d_Model_readWheres_6 rfl (lv_at hl 0 rfl) ?_
        replace hR := bi_e hR
        obtain ⟨r2, l2, T2, hc2, hR⟩ := hR
        refine gcV_i (rest := []) ⟨hx, hb, hml, hown, hT⟩ (h_Model_bad _ _ _ _ hc2) (cwV 0 hT (gV ml_Model_385 im_Model_bad se_Model_bad ini_Model co_Model_bad) rfl rfl rfl pd_Model_bad ⟨rm_hi, rm_lo (Nat.le_of_ble_eq_true rfl)⟩) hK hP hD hS hA hnw henv (Nat.le_of_ble_eq_true rfl) rfl rfl hl.1 rfl (Nat.le_of_ble_eq_true rfl) d_Model_readWheres_7 ⟨Nat.le_refl _, Nat.le_refl _⟩ (fun H locs hP hD hS => ?_)
        clear hc2
        refine lv_if_ne (tgt := 154) hx hb d_Model_readWheres_10 (by decide) (fun c3 => ?_) (fun c3 => ?_)
        · replace hR := if_n c3 hR
          obtain ⟨-, -, e3⟩ := re_e hR
          subst e3
          exact W.vret hx hb hr (fun t ht hW => ⟨⟨(), rfl, trivial, by rw [ht]; exact hP, va_K.moved hW.alike hK, hD⟩, hS.F ht⟩) hS.2.2 d_Model_readWheres_154
        · replace hR := if_p c3 hR
          refine lv_aload_n hx hb d_Model_readWheres_13 rfl (lv_at hl 0 rfl) ?_
          refine rd_Model_72 hx hb hT hown hK hP d_Model_readWheres_14 ?_
          refine lv_aload_n hx hb d_Model_readWheres_17 rfl (lv_at hl 0 rfl) ?_
          refine rd_Model_433 hx hb hT hown hK hP d_Model_readWheres_18 ?_
          replace hR := gd_e hR
          obtain ⟨b4, hR⟩ := hR
          refine laM_19 hx hb hK hP b4 d_Model_readWheres_21 ?_
          refine lv_iconst (v := 3) hx hb d_Model_readWheres_22 (by decide) ?_
          refine lv_icmp_ne (tgt := 30) hx hb d_Model_readWheres_23 (by decide) (fun c5 => ?_) (fun c5 => ?_)
          · replace hR := if_n c5 hR
            have g := lb_30 (rl_Model_readWheres_2 F nf n) ih T2 hR
            rw [hG] at g
            exact g _ _ hP hD hS _ (lv_sub hl [0] rfl)
          · replace hR := if_p c5 hR
            refine lv_aload_n hx hb d_Model_readWheres_26 rfl (lv_at hl 0 rfl) ?_
            replace hR := bi_e hR
            obtain ⟨r6, l6, T6, hc6, hR⟩ := hR
            refine gcV_v (rest := []) ⟨hx, hb, hml, hown, hT⟩ (h_Model_wrong _ _ _ _ hc6) (cwV 0 hT (gV ml_Model_406 im_Model_wrong se_Model_wrong ini_Model co_Model_wrong) rfl rfl rfl pd_Model_wrong ⟨rm_hi, rm_lo (Nat.le_of_ble_eq_true rfl)⟩) hK hP hD hS hA hnw henv (Nat.le_of_ble_eq_true rfl) rfl rfl hl.1 rfl (Nat.le_of_ble_eq_true rfl) d_Model_readWheres_27 ⟨Nat.le_refl _, Nat.le_refl _⟩ (fun H locs hP hD hS => ?_)
            clear hc6
            have g := lb_30 (rl_Model_readWheres_2 F nf n) ih T6 hR
            rw [hG] at g
            exact g _ _ hP hD hS _ (lv_sub hl [0] rfl)
  unfold rb_Model_readWheres at hR
  refine lv_iconst (v := 1) hx hb d_Model_readWheres_0 (by decide) ?_
  refine lv_istore_n (lv' := [(1, .int (1 : Int32)), (0, .ref (ad 0))]) hx hb d_Model_readWheres_1 rfl hl (by decide) rfl (fun ls hl => ?_)
  have g := lb_2 nf T0 (1 : Int32) hR
  rw [hG] at g
  exact g _ _ hP hD hS _ (lv_sub hl [1, 0] rfl)
set_option maxHeartbeats 4000000 in
set_option maxRecDepth 100000 in
theorem sp_Model_type (l : Launch) (dC : Nat → ClassId) (dI : Nat → Nat → Nat) (ea ev ad : Nat → Nat) (km : Nat → ClassId) (F : gF) (nf d : Nat) (h_Model_wrong : mt_Model_wrong l dC dI ea ev ad km F d) (h_Model_isWord : mt_Model_isWord l dC dI ea ev ad km F d) (h_Model_isSign : mt_Model_isSign l dC dI ea ev ad km F d) (h_Model_bad : mt_Model_bad l dC dI ea ev ad km F d) (h_Model_advance : mt_Model_advance l dC dI ea ev ad km F d) (h_Model_needRegion : mt_Model_needRegion l dC dI ea ev ad km F d) (h_Model_readUses : mt_Model_readUses l dC dI ea ev ad km F d) (h_Model_type : mt_Model_type l dC dI ea ev ad km F d) (T0 : gSt) (p1 : Int32) (r0 : Int32) (rl0 : Int64) (T9 : gSt) (hR : rb_Model_type F nf T0 p1 = some (r0, rl0, T9)) : GMi l dC dI LM ad km ea ev y_Model_type w_Model_type (rmD (d + 1)) [.ref (ad 0), .int p1] T0 r0 T9 := by
  intro sz
  refine Met.ofW (cc := b_Model_type) (maxL := 4) (ret := (some .int)) (by decide) rfl ?_
  intro p e s m args below meth c s₁ B hml hv
  obtain ⟨rfl, hsz, hP, hK, hD0, hnw, henv⟩ := hv
  have hx := B.exec
  have hb := B.bytes
  have hr := B.returns
  have hT : ∀ w ∈ lw_good, w.before _ s = true := fun w h => atoms_spec (ws := w_Model_type) B.pre w (List.mem_cons_of_mem _ h)
  have hown : s.vm.findClass R_Model = some m.cls := findClass_of_methodNamed B.named
  subst hsz
  have hD := hD0.self (sz := s.heap.size)
  clear hD0
  generalize hAe : va_A (gW LM ad km T0) s.heap.size = A at hD henv ⊢
  have hA : ∀ q : Nat, s.heap.size ≤ q → A q := fun q h => by rw [← hAe]; exact Or.inr h
  have hS : va_S A s.heap s.heap [] := va_S.rf
  have hl := lv_entry ([.ref (ad 0), .int p1]) (n := 4) (Nat.le_of_ble_eq_true rfl)
  rw [lg_entry_eq]
  generalize (lg_sl ([.ref (ad 0), .int p1]) ++ List.replicate (4 - (lg_sl ([.ref (ad 0), .int p1])).length) Slot.unset).toArray = ls at hl ⊢
  have hl : lv_has ls 4 [(0, .ref (ad 0)), (1, .int p1)] := hl
  obtain ⟨G, hG⟩ : ∃ G : Nat → List (Nat × Value) → List Value → gSt → Prop, G = (fun pc lv stk T => ∀ (H : Heap) (locs : List Loc), va_P (dC, dI) cls_all (gW LM ad km T) H → va_D A (gW LM ad km T) → va_S A s.heap H locs → ∀ (ls : Array Slot), lv_has ls 4 lv → W p l e (headSpec w_Model_type (rmD (d + 1))).room s m ([.ref (ad 0), .int p1] : List Value).toArray below meth c H locs 0 0 (MQ below (va_Qi (fun (z : Int32) (_ : Unit) => z = r0) (fun _ t => gPost dC dI LM ad km T9 A t) A) ([.ref (ad 0), .int p1] : List Value).toArray s 0 0 A) (F0 m pc ls stk)) := ⟨_, rfl⟩
  have lb_231 : ∀ (T : gSt) (x1 : Int32) (x3 : Int32), rj_Model_type_231 F nf T x1 x3 = some (r0, rl0, T9) → G 231 [(0, .ref (ad 0)), (1, .int x1), (3, .int x3)] [] T := by
    intro T x1 x3 hR; unfold rj_Model_type_231 at hR; rw [hG]; intro H locs hP hD hS ls hl
    refine lv_aload_n hx hb d_Model_type_231 rfl (lv_at hl 0 rfl) ?_
    refine rd_Model_96 hx hb hT hown hK hP d_Model_type_232 ?_
    refine lv_iload_n hx hb d_Model_type_235 rfl (lv_at hl 2 rfl) ?_
    refine lv_aload_n hx hb d_Model_type_236 rfl (lv_at hl 0 rfl) ?_
    refine lv_iload_n hx hb d_Model_type_237 rfl (lv_at hl 1 rfl) ?_
    refine lv_iconst (v := 1) hx hb d_Model_type_238 (by decide) ?_
    refine lv_iadd hx hb d_Model_type_239 ?_
    replace hR := bi_e hR
    obtain ⟨r46, l46, T46, hc46, hR⟩ := hR
    refine gcV_i (rest := [.int x3, .ref (ad 28)]) ⟨hx, hb, hml, hown, hT⟩ (h_Model_type _ _ _ _ _ hc46) (cwV 1 hT (gV ml_Model_458 im_Model_type se_Model_type ini_Model co_Model_type) rfl rfl rfl pd_Model_type ⟨rm_hi, rm_lo (Nat.le_of_ble_eq_true rfl)⟩) hK hP hD hS hA hnw henv (Nat.le_of_ble_eq_true rfl) rfl rfl hl.1 rfl (Nat.le_of_ble_eq_true rfl) d_Model_type_240 ⟨Nat.le_refl _, Nat.le_refl _⟩ (fun H locs hP hD hS => ?_)
    clear hc46
    replace hR := gd_e hR
    obtain ⟨b47, hR⟩ := hR
    refine saM_27 hx hb hK hP hD hS b47 d_Model_type_243 (fun T47 eT H locs hP hD hS => ?_)
    replace hR := stK_e eT hR
    clear eT
    refine lv_iload_n hx hb d_Model_type_244 rfl (lv_at hl 2 rfl) ?_
    obtain ⟨e1, -, e3⟩ := re_e hR
    subst e1; subst e3
    exact W.iret (v := x3) hx hb hr (fun t ht hW => ⟨⟨x3, (), rfl, rfl, by rw [ht]; exact hP, va_K.moved hW.alike hK, hD⟩, hS.F ht⟩) hS.2.2 d_Model_type_245
  have lb_208 : ∀ (T : gSt) (x3 : Int32), rj_Model_type_208 F nf T x3 = some (r0, rl0, T9) → G 208 [(0, .ref (ad 0)), (3, .int x3)] [] T := by
    intro T x3 hR; unfold rj_Model_type_208 at hR; rw [hG]; intro H locs hP hD hS ls hl
    refine lv_aload_n hx hb d_Model_type_208 rfl (lv_at hl 0 rfl) ?_
    refine rd_Model_105 hx hb hT hown hK hP d_Model_type_209 ?_
    refine lv_iload_n hx hb d_Model_type_212 rfl (lv_at hl 1 rfl) ?_
    refine lv_aload_n hx hb d_Model_type_213 rfl (lv_at hl 0 rfl) ?_
    refine rd_Model_409 hx hb hT hown hK hP d_Model_type_214 ?_
    replace hR := gd_e hR
    obtain ⟨b42, hR⟩ := hR
    refine saM_30 hx hb hK hP hD hS b42 d_Model_type_217 (fun T42 eT H locs hP hD hS => ?_)
    replace hR := stK_e eT hR
    clear eT
    refine lv_aload_n hx hb d_Model_type_218 rfl (lv_at hl 0 rfl) ?_
    refine rd_Model_108 hx hb hT hown hK hP d_Model_type_219 ?_
    refine lv_iload_n hx hb d_Model_type_222 rfl (lv_at hl 1 rfl) ?_
    refine lv_aload_n hx hb d_Model_type_223 rfl (lv_at hl 0 rfl) ?_
    replace hR := bi_e hR
    obtain ⟨r43, l43, T43, hc43, hR⟩ := hR
    refine gcV_i (rest := [.int x3, .ref (ad 32)]) ⟨hx, hb, hml, hown, hT⟩ (h_Model_readUses _ _ _ _ hc43) (cwV 0 hT (gV ml_Model_475 im_Model_readUses se_Model_readUses ini_Model co_Model_readUses) rfl rfl rfl pd_Model_readUses ⟨rm_hi, rm_lo (Nat.le_of_ble_eq_true rfl)⟩) hK hP hD hS hA hnw henv (Nat.le_of_ble_eq_true rfl) rfl rfl hl.1 rfl (Nat.le_of_ble_eq_true rfl) d_Model_type_224 ⟨Nat.le_refl _, Nat.le_refl _⟩ (fun H locs hP hD hS => ?_)
    clear hc43
    replace hR := gd_e hR
    obtain ⟨b44, hR⟩ := hR
    refine saM_31 hx hb hK hP hD hS b44 d_Model_type_227 (fun T44 eT H locs hP hD hS => ?_)
    replace hR := stK_e eT hR
    clear eT
    refine lv_goto (tgt := 244) hx hb d_Model_type_228 (by decide) ?_
    refine lv_iload_n hx hb d_Model_type_244 rfl (lv_at hl 1 rfl) ?_
    obtain ⟨e1, -, e3⟩ := re_e hR
    subst e1; subst e3
    exact W.iret (v := x3) hx hb hr (fun t ht hW => ⟨⟨x3, (), rfl, rfl, by rw [ht]; exact hP, va_K.moved hW.alike hK, hD⟩, hS.F ht⟩) hS.2.2 d_Model_type_245
  have lb_177 : ∀ (T : gSt) (x3 : Int32), rj_Model_type_177 F nf T x3 = some (r0, rl0, T9) → G 177 [(0, .ref (ad 0)), (3, .int x3)] [] T := by
    intro T x3 hR; unfold rj_Model_type_177 at hR; rw [hG]; intro H locs hP hD hS ls hl
    refine lv_aload_n hx hb d_Model_type_177 rfl (lv_at hl 0 rfl) ?_
    refine rd_Model_99 hx hb hT hown hK hP d_Model_type_178 ?_
    refine lv_iload_n hx hb d_Model_type_181 rfl (lv_at hl 1 rfl) ?_
    refine lv_aload_n hx hb d_Model_type_182 rfl (lv_at hl 0 rfl) ?_
    refine rd_Model_365 hx hb hT hown hK hP d_Model_type_183 ?_
    replace hR := gd_e hR
    obtain ⟨b37, hR⟩ := hR
    refine saM_28 hx hb hK hP hD hS b37 d_Model_type_186 (fun T37 eT H locs hP hD hS => ?_)
    replace hR := stK_e eT hR
    clear eT
    refine lv_aload_n hx hb d_Model_type_187 rfl (lv_at hl 0 rfl) ?_
    refine rd_Model_102 hx hb hT hown hK hP d_Model_type_188 ?_
    refine lv_iload_n hx hb d_Model_type_191 rfl (lv_at hl 1 rfl) ?_
    refine lv_aload_n hx hb d_Model_type_192 rfl (lv_at hl 0 rfl) ?_
    refine rd_Model_349 hx hb hT hown hK hP d_Model_type_193 ?_
    replace hR := gd_e hR
    obtain ⟨b38, hR⟩ := hR
    refine saM_29 hx hb hK hP hD hS b38 d_Model_type_196 (fun T38 eT H locs hP hD hS => ?_)
    replace hR := stK_e eT hR
    clear eT
    refine lv_aload_n hx hb d_Model_type_197 rfl (lv_at hl 0 rfl) ?_
    replace hR := bi_e hR
    obtain ⟨r39, l39, T39, hc39, hR⟩ := hR
    refine gcV_i (rest := []) ⟨hx, hb, hml, hown, hT⟩ (h_Model_bad _ _ _ _ hc39) (cwV 0 hT (gV ml_Model_385 im_Model_bad se_Model_bad ini_Model co_Model_bad) rfl rfl rfl pd_Model_bad ⟨rm_hi, rm_lo (Nat.le_of_ble_eq_true rfl)⟩) hK hP hD hS hA hnw henv (Nat.le_of_ble_eq_true rfl) rfl rfl hl.1 rfl (Nat.le_of_ble_eq_true rfl) d_Model_type_198 ⟨Nat.le_refl _, Nat.le_refl _⟩ (fun H locs hP hD hS => ?_)
    clear hc39
    refine lv_if_ne (tgt := 208) hx hb d_Model_type_201 (by decide) (fun c40 => ?_) (fun c40 => ?_)
    · replace hR := if_n c40 hR
      have g := lb_208 T39 x3 hR
      rw [hG] at g
      exact g _ _ hP hD hS _ (lv_sub hl [0, 1] rfl)
    · replace hR := if_p c40 hR
      refine lv_aload_n hx hb d_Model_type_204 rfl (lv_at hl 0 rfl) ?_
      replace hR := bi_e hR
      obtain ⟨r41, l41, T41, hc41, hR⟩ := hR
      refine gcV_v (rest := []) ⟨hx, hb, hml, hown, hT⟩ (h_Model_advance _ _ _ _ hc41) (cwV 0 hT (gV ml_Model_396 im_Model_advance se_Model_advance ini_Model co_Model_advance) rfl rfl rfl pd_Model_advance ⟨rm_hi, rm_lo (Nat.le_of_ble_eq_true rfl)⟩) hK hP hD hS hA hnw henv (Nat.le_of_ble_eq_true rfl) rfl rfl hl.1 rfl (Nat.le_of_ble_eq_true rfl) d_Model_type_205 ⟨Nat.le_refl _, Nat.le_refl _⟩ (fun H locs hP hD hS => ?_)
      clear hc41
      have g := lb_208 T41 x3 hR
      rw [hG] at g
      exact g _ _ hP hD hS _ (lv_sub hl [0, 1] rfl)
  have lb_73 : ∀ (T : gSt) (x1 : Int32) (x2 : Int32), rj_Model_type_73 F nf T x1 x2 = some (r0, rl0, T9) → G 73 [(0, .ref (ad 0)), (1, .int x1), (2, .int x2)] [] T := by
    intro T x1 x2 hR; unfold rj_Model_type_73 at hR; rw [hG]; intro H locs hP hD hS ls hl
    refine lv_aload_n hx hb d_Model_type_73 rfl (lv_at hl 0 rfl) ?_
    replace hR := bi_e hR
    obtain ⟨r17, l17, T17, hc17, hR⟩ := hR
    refine gcV_i (rest := []) ⟨hx, hb, hml, hown, hT⟩ (h_Model_bad _ _ _ _ hc17) (cwV 0 hT (gV ml_Model_385 im_Model_bad se_Model_bad ini_Model co_Model_bad) rfl rfl rfl pd_Model_bad ⟨rm_hi, rm_lo (Nat.le_of_ble_eq_true rfl)⟩) hK hP hD hS hA hnw henv (Nat.le_of_ble_eq_true rfl) rfl rfl hl.1 rfl (Nat.le_of_ble_eq_true rfl) d_Model_type_74 ⟨Nat.le_refl _, Nat.le_refl _⟩ (fun H locs hP hD hS => ?_)
    clear hc17
    refine lv_if_eq (tgt := 82) hx hb d_Model_type_77 (by decide) (fun c18 => ?_) (fun c18 => ?_)
    · replace hR := if_p c18 hR
      refine lv_aload_n hx hb d_Model_type_82 rfl (lv_at hl 0 rfl) ?_
      refine rd_Model_418 hx hb hT hown hK hP d_Model_type_83 ?_
      refine lv_topi (fun z19 e19 => ?_)
      replace hR := vK_e e19 hR
      refine lv_istore_n (lv' := [(3, .int z19), (0, .ref (ad 0)), (1, .int x1), (2, .int x2)]) hx hb d_Model_type_86 rfl hl (by decide) rfl (fun ls hl => ?_)
      refine lv_aload_n hx hb d_Model_type_87 rfl (lv_at hl 1 rfl) ?_
      refine lv_dup hx hb d_Model_type_88 rfl ?_
      refine rd_Model_418 hx hb hT hown hK hP d_Model_type_89 ?_
      refine lv_iconst (v := 1) hx hb d_Model_type_92 (by decide) ?_
      refine lv_iadd hx hb d_Model_type_93 ?_
      refine wr_Model_418 hx hb hT hown hK hP hD hS d_Model_type_94 (fun T20 eT H locs hP hD hS => ?_)
      replace hR := stK_e eT hR
      clear eT
      refine lv_aload_n hx hb d_Model_type_97 rfl (lv_at hl 1 rfl) ?_
      refine rd_Model_90 hx hb hT hown hK hP d_Model_type_98 ?_
      refine lv_iload_n hx hb d_Model_type_101 rfl (lv_at hl 0 rfl) ?_
      refine lv_iload_n hx hb d_Model_type_102 rfl (lv_at hl 3 rfl) ?_
      replace hR := gd_e hR
      obtain ⟨b21, hR⟩ := hR
      refine saM_25 hx hb hK hP hD hS b21 d_Model_type_103 (fun T21 eT H locs hP hD hS => ?_)
      replace hR := stK_e eT hR
      clear eT
      refine lv_aload_n hx hb d_Model_type_104 rfl (lv_at hl 1 rfl) ?_
      refine rd_Model_96 hx hb hT hown hK hP d_Model_type_105 ?_
      refine lv_iload_n hx hb d_Model_type_108 rfl (lv_at hl 0 rfl) ?_
      refine lv_iconst (v := (-1)) hx hb d_Model_type_109 (by decide) ?_
      replace hR := gd_e hR
      obtain ⟨b22, hR⟩ := hR
      refine saM_27 hx hb hK hP hD hS b22 d_Model_type_110 (fun T22 eT H locs hP hD hS => ?_)
      replace hR := stK_e eT hR
      clear eT
      refine lv_aload_n hx hb d_Model_type_111 rfl (lv_at hl 1 rfl) ?_
      refine rd_Model_102 hx hb hT hown hK hP d_Model_type_112 ?_
      refine lv_iload_n hx hb d_Model_type_115 rfl (lv_at hl 0 rfl) ?_
      refine lv_iconst (v := (-1)) hx hb d_Model_type_116 (by decide) ?_
      replace hR := gd_e hR
      obtain ⟨b23, hR⟩ := hR
      refine saM_29 hx hb hK hP hD hS b23 d_Model_type_117 (fun T23 eT H locs hP hD hS => ?_)
      replace hR := stK_e eT hR
      clear eT
      refine lv_aload_n hx hb d_Model_type_118 rfl (lv_at hl 1 rfl) ?_
      refine rd_Model_108 hx hb hT hown hK hP d_Model_type_119 ?_
      refine lv_iload_n hx hb d_Model_type_122 rfl (lv_at hl 0 rfl) ?_
      refine lv_iconst (v := 0) hx hb d_Model_type_123 (by decide) ?_
      replace hR := gd_e hR
      obtain ⟨b24, hR⟩ := hR
      refine saM_31 hx hb hK hP hD hS b24 d_Model_type_124 (fun T24 eT H locs hP hD hS => ?_)
      replace hR := stK_e eT hR
      clear eT
      refine lv_aload_n hx hb d_Model_type_125 rfl (lv_at hl 1 rfl) ?_
      replace hR := bi_e hR
      obtain ⟨r25, l25, T25, hc25, hR⟩ := hR
      refine gcV_v (rest := []) ⟨hx, hb, hml, hown, hT⟩ (h_Model_advance _ _ _ _ hc25) (cwV 0 hT (gV ml_Model_396 im_Model_advance se_Model_advance ini_Model co_Model_advance) rfl rfl rfl pd_Model_advance ⟨rm_hi, rm_lo (Nat.le_of_ble_eq_true rfl)⟩) hK hP hD hS hA hnw henv (Nat.le_of_ble_eq_true rfl) rfl rfl hl.1 rfl (Nat.le_of_ble_eq_true rfl) d_Model_type_126 ⟨Nat.le_refl _, Nat.le_refl _⟩ (fun H locs hP hD hS => ?_)
      clear hc25
      refine lv_iload_n hx hb d_Model_type_129 rfl (lv_at hl 3 rfl) ?_
      refine lv_if_ne (tgt := 135) hx hb d_Model_type_130 (by decide) (fun c26 => ?_) (fun c26 => ?_)
      · replace hR := if_n c26 hR
        refine lv_aload_n hx hb d_Model_type_135 rfl (lv_at hl 1 rfl) ?_
        refine rd_Model_93 hx hb hT hown hK hP d_Model_type_136 ?_
        refine lv_iload_n hx hb d_Model_type_139 rfl (lv_at hl 0 rfl) ?_
        refine lv_aload_n hx hb d_Model_type_140 rfl (lv_at hl 1 rfl) ?_
        replace hR := bi_e hR
        obtain ⟨r27, l27, T27, hc27, hR⟩ := hR
        refine gcV_i (rest := [.int z19, .ref (ad 27)]) ⟨hx, hb, hml, hown, hT⟩ (h_Model_needRegion _ _ _ _ hc27) (cwV 0 hT (gV ml_Model_465 im_Model_needRegion se_Model_needRegion ini_Model co_Model_needRegion) rfl rfl rfl pd_Model_needRegion ⟨rm_hi, rm_lo (Nat.le_of_ble_eq_true rfl)⟩) hK hP hD hS hA hnw henv (Nat.le_of_ble_eq_true rfl) rfl rfl hl.1 rfl (Nat.le_of_ble_eq_true rfl) d_Model_type_141 ⟨Nat.le_refl _, Nat.le_refl _⟩ (fun H locs hP hD hS => ?_)
        clear hc27
        replace hR := gd_e hR
        obtain ⟨b28, hR⟩ := hR
        refine saM_26 hx hb hK hP hD hS b28 d_Model_type_144 (fun T28 eT H locs hP hD hS => ?_)
        replace hR := stK_e eT hR
        clear eT
        refine lv_iload_n hx hb d_Model_type_145 rfl (lv_at hl 3 rfl) ?_
        refine lv_iconst (v := 3) hx hb d_Model_type_146 (by decide) ?_
        refine lv_icmp_ge (tgt := 231) hx hb d_Model_type_147 (by decide) (fun c29 => ?_) (fun c29 => ?_)
        · replace hR := if_p c29 hR
          have g := lb_231 T28 x1 z19 hR
          rw [hG] at g
          exact g _ _ hP hD hS _ (lv_sub hl [1, 2, 0] rfl)
        · replace hR := if_n c29 hR
          refine lv_aload_n hx hb d_Model_type_150 rfl (lv_at hl 1 rfl) ?_
          refine rd_Model_352 hx hb hT hown hK hP d_Model_type_151 ?_
          refine lv_iconst (v := 3) hx hb d_Model_type_154 (by decide) ?_
          refine lv_icmp_ne (tgt := 231) hx hb d_Model_type_155 (by decide) (fun c30 => ?_) (fun c30 => ?_)
          · replace hR := if_n c30 hR
            have g := lb_231 T28 x1 z19 hR
            rw [hG] at g
            exact g _ _ hP hD hS _ (lv_sub hl [1, 2, 0] rfl)
          · replace hR := if_p c30 hR
            refine lv_aload_n hx hb d_Model_type_158 rfl (lv_at hl 1 rfl) ?_
            replace hR := bi_e hR
            obtain ⟨r31, l31, T31, hc31, hR⟩ := hR
            refine gcV_i (rest := []) ⟨hx, hb, hml, hown, hT⟩ (h_Model_bad _ _ _ _ hc31) (cwV 0 hT (gV ml_Model_385 im_Model_bad se_Model_bad ini_Model co_Model_bad) rfl rfl rfl pd_Model_bad ⟨rm_hi, rm_lo (Nat.le_of_ble_eq_true rfl)⟩) hK hP hD hS hA hnw henv (Nat.le_of_ble_eq_true rfl) rfl rfl hl.1 rfl (Nat.le_of_ble_eq_true rfl) d_Model_type_159 ⟨Nat.le_refl _, Nat.le_refl _⟩ (fun H locs hP hD hS => ?_)
            clear hc31
            refine lv_if_ne (tgt := 231) hx hb d_Model_type_162 (by decide) (fun c32 => ?_) (fun c32 => ?_)
            · replace hR := if_n c32 hR
              have g := lb_231 T31 x1 z19 hR
              rw [hG] at g
              exact g _ _ hP hD hS _ (lv_sub hl [1, 2, 0] rfl)
            · replace hR := if_p c32 hR
              refine lv_iload_n hx hb d_Model_type_165 rfl (lv_at hl 2 rfl) ?_
              refine lv_iconst (v := 1) hx hb d_Model_type_166 (by decide) ?_
              refine lv_iadd hx hb d_Model_type_167 ?_
              refine lv_bipush (v := 6) hx hb d_Model_type_168 (by decide) ?_
              refine lv_icmp_le (tgt := 177) hx hb d_Model_type_170 (by decide) (fun c33 => ?_) (fun c33 => ?_)
              · replace hR := if_p c33 hR
                have g := lb_177 T31 z19 hR
                rw [hG] at g
                exact g _ _ hP hD hS _ (lv_sub hl [1, 0] rfl)
              · replace hR := if_n c33 hR
                refine lv_aload_n hx hb d_Model_type_173 rfl (lv_at hl 1 rfl) ?_
                replace hR := bi_e hR
                obtain ⟨r34, l34, T34, hc34, hR⟩ := hR
                refine gcV_v (rest := []) ⟨hx, hb, hml, hown, hT⟩ (h_Model_wrong _ _ _ _ hc34) (cwV 0 hT (gV ml_Model_406 im_Model_wrong se_Model_wrong ini_Model co_Model_wrong) rfl rfl rfl pd_Model_wrong ⟨rm_hi, rm_lo (Nat.le_of_ble_eq_true rfl)⟩) hK hP hD hS hA hnw henv (Nat.le_of_ble_eq_true rfl) rfl rfl hl.1 rfl (Nat.le_of_ble_eq_true rfl) d_Model_type_174 ⟨Nat.le_refl _, Nat.le_refl _⟩ (fun H locs hP hD hS => ?_)
                clear hc34
                have g := lb_177 T34 z19 hR
                rw [hG] at g
                exact g _ _ hP hD hS _ (lv_sub hl [1, 0] rfl)
      · replace hR := if_p c26 hR
        refine lv_iload_n hx hb d_Model_type_133 rfl (lv_at hl 0 rfl) ?_
        obtain ⟨e1, -, e3⟩ := re_e hR
        subst e1; subst e3
        exact W.iret (v := z19) hx hb hr (fun t ht hW => ⟨⟨z19, (), rfl, rfl, by rw [ht]; exact hP, va_K.moved hW.alike hK, hD⟩, hS.F ht⟩) hS.2.2 d_Model_type_134
    · replace hR := if_n c18 hR
      refine lv_iconst (v := 0) hx hb d_Model_type_80 (by decide) ?_
      obtain ⟨e1, -, e3⟩ := re_e hR
      subst e1; subst e3
      exact W.iret (v := (0 : Int32)) hx hb hr (fun t ht hW => ⟨⟨(0 : Int32), (), rfl, rfl, by rw [ht]; exact hP, va_K.moved hW.alike hK, hD⟩, hS.F ht⟩) hS.2.2 d_Model_type_81
  have lb_10 : ∀ (T : gSt) (x1 : Int32), rj_Model_type_10 F nf T x1 = some (r0, rl0, T9) → G 10 [(0, .ref (ad 0)), (1, .int x1)] [] T := by
    intro T x1 hR; unfold rj_Model_type_10 at hR; rw [hG]; intro H locs hP hD hS ls hl
    refine lv_aload_n hx hb d_Model_type_10 rfl (lv_at hl 0 rfl) ?_
    refine gldcw (own := R_Model) (index := 473) (q := ea 9) hx hb hown (henv.2.2 9 (by decide)).2 d_Model_type_11 ?_
    replace hR := bi_e hR
    obtain ⟨r3, l3, T3, hc3, hR⟩ := hR
    refine gcV_i (rest := []) ⟨hx, hb, hml, hown, hT⟩ (h_Model_isWord _ 9 _ _ _ (by first | decide | assumption) hc3) (cwV 1 hT (gV ml_Model_399 im_Model_isWord se_Model_isWord ini_Model co_Model_isWord) rfl rfl rfl pd_Model_isWord ⟨rm_hi, rm_lo (Nat.le_of_ble_eq_true rfl)⟩) hK hP hD hS hA hnw henv (Nat.le_of_ble_eq_true rfl) rfl rfl hl.1 rfl (Nat.le_of_ble_eq_true rfl) d_Model_type_14 ⟨Nat.le_refl _, Nat.le_refl _⟩ (fun H locs hP hD hS => ?_)
    clear hc3
    refine lv_if_eq (tgt := 24) hx hb d_Model_type_17 (by decide) (fun c4 => ?_) (fun c4 => ?_)
    · replace hR := if_p c4 hR
      refine lv_aload_n hx hb d_Model_type_24 rfl (lv_at hl 0 rfl) ?_
      refine lv_bipush (v := 64) hx hb d_Model_type_25 (by decide) ?_
      replace hR := bi_e hR
      obtain ⟨r5, l5, T5, hc5, hR⟩ := hR
      refine gcV_i (rest := []) ⟨hx, hb, hml, hown, hT⟩ (h_Model_isSign _ _ _ _ _ hc5) (cwV 1 hT (gV ml_Model_393 im_Model_isSign se_Model_isSign ini_Model co_Model_isSign) rfl rfl rfl pd_Model_isSign ⟨rm_hi, rm_lo (Nat.le_of_ble_eq_true rfl)⟩) hK hP hD hS hA hnw henv (Nat.le_of_ble_eq_true rfl) rfl rfl hl.1 rfl (Nat.le_of_ble_eq_true rfl) d_Model_type_27 ⟨Nat.le_refl _, Nat.le_refl _⟩ (fun H locs hP hD hS => ?_)
      clear hc5
      refine lv_if_eq (tgt := 37) hx hb d_Model_type_30 (by decide) (fun c6 => ?_) (fun c6 => ?_)
      · replace hR := if_p c6 hR
        refine lv_aload_n hx hb d_Model_type_37 rfl (lv_at hl 0 rfl) ?_
        refine lv_bipush (v := 42) hx hb d_Model_type_38 (by decide) ?_
        replace hR := bi_e hR
        obtain ⟨r7, l7, T7, hc7, hR⟩ := hR
        refine gcV_i (rest := []) ⟨hx, hb, hml, hown, hT⟩ (h_Model_isSign _ _ _ _ _ hc7) (cwV 1 hT (gV ml_Model_393 im_Model_isSign se_Model_isSign ini_Model co_Model_isSign) rfl rfl rfl pd_Model_isSign ⟨rm_hi, rm_lo (Nat.le_of_ble_eq_true rfl)⟩) hK hP hD hS hA hnw henv (Nat.le_of_ble_eq_true rfl) rfl rfl hl.1 rfl (Nat.le_of_ble_eq_true rfl) d_Model_type_40 ⟨Nat.le_refl _, Nat.le_refl _⟩ (fun H locs hP hD hS => ?_)
        clear hc7
        refine lv_if_eq (tgt := 50) hx hb d_Model_type_43 (by decide) (fun c8 => ?_) (fun c8 => ?_)
        · replace hR := if_p c8 hR
          refine lv_aload_n hx hb d_Model_type_50 rfl (lv_at hl 0 rfl) ?_
          refine lv_bipush (v := 63) hx hb d_Model_type_51 (by decide) ?_
          replace hR := bi_e hR
          obtain ⟨r9, l9, T9, hc9, hR⟩ := hR
          refine gcV_i (rest := []) ⟨hx, hb, hml, hown, hT⟩ (h_Model_isSign _ _ _ _ _ hc9) (cwV 1 hT (gV ml_Model_393 im_Model_isSign se_Model_isSign ini_Model co_Model_isSign) rfl rfl rfl pd_Model_isSign ⟨rm_hi, rm_lo (Nat.le_of_ble_eq_true rfl)⟩) hK hP hD hS hA hnw henv (Nat.le_of_ble_eq_true rfl) rfl rfl hl.1 rfl (Nat.le_of_ble_eq_true rfl) d_Model_type_53 ⟨Nat.le_refl _, Nat.le_refl _⟩ (fun H locs hP hD hS => ?_)
          clear hc9
          refine lv_if_eq (tgt := 63) hx hb d_Model_type_56 (by decide) (fun c10 => ?_) (fun c10 => ?_)
          · replace hR := if_p c10 hR
            refine lv_iconst (v := (-1)) hx hb d_Model_type_63 (by decide) ?_
            refine lv_istore_n (lv' := [(2, .int (-1 : Int32)), (0, .ref (ad 0)), (1, .int x1)]) hx hb d_Model_type_64 rfl hl (by decide) rfl (fun ls hl => ?_)
            refine lv_iload_n hx hb d_Model_type_65 rfl (lv_at hl 0 rfl) ?_
            refine lv_if_ge (tgt := 73) hx hb d_Model_type_66 (by decide) (fun c11 => absurd c11 (by decide)) (fun _ => ?_)
            refine lv_aload_n hx hb d_Model_type_69 rfl (lv_at hl 1 rfl) ?_
            replace hR := bi_e hR
            obtain ⟨r12, l12, T12, hc12, hR⟩ := hR
            refine gcV_v (rest := []) ⟨hx, hb, hml, hown, hT⟩ (h_Model_wrong _ _ _ _ hc12) (cwV 0 hT (gV ml_Model_406 im_Model_wrong se_Model_wrong ini_Model co_Model_wrong) rfl rfl rfl pd_Model_wrong ⟨rm_hi, rm_lo (Nat.le_of_ble_eq_true rfl)⟩) hK hP hD hS hA hnw henv (Nat.le_of_ble_eq_true rfl) rfl rfl hl.1 rfl (Nat.le_of_ble_eq_true rfl) d_Model_type_70 ⟨Nat.le_refl _, Nat.le_refl _⟩ (fun H locs hP hD hS => ?_)
            clear hc12
            have g := lb_73 T12 x1 (-1 : Int32) hR
            rw [hG] at g
            exact g _ _ hP hD hS _ (lv_sub hl [1, 2, 0] rfl)
          · replace hR := if_n c10 hR
            refine lv_iconst (v := 3) hx hb d_Model_type_59 (by decide) ?_
            refine lv_goto (tgt := 64) hx hb d_Model_type_60 (by decide) ?_
            refine lv_istore_n (lv' := [(2, .int (3 : Int32)), (0, .ref (ad 0)), (1, .int x1)]) hx hb d_Model_type_64 rfl hl (by decide) rfl (fun ls hl => ?_)
            refine lv_iload_n hx hb d_Model_type_65 rfl (lv_at hl 0 rfl) ?_
            refine lv_if_ge (tgt := 73) hx hb d_Model_type_66 (by decide) (fun _ => ?_) (fun c13 => absurd (by decide) c13)
            have g := lb_73 T9 x1 (3 : Int32) hR
            rw [hG] at g
            exact g _ _ hP hD hS _ (lv_sub hl [1, 2, 0] rfl)
        · replace hR := if_n c8 hR
          refine lv_iconst (v := 2) hx hb d_Model_type_46 (by decide) ?_
          refine lv_goto (tgt := 64) hx hb d_Model_type_47 (by decide) ?_
          refine lv_istore_n (lv' := [(2, .int (2 : Int32)), (0, .ref (ad 0)), (1, .int x1)]) hx hb d_Model_type_64 rfl hl (by decide) rfl (fun ls hl => ?_)
          refine lv_iload_n hx hb d_Model_type_65 rfl (lv_at hl 0 rfl) ?_
          refine lv_if_ge (tgt := 73) hx hb d_Model_type_66 (by decide) (fun _ => ?_) (fun c14 => absurd (by decide) c14)
          have g := lb_73 T7 x1 (2 : Int32) hR
          rw [hG] at g
          exact g _ _ hP hD hS _ (lv_sub hl [1, 2, 0] rfl)
      · replace hR := if_n c6 hR
        refine lv_iconst (v := 1) hx hb d_Model_type_33 (by decide) ?_
        refine lv_goto (tgt := 64) hx hb d_Model_type_34 (by decide) ?_
        refine lv_istore_n (lv' := [(2, .int (1 : Int32)), (0, .ref (ad 0)), (1, .int x1)]) hx hb d_Model_type_64 rfl hl (by decide) rfl (fun ls hl => ?_)
        refine lv_iload_n hx hb d_Model_type_65 rfl (lv_at hl 0 rfl) ?_
        refine lv_if_ge (tgt := 73) hx hb d_Model_type_66 (by decide) (fun _ => ?_) (fun c15 => absurd (by decide) c15)
        have g := lb_73 T5 x1 (1 : Int32) hR
        rw [hG] at g
        exact g _ _ hP hD hS _ (lv_sub hl [1, 2, 0] rfl)
    · replace hR := if_n c4 hR
      refine lv_iconst (v := 0) hx hb d_Model_type_20 (by decide) ?_
      refine lv_goto (tgt := 64) hx hb d_Model_type_21 (by decide) ?_
      refine lv_istore_n (lv' := [(2, .int (0 : Int32)), (0, .ref (ad 0)), (1, .int x1)]) hx hb d_Model_type_64 rfl hl (by decide) rfl (fun ls hl => ?_)
      refine lv_iload_n hx hb d_Model_type_65 rfl (lv_at hl 0 rfl) ?_
      refine lv_if_ge (tgt := 73) hx hb d_Model_type_66 (by decide) (fun _ => ?_) (fun c16 => absurd (by decide) c16)
      have g := lb_73 T3 x1 (0 : Int32) hR
      rw [hG] at g
      exact g _ _ hP hD hS _ (lv_sub hl [1, 2, 0] rfl)
  unfold rb_Model_type at hR
  refine lv_iload_n hx hb d_Model_type_0 rfl (lv_at hl 1 rfl) ?_
  refine lv_bipush (v := 6) hx hb d_Model_type_1 (by decide) ?_
  refine lv_icmp_le (tgt := 10) hx hb d_Model_type_3 (by decide) (fun c1 => ?_) (fun c1 => ?_)
  · replace hR := if_p c1 hR
    have g := lb_10 T0 p1 hR
    rw [hG] at g
    exact g _ _ hP hD hS _ (lv_sub hl [0, 1] rfl)
  · replace hR := if_n c1 hR
    refine lv_aload_n hx hb d_Model_type_6 rfl (lv_at hl 0 rfl) ?_
    replace hR := bi_e hR
    obtain ⟨r2, l2, T2, hc2, hR⟩ := hR
    refine gcV_v (rest := []) ⟨hx, hb, hml, hown, hT⟩ (h_Model_wrong _ _ _ _ hc2) (cwV 0 hT (gV ml_Model_406 im_Model_wrong se_Model_wrong ini_Model co_Model_wrong) rfl rfl rfl pd_Model_wrong ⟨rm_hi, rm_lo (Nat.le_of_ble_eq_true rfl)⟩) hK hP hD hS hA hnw henv (Nat.le_of_ble_eq_true rfl) rfl rfl hl.1 rfl (Nat.le_of_ble_eq_true rfl) d_Model_type_7 ⟨Nat.le_refl _, Nat.le_refl _⟩ (fun H locs hP hD hS => ?_)
    clear hc2
    have g := lb_10 T2 p1 hR
    rw [hG] at g
    exact g _ _ hP hD hS _ (lv_sub hl [0, 1] rfl)
set_option maxHeartbeats 4000000 in
set_option maxRecDepth 100000 in
theorem sp_Model_readUses (l : Launch) (dC : Nat → ClassId) (dI : Nat → Nat → Nat) (ea ev ad : Nat → Nat) (km : Nat → ClassId) (F : gF) (nf d : Nat) (h_Model_bad : mt_Model_bad l dC dI ea ev ad km F d) (h_Model_needRegion : mt_Model_needRegion l dC dI ea ev ad km F d) (T0 : gSt) (r0 : Int32) (rl0 : Int64) (T9 : gSt) (hR : rb_Model_readUses F nf T0 = some (r0, rl0, T9)) : GMi l dC dI LM ad km ea ev y_Model_readUses w_Model_readUses (rmD (d + 1)) [.ref (ad 0)] T0 r0 T9 := by
  intro sz
  refine Met.ofW (cc := b_Model_readUses) (maxL := 2) (ret := (some .int)) (by decide) rfl ?_
  intro p e s m args below meth c s₁ B hml hv
  obtain ⟨rfl, hsz, hP, hK, hD0, hnw, henv⟩ := hv
  have hx := B.exec
  have hb := B.bytes
  have hr := B.returns
  have hT : ∀ w ∈ lw_good, w.before _ s = true := fun w h => atoms_spec (ws := w_Model_readUses) B.pre w (List.mem_cons_of_mem _ h)
  have hown : s.vm.findClass R_Model = some m.cls := findClass_of_methodNamed B.named
  subst hsz
  have hD := hD0.self (sz := s.heap.size)
  clear hD0
  generalize hAe : va_A (gW LM ad km T0) s.heap.size = A at hD henv ⊢
  have hA : ∀ q : Nat, s.heap.size ≤ q → A q := fun q h => by rw [← hAe]; exact Or.inr h
  have hS : va_S A s.heap s.heap [] := va_S.rf
  have hl := lv_entry ([.ref (ad 0)]) (n := 2) (Nat.le_of_ble_eq_true rfl)
  rw [lg_entry_eq]
  generalize (lg_sl ([.ref (ad 0)]) ++ List.replicate (2 - (lg_sl ([.ref (ad 0)])).length) Slot.unset).toArray = ls at hl ⊢
  have hl : lv_has ls 2 [(0, .ref (ad 0))] := hl
  obtain ⟨G, hG⟩ : ∃ G : Nat → List (Nat × Value) → List Value → gSt → Prop, G = (fun pc lv stk T => ∀ (H : Heap) (locs : List Loc), va_P (dC, dI) cls_all (gW LM ad km T) H → va_D A (gW LM ad km T) → va_S A s.heap H locs → ∀ (ls : Array Slot), lv_has ls 2 lv → W p l e (headSpec w_Model_readUses (rmD (d + 1))).room s m ([.ref (ad 0)] : List Value).toArray below meth c H locs 0 0 (MQ below (va_Qi (fun (z : Int32) (_ : Unit) => z = r0) (fun _ t => gPost dC dI LM ad km T9 A t) A) ([.ref (ad 0)] : List Value).toArray s 0 0 A) (F0 m pc ls stk)) := ⟨_, rfl⟩
  have lb_2 : ∀ (n : Nat) (T : gSt) (x1 : Int32), rl_Model_readUses_2 F nf n T x1 = some (r0, rl0, T9) → G 2 [(0, .ref (ad 0)), (1, .int x1)] [] T := by
    intro n
    induction n with
    | zero => intro T x1 hR; rw [rl_Model_readUses_2] at hR; cases hR
    | succ n ih =>
      intro T x1 hR; rw [rl_Model_readUses_2] at hR; rw [hG]; intro H locs hP hD hS ls hl
      refine lv_aload_n hx hb d_Model_readUses_2 rfl (lv_at hl 0 rfl) ?_
      replace hR := bi_e hR
      obtain ⟨r1, l1, T1, hc1, hR⟩ := hR
      refine gcV_i (rest := []) ⟨hx, hb, hml, hown, hT⟩ (h_Model_bad _ _ _ _ hc1) (cwV 0 hT (gV ml_Model_385 im_Model_bad se_Model_bad ini_Model co_Model_bad) rfl rfl rfl pd_Model_bad ⟨rm_hi, rm_lo (Nat.le_of_ble_eq_true rfl)⟩) hK hP hD hS hA hnw henv (Nat.le_of_ble_eq_true rfl) rfl rfl hl.1 rfl (Nat.le_of_ble_eq_true rfl) d_Model_readUses_3 ⟨Nat.le_refl _, Nat.le_refl _⟩ (fun H locs hP hD hS => ?_)
      clear hc1
      refine lv_if_ne (tgt := 33) hx hb d_Model_readUses_6 (by decide) (fun c2 => ?_) (fun c2 => ?_)
      · replace hR := if_n c2 hR
        refine lv_iload_n hx hb d_Model_readUses_33 rfl (lv_at hl 1 rfl) ?_
        obtain ⟨e1, -, e3⟩ := re_e hR
        subst e1; subst e3
        exact W.iret (v := x1) hx hb hr (fun t ht hW => ⟨⟨x1, (), rfl, rfl, by rw [ht]; exact hP, va_K.moved hW.alike hK, hD⟩, hS.F ht⟩) hS.2.2 d_Model_readUses_34
      · replace hR := if_p c2 hR
        refine lv_aload_n hx hb d_Model_readUses_9 rfl (lv_at hl 0 rfl) ?_
        refine rd_Model_352 hx hb hT hown hK hP d_Model_readUses_10 ?_
        refine lv_iconst (v := 4) hx hb d_Model_readUses_13 (by decide) ?_
        refine lv_icmp_ne (tgt := 33) hx hb d_Model_readUses_14 (by decide) (fun c4 => ?_) (fun c4 => ?_)
        · replace hR := if_n c4 hR
          refine lv_iload_n hx hb d_Model_readUses_33 rfl (lv_at hl 1 rfl) ?_
          obtain ⟨e1, -, e3⟩ := re_e hR
          subst e1; subst e3
          exact W.iret (v := x1) hx hb hr (fun t ht hW => ⟨⟨x1, (), rfl, rfl, by rw [ht]; exact hP, va_K.moved hW.alike hK, hD⟩, hS.F ht⟩) hS.2.2 d_Model_readUses_34
        · replace hR := if_p c4 hR
          refine lv_iload_n hx hb d_Model_readUses_17 rfl (lv_at hl 1 rfl) ?_
          refine lv_iconst (v := 3) hx hb d_Model_readUses_18 (by decide) ?_
          refine lv_icmp_ge (tgt := 33) hx hb d_Model_readUses_19 (by decide) (fun c6 => ?_) (fun c6 => ?_)
          · replace hR := if_p c6 hR
            refine lv_iload_n hx hb d_Model_readUses_33 rfl (lv_at hl 1 rfl) ?_
            obtain ⟨e1, -, e3⟩ := re_e hR
            subst e1; subst e3
            exact W.iret (v := x1) hx hb hr (fun t ht hW => ⟨⟨x1, (), rfl, rfl, by rw [ht]; exact hP, va_K.moved hW.alike hK, hD⟩, hS.F ht⟩) hS.2.2 d_Model_readUses_34
          · replace hR := if_n c6 hR
            refine lv_aload_n hx hb d_Model_readUses_22 rfl (lv_at hl 0 rfl) ?_
            replace hR := bi_e hR
            obtain ⟨r8, l8, T8, hc8, hR⟩ := hR
            refine gcV_i (rest := []) ⟨hx, hb, hml, hown, hT⟩ (h_Model_needRegion _ _ _ _ hc8) (cwV 0 hT (gV ml_Model_465 im_Model_needRegion se_Model_needRegion ini_Model co_Model_needRegion) rfl rfl rfl pd_Model_needRegion ⟨rm_hi, rm_lo (Nat.le_of_ble_eq_true rfl)⟩) hK hP hD hS hA hnw henv (Nat.le_of_ble_eq_true rfl) rfl rfl hl.1 rfl (Nat.le_of_ble_eq_true rfl) d_Model_readUses_23 ⟨Nat.le_refl _, Nat.le_refl _⟩ (fun H locs hP hD hS => ?_)
            clear hc8
            refine lv_pop hx hb d_Model_readUses_26 rfl ?_
            obtain ⟨z9, e9⟩ : ∃ y : Int32, y = x1 + (1 : Int32) := ⟨_, rfl⟩
            replace hR := vK_e e9 hR
            refine lv_iinc (v := z9) (lv' := [(1, .int z9), (0, .ref (ad 0))]) hx hb d_Model_readUses_27 hl (k := 1) rfl (by rw [e9]; rfl) (by decide) rfl (fun ls hl => ?_)
            refine lv_goto (tgt := 2) hx hb d_Model_readUses_30 (by decide) ?_
            have g := ih T8 z9 hR
            rw [hG] at g
            exact g _ _ hP hD hS _ (lv_sub hl [1, 0] rfl)
  unfold rb_Model_readUses at hR
  refine lv_iconst (v := 0) hx hb d_Model_readUses_0 (by decide) ?_
  refine lv_istore_n (lv' := [(1, .int (0 : Int32)), (0, .ref (ad 0))]) hx hb d_Model_readUses_1 rfl hl (by decide) rfl (fun ls hl => ?_)
  have g := lb_2 nf T0 (0 : Int32) hR
  rw [hG] at g
  exact g _ _ hP hD hS _ (lv_sub hl [1, 0] rfl)
set_option maxHeartbeats 4000000 in
set_option maxRecDepth 100000 in
theorem sp_Model_node (l : Launch) (dC : Nat → ClassId) (dI : Nat → Nat → Nat) (ea ev ad : Nat → Nat) (km : Nat → ClassId) (F : gF) (nf d : Nat) (T0 : gSt) (p1 : Int32) (p2 : Int32) (r0 : Int32) (rl0 : Int64) (T9 : gSt) (hR : rb_Model_node F nf T0 p1 p2 = some (r0, rl0, T9)) : GMi l dC dI LM ad km ea ev y_Model_node w_Model_node (rmD (d + 1)) [.ref (ad 0), .int p1, .int p2] T0 r0 T9 := by
  intro sz
  refine Met.ofW (cc := b_Model_node) (maxL := 4) (ret := (some .int)) (by decide) rfl ?_
  intro p e s m args below meth c s₁ B hml hv
  obtain ⟨rfl, hsz, hP, hK, hD0, hnw, henv⟩ := hv
  have hx := B.exec
  have hb := B.bytes
  have hr := B.returns
  have hT : ∀ w ∈ lw_good, w.before _ s = true := fun w h => atoms_spec (ws := w_Model_node) B.pre w (List.mem_cons_of_mem _ h)
  have hown : s.vm.findClass R_Model = some m.cls := findClass_of_methodNamed B.named
  subst hsz
  have hD := hD0.self (sz := s.heap.size)
  clear hD0
  generalize hAe : va_A (gW LM ad km T0) s.heap.size = A at hD henv ⊢
  have hA : ∀ q : Nat, s.heap.size ≤ q → A q := fun q h => by rw [← hAe]; exact Or.inr h
  have hS : va_S A s.heap s.heap [] := va_S.rf
  have hl := lv_entry ([.ref (ad 0), .int p1, .int p2]) (n := 4) (Nat.le_of_ble_eq_true rfl)
  rw [lg_entry_eq]
  generalize (lg_sl ([.ref (ad 0), .int p1, .int p2]) ++ List.replicate (4 - (lg_sl ([.ref (ad 0), .int p1, .int p2])).length) Slot.unset).toArray = ls at hl ⊢
  have hl : lv_has ls 4 [(0, .ref (ad 0)), (1, .int p1), (2, .int p2)] := hl
  unfold rb_Model_node at hR
  refine lv_aload_n hx hb d_Model_node_0 rfl (lv_at hl 0 rfl) ?_
  refine rd_Model_421 hx hb hT hown hK hP d_Model_node_1 ?_
  refine lv_topi (fun z1 e1 => ?_)
  replace hR := vK_e e1 hR
  refine lv_istore_n (lv' := [(3, .int z1), (0, .ref (ad 0)), (1, .int p1), (2, .int p2)]) hx hb d_Model_node_4 rfl hl (by decide) rfl (fun ls hl => ?_)
  refine lv_aload_n hx hb d_Model_node_5 rfl (lv_at hl 1 rfl) ?_
  refine lv_dup hx hb d_Model_node_6 rfl ?_
  refine rd_Model_421 hx hb hT hown hK hP d_Model_node_7 ?_
  refine lv_iconst (v := 1) hx hb d_Model_node_10 (by decide) ?_
  refine lv_iadd hx hb d_Model_node_11 ?_
  refine wr_Model_421 hx hb hT hown hK hP hD hS d_Model_node_12 (fun T2 eT H locs hP hD hS => ?_)
  replace hR := stK_e eT hR
  clear eT
  refine lv_aload_n hx hb d_Model_node_15 rfl (lv_at hl 1 rfl) ?_
  refine rd_Model_120 hx hb hT hown hK hP d_Model_node_16 ?_
  refine lv_iload_n hx hb d_Model_node_19 rfl (lv_at hl 0 rfl) ?_
  refine lv_iload_n hx hb d_Model_node_20 rfl (lv_at hl 2 rfl) ?_
  replace hR := gd_e hR
  obtain ⟨b3, hR⟩ := hR
  refine saM_35 hx hb hK hP hD hS b3 d_Model_node_21 (fun T3 eT H locs hP hD hS => ?_)
  replace hR := stK_e eT hR
  clear eT
  refine lv_aload_n hx hb d_Model_node_22 rfl (lv_at hl 1 rfl) ?_
  refine rd_Model_123 hx hb hT hown hK hP d_Model_node_23 ?_
  refine lv_iload_n hx hb d_Model_node_26 rfl (lv_at hl 0 rfl) ?_
  refine lv_iload_n hx hb d_Model_node_27 rfl (lv_at hl 3 rfl) ?_
  replace hR := gd_e hR
  obtain ⟨b4, hR⟩ := hR
  refine saM_36 hx hb hK hP hD hS b4 d_Model_node_28 (fun T4 eT H locs hP hD hS => ?_)
  replace hR := stK_e eT hR
  clear eT
  refine lv_aload_n hx hb d_Model_node_29 rfl (lv_at hl 1 rfl) ?_
  refine rd_Model_126 hx hb hT hown hK hP d_Model_node_30 ?_
  refine lv_iload_n hx hb d_Model_node_33 rfl (lv_at hl 0 rfl) ?_
  refine lv_iconst (v := (-1)) hx hb d_Model_node_34 (by decide) ?_
  replace hR := gd_e hR
  obtain ⟨b5, hR⟩ := hR
  refine saM_37 hx hb hK hP hD hS b5 d_Model_node_35 (fun T5 eT H locs hP hD hS => ?_)
  replace hR := stK_e eT hR
  clear eT
  refine lv_aload_n hx hb d_Model_node_36 rfl (lv_at hl 1 rfl) ?_
  refine rd_Model_129 hx hb hT hown hK hP d_Model_node_37 ?_
  refine lv_iload_n hx hb d_Model_node_40 rfl (lv_at hl 0 rfl) ?_
  refine lv_iconst (v := (-1)) hx hb d_Model_node_41 (by decide) ?_
  replace hR := gd_e hR
  obtain ⟨b6, hR⟩ := hR
  refine saM_38 hx hb hK hP hD hS b6 d_Model_node_42 (fun T6 eT H locs hP hD hS => ?_)
  replace hR := stK_e eT hR
  clear eT
  refine lv_aload_n hx hb d_Model_node_43 rfl (lv_at hl 1 rfl) ?_
  refine rd_Model_132 hx hb hT hown hK hP d_Model_node_44 ?_
  refine lv_iload_n hx hb d_Model_node_47 rfl (lv_at hl 0 rfl) ?_
  refine lv_iconst (v := (-1)) hx hb d_Model_node_48 (by decide) ?_
  replace hR := gd_e hR
  obtain ⟨b7, hR⟩ := hR
  refine saM_39 hx hb hK hP hD hS b7 d_Model_node_49 (fun T7 eT H locs hP hD hS => ?_)
  replace hR := stK_e eT hR
  clear eT
  refine lv_aload_n hx hb d_Model_node_50 rfl (lv_at hl 1 rfl) ?_
  refine rd_Model_135 hx hb hT hown hK hP d_Model_node_51 ?_
  refine lv_iload_n hx hb d_Model_node_54 rfl (lv_at hl 0 rfl) ?_
  refine lv_iconst (v := (-1)) hx hb d_Model_node_55 (by decide) ?_
  replace hR := gd_e hR
  obtain ⟨b8, hR⟩ := hR
  refine saM_40 hx hb hK hP hD hS b8 d_Model_node_56 (fun T8 eT H locs hP hD hS => ?_)
  replace hR := stK_e eT hR
  clear eT
  refine lv_aload_n hx hb d_Model_node_57 rfl (lv_at hl 1 rfl) ?_
  refine rd_Model_147 hx hb hT hown hK hP d_Model_node_58 ?_
  refine lv_iload_n hx hb d_Model_node_61 rfl (lv_at hl 0 rfl) ?_
  refine lv_iconst (v := 0) hx hb d_Model_node_62 (by decide) ?_
  replace hR := gd_e hR
  obtain ⟨b9, hR⟩ := hR
  refine saM_44 hx hb hK hP hD hS b9 d_Model_node_63 (fun T9 eT H locs hP hD hS => ?_)
  replace hR := stK_e eT hR
  clear eT
  refine lv_iload_n hx hb d_Model_node_64 rfl (lv_at hl 0 rfl) ?_
  obtain ⟨e1, -, e3⟩ := re_e hR
  subst e1; subst e3
  exact W.iret (v := z1) hx hb hr (fun t ht hW => ⟨⟨z1, (), rfl, rfl, by rw [ht]; exact hP, va_K.moved hW.alike hK, hD⟩, hS.F ht⟩) hS.2.2 d_Model_node_65
set_option maxHeartbeats 4000000 in
set_option maxRecDepth 100000 in
theorem sp_Model_block (l : Launch) (dC : Nat → ClassId) (dI : Nat → Nat → Nat) (ea ev ad : Nat → Nat) (km : Nat → ClassId) (F : gF) (nf d : Nat) (h_Model_wrong : mt_Model_wrong l dC dI ea ev ad km F d) (h_Model_need : mt_Model_need l dC dI ea ev ad km F d) (h_Model_bad : mt_Model_bad l dC dI ea ev ad km F d) (h_Model_node : mt_Model_node l dC dI ea ev ad km F d) (h_Model_isSign : mt_Model_isSign l dC dI ea ev ad km F d) (h_Model_step : mt_Model_step l dC dI ea ev ad km F d) (T0 : gSt) (p1 : Int32) (r0 : Int32) (rl0 : Int64) (T9 : gSt) (hR : rb_Model_block F nf T0 p1 = some (r0, rl0, T9)) : GMi l dC dI LM ad km ea ev y_Model_block w_Model_block (rmD (d + 1)) [.ref (ad 0), .int p1] T0 r0 T9 := by
  intro sz
  refine Met.ofW (cc := b_Model_block) (maxL := 5) (ret := (some .int)) (by decide) rfl ?_
  intro p e s m args below meth c s₁ B hml hv
  obtain ⟨rfl, hsz, hP, hK, hD0, hnw, henv⟩ := hv
  have hx := B.exec
  have hb := B.bytes
  have hr := B.returns
  have hT : ∀ w ∈ lw_good, w.before _ s = true := fun w h => atoms_spec (ws := w_Model_block) B.pre w (List.mem_cons_of_mem _ h)
  have hown : s.vm.findClass R_Model = some m.cls := findClass_of_methodNamed B.named
  subst hsz
  have hD := hD0.self (sz := s.heap.size)
  clear hD0
  generalize hAe : va_A (gW LM ad km T0) s.heap.size = A at hD henv ⊢
  have hA : ∀ q : Nat, s.heap.size ≤ q → A q := fun q h => by rw [← hAe]; exact Or.inr h
  have hS : va_S A s.heap s.heap [] := va_S.rf
  have hl := lv_entry ([.ref (ad 0), .int p1]) (n := 5) (Nat.le_of_ble_eq_true rfl)
  rw [lg_entry_eq]
  generalize (lg_sl ([.ref (ad 0), .int p1]) ++ List.replicate (5 - (lg_sl ([.ref (ad 0), .int p1])).length) Slot.unset).toArray = ls at hl ⊢
  have hl : lv_has ls 5 [(0, .ref (ad 0)), (1, .int p1)] := hl
  obtain ⟨G, hG⟩ : ∃ G : Nat → List (Nat × Value) → List Value → gSt → Prop, G = (fun pc lv stk T => ∀ (H : Heap) (locs : List Loc), va_P (dC, dI) cls_all (gW LM ad km T) H → va_D A (gW LM ad km T) → va_S A s.heap H locs → ∀ (ls : Array Slot), lv_has ls 5 lv → W p l e (headSpec w_Model_block (rmD (d + 1))).room s m ([.ref (ad 0), .int p1] : List Value).toArray below meth c H locs 0 0 (MQ below (va_Qi (fun (z : Int32) (_ : Unit) => z = r0) (fun _ t => gPost dC dI LM ad km T9 A t) A) ([.ref (ad 0), .int p1] : List Value).toArray s 0 0 A) (F0 m pc ls stk)) := ⟨_, rfl⟩
  have lb_38 : ∀ (n : Nat) (T : gSt) (x1 : Int32) (x2 : Int32) (x3 : Int32), rl_Model_block_38 F nf n T x1 x2 x3 = some (r0, rl0, T9) → G 38 [(0, .ref (ad 0)), (1, .int x1), (2, .int x2), (3, .int x3)] [] T := by
    intro n
    induction n with
    | zero => intro T x1 x2 x3 hR; rw [rl_Model_block_38] at hR; cases hR
    | succ n ih =>
      intro T x1 x2 x3 hR; rw [rl_Model_block_38] at hR; rw [hG]; intro H locs hP hD hS ls hl
      refine lv_aload_n hx hb d_Model_block_38 rfl (lv_at hl 0 rfl) ?_
      replace hR := bi_e hR
      obtain ⟨r8, l8, T8, hc8, hR⟩ := hR
      refine gcV_i (rest := []) ⟨hx, hb, hml, hown, hT⟩ (h_Model_bad _ _ _ _ hc8) (cwV 0 hT (gV ml_Model_385 im_Model_bad se_Model_bad ini_Model co_Model_bad) rfl rfl rfl pd_Model_bad ⟨rm_hi, rm_lo (Nat.le_of_ble_eq_true rfl)⟩) hK hP hD hS hA hnw henv (Nat.le_of_ble_eq_true rfl) rfl rfl hl.1 rfl (Nat.le_of_ble_eq_true rfl) d_Model_block_39 ⟨Nat.le_refl _, Nat.le_refl _⟩ (fun H locs hP hD hS => ?_)
      clear hc8
      refine lv_if_ne (tgt := 90) hx hb d_Model_block_42 (by decide) (fun c9 => ?_) (fun c9 => ?_)
      · replace hR := if_n c9 hR
        refine lv_aload_n hx hb d_Model_block_90 rfl (lv_at hl 0 rfl) ?_
        refine rd_Model_141 hx hb hT hown hK hP d_Model_block_91 ?_
        refine lv_iload_n hx hb d_Model_block_94 rfl (lv_at hl 2 rfl) ?_
        refine lv_aload_n hx hb d_Model_block_95 rfl (lv_at hl 0 rfl) ?_
        refine rd_Model_349 hx hb hT hown hK hP d_Model_block_96 ?_
        replace hR := gd_e hR
        obtain ⟨b10, hR⟩ := hR
        refine saM_42 hx hb hK hP hD hS b10 d_Model_block_99 (fun T10 eT H locs hP hD hS => ?_)
        replace hR := stK_e eT hR
        clear eT
        refine lv_aload_n hx hb d_Model_block_100 rfl (lv_at hl 0 rfl) ?_
        refine lv_bipush (v := 125) hx hb d_Model_block_101 (by decide) ?_
        replace hR := bi_e hR
        obtain ⟨r11, l11, T11, hc11, hR⟩ := hR
        refine gcV_v (rest := []) ⟨hx, hb, hml, hown, hT⟩ (h_Model_need _ _ _ _ _ hc11) (cwV 1 hT (gV ml_Model_448 im_Model_need se_Model_need ini_Model co_Model_need) rfl rfl rfl pd_Model_need ⟨rm_hi, rm_lo (Nat.le_of_ble_eq_true rfl)⟩) hK hP hD hS hA hnw henv (Nat.le_of_ble_eq_true rfl) rfl rfl hl.1 rfl (Nat.le_of_ble_eq_true rfl) d_Model_block_103 ⟨Nat.le_refl _, Nat.le_refl _⟩ (fun H locs hP hD hS => ?_)
        clear hc11
        refine lv_iload_n hx hb d_Model_block_106 rfl (lv_at hl 2 rfl) ?_
        obtain ⟨e1, -, e3⟩ := re_e hR
        subst e1; subst e3
        exact W.iret (v := x2) hx hb hr (fun t ht hW => ⟨⟨x2, (), rfl, rfl, by rw [ht]; exact hP, va_K.moved hW.alike hK, hD⟩, hS.F ht⟩) hS.2.2 d_Model_block_107
      · replace hR := if_p c9 hR
        refine lv_aload_n hx hb d_Model_block_45 rfl (lv_at hl 0 rfl) ?_
        refine lv_bipush (v := 125) hx hb d_Model_block_46 (by decide) ?_
        replace hR := bi_e hR
        obtain ⟨r13, l13, T13, hc13, hR⟩ := hR
        refine gcV_i (rest := []) ⟨hx, hb, hml, hown, hT⟩ (h_Model_isSign _ _ _ _ _ hc13) (cwV 1 hT (gV ml_Model_393 im_Model_isSign se_Model_isSign ini_Model co_Model_isSign) rfl rfl rfl pd_Model_isSign ⟨rm_hi, rm_lo (Nat.le_of_ble_eq_true rfl)⟩) hK hP hD hS hA hnw henv (Nat.le_of_ble_eq_true rfl) rfl rfl hl.1 rfl (Nat.le_of_ble_eq_true rfl) d_Model_block_48 ⟨Nat.le_refl _, Nat.le_refl _⟩ (fun H locs hP hD hS => ?_)
        clear hc13
        refine lv_if_ne (tgt := 90) hx hb d_Model_block_51 (by decide) (fun c14 => ?_) (fun c14 => ?_)
        · replace hR := if_n c14 hR
          refine lv_aload_n hx hb d_Model_block_90 rfl (lv_at hl 0 rfl) ?_
          refine rd_Model_141 hx hb hT hown hK hP d_Model_block_91 ?_
          refine lv_iload_n hx hb d_Model_block_94 rfl (lv_at hl 2 rfl) ?_
          refine lv_aload_n hx hb d_Model_block_95 rfl (lv_at hl 0 rfl) ?_
          refine rd_Model_349 hx hb hT hown hK hP d_Model_block_96 ?_
          replace hR := gd_e hR
          obtain ⟨b15, hR⟩ := hR
          refine saM_42 hx hb hK hP hD hS b15 d_Model_block_99 (fun T15 eT H locs hP hD hS => ?_)
          replace hR := stK_e eT hR
          clear eT
          refine lv_aload_n hx hb d_Model_block_100 rfl (lv_at hl 0 rfl) ?_
          refine lv_bipush (v := 125) hx hb d_Model_block_101 (by decide) ?_
          replace hR := bi_e hR
          obtain ⟨r16, l16, T16, hc16, hR⟩ := hR
          refine gcV_v (rest := []) ⟨hx, hb, hml, hown, hT⟩ (h_Model_need _ _ _ _ _ hc16) (cwV 1 hT (gV ml_Model_448 im_Model_need se_Model_need ini_Model co_Model_need) rfl rfl rfl pd_Model_need ⟨rm_hi, rm_lo (Nat.le_of_ble_eq_true rfl)⟩) hK hP hD hS hA hnw henv (Nat.le_of_ble_eq_true rfl) rfl rfl hl.1 rfl (Nat.le_of_ble_eq_true rfl) d_Model_block_103 ⟨Nat.le_refl _, Nat.le_refl _⟩ (fun H locs hP hD hS => ?_)
          clear hc16
          refine lv_iload_n hx hb d_Model_block_106 rfl (lv_at hl 2 rfl) ?_
          obtain ⟨e1, -, e3⟩ := re_e hR
          subst e1; subst e3
          exact W.iret (v := x2) hx hb hr (fun t ht hW => ⟨⟨x2, (), rfl, rfl, by rw [ht]; exact hP, va_K.moved hW.alike hK, hD⟩, hS.F ht⟩) hS.2.2 d_Model_block_107
        · replace hR := if_p c14 hR
          refine lv_aload_n hx hb d_Model_block_54 rfl (lv_at hl 0 rfl) ?_
          refine lv_iload_n hx hb d_Model_block_55 rfl (lv_at hl 1 rfl) ?_
          replace hR := bi_e hR
          obtain ⟨r18, l18, T18, hc18, hR⟩ := hR
          refine gcV_i (rest := []) ⟨hx, hb, hml, hown, hT⟩ (h_Model_step _ _ _ _ _ hc18) (cwV 1 hT (gV ml_Model_482 im_Model_step se_Model_step ini_Model co_Model_step) rfl rfl rfl pd_Model_step ⟨rm_hi, rm_lo (Nat.le_of_ble_eq_true rfl)⟩) hK hP hD hS hA hnw henv (Nat.le_of_ble_eq_true rfl) rfl rfl hl.1 rfl (Nat.le_of_ble_eq_true rfl) d_Model_block_56 ⟨Nat.le_refl _, Nat.le_refl _⟩ (fun H locs hP hD hS => ?_)
          clear hc18
          refine lv_istore (lv' := [(4, .int r18), (0, .ref (ad 0)), (1, .int x1), (2, .int x2), (3, .int x3)]) hx hb d_Model_block_59 hl (by decide) rfl (fun ls hl => ?_)
          refine lv_iload_n hx hb d_Model_block_61 rfl (lv_at hl 4 rfl) ?_
          refine lv_if_ge (tgt := 76) hx hb d_Model_block_62 (by decide) (fun c19 => ?_) (fun c19 => ?_)
          · replace hR := if_p c19 hR
            refine lv_aload_n hx hb d_Model_block_76 rfl (lv_at hl 1 rfl) ?_
            refine rd_Model_135 hx hb hT hown hK hP d_Model_block_77 ?_
            refine lv_iload_n hx hb d_Model_block_80 rfl (lv_at hl 4 rfl) ?_
            refine lv_iload hx hb d_Model_block_81 (lv_at hl 0 rfl) ?_
            replace hR := gd_e hR
            obtain ⟨b20, hR⟩ := hR
            refine saM_40 hx hb hK hP hD hS b20 d_Model_block_83 (fun T20 eT H locs hP hD hS => ?_)
            replace hR := stK_e eT hR
            clear eT
            refine lv_iload hx hb d_Model_block_84 (lv_at hl 0 rfl) ?_
            refine lv_istore_n (lv' := [(3, .int r18), (4, .int r18), (0, .ref (ad 0)), (1, .int x1), (2, .int x2)]) hx hb d_Model_block_86 rfl hl (by decide) rfl (fun ls hl => ?_)
            refine lv_goto (tgt := 38) hx hb d_Model_block_87 (by decide) ?_
            have g := ih T20 x1 x2 r18 hR
            rw [hG] at g
            exact g _ _ hP hD hS _ (lv_sub hl [2, 3, 4, 0] rfl)
          · replace hR := if_n c19 hR
            refine lv_aload_n hx hb d_Model_block_65 rfl (lv_at hl 1 rfl) ?_
            refine rd_Model_126 hx hb hT hown hK hP d_Model_block_66 ?_
            refine lv_iload_n hx hb d_Model_block_69 rfl (lv_at hl 3 rfl) ?_
            refine lv_iload hx hb d_Model_block_70 (lv_at hl 0 rfl) ?_
            replace hR := gd_e hR
            obtain ⟨b21, hR⟩ := hR
            refine saM_37 hx hb hK hP hD hS b21 d_Model_block_72 (fun T21 eT H locs hP hD hS => ?_)
            replace hR := stK_e eT hR
            clear eT
            refine lv_goto (tgt := 84) hx hb d_Model_block_73 (by decide) ?_
            refine lv_iload hx hb d_Model_block_84 (lv_at hl 0 rfl) ?_
            refine lv_istore_n (lv' := [(3, .int r18), (4, .int r18), (0, .ref (ad 0)), (1, .int x1), (2, .int x2)]) hx hb d_Model_block_86 rfl hl (by decide) rfl (fun ls hl => ?_)
            refine lv_goto (tgt := 38) hx hb d_Model_block_87 (by decide) ?_
            have g := ih T21 x1 x2 r18 hR
            rw [hG] at g
            exact g _ _ hP hD hS _ (lv_sub hl [2, 3, 4, 0] rfl)
  have lb_10 : ∀ (T : gSt) (x1 : Int32), rj_Model_block_10 F nf T x1 = some (r0, rl0, T9) → G 10 [(0, .ref (ad 0)), (1, .int x1)] [] T := by
    intro T x1 hR; unfold rj_Model_block_10 at hR; rw [hG]; intro H locs hP hD hS ls hl
    refine lv_aload_n hx hb d_Model_block_10 rfl (lv_at hl 0 rfl) ?_
    refine lv_bipush (v := 123) hx hb d_Model_block_11 (by decide) ?_
    replace hR := bi_e hR
    obtain ⟨r3, l3, T3, hc3, hR⟩ := hR
    refine gcV_v (rest := []) ⟨hx, hb, hml, hown, hT⟩ (h_Model_need _ _ _ _ _ hc3) (cwV 1 hT (gV ml_Model_448 im_Model_need se_Model_need ini_Model co_Model_need) rfl rfl rfl pd_Model_need ⟨rm_hi, rm_lo (Nat.le_of_ble_eq_true rfl)⟩) hK hP hD hS hA hnw henv (Nat.le_of_ble_eq_true rfl) rfl rfl hl.1 rfl (Nat.le_of_ble_eq_true rfl) d_Model_block_13 ⟨Nat.le_refl _, Nat.le_refl _⟩ (fun H locs hP hD hS => ?_)
    clear hc3
    refine lv_aload_n hx hb d_Model_block_16 rfl (lv_at hl 0 rfl) ?_
    replace hR := bi_e hR
    obtain ⟨r4, l4, T4, hc4, hR⟩ := hR
    refine gcV_i (rest := []) ⟨hx, hb, hml, hown, hT⟩ (h_Model_bad _ _ _ _ hc4) (cwV 0 hT (gV ml_Model_385 im_Model_bad se_Model_bad ini_Model co_Model_bad) rfl rfl rfl pd_Model_bad ⟨rm_hi, rm_lo (Nat.le_of_ble_eq_true rfl)⟩) hK hP hD hS hA hnw henv (Nat.le_of_ble_eq_true rfl) rfl rfl hl.1 rfl (Nat.le_of_ble_eq_true rfl) d_Model_block_17 ⟨Nat.le_refl _, Nat.le_refl _⟩ (fun H locs hP hD hS => ?_)
    clear hc4
    refine lv_if_eq (tgt := 25) hx hb d_Model_block_20 (by decide) (fun c5 => ?_) (fun c5 => ?_)
    · replace hR := if_p c5 hR
      refine lv_aload_n hx hb d_Model_block_25 rfl (lv_at hl 0 rfl) ?_
      refine lv_bipush (v := 31) hx hb d_Model_block_26 (by decide) ?_
      refine lv_aload_n hx hb d_Model_block_28 rfl (lv_at hl 0 rfl) ?_
      refine rd_Model_349 hx hb hT hown hK hP d_Model_block_29 ?_
      replace hR := bi_e hR
      obtain ⟨r6, l6, T6, hc6, hR⟩ := hR
      refine gcV_i (rest := []) ⟨hx, hb, hml, hown, hT⟩ (h_Model_node _ _ _ _ _ _ hc6) (cwV 2 hT (gV ml_Model_478 im_Model_node se_Model_node ini_Model co_Model_node) rfl rfl rfl pd_Model_node ⟨rm_hi, rm_lo (Nat.le_of_ble_eq_true rfl)⟩) hK hP hD hS hA hnw henv (Nat.le_of_ble_eq_true rfl) rfl rfl hl.1 rfl (Nat.le_of_ble_eq_true rfl) d_Model_block_32 ⟨Nat.le_refl _, Nat.le_refl _⟩ (fun H locs hP hD hS => ?_)
      clear hc6
      refine lv_istore_n (lv' := [(2, .int r6), (0, .ref (ad 0)), (1, .int x1)]) hx hb d_Model_block_35 rfl hl (by decide) rfl (fun ls hl => ?_)
      refine lv_iconst (v := (-1)) hx hb d_Model_block_36 (by decide) ?_
      refine lv_istore_n (lv' := [(3, .int (-1 : Int32)), (2, .int r6), (0, .ref (ad 0)), (1, .int x1)]) hx hb d_Model_block_37 rfl hl (by decide) rfl (fun ls hl => ?_)
      have g := lb_38 nf T6 x1 r6 (-1 : Int32) hR
      rw [hG] at g
      exact g _ _ hP hD hS _ (lv_sub hl [2, 3, 1, 0] rfl)
    · replace hR := if_n c5 hR
      refine lv_iconst (v := 0) hx hb d_Model_block_23 (by decide) ?_
      obtain ⟨e1, -, e3⟩ := re_e hR
      subst e1; subst e3
      exact W.iret (v := (0 : Int32)) hx hb hr (fun t ht hW => ⟨⟨(0 : Int32), (), rfl, rfl, by rw [ht]; exact hP, va_K.moved hW.alike hK, hD⟩, hS.F ht⟩) hS.2.2 d_Model_block_24
  unfold rb_Model_block at hR
  refine lv_iload_n hx hb d_Model_block_0 rfl (lv_at hl 1 rfl) ?_
  refine lv_bipush (v := 20) hx hb d_Model_block_1 (by decide) ?_
  refine lv_icmp_le (tgt := 10) hx hb d_Model_block_3 (by decide) (fun c1 => ?_) (fun c1 => ?_)
  · replace hR := if_p c1 hR
    have g := lb_10 T0 p1 hR
    rw [hG] at g
    exact g _ _ hP hD hS _ (lv_sub hl [0, 1] rfl)
  · replace hR := if_n c1 hR
    refine lv_aload_n hx hb d_Model_block_6 rfl (lv_at hl 0 rfl) ?_
    replace hR := bi_e hR
    obtain ⟨r2, l2, T2, hc2, hR⟩ := hR
    refine gcV_v (rest := []) ⟨hx, hb, hml, hown, hT⟩ (h_Model_wrong _ _ _ _ hc2) (cwV 0 hT (gV ml_Model_406 im_Model_wrong se_Model_wrong ini_Model co_Model_wrong) rfl rfl rfl pd_Model_wrong ⟨rm_hi, rm_lo (Nat.le_of_ble_eq_true rfl)⟩) hK hP hD hS hA hnw henv (Nat.le_of_ble_eq_true rfl) rfl rfl hl.1 rfl (Nat.le_of_ble_eq_true rfl) d_Model_block_7 ⟨Nat.le_refl _, Nat.le_refl _⟩ (fun H locs hP hD hS => ?_)
    clear hc2
    have g := lb_10 T2 p1 hR
    rw [hG] at g
    exact g _ _ hP hD hS _ (lv_sub hl [0, 1] rfl)
