abbrev b_House_addFour : ByteArray := prog_1_method_3_code
abbrev y_House_addFour : MethodName := ⟨R_House, "addFour", "(I)V"⟩
theorem co_House_addFour : Cond.code y_House_addFour b_House_addFour 3 none ∈ lw_good := lg_in (tin_4 _ (List.mem_of_getElem? (i := 22) rfl)) rfl
abbrev w_House_addFour : List Cond := Cond.code y_House_addFour b_House_addFour 3 none :: lw_good
theorem im_House_addFour : Cond.instanceMethod y_House_addFour ∈ lw_good := lg_right (i := 741) (by decide +kernel) rfl
theorem se_House_addFour : Cond.selects R_House y_House_addFour y_House_addFour ∈ lw_good := lg_left (i := 0) (by decide +kernel) rfl
theorem d_House_addFour_0 : decode b_House_addFour 0 = .ok (.bipush 24, 2) := by decide +kernel
theorem d_House_addFour_2 : decode b_House_addFour 2 = .ok (.istore_n 2, 1) := by decide +kernel
theorem d_House_addFour_3 : decode b_House_addFour 3 = .ok (.iload_n 2, 1) := by decide +kernel
theorem d_House_addFour_4 : decode b_House_addFour 4 = .ok (.ifCond .lt 48, 3) := by decide +kernel
theorem d_House_addFour_7 : decode b_House_addFour 7 = .ok (.aload_n 0, 1) := by decide +kernel
theorem d_House_addFour_8 : decode b_House_addFour 8 = .ok (.getfield 83, 3) := by decide +kernel
theorem d_House_addFour_11 : decode b_House_addFour 11 = .ok (.aload_n 0, 1) := by decide +kernel
theorem d_House_addFour_12 : decode b_House_addFour 12 = .ok (.getfield 9, 3) := by decide +kernel
theorem d_House_addFour_15 : decode b_House_addFour 15 = .ok (.arraylength, 1) := by decide +kernel
theorem d_House_addFour_16 : decode b_House_addFour 16 = .ok (.if_icmp .ge 36, 3) := by decide +kernel
theorem d_House_addFour_19 : decode b_House_addFour 19 = .ok (.aload_n 0, 1) := by decide +kernel
theorem d_House_addFour_20 : decode b_House_addFour 20 = .ok (.getfield 9, 3) := by decide +kernel
theorem d_House_addFour_23 : decode b_House_addFour 23 = .ok (.aload_n 0, 1) := by decide +kernel
theorem d_House_addFour_24 : decode b_House_addFour 24 = .ok (.getfield 83, 3) := by decide +kernel
theorem d_House_addFour_27 : decode b_House_addFour 27 = .ok (.iload_n 1, 1) := by decide +kernel
theorem d_House_addFour_28 : decode b_House_addFour 28 = .ok (.iload_n 2, 1) := by decide +kernel
theorem d_House_addFour_29 : decode b_House_addFour 29 = .ok (.iushr, 1) := by decide +kernel
theorem d_House_addFour_30 : decode b_House_addFour 30 = .ok (.sipush 255, 3) := by decide +kernel
theorem d_House_addFour_33 : decode b_House_addFour 33 = .ok (.iand, 1) := by decide +kernel
theorem d_House_addFour_34 : decode b_House_addFour 34 = .ok (.i2c, 1) := by decide +kernel
theorem d_House_addFour_35 : decode b_House_addFour 35 = .ok (.castore, 1) := by decide +kernel
theorem d_House_addFour_36 : decode b_House_addFour 36 = .ok (.aload_n 0, 1) := by decide +kernel
theorem d_House_addFour_37 : decode b_House_addFour 37 = .ok (.dup, 1) := by decide +kernel
theorem d_House_addFour_38 : decode b_House_addFour 38 = .ok (.getfield 83, 3) := by decide +kernel
theorem d_House_addFour_41 : decode b_House_addFour 41 = .ok (.iconst 1, 1) := by decide +kernel
theorem d_House_addFour_42 : decode b_House_addFour 42 = .ok (.iadd, 1) := by decide +kernel
theorem d_House_addFour_43 : decode b_House_addFour 43 = .ok (.putfield 83, 3) := by decide +kernel
theorem d_House_addFour_46 : decode b_House_addFour 46 = .ok (.iinc 2 (-8), 3) := by decide +kernel
theorem d_House_addFour_49 : decode b_House_addFour 49 = .ok (.goto (-46), 3) := by decide +kernel
theorem d_House_addFour_52 : decode b_House_addFour 52 = .ok (.return_, 1) := by decide +kernel
abbrev b_House_feed : ByteArray := prog_1_method_2_code
abbrev y_House_feed : MethodName := ⟨R_House, "feed", "(IIIII)I"⟩
theorem co_House_feed : Cond.code y_House_feed b_House_feed 6 (some .int) ∈ lw_good := lg_in (tin_4 _ (List.mem_of_getElem? (i := 18) rfl)) rfl
abbrev w_House_feed : List Cond := Cond.code y_House_feed b_House_feed 6 (some .int) :: lw_good
theorem im_House_feed : Cond.instanceMethod y_House_feed ∈ lw_good := lg_right (i := 736) (by decide +kernel) rfl
theorem se_House_feed : Cond.selects R_House y_House_feed y_House_feed ∈ lw_good := lg_right (i := 737) (by decide +kernel) rfl
theorem d_House_feed_0 : decode b_House_feed 0 = .ok (.aload_n 0, 1) := by decide +kernel
theorem d_House_feed_1 : decode b_House_feed 1 = .ok (.getfield 83, 3) := by decide +kernel
theorem d_House_feed_4 : decode b_House_feed 4 = .ok (.bipush 20, 2) := by decide +kernel
theorem d_House_feed_6 : decode b_House_feed 6 = .ok (.iadd, 1) := by decide +kernel
theorem d_House_feed_7 : decode b_House_feed 7 = .ok (.sipush 4000, 3) := by decide +kernel
theorem d_House_feed_10 : decode b_House_feed 10 = .ok (.if_icmp .le 5, 3) := by decide +kernel
theorem d_House_feed_13 : decode b_House_feed 13 = .ok (.iconst (-1), 1) := by decide +kernel
theorem d_House_feed_14 : decode b_House_feed 14 = .ok (.ireturn, 1) := by decide +kernel
theorem d_House_feed_15 : decode b_House_feed 15 = .ok (.aload_n 0, 1) := by decide +kernel
theorem d_House_feed_16 : decode b_House_feed 16 = .ok (.iload_n 1, 1) := by decide +kernel
theorem d_House_feed_17 : decode b_House_feed 17 = .ok (.invokevirtual 87, 3) := by decide +kernel
theorem ml_House_87 : Cond.methodLink R_House 87 ⟨"PointerHouse", "addFour", "(I)V"⟩ ∈ lw_good := lg_right (i := 739) (by decide +kernel) rfl
theorem d_House_feed_20 : decode b_House_feed 20 = .ok (.aload_n 0, 1) := by decide +kernel
theorem d_House_feed_21 : decode b_House_feed 21 = .ok (.iload_n 2, 1) := by decide +kernel
theorem d_House_feed_22 : decode b_House_feed 22 = .ok (.invokevirtual 87, 3) := by decide +kernel
theorem d_House_feed_25 : decode b_House_feed 25 = .ok (.aload_n 0, 1) := by decide +kernel
theorem d_House_feed_26 : decode b_House_feed 26 = .ok (.iload_n 3, 1) := by decide +kernel
theorem d_House_feed_27 : decode b_House_feed 27 = .ok (.invokevirtual 87, 3) := by decide +kernel
theorem d_House_feed_30 : decode b_House_feed 30 = .ok (.aload_n 0, 1) := by decide +kernel
theorem d_House_feed_31 : decode b_House_feed 31 = .ok (.iload 4, 2) := by decide +kernel
theorem d_House_feed_33 : decode b_House_feed 33 = .ok (.invokevirtual 87, 3) := by decide +kernel
theorem d_House_feed_36 : decode b_House_feed 36 = .ok (.aload_n 0, 1) := by decide +kernel
theorem d_House_feed_37 : decode b_House_feed 37 = .ok (.iload 5, 2) := by decide +kernel
theorem d_House_feed_39 : decode b_House_feed 39 = .ok (.invokevirtual 87, 3) := by decide +kernel
theorem d_House_feed_42 : decode b_House_feed 42 = .ok (.aload_n 0, 1) := by decide +kernel
theorem d_House_feed_43 : decode b_House_feed 43 = .ok (.getfield 83, 3) := by decide +kernel
theorem d_House_feed_46 : decode b_House_feed 46 = .ok (.ireturn, 1) := by decide +kernel
