abbrev b_Model_fitAll : ByteArray := prog_14_method_97_code
abbrev y_Model_fitAll : MethodName := ⟨R_Model, "fitAll", "(III)V"⟩
theorem co_Model_fitAll : Cond.code y_Model_fitAll b_Model_fitAll 7 none ∈ lw_good := lg_in (tin_11 _ (List.mem_of_getElem? (i := 171) rfl)) rfl
abbrev w_Model_fitAll : List Cond := Cond.code y_Model_fitAll b_Model_fitAll 7 none :: lw_good
theorem im_Model_fitAll : Cond.instanceMethod y_Model_fitAll ∈ lw_good := lg_right (i := 2570) (by decide +kernel) rfl
theorem se_Model_fitAll : Cond.selects R_Model y_Model_fitAll y_Model_fitAll ∈ lw_good := lg_left (i := 170) (by decide +kernel) rfl
theorem d_Model_fitAll_0 : decode b_Model_fitAll 0 = .ok (.aload_n 0, 1) := by decide +kernel
theorem d_Model_fitAll_1 : decode b_Model_fitAll 1 = .ok (.getfield 36, 3) := by decide +kernel
theorem d_Model_fitAll_4 : decode b_Model_fitAll 4 = .ok (.iload_n 2, 1) := by decide +kernel
theorem d_Model_fitAll_5 : decode b_Model_fitAll 5 = .ok (.iaload, 1) := by decide +kernel
theorem d_Model_fitAll_6 : decode b_Model_fitAll 6 = .ok (.istore 4, 2) := by decide +kernel
theorem d_Model_fitAll_8 : decode b_Model_fitAll 8 = .ok (.aload_n 0, 1) := by decide +kernel
theorem d_Model_fitAll_9 : decode b_Model_fitAll 9 = .ok (.getfield 126, 3) := by decide +kernel
theorem d_Model_fitAll_12 : decode b_Model_fitAll 12 = .ok (.iload_n 1, 1) := by decide +kernel
theorem d_Model_fitAll_13 : decode b_Model_fitAll 13 = .ok (.iaload, 1) := by decide +kernel
theorem d_Model_fitAll_14 : decode b_Model_fitAll 14 = .ok (.istore 5, 2) := by decide +kernel
theorem d_Model_fitAll_16 : decode b_Model_fitAll 16 = .ok (.iload 5, 2) := by decide +kernel
theorem d_Model_fitAll_18 : decode b_Model_fitAll 18 = .ok (.ifCond .lt 75, 3) := by decide +kernel
theorem d_Model_fitAll_21 : decode b_Model_fitAll 21 = .ok (.aload_n 0, 1) := by decide +kernel
theorem d_Model_fitAll_22 : decode b_Model_fitAll 22 = .ok (.invokevirtual 385, 3) := by decide +kernel
theorem d_Model_fitAll_25 : decode b_Model_fitAll 25 = .ok (.ifCond .ne 68, 3) := by decide +kernel
theorem d_Model_fitAll_28 : decode b_Model_fitAll 28 = .ok (.aload_n 0, 1) := by decide +kernel
theorem d_Model_fitAll_29 : decode b_Model_fitAll 29 = .ok (.aload_n 0, 1) := by decide +kernel
theorem d_Model_fitAll_30 : decode b_Model_fitAll 30 = .ok (.getfield 126, 3) := by decide +kernel
theorem d_Model_fitAll_33 : decode b_Model_fitAll 33 = .ok (.iload 5, 2) := by decide +kernel
theorem d_Model_fitAll_35 : decode b_Model_fitAll 35 = .ok (.iaload, 1) := by decide +kernel
theorem d_Model_fitAll_36 : decode b_Model_fitAll 36 = .ok (.invokevirtual 652, 3) := by decide +kernel
theorem d_Model_fitAll_39 : decode b_Model_fitAll 39 = .ok (.istore 6, 2) := by decide +kernel
theorem d_Model_fitAll_41 : decode b_Model_fitAll 41 = .ok (.aload_n 0, 1) := by decide +kernel
theorem d_Model_fitAll_42 : decode b_Model_fitAll 42 = .ok (.invokevirtual 385, 3) := by decide +kernel
theorem d_Model_fitAll_45 : decode b_Model_fitAll 45 = .ok (.ifCond .ne 33, 3) := by decide +kernel
theorem d_Model_fitAll_48 : decode b_Model_fitAll 48 = .ok (.aload_n 0, 1) := by decide +kernel
theorem d_Model_fitAll_49 : decode b_Model_fitAll 49 = .ok (.iload 6, 2) := by decide +kernel
theorem d_Model_fitAll_51 : decode b_Model_fitAll 51 = .ok (.aload_n 0, 1) := by decide +kernel
theorem d_Model_fitAll_52 : decode b_Model_fitAll 52 = .ok (.aload_n 0, 1) := by decide +kernel
theorem d_Model_fitAll_53 : decode b_Model_fitAll 53 = .ok (.getfield 51, 3) := by decide +kernel
theorem d_Model_fitAll_56 : decode b_Model_fitAll 56 = .ok (.iload 4, 2) := by decide +kernel
theorem d_Model_fitAll_58 : decode b_Model_fitAll 58 = .ok (.iaload, 1) := by decide +kernel
theorem d_Model_fitAll_59 : decode b_Model_fitAll 59 = .ok (.iload_n 3, 1) := by decide +kernel
theorem d_Model_fitAll_60 : decode b_Model_fitAll 60 = .ok (.invokevirtual 553, 3) := by decide +kernel
theorem d_Model_fitAll_63 : decode b_Model_fitAll 63 = .ok (.aload_n 0, 1) := by decide +kernel
theorem d_Model_fitAll_64 : decode b_Model_fitAll 64 = .ok (.getfield 123, 3) := by decide +kernel
theorem d_Model_fitAll_67 : decode b_Model_fitAll 67 = .ok (.aload_n 0, 1) := by decide +kernel
theorem d_Model_fitAll_68 : decode b_Model_fitAll 68 = .ok (.getfield 126, 3) := by decide +kernel
theorem d_Model_fitAll_71 : decode b_Model_fitAll 71 = .ok (.iload 5, 2) := by decide +kernel
theorem d_Model_fitAll_73 : decode b_Model_fitAll 73 = .ok (.iaload, 1) := by decide +kernel
theorem d_Model_fitAll_74 : decode b_Model_fitAll 74 = .ok (.iaload, 1) := by decide +kernel
theorem d_Model_fitAll_75 : decode b_Model_fitAll 75 = .ok (.invokevirtual 688, 3) := by decide +kernel
theorem d_Model_fitAll_78 : decode b_Model_fitAll 78 = .ok (.iinc 4 1, 3) := by decide +kernel
theorem d_Model_fitAll_81 : decode b_Model_fitAll 81 = .ok (.aload_n 0, 1) := by decide +kernel
theorem d_Model_fitAll_82 : decode b_Model_fitAll 82 = .ok (.getfield 135, 3) := by decide +kernel
theorem d_Model_fitAll_85 : decode b_Model_fitAll 85 = .ok (.iload 5, 2) := by decide +kernel
theorem d_Model_fitAll_87 : decode b_Model_fitAll 87 = .ok (.iaload, 1) := by decide +kernel
theorem d_Model_fitAll_88 : decode b_Model_fitAll 88 = .ok (.istore 5, 2) := by decide +kernel
theorem d_Model_fitAll_90 : decode b_Model_fitAll 90 = .ok (.goto (-74), 3) := by decide +kernel
theorem d_Model_fitAll_93 : decode b_Model_fitAll 93 = .ok (.return_, 1) := by decide +kernel
abbrev b_Model_lay : ByteArray := prog_14_method_100_code
abbrev y_Model_lay : MethodName := ⟨R_Model, "lay", "(IIII)I"⟩
theorem co_Model_lay : Cond.code y_Model_lay b_Model_lay 5 (some .int) ∈ lw_good := lg_in (tin_12 _ (List.mem_of_getElem? (i := 74) rfl)) rfl
abbrev w_Model_lay : List Cond := Cond.code y_Model_lay b_Model_lay 5 (some .int) :: lw_good
theorem im_Model_lay : Cond.instanceMethod y_Model_lay ∈ lw_good := lg_right (i := 2713) (by decide +kernel) rfl
theorem se_Model_lay : Cond.selects R_Model y_Model_lay y_Model_lay ∈ lw_good := lg_left (i := 205) (by decide +kernel) rfl
theorem d_Model_lay_0 : decode b_Model_lay 0 = .ok (.aload_n 0, 1) := by decide +kernel
theorem d_Model_lay_1 : decode b_Model_lay 1 = .ok (.getfield 195, 3) := by decide +kernel
theorem fl_Model_195 : Cond.fieldLink R_Model 195 "PointerHouseModel" "code" "[I" ∈ lw_good := lg_right (i := 1915) (by decide +kernel) rfl
theorem d_Model_lay_4 : decode b_Model_lay 4 = .ok (.aload_n 0, 1) := by decide +kernel
theorem d_Model_lay_5 : decode b_Model_lay 5 = .ok (.getfield 771, 3) := by decide +kernel
theorem fl_Model_771 : Cond.fieldLink R_Model 771 "PointerHouseModel" "codes" "I" ∈ lw_good := lg_right (i := 1914) (by decide +kernel) rfl
theorem d_Model_lay_8 : decode b_Model_lay 8 = .ok (.iload_n 1, 1) := by decide +kernel
theorem d_Model_lay_9 : decode b_Model_lay 9 = .ok (.iastore, 1) := by decide +kernel
theorem d_Model_lay_10 : decode b_Model_lay 10 = .ok (.aload_n 0, 1) := by decide +kernel
theorem d_Model_lay_11 : decode b_Model_lay 11 = .ok (.getfield 198, 3) := by decide +kernel
theorem fl_Model_198 : Cond.fieldLink R_Model 198 "PointerHouseModel" "first" "[I" ∈ lw_good := lg_right (i := 1916) (by decide +kernel) rfl
theorem d_Model_lay_14 : decode b_Model_lay 14 = .ok (.aload_n 0, 1) := by decide +kernel
theorem d_Model_lay_15 : decode b_Model_lay 15 = .ok (.getfield 771, 3) := by decide +kernel
theorem d_Model_lay_18 : decode b_Model_lay 18 = .ok (.iload_n 2, 1) := by decide +kernel
theorem d_Model_lay_19 : decode b_Model_lay 19 = .ok (.iastore, 1) := by decide +kernel
theorem d_Model_lay_20 : decode b_Model_lay 20 = .ok (.aload_n 0, 1) := by decide +kernel
theorem d_Model_lay_21 : decode b_Model_lay 21 = .ok (.getfield 201, 3) := by decide +kernel
theorem fl_Model_201 : Cond.fieldLink R_Model 201 "PointerHouseModel" "second" "[I" ∈ lw_good := lg_right (i := 1917) (by decide +kernel) rfl
theorem d_Model_lay_24 : decode b_Model_lay 24 = .ok (.aload_n 0, 1) := by decide +kernel
theorem d_Model_lay_25 : decode b_Model_lay 25 = .ok (.getfield 771, 3) := by decide +kernel
theorem d_Model_lay_28 : decode b_Model_lay 28 = .ok (.iload_n 3, 1) := by decide +kernel
theorem d_Model_lay_29 : decode b_Model_lay 29 = .ok (.iastore, 1) := by decide +kernel
theorem d_Model_lay_30 : decode b_Model_lay 30 = .ok (.aload_n 0, 1) := by decide +kernel
theorem d_Model_lay_31 : decode b_Model_lay 31 = .ok (.getfield 204, 3) := by decide +kernel
theorem fl_Model_204 : Cond.fieldLink R_Model 204 "PointerHouseModel" "third" "[I" ∈ lw_good := lg_right (i := 1918) (by decide +kernel) rfl
theorem d_Model_lay_34 : decode b_Model_lay 34 = .ok (.aload_n 0, 1) := by decide +kernel
theorem d_Model_lay_35 : decode b_Model_lay 35 = .ok (.getfield 771, 3) := by decide +kernel
theorem d_Model_lay_38 : decode b_Model_lay 38 = .ok (.iload 4, 2) := by decide +kernel
theorem d_Model_lay_40 : decode b_Model_lay 40 = .ok (.iastore, 1) := by decide +kernel
theorem d_Model_lay_41 : decode b_Model_lay 41 = .ok (.aload_n 0, 1) := by decide +kernel
theorem d_Model_lay_42 : decode b_Model_lay 42 = .ok (.dup, 1) := by decide +kernel
theorem d_Model_lay_43 : decode b_Model_lay 43 = .ok (.getfield 771, 3) := by decide +kernel
theorem d_Model_lay_46 : decode b_Model_lay 46 = .ok (.iconst 1, 1) := by decide +kernel
theorem d_Model_lay_47 : decode b_Model_lay 47 = .ok (.iadd, 1) := by decide +kernel
theorem d_Model_lay_48 : decode b_Model_lay 48 = .ok (.putfield 771, 3) := by decide +kernel
theorem d_Model_lay_51 : decode b_Model_lay 51 = .ok (.aload_n 0, 1) := by decide +kernel
theorem d_Model_lay_52 : decode b_Model_lay 52 = .ok (.getfield 771, 3) := by decide +kernel
theorem d_Model_lay_55 : decode b_Model_lay 55 = .ok (.iconst 1, 1) := by decide +kernel
theorem d_Model_lay_56 : decode b_Model_lay 56 = .ok (.isub, 1) := by decide +kernel
theorem d_Model_lay_57 : decode b_Model_lay 57 = .ok (.ireturn, 1) := by decide +kernel
abbrev b_Model_layOut : ByteArray := prog_14_method_101_code
abbrev y_Model_layOut : MethodName := ⟨R_Model, "layOut", "()V"⟩
theorem co_Model_layOut : Cond.code y_Model_layOut b_Model_layOut 2 none ∈ lw_good := lg_in (tin_12 _ (List.mem_of_getElem? (i := 62) rfl)) rfl
abbrev w_Model_layOut : List Cond := Cond.code y_Model_layOut b_Model_layOut 2 none :: lw_good
theorem im_Model_layOut : Cond.instanceMethod y_Model_layOut ∈ lw_good := lg_right (i := 2701) (by decide +kernel) rfl
theorem se_Model_layOut : Cond.selects R_Model y_Model_layOut y_Model_layOut ∈ lw_good := lg_left (i := 202) (by decide +kernel) rfl
theorem d_Model_layOut_0 : decode b_Model_layOut 0 = .ok (.aload_n 0, 1) := by decide +kernel
theorem d_Model_layOut_1 : decode b_Model_layOut 1 = .ok (.iconst 0, 1) := by decide +kernel
theorem d_Model_layOut_2 : decode b_Model_layOut 2 = .ok (.putfield 771, 3) := by decide +kernel
theorem d_Model_layOut_5 : decode b_Model_layOut 5 = .ok (.iconst 0, 1) := by decide +kernel
theorem d_Model_layOut_6 : decode b_Model_layOut 6 = .ok (.istore_n 1, 1) := by decide +kernel
theorem d_Model_layOut_7 : decode b_Model_layOut 7 = .ok (.iload_n 1, 1) := by decide +kernel
theorem d_Model_layOut_8 : decode b_Model_layOut 8 = .ok (.aload_n 0, 1) := by decide +kernel
theorem d_Model_layOut_9 : decode b_Model_layOut 9 = .ok (.getfield 412, 3) := by decide +kernel
theorem d_Model_layOut_12 : decode b_Model_layOut 12 = .ok (.if_icmp .ge 52, 3) := by decide +kernel
theorem d_Model_layOut_15 : decode b_Model_layOut 15 = .ok (.aload_n 0, 1) := by decide +kernel
theorem d_Model_layOut_16 : decode b_Model_layOut 16 = .ok (.getfield 17, 3) := by decide +kernel
theorem d_Model_layOut_19 : decode b_Model_layOut 19 = .ok (.iload_n 1, 1) := by decide +kernel
theorem d_Model_layOut_20 : decode b_Model_layOut 20 = .ok (.iaload, 1) := by decide +kernel
theorem d_Model_layOut_21 : decode b_Model_layOut 21 = .ok (.iconst 2, 1) := by decide +kernel
theorem d_Model_layOut_22 : decode b_Model_layOut 22 = .ok (.if_icmp .ge 6, 3) := by decide +kernel
theorem d_Model_layOut_25 : decode b_Model_layOut 25 = .ok (.goto 33, 3) := by decide +kernel
theorem d_Model_layOut_28 : decode b_Model_layOut 28 = .ok (.aload_n 0, 1) := by decide +kernel
theorem d_Model_layOut_29 : decode b_Model_layOut 29 = .ok (.getfield 87, 3) := by decide +kernel
theorem fl_Model_87 : Cond.fieldLink R_Model 87 "PointerHouseModel" "begins" "[I" ∈ lw_good := lg_right (i := 1855) (by decide +kernel) rfl
theorem d_Model_layOut_32 : decode b_Model_layOut 32 = .ok (.iload_n 1, 1) := by decide +kernel
theorem d_Model_layOut_33 : decode b_Model_layOut 33 = .ok (.aload_n 0, 1) := by decide +kernel
theorem d_Model_layOut_34 : decode b_Model_layOut 34 = .ok (.getfield 771, 3) := by decide +kernel
theorem d_Model_layOut_37 : decode b_Model_layOut 37 = .ok (.iastore, 1) := by decide +kernel
theorem d_Model_layOut_38 : decode b_Model_layOut 38 = .ok (.aload_n 0, 1) := by decide +kernel
theorem d_Model_layOut_39 : decode b_Model_layOut 39 = .ok (.aload_n 0, 1) := by decide +kernel
theorem d_Model_layOut_40 : decode b_Model_layOut 40 = .ok (.getfield 81, 3) := by decide +kernel
theorem d_Model_layOut_43 : decode b_Model_layOut 43 = .ok (.iload_n 1, 1) := by decide +kernel
theorem d_Model_layOut_44 : decode b_Model_layOut 44 = .ok (.iaload, 1) := by decide +kernel
theorem d_Model_layOut_45 : decode b_Model_layOut 45 = .ok (.invokevirtual 774, 3) := by decide +kernel
theorem ml_Model_774 : Cond.methodLink R_Model 774 ⟨"PointerHouseModel", "layBlock", "(I)V"⟩ ∈ lw_good := lg_right (i := 2703) (by decide +kernel) rfl
theorem d_Model_layOut_48 : decode b_Model_layOut 48 = .ok (.aload_n 0, 1) := by decide +kernel
theorem d_Model_layOut_49 : decode b_Model_layOut 49 = .ok (.bipush 28, 2) := by decide +kernel
theorem d_Model_layOut_51 : decode b_Model_layOut 51 = .ok (.iconst 0, 1) := by decide +kernel
theorem d_Model_layOut_52 : decode b_Model_layOut 52 = .ok (.iconst 0, 1) := by decide +kernel
theorem d_Model_layOut_53 : decode b_Model_layOut 53 = .ok (.iconst 0, 1) := by decide +kernel
theorem d_Model_layOut_54 : decode b_Model_layOut 54 = .ok (.invokevirtual 777, 3) := by decide +kernel
theorem ml_Model_777 : Cond.methodLink R_Model 777 ⟨"PointerHouseModel", "lay", "(IIII)I"⟩ ∈ lw_good := lg_right (i := 2711) (by decide +kernel) rfl
theorem d_Model_layOut_57 : decode b_Model_layOut 57 = .ok (.pop, 1) := by decide +kernel
theorem d_Model_layOut_58 : decode b_Model_layOut 58 = .ok (.iinc 1 1, 3) := by decide +kernel
theorem d_Model_layOut_61 : decode b_Model_layOut 61 = .ok (.goto (-54), 3) := by decide +kernel
theorem d_Model_layOut_64 : decode b_Model_layOut 64 = .ok (.return_, 1) := by decide +kernel
abbrev b_Model_layBlock : ByteArray := prog_14_method_102_code
abbrev y_Model_layBlock : MethodName := ⟨R_Model, "layBlock", "(I)V"⟩
theorem co_Model_layBlock : Cond.code y_Model_layBlock b_Model_layBlock 3 none ∈ lw_good := lg_in (tin_12 _ (List.mem_of_getElem? (i := 66) rfl)) rfl
abbrev w_Model_layBlock : List Cond := Cond.code y_Model_layBlock b_Model_layBlock 3 none :: lw_good
theorem im_Model_layBlock : Cond.instanceMethod y_Model_layBlock ∈ lw_good := lg_right (i := 2705) (by decide +kernel) rfl
theorem se_Model_layBlock : Cond.selects R_Model y_Model_layBlock y_Model_layBlock ∈ lw_good := lg_left (i := 203) (by decide +kernel) rfl
theorem d_Model_layBlock_0 : decode b_Model_layBlock 0 = .ok (.aload_n 0, 1) := by decide +kernel
theorem d_Model_layBlock_1 : decode b_Model_layBlock 1 = .ok (.getfield 126, 3) := by decide +kernel
theorem d_Model_layBlock_4 : decode b_Model_layBlock 4 = .ok (.iload_n 1, 1) := by decide +kernel
theorem d_Model_layBlock_5 : decode b_Model_layBlock 5 = .ok (.iaload, 1) := by decide +kernel
theorem d_Model_layBlock_6 : decode b_Model_layBlock 6 = .ok (.istore_n 2, 1) := by decide +kernel
theorem d_Model_layBlock_7 : decode b_Model_layBlock 7 = .ok (.iload_n 2, 1) := by decide +kernel
theorem d_Model_layBlock_8 : decode b_Model_layBlock 8 = .ok (.ifCond .lt 18, 3) := by decide +kernel
theorem d_Model_layBlock_11 : decode b_Model_layBlock 11 = .ok (.aload_n 0, 1) := by decide +kernel
theorem d_Model_layBlock_12 : decode b_Model_layBlock 12 = .ok (.iload_n 2, 1) := by decide +kernel
theorem d_Model_layBlock_13 : decode b_Model_layBlock 13 = .ok (.invokevirtual 781, 3) := by decide +kernel
theorem ml_Model_781 : Cond.methodLink R_Model 781 ⟨"PointerHouseModel", "layStep", "(I)V"⟩ ∈ lw_good := lg_right (i := 2707) (by decide +kernel) rfl
theorem d_Model_layBlock_16 : decode b_Model_layBlock 16 = .ok (.aload_n 0, 1) := by decide +kernel
theorem d_Model_layBlock_17 : decode b_Model_layBlock 17 = .ok (.getfield 135, 3) := by decide +kernel
theorem d_Model_layBlock_20 : decode b_Model_layBlock 20 = .ok (.iload_n 2, 1) := by decide +kernel
theorem d_Model_layBlock_21 : decode b_Model_layBlock 21 = .ok (.iaload, 1) := by decide +kernel
theorem d_Model_layBlock_22 : decode b_Model_layBlock 22 = .ok (.istore_n 2, 1) := by decide +kernel
theorem d_Model_layBlock_23 : decode b_Model_layBlock 23 = .ok (.goto (-16), 3) := by decide +kernel
theorem d_Model_layBlock_26 : decode b_Model_layBlock 26 = .ok (.return_, 1) := by decide +kernel
abbrev b_Model_layStep : ByteArray := prog_14_method_103_code
abbrev y_Model_layStep : MethodName := ⟨R_Model, "layStep", "(I)V"⟩
theorem co_Model_layStep : Cond.code y_Model_layStep b_Model_layStep 5 none ∈ lw_good := lg_in (tin_12 _ (List.mem_of_getElem? (i := 70) rfl)) rfl
abbrev w_Model_layStep : List Cond := Cond.code y_Model_layStep b_Model_layStep 5 none :: lw_good
theorem im_Model_layStep : Cond.instanceMethod y_Model_layStep ∈ lw_good := lg_right (i := 2709) (by decide +kernel) rfl
theorem se_Model_layStep : Cond.selects R_Model y_Model_layStep y_Model_layStep ∈ lw_good := lg_left (i := 204) (by decide +kernel) rfl
theorem d_Model_layStep_0 : decode b_Model_layStep 0 = .ok (.aload_n 0, 1) := by decide +kernel
theorem d_Model_layStep_1 : decode b_Model_layStep 1 = .ok (.iconst 0, 1) := by decide +kernel
theorem d_Model_layStep_2 : decode b_Model_layStep 2 = .ok (.aload_n 0, 1) := by decide +kernel
theorem d_Model_layStep_3 : decode b_Model_layStep 3 = .ok (.getfield 123, 3) := by decide +kernel
theorem d_Model_layStep_6 : decode b_Model_layStep 6 = .ok (.iload_n 1, 1) := by decide +kernel
theorem d_Model_layStep_7 : decode b_Model_layStep 7 = .ok (.iaload, 1) := by decide +kernel
theorem d_Model_layStep_8 : decode b_Model_layStep 8 = .ok (.iconst 0, 1) := by decide +kernel
theorem d_Model_layStep_9 : decode b_Model_layStep 9 = .ok (.iconst 0, 1) := by decide +kernel
theorem d_Model_layStep_10 : decode b_Model_layStep 10 = .ok (.invokevirtual 777, 3) := by decide +kernel
theorem d_Model_layStep_13 : decode b_Model_layStep 13 = .ok (.istore_n 2, 1) := by decide +kernel
theorem d_Model_layStep_14 : decode b_Model_layStep 14 = .ok (.aload_n 0, 1) := by decide +kernel
theorem d_Model_layStep_15 : decode b_Model_layStep 15 = .ok (.getfield 120, 3) := by decide +kernel
theorem d_Model_layStep_18 : decode b_Model_layStep 18 = .ok (.iload_n 1, 1) := by decide +kernel
theorem d_Model_layStep_19 : decode b_Model_layStep 19 = .ok (.iaload, 1) := by decide +kernel
theorem d_Model_layStep_20 : decode b_Model_layStep 20 = .ok (.tableswitch 488 20 29 #[56, 92, 205, 274, 488, 488, 317, 368, 389, 467], 56) := by decide +kernel
theorem d_Model_layStep_76 : decode b_Model_layStep 76 = .ok (.aload_n 0, 1) := by decide +kernel
theorem d_Model_layStep_77 : decode b_Model_layStep 77 = .ok (.getfield 126, 3) := by decide +kernel
theorem d_Model_layStep_80 : decode b_Model_layStep 80 = .ok (.iload_n 1, 1) := by decide +kernel
theorem d_Model_layStep_81 : decode b_Model_layStep 81 = .ok (.iaload, 1) := by decide +kernel
theorem d_Model_layStep_82 : decode b_Model_layStep 82 = .ok (.ifCond .ge 4, 3) := by decide +kernel
theorem d_Model_layStep_85 : decode b_Model_layStep 85 = .ok (.return_, 1) := by decide +kernel
theorem d_Model_layStep_86 : decode b_Model_layStep 86 = .ok (.aload_n 0, 1) := by decide +kernel
theorem d_Model_layStep_87 : decode b_Model_layStep 87 = .ok (.aload_n 0, 1) := by decide +kernel
theorem d_Model_layStep_88 : decode b_Model_layStep 88 = .ok (.getfield 126, 3) := by decide +kernel
theorem d_Model_layStep_91 : decode b_Model_layStep 91 = .ok (.iload_n 1, 1) := by decide +kernel
theorem d_Model_layStep_92 : decode b_Model_layStep 92 = .ok (.iaload, 1) := by decide +kernel
theorem d_Model_layStep_93 : decode b_Model_layStep 93 = .ok (.invokevirtual 784, 3) := by decide +kernel
theorem ml_Model_784 : Cond.methodLink R_Model 784 ⟨"PointerHouseModel", "layExpression", "(I)V"⟩ ∈ lw_good := lg_right (i := 2715) (by decide +kernel) rfl
theorem d_Model_layStep_96 : decode b_Model_layStep 96 = .ok (.aload_n 0, 1) := by decide +kernel
theorem d_Model_layStep_97 : decode b_Model_layStep 97 = .ok (.bipush 22, 2) := by decide +kernel
theorem d_Model_layStep_99 : decode b_Model_layStep 99 = .ok (.aload_n 0, 1) := by decide +kernel
theorem d_Model_layStep_100 : decode b_Model_layStep 100 = .ok (.getfield 153, 3) := by decide +kernel
theorem d_Model_layStep_103 : decode b_Model_layStep 103 = .ok (.iload_n 1, 1) := by decide +kernel
theorem d_Model_layStep_104 : decode b_Model_layStep 104 = .ok (.iaload, 1) := by decide +kernel
theorem d_Model_layStep_105 : decode b_Model_layStep 105 = .ok (.iconst 0, 1) := by decide +kernel
theorem d_Model_layStep_106 : decode b_Model_layStep 106 = .ok (.iconst 0, 1) := by decide +kernel
theorem d_Model_layStep_107 : decode b_Model_layStep 107 = .ok (.invokevirtual 777, 3) := by decide +kernel
theorem d_Model_layStep_110 : decode b_Model_layStep 110 = .ok (.pop, 1) := by decide +kernel
theorem d_Model_layStep_111 : decode b_Model_layStep 111 = .ok (.return_, 1) := by decide +kernel
theorem d_Model_layStep_112 : decode b_Model_layStep 112 = .ok (.aload_n 0, 1) := by decide +kernel
theorem d_Model_layStep_113 : decode b_Model_layStep 113 = .ok (.aload_n 0, 1) := by decide +kernel
theorem d_Model_layStep_114 : decode b_Model_layStep 114 = .ok (.getfield 126, 3) := by decide +kernel
theorem d_Model_layStep_117 : decode b_Model_layStep 117 = .ok (.iload_n 1, 1) := by decide +kernel
theorem d_Model_layStep_118 : decode b_Model_layStep 118 = .ok (.iaload, 1) := by decide +kernel
theorem d_Model_layStep_119 : decode b_Model_layStep 119 = .ok (.invokevirtual 784, 3) := by decide +kernel
theorem d_Model_layStep_122 : decode b_Model_layStep 122 = .ok (.aload_n 0, 1) := by decide +kernel
theorem d_Model_layStep_123 : decode b_Model_layStep 123 = .ok (.bipush 26, 2) := by decide +kernel
theorem d_Model_layStep_125 : decode b_Model_layStep 125 = .ok (.iconst 0, 1) := by decide +kernel
theorem d_Model_layStep_126 : decode b_Model_layStep 126 = .ok (.aload_n 0, 1) := by decide +kernel
theorem d_Model_layStep_127 : decode b_Model_layStep 127 = .ok (.getfield 150, 3) := by decide +kernel
theorem d_Model_layStep_130 : decode b_Model_layStep 130 = .ok (.aload_n 0, 1) := by decide +kernel
theorem d_Model_layStep_131 : decode b_Model_layStep 131 = .ok (.getfield 126, 3) := by decide +kernel
theorem d_Model_layStep_134 : decode b_Model_layStep 134 = .ok (.iload_n 1, 1) := by decide +kernel
theorem d_Model_layStep_135 : decode b_Model_layStep 135 = .ok (.iaload, 1) := by decide +kernel
theorem d_Model_layStep_136 : decode b_Model_layStep 136 = .ok (.iaload, 1) := by decide +kernel
theorem d_Model_layStep_137 : decode b_Model_layStep 137 = .ok (.ifCond .ne 7, 3) := by decide +kernel
theorem d_Model_layStep_140 : decode b_Model_layStep 140 = .ok (.iconst 0, 1) := by decide +kernel
theorem d_Model_layStep_141 : decode b_Model_layStep 141 = .ok (.goto 4, 3) := by decide +kernel
theorem d_Model_layStep_144 : decode b_Model_layStep 144 = .ok (.iconst 1, 1) := by decide +kernel
theorem d_Model_layStep_145 : decode b_Model_layStep 145 = .ok (.iconst 0, 1) := by decide +kernel
theorem d_Model_layStep_146 : decode b_Model_layStep 146 = .ok (.invokevirtual 777, 3) := by decide +kernel
theorem d_Model_layStep_149 : decode b_Model_layStep 149 = .ok (.istore_n 3, 1) := by decide +kernel
theorem d_Model_layStep_150 : decode b_Model_layStep 150 = .ok (.aload_n 0, 1) := by decide +kernel
theorem d_Model_layStep_151 : decode b_Model_layStep 151 = .ok (.aload_n 0, 1) := by decide +kernel
theorem d_Model_layStep_152 : decode b_Model_layStep 152 = .ok (.getfield 129, 3) := by decide +kernel
theorem d_Model_layStep_155 : decode b_Model_layStep 155 = .ok (.iload_n 1, 1) := by decide +kernel
theorem d_Model_layStep_156 : decode b_Model_layStep 156 = .ok (.iaload, 1) := by decide +kernel
theorem d_Model_layStep_157 : decode b_Model_layStep 157 = .ok (.invokevirtual 774, 3) := by decide +kernel
theorem d_Model_layStep_160 : decode b_Model_layStep 160 = .ok (.aload_n 0, 1) := by decide +kernel
theorem d_Model_layStep_161 : decode b_Model_layStep 161 = .ok (.getfield 132, 3) := by decide +kernel
theorem d_Model_layStep_164 : decode b_Model_layStep 164 = .ok (.iload_n 1, 1) := by decide +kernel
theorem d_Model_layStep_165 : decode b_Model_layStep 165 = .ok (.iaload, 1) := by decide +kernel
theorem d_Model_layStep_166 : decode b_Model_layStep 166 = .ok (.ifCond .lt 48, 3) := by decide +kernel
theorem d_Model_layStep_169 : decode b_Model_layStep 169 = .ok (.aload_n 0, 1) := by decide +kernel
theorem d_Model_layStep_170 : decode b_Model_layStep 170 = .ok (.bipush 27, 2) := by decide +kernel
theorem d_Model_layStep_172 : decode b_Model_layStep 172 = .ok (.iconst 0, 1) := by decide +kernel
theorem d_Model_layStep_173 : decode b_Model_layStep 173 = .ok (.iconst 0, 1) := by decide +kernel
theorem d_Model_layStep_174 : decode b_Model_layStep 174 = .ok (.iconst 0, 1) := by decide +kernel
theorem d_Model_layStep_175 : decode b_Model_layStep 175 = .ok (.invokevirtual 777, 3) := by decide +kernel
theorem d_Model_layStep_178 : decode b_Model_layStep 178 = .ok (.istore 4, 2) := by decide +kernel
theorem d_Model_layStep_180 : decode b_Model_layStep 180 = .ok (.aload_n 0, 1) := by decide +kernel
theorem d_Model_layStep_181 : decode b_Model_layStep 181 = .ok (.getfield 198, 3) := by decide +kernel
theorem d_Model_layStep_184 : decode b_Model_layStep 184 = .ok (.iload_n 3, 1) := by decide +kernel
theorem d_Model_layStep_185 : decode b_Model_layStep 185 = .ok (.aload_n 0, 1) := by decide +kernel
theorem d_Model_layStep_186 : decode b_Model_layStep 186 = .ok (.getfield 771, 3) := by decide +kernel
theorem d_Model_layStep_189 : decode b_Model_layStep 189 = .ok (.iastore, 1) := by decide +kernel
theorem d_Model_layStep_190 : decode b_Model_layStep 190 = .ok (.aload_n 0, 1) := by decide +kernel
theorem d_Model_layStep_191 : decode b_Model_layStep 191 = .ok (.aload_n 0, 1) := by decide +kernel
theorem d_Model_layStep_192 : decode b_Model_layStep 192 = .ok (.getfield 132, 3) := by decide +kernel
theorem d_Model_layStep_195 : decode b_Model_layStep 195 = .ok (.iload_n 1, 1) := by decide +kernel
theorem d_Model_layStep_196 : decode b_Model_layStep 196 = .ok (.iaload, 1) := by decide +kernel
theorem d_Model_layStep_197 : decode b_Model_layStep 197 = .ok (.invokevirtual 774, 3) := by decide +kernel
theorem d_Model_layStep_200 : decode b_Model_layStep 200 = .ok (.aload_n 0, 1) := by decide +kernel
theorem d_Model_layStep_201 : decode b_Model_layStep 201 = .ok (.getfield 198, 3) := by decide +kernel
theorem d_Model_layStep_204 : decode b_Model_layStep 204 = .ok (.iload 4, 2) := by decide +kernel
theorem d_Model_layStep_206 : decode b_Model_layStep 206 = .ok (.aload_n 0, 1) := by decide +kernel
theorem d_Model_layStep_207 : decode b_Model_layStep 207 = .ok (.getfield 771, 3) := by decide +kernel
theorem d_Model_layStep_210 : decode b_Model_layStep 210 = .ok (.iastore, 1) := by decide +kernel
theorem d_Model_layStep_211 : decode b_Model_layStep 211 = .ok (.goto 13, 3) := by decide +kernel
theorem d_Model_layStep_214 : decode b_Model_layStep 214 = .ok (.aload_n 0, 1) := by decide +kernel
theorem d_Model_layStep_215 : decode b_Model_layStep 215 = .ok (.getfield 198, 3) := by decide +kernel
theorem d_Model_layStep_218 : decode b_Model_layStep 218 = .ok (.iload_n 3, 1) := by decide +kernel
theorem d_Model_layStep_219 : decode b_Model_layStep 219 = .ok (.aload_n 0, 1) := by decide +kernel
theorem d_Model_layStep_220 : decode b_Model_layStep 220 = .ok (.getfield 771, 3) := by decide +kernel
theorem d_Model_layStep_223 : decode b_Model_layStep 223 = .ok (.iastore, 1) := by decide +kernel
theorem d_Model_layStep_224 : decode b_Model_layStep 224 = .ok (.return_, 1) := by decide +kernel
theorem d_Model_layStep_225 : decode b_Model_layStep 225 = .ok (.aload_n 0, 1) := by decide +kernel
theorem d_Model_layStep_226 : decode b_Model_layStep 226 = .ok (.aload_n 0, 1) := by decide +kernel
theorem d_Model_layStep_227 : decode b_Model_layStep 227 = .ok (.getfield 126, 3) := by decide +kernel
theorem d_Model_layStep_230 : decode b_Model_layStep 230 = .ok (.iload_n 1, 1) := by decide +kernel
theorem d_Model_layStep_231 : decode b_Model_layStep 231 = .ok (.iaload, 1) := by decide +kernel
theorem d_Model_layStep_232 : decode b_Model_layStep 232 = .ok (.invokevirtual 784, 3) := by decide +kernel
theorem d_Model_layStep_235 : decode b_Model_layStep 235 = .ok (.aload_n 0, 1) := by decide +kernel
theorem d_Model_layStep_236 : decode b_Model_layStep 236 = .ok (.bipush 26, 2) := by decide +kernel
theorem d_Model_layStep_238 : decode b_Model_layStep 238 = .ok (.iconst 0, 1) := by decide +kernel
theorem d_Model_layStep_239 : decode b_Model_layStep 239 = .ok (.aload_n 0, 1) := by decide +kernel
theorem d_Model_layStep_240 : decode b_Model_layStep 240 = .ok (.getfield 150, 3) := by decide +kernel
theorem d_Model_layStep_243 : decode b_Model_layStep 243 = .ok (.aload_n 0, 1) := by decide +kernel
theorem d_Model_layStep_244 : decode b_Model_layStep 244 = .ok (.getfield 126, 3) := by decide +kernel
theorem d_Model_layStep_247 : decode b_Model_layStep 247 = .ok (.iload_n 1, 1) := by decide +kernel
theorem d_Model_layStep_248 : decode b_Model_layStep 248 = .ok (.iaload, 1) := by decide +kernel
theorem d_Model_layStep_249 : decode b_Model_layStep 249 = .ok (.iaload, 1) := by decide +kernel
theorem d_Model_layStep_250 : decode b_Model_layStep 250 = .ok (.ifCond .ne 7, 3) := by decide +kernel
theorem d_Model_layStep_253 : decode b_Model_layStep 253 = .ok (.iconst 0, 1) := by decide +kernel
theorem d_Model_layStep_254 : decode b_Model_layStep 254 = .ok (.goto 4, 3) := by decide +kernel
theorem d_Model_layStep_257 : decode b_Model_layStep 257 = .ok (.iconst 1, 1) := by decide +kernel
theorem d_Model_layStep_258 : decode b_Model_layStep 258 = .ok (.iconst 0, 1) := by decide +kernel
theorem d_Model_layStep_259 : decode b_Model_layStep 259 = .ok (.invokevirtual 777, 3) := by decide +kernel
theorem d_Model_layStep_262 : decode b_Model_layStep 262 = .ok (.istore_n 3, 1) := by decide +kernel
theorem d_Model_layStep_263 : decode b_Model_layStep 263 = .ok (.aload_n 0, 1) := by decide +kernel
theorem d_Model_layStep_264 : decode b_Model_layStep 264 = .ok (.aload_n 0, 1) := by decide +kernel
theorem d_Model_layStep_265 : decode b_Model_layStep 265 = .ok (.getfield 129, 3) := by decide +kernel
theorem d_Model_layStep_268 : decode b_Model_layStep 268 = .ok (.iload_n 1, 1) := by decide +kernel
theorem d_Model_layStep_269 : decode b_Model_layStep 269 = .ok (.iaload, 1) := by decide +kernel
theorem d_Model_layStep_270 : decode b_Model_layStep 270 = .ok (.invokevirtual 774, 3) := by decide +kernel
theorem d_Model_layStep_273 : decode b_Model_layStep 273 = .ok (.aload_n 0, 1) := by decide +kernel
theorem d_Model_layStep_274 : decode b_Model_layStep 274 = .ok (.bipush 27, 2) := by decide +kernel
theorem d_Model_layStep_276 : decode b_Model_layStep 276 = .ok (.iload_n 2, 1) := by decide +kernel
theorem d_Model_layStep_277 : decode b_Model_layStep 277 = .ok (.iconst 0, 1) := by decide +kernel
theorem d_Model_layStep_278 : decode b_Model_layStep 278 = .ok (.iconst 0, 1) := by decide +kernel
theorem d_Model_layStep_279 : decode b_Model_layStep 279 = .ok (.invokevirtual 777, 3) := by decide +kernel
theorem d_Model_layStep_282 : decode b_Model_layStep 282 = .ok (.pop, 1) := by decide +kernel
theorem d_Model_layStep_283 : decode b_Model_layStep 283 = .ok (.aload_n 0, 1) := by decide +kernel
theorem d_Model_layStep_284 : decode b_Model_layStep 284 = .ok (.getfield 198, 3) := by decide +kernel
theorem d_Model_layStep_287 : decode b_Model_layStep 287 = .ok (.iload_n 3, 1) := by decide +kernel
theorem d_Model_layStep_288 : decode b_Model_layStep 288 = .ok (.aload_n 0, 1) := by decide +kernel
theorem d_Model_layStep_289 : decode b_Model_layStep 289 = .ok (.getfield 771, 3) := by decide +kernel
theorem d_Model_layStep_292 : decode b_Model_layStep 292 = .ok (.iastore, 1) := by decide +kernel
theorem d_Model_layStep_293 : decode b_Model_layStep 293 = .ok (.return_, 1) := by decide +kernel
theorem d_Model_layStep_294 : decode b_Model_layStep 294 = .ok (.aload_n 0, 1) := by decide +kernel
theorem d_Model_layStep_295 : decode b_Model_layStep 295 = .ok (.getfield 126, 3) := by decide +kernel
theorem d_Model_layStep_298 : decode b_Model_layStep 298 = .ok (.iload_n 1, 1) := by decide +kernel
theorem d_Model_layStep_299 : decode b_Model_layStep 299 = .ok (.iaload, 1) := by decide +kernel
theorem d_Model_layStep_300 : decode b_Model_layStep 300 = .ok (.ifCond .lt 13, 3) := by decide +kernel
theorem d_Model_layStep_303 : decode b_Model_layStep 303 = .ok (.aload_n 0, 1) := by decide +kernel
theorem d_Model_layStep_304 : decode b_Model_layStep 304 = .ok (.aload_n 0, 1) := by decide +kernel
theorem d_Model_layStep_305 : decode b_Model_layStep 305 = .ok (.getfield 126, 3) := by decide +kernel
theorem d_Model_layStep_308 : decode b_Model_layStep 308 = .ok (.iload_n 1, 1) := by decide +kernel
theorem d_Model_layStep_309 : decode b_Model_layStep 309 = .ok (.iaload, 1) := by decide +kernel
theorem d_Model_layStep_310 : decode b_Model_layStep 310 = .ok (.invokevirtual 784, 3) := by decide +kernel
theorem d_Model_layStep_313 : decode b_Model_layStep 313 = .ok (.aload_n 0, 1) := by decide +kernel
theorem d_Model_layStep_314 : decode b_Model_layStep 314 = .ok (.bipush 28, 2) := by decide +kernel
theorem d_Model_layStep_316 : decode b_Model_layStep 316 = .ok (.aload_n 0, 1) := by decide +kernel
theorem d_Model_layStep_317 : decode b_Model_layStep 317 = .ok (.getfield 126, 3) := by decide +kernel
theorem d_Model_layStep_320 : decode b_Model_layStep 320 = .ok (.iload_n 1, 1) := by decide +kernel
theorem d_Model_layStep_321 : decode b_Model_layStep 321 = .ok (.iaload, 1) := by decide +kernel
theorem d_Model_layStep_322 : decode b_Model_layStep 322 = .ok (.ifCond .lt 7, 3) := by decide +kernel
theorem d_Model_layStep_325 : decode b_Model_layStep 325 = .ok (.iconst 1, 1) := by decide +kernel
theorem d_Model_layStep_326 : decode b_Model_layStep 326 = .ok (.goto 4, 3) := by decide +kernel
theorem d_Model_layStep_329 : decode b_Model_layStep 329 = .ok (.iconst 0, 1) := by decide +kernel
theorem d_Model_layStep_330 : decode b_Model_layStep 330 = .ok (.iconst 0, 1) := by decide +kernel
theorem d_Model_layStep_331 : decode b_Model_layStep 331 = .ok (.iconst 0, 1) := by decide +kernel
theorem d_Model_layStep_332 : decode b_Model_layStep 332 = .ok (.invokevirtual 777, 3) := by decide +kernel
theorem d_Model_layStep_335 : decode b_Model_layStep 335 = .ok (.pop, 1) := by decide +kernel
theorem d_Model_layStep_336 : decode b_Model_layStep 336 = .ok (.return_, 1) := by decide +kernel
theorem d_Model_layStep_337 : decode b_Model_layStep 337 = .ok (.aload_n 0, 1) := by decide +kernel
theorem d_Model_layStep_338 : decode b_Model_layStep 338 = .ok (.bipush 31, 2) := by decide +kernel
theorem d_Model_layStep_340 : decode b_Model_layStep 340 = .ok (.aload_n 0, 1) := by decide +kernel
theorem d_Model_layStep_341 : decode b_Model_layStep 341 = .ok (.getfield 117, 3) := by decide +kernel
theorem d_Model_layStep_344 : decode b_Model_layStep 344 = .ok (.aload_n 0, 1) := by decide +kernel
theorem d_Model_layStep_345 : decode b_Model_layStep 345 = .ok (.getfield 144, 3) := by decide +kernel
theorem d_Model_layStep_348 : decode b_Model_layStep 348 = .ok (.iload_n 1, 1) := by decide +kernel
theorem d_Model_layStep_349 : decode b_Model_layStep 349 = .ok (.iaload, 1) := by decide +kernel
theorem d_Model_layStep_350 : decode b_Model_layStep 350 = .ok (.iaload, 1) := by decide +kernel
theorem d_Model_layStep_351 : decode b_Model_layStep 351 = .ok (.iconst 0, 1) := by decide +kernel
theorem d_Model_layStep_352 : decode b_Model_layStep 352 = .ok (.iconst 0, 1) := by decide +kernel
theorem d_Model_layStep_353 : decode b_Model_layStep 353 = .ok (.invokevirtual 777, 3) := by decide +kernel
theorem d_Model_layStep_356 : decode b_Model_layStep 356 = .ok (.pop, 1) := by decide +kernel
theorem d_Model_layStep_357 : decode b_Model_layStep 357 = .ok (.aload_n 0, 1) := by decide +kernel
theorem d_Model_layStep_358 : decode b_Model_layStep 358 = .ok (.aload_n 0, 1) := by decide +kernel
theorem d_Model_layStep_359 : decode b_Model_layStep 359 = .ok (.getfield 126, 3) := by decide +kernel
theorem d_Model_layStep_362 : decode b_Model_layStep 362 = .ok (.iload_n 1, 1) := by decide +kernel
theorem d_Model_layStep_363 : decode b_Model_layStep 363 = .ok (.iaload, 1) := by decide +kernel
theorem d_Model_layStep_364 : decode b_Model_layStep 364 = .ok (.invokevirtual 774, 3) := by decide +kernel
theorem d_Model_layStep_367 : decode b_Model_layStep 367 = .ok (.aload_n 0, 1) := by decide +kernel
theorem d_Model_layStep_368 : decode b_Model_layStep 368 = .ok (.bipush 32, 2) := by decide +kernel
theorem d_Model_layStep_370 : decode b_Model_layStep 370 = .ok (.aload_n 0, 1) := by decide +kernel
theorem d_Model_layStep_371 : decode b_Model_layStep 371 = .ok (.getfield 117, 3) := by decide +kernel
theorem d_Model_layStep_374 : decode b_Model_layStep 374 = .ok (.aload_n 0, 1) := by decide +kernel
theorem d_Model_layStep_375 : decode b_Model_layStep 375 = .ok (.getfield 144, 3) := by decide +kernel
theorem d_Model_layStep_378 : decode b_Model_layStep 378 = .ok (.iload_n 1, 1) := by decide +kernel
theorem d_Model_layStep_379 : decode b_Model_layStep 379 = .ok (.iaload, 1) := by decide +kernel
theorem d_Model_layStep_380 : decode b_Model_layStep 380 = .ok (.iaload, 1) := by decide +kernel
theorem d_Model_layStep_381 : decode b_Model_layStep 381 = .ok (.iconst 0, 1) := by decide +kernel
theorem d_Model_layStep_382 : decode b_Model_layStep 382 = .ok (.iconst 0, 1) := by decide +kernel
theorem d_Model_layStep_383 : decode b_Model_layStep 383 = .ok (.invokevirtual 777, 3) := by decide +kernel
theorem d_Model_layStep_386 : decode b_Model_layStep 386 = .ok (.pop, 1) := by decide +kernel
theorem d_Model_layStep_387 : decode b_Model_layStep 387 = .ok (.return_, 1) := by decide +kernel
theorem d_Model_layStep_388 : decode b_Model_layStep 388 = .ok (.aload_n 0, 1) := by decide +kernel
theorem d_Model_layStep_389 : decode b_Model_layStep 389 = .ok (.bipush 33, 2) := by decide +kernel
theorem d_Model_layStep_391 : decode b_Model_layStep 391 = .ok (.aload_n 0, 1) := by decide +kernel
theorem d_Model_layStep_392 : decode b_Model_layStep 392 = .ok (.getfield 117, 3) := by decide +kernel
theorem d_Model_layStep_395 : decode b_Model_layStep 395 = .ok (.aload_n 0, 1) := by decide +kernel
theorem d_Model_layStep_396 : decode b_Model_layStep 396 = .ok (.getfield 144, 3) := by decide +kernel
theorem d_Model_layStep_399 : decode b_Model_layStep 399 = .ok (.iload_n 1, 1) := by decide +kernel
theorem d_Model_layStep_400 : decode b_Model_layStep 400 = .ok (.iaload, 1) := by decide +kernel
theorem d_Model_layStep_401 : decode b_Model_layStep 401 = .ok (.iaload, 1) := by decide +kernel
theorem d_Model_layStep_402 : decode b_Model_layStep 402 = .ok (.iconst 0, 1) := by decide +kernel
theorem d_Model_layStep_403 : decode b_Model_layStep 403 = .ok (.iconst 0, 1) := by decide +kernel
theorem d_Model_layStep_404 : decode b_Model_layStep 404 = .ok (.invokevirtual 777, 3) := by decide +kernel
theorem d_Model_layStep_407 : decode b_Model_layStep 407 = .ok (.pop, 1) := by decide +kernel
theorem d_Model_layStep_408 : decode b_Model_layStep 408 = .ok (.return_, 1) := by decide +kernel
theorem d_Model_layStep_409 : decode b_Model_layStep 409 = .ok (.aload_n 0, 1) := by decide +kernel
theorem d_Model_layStep_410 : decode b_Model_layStep 410 = .ok (.bipush 34, 2) := by decide +kernel
theorem d_Model_layStep_412 : decode b_Model_layStep 412 = .ok (.iconst 0, 1) := by decide +kernel
theorem d_Model_layStep_413 : decode b_Model_layStep 413 = .ok (.aload_n 0, 1) := by decide +kernel
theorem d_Model_layStep_414 : decode b_Model_layStep 414 = .ok (.getfield 153, 3) := by decide +kernel
theorem d_Model_layStep_417 : decode b_Model_layStep 417 = .ok (.iload_n 1, 1) := by decide +kernel
theorem d_Model_layStep_418 : decode b_Model_layStep 418 = .ok (.iaload, 1) := by decide +kernel
theorem d_Model_layStep_419 : decode b_Model_layStep 419 = .ok (.iconst 0, 1) := by decide +kernel
theorem d_Model_layStep_420 : decode b_Model_layStep 420 = .ok (.invokevirtual 777, 3) := by decide +kernel
theorem d_Model_layStep_423 : decode b_Model_layStep 423 = .ok (.istore_n 3, 1) := by decide +kernel
theorem d_Model_layStep_424 : decode b_Model_layStep 424 = .ok (.aload_n 0, 1) := by decide +kernel
theorem d_Model_layStep_425 : decode b_Model_layStep 425 = .ok (.aload_n 0, 1) := by decide +kernel
theorem d_Model_layStep_426 : decode b_Model_layStep 426 = .ok (.getfield 126, 3) := by decide +kernel
theorem d_Model_layStep_429 : decode b_Model_layStep 429 = .ok (.iload_n 1, 1) := by decide +kernel
theorem d_Model_layStep_430 : decode b_Model_layStep 430 = .ok (.iaload, 1) := by decide +kernel
theorem d_Model_layStep_431 : decode b_Model_layStep 431 = .ok (.invokevirtual 774, 3) := by decide +kernel
theorem d_Model_layStep_434 : decode b_Model_layStep 434 = .ok (.aload_n 0, 1) := by decide +kernel
theorem d_Model_layStep_435 : decode b_Model_layStep 435 = .ok (.bipush 35, 2) := by decide +kernel
theorem d_Model_layStep_437 : decode b_Model_layStep 437 = .ok (.iconst 0, 1) := by decide +kernel
theorem d_Model_layStep_438 : decode b_Model_layStep 438 = .ok (.iconst 0, 1) := by decide +kernel
theorem d_Model_layStep_439 : decode b_Model_layStep 439 = .ok (.iconst 0, 1) := by decide +kernel
theorem d_Model_layStep_440 : decode b_Model_layStep 440 = .ok (.invokevirtual 777, 3) := by decide +kernel
theorem d_Model_layStep_443 : decode b_Model_layStep 443 = .ok (.pop, 1) := by decide +kernel
theorem d_Model_layStep_444 : decode b_Model_layStep 444 = .ok (.aload_n 0, 1) := by decide +kernel
theorem d_Model_layStep_445 : decode b_Model_layStep 445 = .ok (.bipush 27, 2) := by decide +kernel
theorem d_Model_layStep_447 : decode b_Model_layStep 447 = .ok (.iconst 0, 1) := by decide +kernel
theorem d_Model_layStep_448 : decode b_Model_layStep 448 = .ok (.iconst 0, 1) := by decide +kernel
theorem d_Model_layStep_449 : decode b_Model_layStep 449 = .ok (.iconst 0, 1) := by decide +kernel
theorem d_Model_layStep_450 : decode b_Model_layStep 450 = .ok (.invokevirtual 777, 3) := by decide +kernel
theorem d_Model_layStep_453 : decode b_Model_layStep 453 = .ok (.istore 4, 2) := by decide +kernel
theorem d_Model_layStep_455 : decode b_Model_layStep 455 = .ok (.aload_n 0, 1) := by decide +kernel
theorem d_Model_layStep_456 : decode b_Model_layStep 456 = .ok (.getfield 198, 3) := by decide +kernel
theorem d_Model_layStep_459 : decode b_Model_layStep 459 = .ok (.iload_n 3, 1) := by decide +kernel
theorem d_Model_layStep_460 : decode b_Model_layStep 460 = .ok (.aload_n 0, 1) := by decide +kernel
theorem d_Model_layStep_461 : decode b_Model_layStep 461 = .ok (.getfield 771, 3) := by decide +kernel
theorem d_Model_layStep_464 : decode b_Model_layStep 464 = .ok (.iastore, 1) := by decide +kernel
theorem d_Model_layStep_465 : decode b_Model_layStep 465 = .ok (.aload_n 0, 1) := by decide +kernel
theorem d_Model_layStep_466 : decode b_Model_layStep 466 = .ok (.aload_n 0, 1) := by decide +kernel
theorem d_Model_layStep_467 : decode b_Model_layStep 467 = .ok (.getfield 129, 3) := by decide +kernel
theorem d_Model_layStep_470 : decode b_Model_layStep 470 = .ok (.iload_n 1, 1) := by decide +kernel
theorem d_Model_layStep_471 : decode b_Model_layStep 471 = .ok (.iaload, 1) := by decide +kernel
theorem d_Model_layStep_472 : decode b_Model_layStep 472 = .ok (.invokevirtual 774, 3) := by decide +kernel
theorem d_Model_layStep_475 : decode b_Model_layStep 475 = .ok (.aload_n 0, 1) := by decide +kernel
theorem d_Model_layStep_476 : decode b_Model_layStep 476 = .ok (.getfield 198, 3) := by decide +kernel
theorem d_Model_layStep_479 : decode b_Model_layStep 479 = .ok (.iload 4, 2) := by decide +kernel
theorem d_Model_layStep_481 : decode b_Model_layStep 481 = .ok (.aload_n 0, 1) := by decide +kernel
theorem d_Model_layStep_482 : decode b_Model_layStep 482 = .ok (.getfield 771, 3) := by decide +kernel
theorem d_Model_layStep_485 : decode b_Model_layStep 485 = .ok (.iastore, 1) := by decide +kernel
theorem d_Model_layStep_486 : decode b_Model_layStep 486 = .ok (.return_, 1) := by decide +kernel
theorem d_Model_layStep_487 : decode b_Model_layStep 487 = .ok (.aload_n 0, 1) := by decide +kernel
theorem d_Model_layStep_488 : decode b_Model_layStep 488 = .ok (.aload_n 0, 1) := by decide +kernel
theorem d_Model_layStep_489 : decode b_Model_layStep 489 = .ok (.getfield 129, 3) := by decide +kernel
theorem d_Model_layStep_492 : decode b_Model_layStep 492 = .ok (.iload_n 1, 1) := by decide +kernel
theorem d_Model_layStep_493 : decode b_Model_layStep 493 = .ok (.iaload, 1) := by decide +kernel
theorem d_Model_layStep_494 : decode b_Model_layStep 494 = .ok (.invokevirtual 784, 3) := by decide +kernel
theorem d_Model_layStep_497 : decode b_Model_layStep 497 = .ok (.aload_n 0, 1) := by decide +kernel
theorem d_Model_layStep_498 : decode b_Model_layStep 498 = .ok (.aload_n 0, 1) := by decide +kernel
theorem d_Model_layStep_499 : decode b_Model_layStep 499 = .ok (.getfield 126, 3) := by decide +kernel
theorem d_Model_layStep_502 : decode b_Model_layStep 502 = .ok (.iload_n 1, 1) := by decide +kernel
theorem d_Model_layStep_503 : decode b_Model_layStep 503 = .ok (.iaload, 1) := by decide +kernel
theorem d_Model_layStep_504 : decode b_Model_layStep 504 = .ok (.invokevirtual 787, 3) := by decide +kernel
theorem ml_Model_787 : Cond.methodLink R_Model 787 ⟨"PointerHouseModel", "layPlace", "(I)V"⟩ ∈ lw_good := lg_right (i := 2731) (by decide +kernel) rfl
theorem d_Model_layStep_507 : decode b_Model_layStep 507 = .ok (.return_, 1) := by decide +kernel
theorem d_Model_layStep_508 : decode b_Model_layStep 508 = .ok (.aload_n 0, 1) := by decide +kernel
theorem d_Model_layStep_509 : decode b_Model_layStep 509 = .ok (.aload_n 0, 1) := by decide +kernel
theorem d_Model_layStep_510 : decode b_Model_layStep 510 = .ok (.getfield 126, 3) := by decide +kernel
theorem d_Model_layStep_513 : decode b_Model_layStep 513 = .ok (.iload_n 1, 1) := by decide +kernel
theorem d_Model_layStep_514 : decode b_Model_layStep 514 = .ok (.iaload, 1) := by decide +kernel
theorem d_Model_layStep_515 : decode b_Model_layStep 515 = .ok (.invokevirtual 784, 3) := by decide +kernel
theorem d_Model_layStep_518 : decode b_Model_layStep 518 = .ok (.aload_n 0, 1) := by decide +kernel
theorem d_Model_layStep_519 : decode b_Model_layStep 519 = .ok (.aload_n 0, 1) := by decide +kernel
theorem d_Model_layStep_520 : decode b_Model_layStep 520 = .ok (.getfield 120, 3) := by decide +kernel
theorem d_Model_layStep_523 : decode b_Model_layStep 523 = .ok (.iload_n 1, 1) := by decide +kernel
theorem d_Model_layStep_524 : decode b_Model_layStep 524 = .ok (.iaload, 1) := by decide +kernel
theorem d_Model_layStep_525 : decode b_Model_layStep 525 = .ok (.bipush 24, 2) := by decide +kernel
theorem d_Model_layStep_527 : decode b_Model_layStep 527 = .ok (.if_icmp .ne 8, 3) := by decide +kernel
theorem d_Model_layStep_530 : decode b_Model_layStep 530 = .ok (.bipush 29, 2) := by decide +kernel
theorem d_Model_layStep_532 : decode b_Model_layStep 532 = .ok (.goto 21, 3) := by decide +kernel
theorem d_Model_layStep_535 : decode b_Model_layStep 535 = .ok (.aload_n 0, 1) := by decide +kernel
theorem d_Model_layStep_536 : decode b_Model_layStep 536 = .ok (.getfield 120, 3) := by decide +kernel
theorem d_Model_layStep_539 : decode b_Model_layStep 539 = .ok (.iload_n 1, 1) := by decide +kernel
theorem d_Model_layStep_540 : decode b_Model_layStep 540 = .ok (.iaload, 1) := by decide +kernel
theorem d_Model_layStep_541 : decode b_Model_layStep 541 = .ok (.bipush 25, 2) := by decide +kernel
theorem d_Model_layStep_543 : decode b_Model_layStep 543 = .ok (.if_icmp .ne 8, 3) := by decide +kernel
theorem d_Model_layStep_546 : decode b_Model_layStep 546 = .ok (.bipush 30, 2) := by decide +kernel
theorem d_Model_layStep_548 : decode b_Model_layStep 548 = .ok (.goto 5, 3) := by decide +kernel
theorem d_Model_layStep_551 : decode b_Model_layStep 551 = .ok (.bipush 36, 2) := by decide +kernel
theorem d_Model_layStep_553 : decode b_Model_layStep 553 = .ok (.aload_n 0, 1) := by decide +kernel
theorem d_Model_layStep_554 : decode b_Model_layStep 554 = .ok (.getfield 150, 3) := by decide +kernel
theorem d_Model_layStep_557 : decode b_Model_layStep 557 = .ok (.iload_n 1, 1) := by decide +kernel
theorem d_Model_layStep_558 : decode b_Model_layStep 558 = .ok (.iaload, 1) := by decide +kernel
theorem d_Model_layStep_559 : decode b_Model_layStep 559 = .ok (.iconst (-1), 1) := by decide +kernel
theorem d_Model_layStep_560 : decode b_Model_layStep 560 = .ok (.if_icmp .ne 7, 3) := by decide +kernel
theorem d_Model_layStep_563 : decode b_Model_layStep 563 = .ok (.iconst 0, 1) := by decide +kernel
theorem d_Model_layStep_564 : decode b_Model_layStep 564 = .ok (.goto 4, 3) := by decide +kernel
theorem d_Model_layStep_567 : decode b_Model_layStep 567 = .ok (.iconst 1, 1) := by decide +kernel
theorem d_Model_layStep_568 : decode b_Model_layStep 568 = .ok (.iconst 0, 1) := by decide +kernel
theorem d_Model_layStep_569 : decode b_Model_layStep 569 = .ok (.iconst 0, 1) := by decide +kernel
theorem d_Model_layStep_570 : decode b_Model_layStep 570 = .ok (.invokevirtual 777, 3) := by decide +kernel
theorem d_Model_layStep_573 : decode b_Model_layStep 573 = .ok (.pop, 1) := by decide +kernel
theorem d_Model_layStep_574 : decode b_Model_layStep 574 = .ok (.return_, 1) := by decide +kernel
section GV
variable {p : Program} {l : Launch} {e : Env} {R : Room} {s : State} {m : MethodId} {args : Array Value} {below : List Frame} {meth : Method} {c : Code} {H : Heap} {locs : List Loc} {cells slots : Nat} {Q : State → Prop}
variable {cc : ByteArray} {pc : Nat} {ls : Array Slot} {rest st0 : List Value} {dC : Nat → ClassId} {dI : Nat → Nat → Nat} {A : Nat → Prop} {ad ea ev : Nat → Nat} {km : Nat → ClassId} {T T' : gSt} {H0 : Heap}
theorem rd_Model_765 (hx : p.tables.exec = Jvm.exec) (hb : c.code = cc) (hT : ∀ w ∈ lw_good, w.before args s = true) (hown : s.vm.findClass R_Model = some m.cls) (hK : va_K (dC, dI) cls_all (gT LM km) s) (hP : va_P (dC, dI) cls_all (gW LM ad km T) H) (hdg : decode cc pc = .ok (.getfield 765, 3)) (kk : W p l e R s m args below meth c H locs cells slots Q (F0 m (pc + 3) ls (.int (T.1 91 0) :: rest))) : W p l e R s m args below meth c H locs cells slots Q (F0 m pc ls (.ref (ad 0) :: rest)) := gw_get hx hb hT i_Model hown hK hP 0 91 91 (Nat.le_of_ble_eq_true rfl) rfl rfl (Nat.le_of_ble_eq_true rfl) rfl (gv_i rfl) (hT _ fl_Model_765) (fun _ h9 => h9) hdg kk
theorem wr_Model_765 (hx : p.tables.exec = Jvm.exec) (hb : c.code = cc) (hT : ∀ w ∈ lw_good, w.before args s = true) (hown : s.vm.findClass R_Model = some m.cls) (hK : va_K (dC, dI) cls_all (gT LM km) s) (hP : va_P (dC, dI) cls_all (gW LM ad km T) H) (hD : va_D A (gW LM ad km T)) (hS : va_S A H0 H locs) {v : Int32} (hdg : decode cc pc = .ok (.putfield 765, 3)) (kk : ∀ (T1 : gSt), T1 = sI T 91 0 v → ∀ (H1 : Heap) (locs1 : List Loc), va_P (dC, dI) cls_all (gW LM ad km T1) H1 → va_D A (gW LM ad km T1) → va_S A H0 H1 locs1 → W p l e R s m args below meth c H1 locs1 cells slots Q (F0 m (pc + 3) ls rest)) : W p l e R s m args below meth c H locs cells slots Q (F0 m pc ls (.int v :: .ref (ad 0) :: rest)) := gw_puti okM hx hb hT i_Model t_Model t_Model_ok n_Model hown hK hP hD hS 0 91 91 (Nat.le_of_ble_eq_true rfl) rfl rfl (Nat.le_of_ble_eq_true rfl) rfl rfl (hT _ fl_Model_765) (fun _ h9 => h9) rfl (ty := .int) (by decide +kernel) rfl rfl hdg kk
theorem rd_Model_195 (hx : p.tables.exec = Jvm.exec) (hb : c.code = cc) (hT : ∀ w ∈ lw_good, w.before args s = true) (hown : s.vm.findClass R_Model = some m.cls) (hK : va_K (dC, dI) cls_all (gT LM km) s) (hP : va_P (dC, dI) cls_all (gW LM ad km T) H) (hdg : decode cc pc = .ok (.getfield 195, 3)) (kk : W p l e R s m args below meth c H locs cells slots Q (F0 m (pc + 3) ls (.ref (ad 61) :: rest))) : W p l e R s m args below meth c H locs cells slots Q (F0 m pc ls (.ref (ad 0) :: rest)) := gw_get hx hb hT i_Model hown hK hP 0 96 96 (Nat.le_of_ble_eq_true rfl) rfl rfl (Nat.le_of_ble_eq_true rfl) rfl (gv_a rfl) (hT _ fl_Model_195) (fun _ h9 => h9) hdg kk
theorem rd_Model_771 (hx : p.tables.exec = Jvm.exec) (hb : c.code = cc) (hT : ∀ w ∈ lw_good, w.before args s = true) (hown : s.vm.findClass R_Model = some m.cls) (hK : va_K (dC, dI) cls_all (gT LM km) s) (hP : va_P (dC, dI) cls_all (gW LM ad km T) H) (hdg : decode cc pc = .ok (.getfield 771, 3)) (kk : W p l e R s m args below meth c H locs cells slots Q (F0 m (pc + 3) ls (.int (T.1 95 0) :: rest))) : W p l e R s m args below meth c H locs cells slots Q (F0 m pc ls (.ref (ad 0) :: rest)) := gw_get hx hb hT i_Model hown hK hP 0 95 95 (Nat.le_of_ble_eq_true rfl) rfl rfl (Nat.le_of_ble_eq_true rfl) rfl (gv_i rfl) (hT _ fl_Model_771) (fun _ h9 => h9) hdg kk
theorem laM_60 (hx : p.tables.exec = Jvm.exec) (hb : c.code = cc) (hK : va_K (dC, dI) cls_all (gT LM km) s) (hP : va_P (dC, dI) cls_all (gW LM ad km T) H) {x : Int32} (hin : inb x 12000) (hdg : decode cc pc = .ok (.iaload, 1)) (kk : W p l e R s m args below meth c H locs cells slots Q (F0 m (pc + 1) ls (.int (T.1 96 x.toNatClampNeg) :: rest))) : W p l e R s m args below meth c H locs cells slots Q (F0 m pc ls (.int x :: .ref (ad 61) :: rest)) := gw_iald hx hb hK hP 60 96 12000 61 (Nat.le_of_ble_eq_true rfl) rfl rfl rfl rfl rfl hin hdg kk
theorem saM_60 (hx : p.tables.exec = Jvm.exec) (hb : c.code = cc) (hK : va_K (dC, dI) cls_all (gT LM km) s) (hP : va_P (dC, dI) cls_all (gW LM ad km T) H) (hD : va_D A (gW LM ad km T)) (hS : va_S A H0 H locs) {x : Int32} {v : Int32} (hin : inb x 12000) (hdg : decode cc pc = .ok (.iastore, 1)) (kk : ∀ (T1 : gSt), T1 = sI T 96 x.toNatClampNeg v → ∀ (H1 : Heap) (locs1 : List Loc), va_P (dC, dI) cls_all (gW LM ad km T1) H1 → va_D A (gW LM ad km T1) → va_S A H0 H1 locs1 → W p l e R s m args below meth c H1 locs1 cells slots Q (F0 m (pc + 1) ls rest)) : W p l e R s m args below meth c H locs cells slots Q (F0 m pc ls (.int v :: .int x :: .ref (ad 61) :: rest)) := gw_iast okM hx hb hK hP hD hS 60 96 12000 61 (Nat.le_of_ble_eq_true rfl) rfl rfl rfl rfl rfl hin hdg kk
theorem rd_Model_198 (hx : p.tables.exec = Jvm.exec) (hb : c.code = cc) (hT : ∀ w ∈ lw_good, w.before args s = true) (hown : s.vm.findClass R_Model = some m.cls) (hK : va_K (dC, dI) cls_all (gT LM km) s) (hP : va_P (dC, dI) cls_all (gW LM ad km T) H) (hdg : decode cc pc = .ok (.getfield 198, 3)) (kk : W p l e R s m args below meth c H locs cells slots Q (F0 m (pc + 3) ls (.ref (ad 62) :: rest))) : W p l e R s m args below meth c H locs cells slots Q (F0 m pc ls (.ref (ad 0) :: rest)) := gw_get hx hb hT i_Model hown hK hP 0 97 97 (Nat.le_of_ble_eq_true rfl) rfl rfl (Nat.le_of_ble_eq_true rfl) rfl (gv_a rfl) (hT _ fl_Model_198) (fun _ h9 => h9) hdg kk
theorem laM_61 (hx : p.tables.exec = Jvm.exec) (hb : c.code = cc) (hK : va_K (dC, dI) cls_all (gT LM km) s) (hP : va_P (dC, dI) cls_all (gW LM ad km T) H) {x : Int32} (hin : inb x 12000) (hdg : decode cc pc = .ok (.iaload, 1)) (kk : W p l e R s m args below meth c H locs cells slots Q (F0 m (pc + 1) ls (.int (T.1 97 x.toNatClampNeg) :: rest))) : W p l e R s m args below meth c H locs cells slots Q (F0 m pc ls (.int x :: .ref (ad 62) :: rest)) := gw_iald hx hb hK hP 61 97 12000 62 (Nat.le_of_ble_eq_true rfl) rfl rfl rfl rfl rfl hin hdg kk
theorem saM_61 (hx : p.tables.exec = Jvm.exec) (hb : c.code = cc) (hK : va_K (dC, dI) cls_all (gT LM km) s) (hP : va_P (dC, dI) cls_all (gW LM ad km T) H) (hD : va_D A (gW LM ad km T)) (hS : va_S A H0 H locs) {x : Int32} {v : Int32} (hin : inb x 12000) (hdg : decode cc pc = .ok (.iastore, 1)) (kk : ∀ (T1 : gSt), T1 = sI T 97 x.toNatClampNeg v → ∀ (H1 : Heap) (locs1 : List Loc), va_P (dC, dI) cls_all (gW LM ad km T1) H1 → va_D A (gW LM ad km T1) → va_S A H0 H1 locs1 → W p l e R s m args below meth c H1 locs1 cells slots Q (F0 m (pc + 1) ls rest)) : W p l e R s m args below meth c H locs cells slots Q (F0 m pc ls (.int v :: .int x :: .ref (ad 62) :: rest)) := gw_iast okM hx hb hK hP hD hS 61 97 12000 62 (Nat.le_of_ble_eq_true rfl) rfl rfl rfl rfl rfl hin hdg kk
theorem rd_Model_201 (hx : p.tables.exec = Jvm.exec) (hb : c.code = cc) (hT : ∀ w ∈ lw_good, w.before args s = true) (hown : s.vm.findClass R_Model = some m.cls) (hK : va_K (dC, dI) cls_all (gT LM km) s) (hP : va_P (dC, dI) cls_all (gW LM ad km T) H) (hdg : decode cc pc = .ok (.getfield 201, 3)) (kk : W p l e R s m args below meth c H locs cells slots Q (F0 m (pc + 3) ls (.ref (ad 63) :: rest))) : W p l e R s m args below meth c H locs cells slots Q (F0 m pc ls (.ref (ad 0) :: rest)) := gw_get hx hb hT i_Model hown hK hP 0 98 98 (Nat.le_of_ble_eq_true rfl) rfl rfl (Nat.le_of_ble_eq_true rfl) rfl (gv_a rfl) (hT _ fl_Model_201) (fun _ h9 => h9) hdg kk
theorem laM_62 (hx : p.tables.exec = Jvm.exec) (hb : c.code = cc) (hK : va_K (dC, dI) cls_all (gT LM km) s) (hP : va_P (dC, dI) cls_all (gW LM ad km T) H) {x : Int32} (hin : inb x 12000) (hdg : decode cc pc = .ok (.iaload, 1)) (kk : W p l e R s m args below meth c H locs cells slots Q (F0 m (pc + 1) ls (.int (T.1 98 x.toNatClampNeg) :: rest))) : W p l e R s m args below meth c H locs cells slots Q (F0 m pc ls (.int x :: .ref (ad 63) :: rest)) := gw_iald hx hb hK hP 62 98 12000 63 (Nat.le_of_ble_eq_true rfl) rfl rfl rfl rfl rfl hin hdg kk
theorem saM_62 (hx : p.tables.exec = Jvm.exec) (hb : c.code = cc) (hK : va_K (dC, dI) cls_all (gT LM km) s) (hP : va_P (dC, dI) cls_all (gW LM ad km T) H) (hD : va_D A (gW LM ad km T)) (hS : va_S A H0 H locs) {x : Int32} {v : Int32} (hin : inb x 12000) (hdg : decode cc pc = .ok (.iastore, 1)) (kk : ∀ (T1 : gSt), T1 = sI T 98 x.toNatClampNeg v → ∀ (H1 : Heap) (locs1 : List Loc), va_P (dC, dI) cls_all (gW LM ad km T1) H1 → va_D A (gW LM ad km T1) → va_S A H0 H1 locs1 → W p l e R s m args below meth c H1 locs1 cells slots Q (F0 m (pc + 1) ls rest)) : W p l e R s m args below meth c H locs cells slots Q (F0 m pc ls (.int v :: .int x :: .ref (ad 63) :: rest)) := gw_iast okM hx hb hK hP hD hS 62 98 12000 63 (Nat.le_of_ble_eq_true rfl) rfl rfl rfl rfl rfl hin hdg kk
theorem rd_Model_204 (hx : p.tables.exec = Jvm.exec) (hb : c.code = cc) (hT : ∀ w ∈ lw_good, w.before args s = true) (hown : s.vm.findClass R_Model = some m.cls) (hK : va_K (dC, dI) cls_all (gT LM km) s) (hP : va_P (dC, dI) cls_all (gW LM ad km T) H) (hdg : decode cc pc = .ok (.getfield 204, 3)) (kk : W p l e R s m args below meth c H locs cells slots Q (F0 m (pc + 3) ls (.ref (ad 64) :: rest))) : W p l e R s m args below meth c H locs cells slots Q (F0 m pc ls (.ref (ad 0) :: rest)) := gw_get hx hb hT i_Model hown hK hP 0 99 99 (Nat.le_of_ble_eq_true rfl) rfl rfl (Nat.le_of_ble_eq_true rfl) rfl (gv_a rfl) (hT _ fl_Model_204) (fun _ h9 => h9) hdg kk
theorem laM_63 (hx : p.tables.exec = Jvm.exec) (hb : c.code = cc) (hK : va_K (dC, dI) cls_all (gT LM km) s) (hP : va_P (dC, dI) cls_all (gW LM ad km T) H) {x : Int32} (hin : inb x 12000) (hdg : decode cc pc = .ok (.iaload, 1)) (kk : W p l e R s m args below meth c H locs cells slots Q (F0 m (pc + 1) ls (.int (T.1 99 x.toNatClampNeg) :: rest))) : W p l e R s m args below meth c H locs cells slots Q (F0 m pc ls (.int x :: .ref (ad 64) :: rest)) := gw_iald hx hb hK hP 63 99 12000 64 (Nat.le_of_ble_eq_true rfl) rfl rfl rfl rfl rfl hin hdg kk
theorem saM_63 (hx : p.tables.exec = Jvm.exec) (hb : c.code = cc) (hK : va_K (dC, dI) cls_all (gT LM km) s) (hP : va_P (dC, dI) cls_all (gW LM ad km T) H) (hD : va_D A (gW LM ad km T)) (hS : va_S A H0 H locs) {x : Int32} {v : Int32} (hin : inb x 12000) (hdg : decode cc pc = .ok (.iastore, 1)) (kk : ∀ (T1 : gSt), T1 = sI T 99 x.toNatClampNeg v → ∀ (H1 : Heap) (locs1 : List Loc), va_P (dC, dI) cls_all (gW LM ad km T1) H1 → va_D A (gW LM ad km T1) → va_S A H0 H1 locs1 → W p l e R s m args below meth c H1 locs1 cells slots Q (F0 m (pc + 1) ls rest)) : W p l e R s m args below meth c H locs cells slots Q (F0 m pc ls (.int v :: .int x :: .ref (ad 64) :: rest)) := gw_iast okM hx hb hK hP hD hS 63 99 12000 64 (Nat.le_of_ble_eq_true rfl) rfl rfl rfl rfl rfl hin hdg kk
theorem wr_Model_771 (hx : p.tables.exec = Jvm.exec) (hb : c.code = cc) (hT : ∀ w ∈ lw_good, w.before args s = true) (hown : s.vm.findClass R_Model = some m.cls) (hK : va_K (dC, dI) cls_all (gT LM km) s) (hP : va_P (dC, dI) cls_all (gW LM ad km T) H) (hD : va_D A (gW LM ad km T)) (hS : va_S A H0 H locs) {v : Int32} (hdg : decode cc pc = .ok (.putfield 771, 3)) (kk : ∀ (T1 : gSt), T1 = sI T 95 0 v → ∀ (H1 : Heap) (locs1 : List Loc), va_P (dC, dI) cls_all (gW LM ad km T1) H1 → va_D A (gW LM ad km T1) → va_S A H0 H1 locs1 → W p l e R s m args below meth c H1 locs1 cells slots Q (F0 m (pc + 3) ls rest)) : W p l e R s m args below meth c H locs cells slots Q (F0 m pc ls (.int v :: .ref (ad 0) :: rest)) := gw_puti okM hx hb hT i_Model t_Model t_Model_ok n_Model hown hK hP hD hS 0 95 95 (Nat.le_of_ble_eq_true rfl) rfl rfl (Nat.le_of_ble_eq_true rfl) rfl rfl (hT _ fl_Model_771) (fun _ h9 => h9) rfl (ty := .int) (by decide +kernel) rfl rfl hdg kk
theorem rd_Model_87 (hx : p.tables.exec = Jvm.exec) (hb : c.code = cc) (hT : ∀ w ∈ lw_good, w.before args s = true) (hown : s.vm.findClass R_Model = some m.cls) (hK : va_K (dC, dI) cls_all (gT LM km) s) (hP : va_P (dC, dI) cls_all (gW LM ad km T) H) (hdg : decode cc pc = .ok (.getfield 87, 3)) (kk : W p l e R s m args below meth c H locs cells slots Q (F0 m (pc + 3) ls (.ref (ad 25) :: rest))) : W p l e R s m args below meth c H locs cells slots Q (F0 m pc ls (.ref (ad 0) :: rest)) := gw_get hx hb hT i_Model hown hK hP 0 36 36 (Nat.le_of_ble_eq_true rfl) rfl rfl (Nat.le_of_ble_eq_true rfl) rfl (gv_a rfl) (hT _ fl_Model_87) (fun _ h9 => h9) hdg kk
theorem laM_24 (hx : p.tables.exec = Jvm.exec) (hb : c.code = cc) (hK : va_K (dC, dI) cls_all (gT LM km) s) (hP : va_P (dC, dI) cls_all (gW LM ad km T) H) {x : Int32} (hin : inb x 24) (hdg : decode cc pc = .ok (.iaload, 1)) (kk : W p l e R s m args below meth c H locs cells slots Q (F0 m (pc + 1) ls (.int (T.1 36 x.toNatClampNeg) :: rest))) : W p l e R s m args below meth c H locs cells slots Q (F0 m pc ls (.int x :: .ref (ad 25) :: rest)) := gw_iald hx hb hK hP 24 36 24 25 (Nat.le_of_ble_eq_true rfl) rfl rfl rfl rfl rfl hin hdg kk
theorem saM_24 (hx : p.tables.exec = Jvm.exec) (hb : c.code = cc) (hK : va_K (dC, dI) cls_all (gT LM km) s) (hP : va_P (dC, dI) cls_all (gW LM ad km T) H) (hD : va_D A (gW LM ad km T)) (hS : va_S A H0 H locs) {x : Int32} {v : Int32} (hin : inb x 24) (hdg : decode cc pc = .ok (.iastore, 1)) (kk : ∀ (T1 : gSt), T1 = sI T 36 x.toNatClampNeg v → ∀ (H1 : Heap) (locs1 : List Loc), va_P (dC, dI) cls_all (gW LM ad km T1) H1 → va_D A (gW LM ad km T1) → va_S A H0 H1 locs1 → W p l e R s m args below meth c H1 locs1 cells slots Q (F0 m (pc + 1) ls rest)) : W p l e R s m args below meth c H locs cells slots Q (F0 m pc ls (.int v :: .int x :: .ref (ad 25) :: rest)) := gw_iast okM hx hb hK hP hD hS 24 36 24 25 (Nat.le_of_ble_eq_true rfl) rfl rfl rfl rfl rfl hin hdg kk
end GV
def mt_Model_fitAll (l : Launch) (dC : Nat → ClassId) (dI : Nat → Nat → Nat) (ea ev ad : Nat → Nat) (km : Nat → ClassId) (F : gF) (d : Nat) : Prop := ∀ (T : gSt) (p1 : Int32) (p2 : Int32) (p3 : Int32) (r : Int32) (rl : Int64) (T' : gSt), F 94 T [p1, p2, p3] [] = some (r, rl, T') → GMv l dC dI LM ad km ea ev y_Model_fitAll w_Model_fitAll (rmD d) [.ref (ad 0), .int p1, .int p2, .int p3] T T'
theorem pd_Model_fitAll : (y_Model_fitAll).cls = R_Model ∧ (y_Model_fitAll).cls ≠ "java/lang/invoke/MethodHandle" ∧ (y_Model_fitAll).cls ≠ "java/lang/invoke/VarHandle" ∧ (parseMethodDescriptor (y_Model_fitAll).desc).map (fun d => d.parameters.length) = some 3 := by decide +kernel
def mt_Model_lay (l : Launch) (dC : Nat → ClassId) (dI : Nat → Nat → Nat) (ea ev ad : Nat → Nat) (km : Nat → ClassId) (F : gF) (d : Nat) : Prop := ∀ (T : gSt) (p1 : Int32) (p2 : Int32) (p3 : Int32) (p4 : Int32) (r : Int32) (rl : Int64) (T' : gSt), F 97 T [p1, p2, p3, p4] [] = some (r, rl, T') → GMi l dC dI LM ad km ea ev y_Model_lay w_Model_lay (rmD d) [.ref (ad 0), .int p1, .int p2, .int p3, .int p4] T r T'
theorem pd_Model_lay : (y_Model_lay).cls = R_Model ∧ (y_Model_lay).cls ≠ "java/lang/invoke/MethodHandle" ∧ (y_Model_lay).cls ≠ "java/lang/invoke/VarHandle" ∧ (parseMethodDescriptor (y_Model_lay).desc).map (fun d => d.parameters.length) = some 4 := by decide +kernel
def mt_Model_layBlock (l : Launch) (dC : Nat → ClassId) (dI : Nat → Nat → Nat) (ea ev ad : Nat → Nat) (km : Nat → ClassId) (F : gF) (d : Nat) : Prop := ∀ (T : gSt) (p1 : Int32) (r : Int32) (rl : Int64) (T' : gSt), F 99 T [p1] [] = some (r, rl, T') → GMv l dC dI LM ad km ea ev y_Model_layBlock w_Model_layBlock (rmD d) [.ref (ad 0), .int p1] T T'
theorem pd_Model_layBlock : (y_Model_layBlock).cls = R_Model ∧ (y_Model_layBlock).cls ≠ "java/lang/invoke/MethodHandle" ∧ (y_Model_layBlock).cls ≠ "java/lang/invoke/VarHandle" ∧ (parseMethodDescriptor (y_Model_layBlock).desc).map (fun d => d.parameters.length) = some 1 := by decide +kernel
def mt_Model_layOut (l : Launch) (dC : Nat → ClassId) (dI : Nat → Nat → Nat) (ea ev ad : Nat → Nat) (km : Nat → ClassId) (F : gF) (d : Nat) : Prop := ∀ (T : gSt)  (r : Int32) (rl : Int64) (T' : gSt), F 98 T [] [] = some (r, rl, T') → GMv l dC dI LM ad km ea ev y_Model_layOut w_Model_layOut (rmD d) [.ref (ad 0)] T T'
theorem pd_Model_layOut : (y_Model_layOut).cls = R_Model ∧ (y_Model_layOut).cls ≠ "java/lang/invoke/MethodHandle" ∧ (y_Model_layOut).cls ≠ "java/lang/invoke/VarHandle" ∧ (parseMethodDescriptor (y_Model_layOut).desc).map (fun d => d.parameters.length) = some 0 := by decide +kernel
def mt_Model_layStep (l : Launch) (dC : Nat → ClassId) (dI : Nat → Nat → Nat) (ea ev ad : Nat → Nat) (km : Nat → ClassId) (F : gF) (d : Nat) : Prop := ∀ (T : gSt) (p1 : Int32) (r : Int32) (rl : Int64) (T' : gSt), F 100 T [p1] [] = some (r, rl, T') → GMv l dC dI LM ad km ea ev y_Model_layStep w_Model_layStep (rmD d) [.ref (ad 0), .int p1] T T'
theorem pd_Model_layStep : (y_Model_layStep).cls = R_Model ∧ (y_Model_layStep).cls ≠ "java/lang/invoke/MethodHandle" ∧ (y_Model_layStep).cls ≠ "java/lang/invoke/VarHandle" ∧ (parseMethodDescriptor (y_Model_layStep).desc).map (fun d => d.parameters.length) = some 1 := by decide +kernel
set_option maxHeartbeats 4000000 in
set_option maxRecDepth 100000 in
theorem sp_Model_checkAnd (l : Launch) (dC : Nat → ClassId) (dI : Nat → Nat → Nat) (ea ev ad : Nat → Nat) (km : Nat → ClassId) (F : gF) (nf d : Nat) (h_Model_fail : mt_Model_fail l dC dI ea ev ad km F d) (h_Model_check : mt_Model_check l dC dI ea ev ad km F d) (h_Model_bad : mt_Model_bad l dC dI ea ev ad km F d) (h_Model_known : mt_Model_known l dC dI ea ev ad km F d) (T0 : gSt) (p1 : Int32) (r0 : Int32) (rl0 : Int64) (T9 : gSt) (hR : rb_Model_checkAnd F nf T0 p1 = some (r0, rl0, T9)) : GMi l dC dI LM ad km ea ev y_Model_checkAnd w_Model_checkAnd (rmD (d + 1)) [.ref (ad 0), .int p1] T0 r0 T9 := by
  intro sz
  refine Met.ofW (cc := b_Model_checkAnd) (maxL := 5) (ret := (some .int)) (by decide) rfl ?_
  intro p e s m args below meth c s₁ B hml hv
  obtain ⟨rfl, hsz, hP, hK, hD0, hnw, henv⟩ := hv
  have hx := B.exec
  have hb := B.bytes
  have hr := B.returns
  have hT : ∀ w ∈ lw_good, w.before _ s = true := fun w h => atoms_spec (ws := w_Model_checkAnd) B.pre w (List.mem_cons_of_mem _ h)
  have hown : s.vm.findClass R_Model = some m.cls := findClass_of_methodNamed B.named
  subst hsz
  have hD := hD0.self (sz := s.heap.size)
  clear hD0
  generalize hAe : va_A (gW LM ad km T0) s.heap.size = A at hD henv ⊢
  have hA : ∀ q : Nat, s.heap.size ≤ q → A q := fun q h => by rw [← hAe]; exact Or.inr h
  have hS : va_S A s.heap s.heap [] := va_S.rf
  have hl := lv_entry ([.ref (ad 0), .int p1]) (n := 5) (Nat.le_of_ble_eq_true rfl)
  rw [lg_entry_eq]
  generalize (lg_sl ([.ref (ad 0), .int p1]) ++ List.replicate (5 - (lg_sl ([.ref (ad 0), .int p1])).length) Slot.unset).toArray = ls at hl ⊢
  have hl : lv_has ls 5 [(0, .ref (ad 0)), (1, .int p1)] := hl
  obtain ⟨G, hG⟩ : ∃ G : Nat → List (Nat × Value) → List Value → gSt → Prop, G = (fun pc lv stk T => ∀ (H : Heap) (locs : List Loc), va_P (dC, dI) cls_all (gW LM ad km T) H → va_D A (gW LM ad km T) → va_S A s.heap H locs → ∀ (ls : Array Slot), lv_has ls 5 lv → W p l e (headSpec w_Model_checkAnd (rmD (d + 1))).room s m ([.ref (ad 0), .int p1] : List Value).toArray below meth c H locs 0 0 (MQ below (va_Qi (fun (z : Int32) (_ : Unit) => z = r0) (fun _ t => gPost dC dI LM ad km T9 A t) A) ([.ref (ad 0), .int p1] : List Value).toArray s 0 0 A) (F0 m pc ls stk)) := ⟨_, rfl⟩
  have lb_108 : ∀ (T : gSt) (x3 : Int32) (x4 : Int32), rj_Model_checkAnd_108 F nf T x3 x4 = some (r0, rl0, T9) → G 108 [(0, .ref (ad 0)), (3, .int x3), (4, .int x4)] [] T := by
    intro T x3 x4 hR; unfold rj_Model_checkAnd_108 at hR; rw [hG]; intro H locs hP hD hS ls hl
    refine lv_aload_n hx hb d_Model_checkAnd_108 rfl (lv_at hl 0 rfl) ?_
    replace hR := bi_e hR
    obtain ⟨r24, l24, T24, hc24, hR⟩ := hR
    refine gcV_i (rest := []) ⟨hx, hb, hml, hown, hT⟩ (h_Model_bad _ _ _ _ hc24) (cwV 0 hT (gV ml_Model_385 im_Model_bad se_Model_bad ini_Model co_Model_bad) rfl rfl rfl pd_Model_bad ⟨rm_hi, rm_lo (Nat.le_of_ble_eq_true rfl)⟩) hK hP hD hS hA hnw henv (Nat.le_of_ble_eq_true rfl) rfl rfl hl.1 rfl (Nat.le_of_ble_eq_true rfl) d_Model_checkAnd_109 ⟨Nat.le_refl _, Nat.le_refl _⟩ (fun H locs hP hD hS => ?_)
    clear hc24
    refine lv_if_eq (tgt := 119) hx hb d_Model_checkAnd_112 (by decide) (fun c25 => ?_) (fun c25 => ?_)
    · replace hR := if_p c25 hR
      refine lv_aload_n hx hb d_Model_checkAnd_119 rfl (lv_at hl 0 rfl) ?_
      refine lv_iconst (v := 1) hx hb d_Model_checkAnd_120 (by decide) ?_
      refine lv_aload_n hx hb d_Model_checkAnd_121 rfl (lv_at hl 0 rfl) ?_
      refine rd_Model_159 hx hb hT hown hK hP d_Model_checkAnd_122 ?_
      refine lv_iload hx hb d_Model_checkAnd_125 (lv_at hl 2 rfl) ?_
      replace hR := gd_e hR
      obtain ⟨b26, hR⟩ := hR
      refine laM_48 hx hb hK hP b26 d_Model_checkAnd_127 ?_
      refine lv_iload_n hx hb d_Model_checkAnd_128 rfl (lv_at hl 1 rfl) ?_
      refine lv_iconst (v := (-1)) hx hb d_Model_checkAnd_129 (by decide) ?_
      refine lv_iconst (v := 0) hx hb d_Model_checkAnd_130 (by decide) ?_
      replace hR := bi_e hR
      obtain ⟨r27, l27, T27, hc27, hR⟩ := hR
      refine gcV_i (rest := []) ⟨hx, hb, hml, hown, hT⟩ (h_Model_known _ _ _ _ _ _ _ _ _ hc27) (cwV 5 hT (gV ml_Model_556 im_Model_known se_Model_known ini_Model co_Model_known) rfl rfl rfl pd_Model_known ⟨rm_hi, rm_lo (Nat.le_of_ble_eq_true rfl)⟩) hK hP hD hS hA hnw henv (Nat.le_of_ble_eq_true rfl) rfl rfl hl.1 rfl (Nat.le_of_ble_eq_true rfl) d_Model_checkAnd_131 ⟨Nat.le_refl _, Nat.le_refl _⟩ (fun H locs hP hD hS => ?_)
      clear hc27
      obtain ⟨e1, -, e3⟩ := re_e hR
      subst e1; subst e3
      exact W.iret (v := r27) hx hb hr (fun t ht hW => ⟨⟨r27, (), rfl, rfl, by rw [ht]; exact hP, va_K.moved hW.alike hK, hD⟩, hS.F ht⟩) hS.2.2 d_Model_checkAnd_134
    · replace hR := if_n c25 hR
      refine lv_iconst (v := 0) hx hb d_Model_checkAnd_115 (by decide) ?_
      refine lv_goto (tgt := 134) hx hb d_Model_checkAnd_116 (by decide) ?_
      obtain ⟨e1, -, e3⟩ := re_e hR
      subst e1; subst e3
      exact W.iret (v := (0 : Int32)) hx hb hr (fun t ht hW => ⟨⟨(0 : Int32), (), rfl, rfl, by rw [ht]; exact hP, va_K.moved hW.alike hK, hD⟩, hS.F ht⟩) hS.2.2 d_Model_checkAnd_134
  have lb_42 : ∀ (T : gSt) (x2 : Int32), rj_Model_checkAnd_42 F nf T x2 = some (r0, rl0, T9) → G 42 [(0, .ref (ad 0)), (2, .int x2)] [] T := by
    intro T x2 hR; unfold rj_Model_checkAnd_42 at hR; rw [hG]; intro H locs hP hD hS ls hl
    refine lv_aload_n hx hb d_Model_checkAnd_42 rfl (lv_at hl 0 rfl) ?_
    refine lv_iload_n hx hb d_Model_checkAnd_43 rfl (lv_at hl 1 rfl) ?_
    replace hR := bi_e hR
    obtain ⟨r10, l10, T10, hc10, hR⟩ := hR
    refine gcV_i (rest := []) ⟨hx, hb, hml, hown, hT⟩ (h_Model_check _ _ _ _ _ hc10) (cwV 1 hT (gV ml_Model_652 im_Model_check se_Model_check ini_Model co_Model_check) rfl rfl rfl pd_Model_check ⟨rm_hi, rm_lo (Nat.le_of_ble_eq_true rfl)⟩) hK hP hD hS hA hnw henv (Nat.le_of_ble_eq_true rfl) rfl rfl hl.1 rfl (Nat.le_of_ble_eq_true rfl) d_Model_checkAnd_44 ⟨Nat.le_refl _, Nat.le_refl _⟩ (fun H locs hP hD hS => ?_)
    clear hc10
    refine lv_istore_n (lv' := [(3, .int r10), (0, .ref (ad 0)), (2, .int x2)]) hx hb d_Model_checkAnd_47 rfl hl (by decide) rfl (fun ls hl => ?_)
    refine lv_aload_n hx hb d_Model_checkAnd_48 rfl (lv_at hl 1 rfl) ?_
    replace hR := bi_e hR
    obtain ⟨r11, l11, T11, hc11, hR⟩ := hR
    refine gcV_i (rest := []) ⟨hx, hb, hml, hown, hT⟩ (h_Model_bad _ _ _ _ hc11) (cwV 0 hT (gV ml_Model_385 im_Model_bad se_Model_bad ini_Model co_Model_bad) rfl rfl rfl pd_Model_bad ⟨rm_hi, rm_lo (Nat.le_of_ble_eq_true rfl)⟩) hK hP hD hS hA hnw henv (Nat.le_of_ble_eq_true rfl) rfl rfl hl.1 rfl (Nat.le_of_ble_eq_true rfl) d_Model_checkAnd_49 ⟨Nat.le_refl _, Nat.le_refl _⟩ (fun H locs hP hD hS => ?_)
    clear hc11
    refine lv_if_eq (tgt := 57) hx hb d_Model_checkAnd_52 (by decide) (fun c12 => ?_) (fun c12 => ?_)
    · replace hR := if_p c12 hR
      refine lv_aload_n hx hb d_Model_checkAnd_57 rfl (lv_at hl 1 rfl) ?_
      refine rd_Model_150 hx hb hT hown hK hP d_Model_checkAnd_58 ?_
      refine lv_aload_n hx hb d_Model_checkAnd_61 rfl (lv_at hl 1 rfl) ?_
      refine rd_Model_126 hx hb hT hown hK hP d_Model_checkAnd_62 ?_
      refine lv_iload_n hx hb d_Model_checkAnd_65 rfl (lv_at hl 2 rfl) ?_
      replace hR := gd_e hR
      obtain ⟨b13, hR⟩ := hR
      refine laM_37 hx hb hK hP b13 d_Model_checkAnd_66 ?_
      replace hR := gd_e hR
      obtain ⟨b14, hR⟩ := hR
      refine laM_45 hx hb hK hP b14 d_Model_checkAnd_67 ?_
      refine lv_topi (fun z15 e15 => ?_)
      replace hR := vK_e e15 hR
      refine lv_istore (lv' := [(4, .int z15), (3, .int r10), (0, .ref (ad 0)), (2, .int x2)]) hx hb d_Model_checkAnd_68 hl (by decide) rfl (fun ls hl => ?_)
      refine lv_aload_n hx hb d_Model_checkAnd_70 rfl (lv_at hl 2 rfl) ?_
      refine rd_Model_120 hx hb hT hown hK hP d_Model_checkAnd_71 ?_
      refine lv_iload_n hx hb d_Model_checkAnd_74 rfl (lv_at hl 3 rfl) ?_
      replace hR := gd_e hR
      obtain ⟨b16, hR⟩ := hR
      refine laM_35 hx hb hK hP b16 d_Model_checkAnd_75 ?_
      refine lv_bipush (v := 14) hx hb d_Model_checkAnd_76 (by decide) ?_
      refine lv_icmp_ne (tgt := 108) hx hb d_Model_checkAnd_78 (by decide) (fun c17 => ?_) (fun c17 => ?_)
      · replace hR := if_n c17 hR
        have g := lb_108 T11 r10 z15 hR
        rw [hG] at g
        exact g _ _ hP hD hS _ (lv_sub hl [2, 1, 0] rfl)
      · replace hR := if_p c17 hR
        refine lv_aload_n hx hb d_Model_checkAnd_81 rfl (lv_at hl 2 rfl) ?_
        refine rd_Model_17 hx hb hT hown hK hP d_Model_checkAnd_82 ?_
        refine lv_aload_n hx hb d_Model_checkAnd_85 rfl (lv_at hl 2 rfl) ?_
        refine rd_Model_165 hx hb hT hown hK hP d_Model_checkAnd_86 ?_
        refine lv_iload hx hb d_Model_checkAnd_89 (lv_at hl 0 rfl) ?_
        replace hR := gd_e hR
        obtain ⟨b18, hR⟩ := hR
        refine laM_50 hx hb hK hP b18 d_Model_checkAnd_91 ?_
        replace hR := gd_e hR
        obtain ⟨b19, hR⟩ := hR
        refine laM_1 hx hb hK hP b19 d_Model_checkAnd_92 ?_
        refine lv_iconst (v := 1) hx hb d_Model_checkAnd_93 (by decide) ?_
        refine lv_icmp_ne (tgt := 108) hx hb d_Model_checkAnd_94 (by decide) (fun c20 => ?_) (fun c20 => ?_)
        · replace hR := if_n c20 hR
          have g := lb_108 T11 r10 z15 hR
          rw [hG] at g
          exact g _ _ hP hD hS _ (lv_sub hl [2, 1, 0] rfl)
        · replace hR := if_p c20 hR
          refine lv_aload_n hx hb d_Model_checkAnd_97 rfl (lv_at hl 2 rfl) ?_
          refine lv_iconst (v := 4) hx hb d_Model_checkAnd_98 (by decide) ?_
          refine lv_aload_n hx hb d_Model_checkAnd_99 rfl (lv_at hl 2 rfl) ?_
          refine rd_Model_123 hx hb hT hown hK hP d_Model_checkAnd_100 ?_
          refine lv_iload_n hx hb d_Model_checkAnd_103 rfl (lv_at hl 3 rfl) ?_
          replace hR := gd_e hR
          obtain ⟨b21, hR⟩ := hR
          refine laM_36 hx hb hK hP b21 d_Model_checkAnd_104 ?_
          replace hR := bi_e hR
          obtain ⟨r22, l22, T22, hc22, hR⟩ := hR
          refine gcV_v (rest := []) ⟨hx, hb, hml, hown, hT⟩ (h_Model_fail _ _ _ _ _ _ hc22) (cwV 2 hT (gV ml_Model_381 im_Model_fail se_Model_fail ini_Model co_Model_fail) rfl rfl rfl pd_Model_fail ⟨rm_hi, rm_lo (Nat.le_of_ble_eq_true rfl)⟩) hK hP hD hS hA hnw henv (Nat.le_of_ble_eq_true rfl) rfl rfl hl.1 rfl (Nat.le_of_ble_eq_true rfl) d_Model_checkAnd_105 ⟨Nat.le_refl _, Nat.le_refl _⟩ (fun H locs hP hD hS => ?_)
          clear hc22
          have g := lb_108 T22 r10 z15 hR
          rw [hG] at g
          exact g _ _ hP hD hS _ (lv_sub hl [2, 1, 0] rfl)
    · replace hR := if_n c12 hR
      refine lv_iconst (v := 0) hx hb d_Model_checkAnd_55 (by decide) ?_
      obtain ⟨e1, -, e3⟩ := re_e hR
      subst e1; subst e3
      exact W.iret (v := (0 : Int32)) hx hb hr (fun t ht hW => ⟨⟨(0 : Int32), (), rfl, rfl, by rw [ht]; exact hP, va_K.moved hW.alike hK, hD⟩, hS.F ht⟩) hS.2.2 d_Model_checkAnd_56
  unfold rb_Model_checkAnd at hR
  refine lv_aload_n hx hb d_Model_checkAnd_0 rfl (lv_at hl 0 rfl) ?_
  refine rd_Model_126 hx hb hT hown hK hP d_Model_checkAnd_1 ?_
  refine lv_iload_n hx hb d_Model_checkAnd_4 rfl (lv_at hl 1 rfl) ?_
  replace hR := gd_e hR
  obtain ⟨b1, hR⟩ := hR
  refine laM_37 hx hb hK hP b1 d_Model_checkAnd_5 ?_
  refine lv_topi (fun z2 e2 => ?_)
  replace hR := vK_e e2 hR
  refine lv_istore_n (lv' := [(2, .int z2), (0, .ref (ad 0)), (1, .int p1)]) hx hb d_Model_checkAnd_6 rfl hl (by decide) rfl (fun ls hl => ?_)
  refine lv_aload_n hx hb d_Model_checkAnd_7 rfl (lv_at hl 1 rfl) ?_
  refine rd_Model_120 hx hb hT hown hK hP d_Model_checkAnd_8 ?_
  refine lv_iload_n hx hb d_Model_checkAnd_11 rfl (lv_at hl 0 rfl) ?_
  replace hR := gd_e hR
  obtain ⟨b3, hR⟩ := hR
  refine laM_35 hx hb hK hP b3 d_Model_checkAnd_12 ?_
  refine lv_bipush (v := 14) hx hb d_Model_checkAnd_13 (by decide) ?_
  refine lv_icmp_eq (tgt := 42) hx hb d_Model_checkAnd_15 (by decide) (fun c4 => ?_) (fun c4 => ?_)
  · replace hR := if_p c4 hR
    have g := lb_42 T0 z2 hR
    rw [hG] at g
    exact g _ _ hP hD hS _ (lv_sub hl [1, 0] rfl)
  · replace hR := if_n c4 hR
    refine lv_aload_n hx hb d_Model_checkAnd_18 rfl (lv_at hl 1 rfl) ?_
    refine rd_Model_120 hx hb hT hown hK hP d_Model_checkAnd_19 ?_
    refine lv_iload_n hx hb d_Model_checkAnd_22 rfl (lv_at hl 0 rfl) ?_
    replace hR := gd_e hR
    obtain ⟨b5, hR⟩ := hR
    refine laM_35 hx hb hK hP b5 d_Model_checkAnd_23 ?_
    refine lv_bipush (v := 15) hx hb d_Model_checkAnd_24 (by decide) ?_
    refine lv_icmp_eq (tgt := 42) hx hb d_Model_checkAnd_26 (by decide) (fun c6 => ?_) (fun c6 => ?_)
    · replace hR := if_p c6 hR
      have g := lb_42 T0 z2 hR
      rw [hG] at g
      exact g _ _ hP hD hS _ (lv_sub hl [1, 0] rfl)
    · replace hR := if_n c6 hR
      refine lv_aload_n hx hb d_Model_checkAnd_29 rfl (lv_at hl 1 rfl) ?_
      refine lv_iconst (v := 4) hx hb d_Model_checkAnd_30 (by decide) ?_
      refine lv_aload_n hx hb d_Model_checkAnd_31 rfl (lv_at hl 1 rfl) ?_
      refine rd_Model_123 hx hb hT hown hK hP d_Model_checkAnd_32 ?_
      refine lv_iload_n hx hb d_Model_checkAnd_35 rfl (lv_at hl 0 rfl) ?_
      replace hR := gd_e hR
      obtain ⟨b7, hR⟩ := hR
      refine laM_36 hx hb hK hP b7 d_Model_checkAnd_36 ?_
      replace hR := bi_e hR
      obtain ⟨r8, l8, T8, hc8, hR⟩ := hR
      refine gcV_v (rest := []) ⟨hx, hb, hml, hown, hT⟩ (h_Model_fail _ _ _ _ _ _ hc8) (cwV 2 hT (gV ml_Model_381 im_Model_fail se_Model_fail ini_Model co_Model_fail) rfl rfl rfl pd_Model_fail ⟨rm_hi, rm_lo (Nat.le_of_ble_eq_true rfl)⟩) hK hP hD hS hA hnw henv (Nat.le_of_ble_eq_true rfl) rfl rfl hl.1 rfl (Nat.le_of_ble_eq_true rfl) d_Model_checkAnd_37 ⟨Nat.le_refl _, Nat.le_refl _⟩ (fun H locs hP hD hS => ?_)
      clear hc8
      refine lv_iconst (v := 0) hx hb d_Model_checkAnd_40 (by decide) ?_
      obtain ⟨e1, -, e3⟩ := re_e hR
      subst e1; subst e3
      exact W.iret (v := (0 : Int32)) hx hb hr (fun t ht hW => ⟨⟨(0 : Int32), (), rfl, rfl, by rw [ht]; exact hP, va_K.moved hW.alike hK, hD⟩, hS.F ht⟩) hS.2.2 d_Model_checkAnd_41
set_option maxHeartbeats 4000000 in
set_option maxRecDepth 100000 in
theorem sp_Model_checkMade (l : Launch) (dC : Nat → ClassId) (dI : Nat → Nat → Nat) (ea ev ad : Nat → Nat) (km : Nat → ClassId) (F : gF) (nf d : Nat) (h_Model_liveRegionAt : mt_Model_liveRegionAt l dC dI ea ev ad km F d) (h_Model_bad : mt_Model_bad l dC dI ea ev ad km F d) (h_Model_needInt : mt_Model_needInt l dC dI ea ev ad km F d) (h_Model_check : mt_Model_check l dC dI ea ev ad km F d) (h_Model_fail : mt_Model_fail l dC dI ea ev ad km F d) (h_Model_known : mt_Model_known l dC dI ea ev ad km F d) (T0 : gSt) (p1 : Int32) (r0 : Int32) (rl0 : Int64) (T9 : gSt) (hR : rb_Model_checkMade F nf T0 p1 = some (r0, rl0, T9)) : GMi l dC dI LM ad km ea ev y_Model_checkMade w_Model_checkMade (rmD (d + 1)) [.ref (ad 0), .int p1] T0 r0 T9 := by
  intro sz
  refine Met.ofW (cc := b_Model_checkMade) (maxL := 5) (ret := (some .int)) (by decide) rfl ?_
  intro p e s m args below meth c s₁ B hml hv
  obtain ⟨rfl, hsz, hP, hK, hD0, hnw, henv⟩ := hv
  have hx := B.exec
  have hb := B.bytes
  have hr := B.returns
  have hT : ∀ w ∈ lw_good, w.before _ s = true := fun w h => atoms_spec (ws := w_Model_checkMade) B.pre w (List.mem_cons_of_mem _ h)
  have hown : s.vm.findClass R_Model = some m.cls := findClass_of_methodNamed B.named
  subst hsz
  have hD := hD0.self (sz := s.heap.size)
  clear hD0
  generalize hAe : va_A (gW LM ad km T0) s.heap.size = A at hD henv ⊢
  have hA : ∀ q : Nat, s.heap.size ≤ q → A q := fun q h => by rw [← hAe]; exact Or.inr h
  have hS : va_S A s.heap s.heap [] := va_S.rf
  have hl := lv_entry ([.ref (ad 0), .int p1]) (n := 5) (Nat.le_of_ble_eq_true rfl)
  rw [lg_entry_eq]
  generalize (lg_sl ([.ref (ad 0), .int p1]) ++ List.replicate (5 - (lg_sl ([.ref (ad 0), .int p1])).length) Slot.unset).toArray = ls at hl ⊢
  have hl : lv_has ls 5 [(0, .ref (ad 0)), (1, .int p1)] := hl
  obtain ⟨G, hG⟩ : ∃ G : Nat → List (Nat × Value) → List Value → gSt → Prop, G = (fun pc lv stk T => ∀ (H : Heap) (locs : List Loc), va_P (dC, dI) cls_all (gW LM ad km T) H → va_D A (gW LM ad km T) → va_S A s.heap H locs → ∀ (ls : Array Slot), lv_has ls 5 lv → W p l e (headSpec w_Model_checkMade (rmD (d + 1))).room s m ([.ref (ad 0), .int p1] : List Value).toArray below meth c H locs 0 0 (MQ below (va_Qi (fun (z : Int32) (_ : Unit) => z = r0) (fun _ t => gPost dC dI LM ad km T9 A t) A) ([.ref (ad 0), .int p1] : List Value).toArray s 0 0 A) (F0 m pc ls stk)) := ⟨_, rfl⟩
  have lb_96 : ∀ (T : gSt) (x1 : Int32) (x2 : Int32) (x4 : Int32), rj_Model_checkMade_96 F nf T x1 x2 x4 = some (r0, rl0, T9) → G 96 [(0, .ref (ad 0)), (1, .int x1), (2, .int x2), (4, .int x4)] [] T := by
    intro T x1 x2 x4 hR; unfold rj_Model_checkMade_96 at hR; rw [hG]; intro H locs hP hD hS ls hl
    refine lv_aload_n hx hb d_Model_checkMade_96 rfl (lv_at hl 0 rfl) ?_
    replace hR := bi_e hR
    obtain ⟨r19, l19, T19, hc19, hR⟩ := hR
    refine gcV_i (rest := []) ⟨hx, hb, hml, hown, hT⟩ (h_Model_bad _ _ _ _ hc19) (cwV 0 hT (gV ml_Model_385 im_Model_bad se_Model_bad ini_Model co_Model_bad) rfl rfl rfl pd_Model_bad ⟨rm_hi, rm_lo (Nat.le_of_ble_eq_true rfl)⟩) hK hP hD hS hA hnw henv (Nat.le_of_ble_eq_true rfl) rfl rfl hl.1 rfl (Nat.le_of_ble_eq_true rfl) d_Model_checkMade_97 ⟨Nat.le_refl _, Nat.le_refl _⟩ (fun H locs hP hD hS => ?_)
    clear hc19
    refine lv_if_eq (tgt := 105) hx hb d_Model_checkMade_100 (by decide) (fun c20 => ?_) (fun c20 => ?_)
    · replace hR := if_p c20 hR
      refine lv_aload_n hx hb d_Model_checkMade_105 rfl (lv_at hl 0 rfl) ?_
      refine lv_dup hx hb d_Model_checkMade_106 rfl ?_
      refine rd_Model_765 hx hb hT hown hK hP d_Model_checkMade_107 ?_
      refine lv_iconst (v := 1) hx hb d_Model_checkMade_110 (by decide) ?_
      refine lv_iadd hx hb d_Model_checkMade_111 ?_
      refine wr_Model_765 hx hb hT hown hK hP hD hS d_Model_checkMade_112 (fun T21 eT H locs hP hD hS => ?_)
      replace hR := stK_e eT hR
      clear eT
      refine lv_aload_n hx hb d_Model_checkMade_115 rfl (lv_at hl 0 rfl) ?_
      refine lv_aload_n hx hb d_Model_checkMade_116 rfl (lv_at hl 0 rfl) ?_
      refine rd_Model_120 hx hb hT hown hK hP d_Model_checkMade_117 ?_
      refine lv_iload_n hx hb d_Model_checkMade_120 rfl (lv_at hl 1 rfl) ?_
      replace hR := gd_e hR
      obtain ⟨b22, hR⟩ := hR
      refine laM_35 hx hb hK hP b22 d_Model_checkMade_121 ?_
      refine lv_bipush (v := 9) hx hb d_Model_checkMade_122 (by decide) ?_
      refine lv_icmp_ne (tgt := 131) hx hb d_Model_checkMade_124 (by decide) (fun c23 => ?_) (fun c23 => ?_)
      · replace hR := if_n c23 hR
        refine lv_iconst (v := 1) hx hb d_Model_checkMade_131 (by decide) ?_
        refine lv_iload_n hx hb d_Model_checkMade_132 rfl (lv_at hl 2 rfl) ?_
        refine lv_iload hx hb d_Model_checkMade_133 (lv_at hl 3 rfl) ?_
        refine lv_iconst (v := (-1)) hx hb d_Model_checkMade_135 (by decide) ?_
        refine lv_iconst (v := 0) hx hb d_Model_checkMade_136 (by decide) ?_
        replace hR := bi_e hR
        obtain ⟨r24, l24, T24, hc24, hR⟩ := hR
        refine gcV_i (rest := []) ⟨hx, hb, hml, hown, hT⟩ (h_Model_known _ _ _ _ _ _ _ _ _ hc24) (cwV 5 hT (gV ml_Model_556 im_Model_known se_Model_known ini_Model co_Model_known) rfl rfl rfl pd_Model_known ⟨rm_hi, rm_lo (Nat.le_of_ble_eq_true rfl)⟩) hK hP hD hS hA hnw henv (Nat.le_of_ble_eq_true rfl) rfl rfl hl.1 rfl (Nat.le_of_ble_eq_true rfl) d_Model_checkMade_137 ⟨Nat.le_refl _, Nat.le_refl _⟩ (fun H locs hP hD hS => ?_)
        clear hc24
        obtain ⟨e1, -, e3⟩ := re_e hR
        subst e1; subst e3
        exact W.iret (v := r24) hx hb hr (fun t ht hW => ⟨⟨r24, (), rfl, rfl, by rw [ht]; exact hP, va_K.moved hW.alike hK, hD⟩, hS.F ht⟩) hS.2.2 d_Model_checkMade_140
      · replace hR := if_p c23 hR
        refine lv_iconst (v := 3) hx hb d_Model_checkMade_127 (by decide) ?_
        refine lv_goto (tgt := 132) hx hb d_Model_checkMade_128 (by decide) ?_
        refine lv_iload_n hx hb d_Model_checkMade_132 rfl (lv_at hl 2 rfl) ?_
        refine lv_iload hx hb d_Model_checkMade_133 (lv_at hl 3 rfl) ?_
        refine lv_iconst (v := (-1)) hx hb d_Model_checkMade_135 (by decide) ?_
        refine lv_iconst (v := 0) hx hb d_Model_checkMade_136 (by decide) ?_
        replace hR := bi_e hR
        obtain ⟨r26, l26, T26, hc26, hR⟩ := hR
        refine gcV_i (rest := []) ⟨hx, hb, hml, hown, hT⟩ (h_Model_known _ _ _ _ _ _ _ _ _ hc26) (cwV 5 hT (gV ml_Model_556 im_Model_known se_Model_known ini_Model co_Model_known) rfl rfl rfl pd_Model_known ⟨rm_hi, rm_lo (Nat.le_of_ble_eq_true rfl)⟩) hK hP hD hS hA hnw henv (Nat.le_of_ble_eq_true rfl) rfl rfl hl.1 rfl (Nat.le_of_ble_eq_true rfl) d_Model_checkMade_137 ⟨Nat.le_refl _, Nat.le_refl _⟩ (fun H locs hP hD hS => ?_)
        clear hc26
        obtain ⟨e1, -, e3⟩ := re_e hR
        subst e1; subst e3
        exact W.iret (v := r26) hx hb hr (fun t ht hW => ⟨⟨r26, (), rfl, rfl, by rw [ht]; exact hP, va_K.moved hW.alike hK, hD⟩, hS.F ht⟩) hS.2.2 d_Model_checkMade_140
    · replace hR := if_n c20 hR
      refine lv_iconst (v := 0) hx hb d_Model_checkMade_103 (by decide) ?_
      obtain ⟨e1, -, e3⟩ := re_e hR
      subst e1; subst e3
      exact W.iret (v := (0 : Int32)) hx hb hr (fun t ht hW => ⟨⟨(0 : Int32), (), rfl, rfl, by rw [ht]; exact hP, va_K.moved hW.alike hK, hD⟩, hS.F ht⟩) hS.2.2 d_Model_checkMade_104
  have lb_65 : ∀ (T : gSt) (x1 : Int32) (x2 : Int32) (y0 : Int32), rj_Model_checkMade_65 F nf T x1 x2 y0 = some (r0, rl0, T9) → G 65 [(0, .ref (ad 0)), (1, .int x1), (2, .int x2)] [.int y0] T := by
    intro T x1 x2 y0 hR; unfold rj_Model_checkMade_65 at hR; rw [hG]; intro H locs hP hD hS ls hl
    refine lv_istore_n (lv' := [(3, .int y0), (0, .ref (ad 0)), (1, .int x1), (2, .int x2)]) hx hb d_Model_checkMade_65 rfl hl (by decide) rfl (fun ls hl => ?_)
    refine lv_aload_n hx hb d_Model_checkMade_66 rfl (lv_at hl 1 rfl) ?_
    refine lv_iload_n hx hb d_Model_checkMade_67 rfl (lv_at hl 0 rfl) ?_
    replace hR := bi_e hR
    obtain ⟨r13, l13, T13, hc13, hR⟩ := hR
    refine gcV_i (rest := []) ⟨hx, hb, hml, hown, hT⟩ (h_Model_check _ _ _ _ _ hc13) (cwV 1 hT (gV ml_Model_652 im_Model_check se_Model_check ini_Model co_Model_check) rfl rfl rfl pd_Model_check ⟨rm_hi, rm_lo (Nat.le_of_ble_eq_true rfl)⟩) hK hP hD hS hA hnw henv (Nat.le_of_ble_eq_true rfl) rfl rfl hl.1 rfl (Nat.le_of_ble_eq_true rfl) d_Model_checkMade_68 ⟨Nat.le_refl _, Nat.le_refl _⟩ (fun H locs hP hD hS => ?_)
    clear hc13
    refine lv_istore (lv' := [(4, .int r13), (3, .int y0), (0, .ref (ad 0)), (1, .int x1), (2, .int x2)]) hx hb d_Model_checkMade_71 hl (by decide) rfl (fun ls hl => ?_)
    refine lv_aload_n hx hb d_Model_checkMade_73 rfl (lv_at hl 2 rfl) ?_
    replace hR := bi_e hR
    obtain ⟨r14, l14, T14, hc14, hR⟩ := hR
    refine gcV_i (rest := []) ⟨hx, hb, hml, hown, hT⟩ (h_Model_bad _ _ _ _ hc14) (cwV 0 hT (gV ml_Model_385 im_Model_bad se_Model_bad ini_Model co_Model_bad) rfl rfl rfl pd_Model_bad ⟨rm_hi, rm_lo (Nat.le_of_ble_eq_true rfl)⟩) hK hP hD hS hA hnw henv (Nat.le_of_ble_eq_true rfl) rfl rfl hl.1 rfl (Nat.le_of_ble_eq_true rfl) d_Model_checkMade_74 ⟨Nat.le_refl _, Nat.le_refl _⟩ (fun H locs hP hD hS => ?_)
    clear hc14
    refine lv_if_ne (tgt := 96) hx hb d_Model_checkMade_77 (by decide) (fun c15 => ?_) (fun c15 => ?_)
    · replace hR := if_n c15 hR
      have g := lb_96 T14 x1 x2 r13 hR
      rw [hG] at g
      exact g _ _ hP hD hS _ (lv_sub hl [2, 3, 4, 0] rfl)
    · replace hR := if_p c15 hR
      refine lv_iload hx hb d_Model_checkMade_80 (lv_at hl 0 rfl) ?_
      refine lv_if_ge (tgt := 96) hx hb d_Model_checkMade_82 (by decide) (fun c16 => ?_) (fun c16 => ?_)
      · replace hR := if_p c16 hR
        have g := lb_96 T14 x1 x2 r13 hR
        rw [hG] at g
        exact g _ _ hP hD hS _ (lv_sub hl [2, 3, 4, 0] rfl)
      · replace hR := if_n c16 hR
        refine lv_aload_n hx hb d_Model_checkMade_85 rfl (lv_at hl 2 rfl) ?_
        refine lv_iconst (v := 4) hx hb d_Model_checkMade_86 (by decide) ?_
        refine lv_aload_n hx hb d_Model_checkMade_87 rfl (lv_at hl 2 rfl) ?_
        refine rd_Model_123 hx hb hT hown hK hP d_Model_checkMade_88 ?_
        refine lv_iload_n hx hb d_Model_checkMade_91 rfl (lv_at hl 1 rfl) ?_
        replace hR := gd_e hR
        obtain ⟨b17, hR⟩ := hR
        refine laM_36 hx hb hK hP b17 d_Model_checkMade_92 ?_
        replace hR := bi_e hR
        obtain ⟨r18, l18, T18, hc18, hR⟩ := hR
        refine gcV_v (rest := []) ⟨hx, hb, hml, hown, hT⟩ (h_Model_fail _ _ _ _ _ _ hc18) (cwV 2 hT (gV ml_Model_381 im_Model_fail se_Model_fail ini_Model co_Model_fail) rfl rfl rfl pd_Model_fail ⟨rm_hi, rm_lo (Nat.le_of_ble_eq_true rfl)⟩) hK hP hD hS hA hnw henv (Nat.le_of_ble_eq_true rfl) rfl rfl hl.1 rfl (Nat.le_of_ble_eq_true rfl) d_Model_checkMade_93 ⟨Nat.le_refl _, Nat.le_refl _⟩ (fun H locs hP hD hS => ?_)
        clear hc18
        have g := lb_96 T18 x1 x2 r13 hR
        rw [hG] at g
        exact g _ _ hP hD hS _ (lv_sub hl [2, 3, 4, 0] rfl)
  have lb_39 : ∀ (T : gSt) (x1 : Int32) (x2 : Int32), rj_Model_checkMade_39 F nf T x1 x2 = some (r0, rl0, T9) → G 39 [(0, .ref (ad 0)), (1, .int x1), (2, .int x2)] [] T := by
    intro T x1 x2 hR; unfold rj_Model_checkMade_39 at hR; rw [hG]; intro H locs hP hD hS ls hl
    refine lv_aload_n hx hb d_Model_checkMade_39 rfl (lv_at hl 0 rfl) ?_
    refine rd_Model_120 hx hb hT hown hK hP d_Model_checkMade_40 ?_
    refine lv_iload_n hx hb d_Model_checkMade_43 rfl (lv_at hl 1 rfl) ?_
    replace hR := gd_e hR
    obtain ⟨b9, hR⟩ := hR
    refine laM_35 hx hb hK hP b9 d_Model_checkMade_44 ?_
    refine lv_bipush (v := 9) hx hb d_Model_checkMade_45 (by decide) ?_
    refine lv_icmp_ne (tgt := 59) hx hb d_Model_checkMade_47 (by decide) (fun c10 => ?_) (fun c10 => ?_)
    · replace hR := if_n c10 hR
      refine lv_aload_n hx hb d_Model_checkMade_59 rfl (lv_at hl 0 rfl) ?_
      refine rd_Model_126 hx hb hT hown hK hP d_Model_checkMade_60 ?_
      refine lv_iload_n hx hb d_Model_checkMade_63 rfl (lv_at hl 1 rfl) ?_
      replace hR := gd_e hR
      obtain ⟨b11, hR⟩ := hR
      refine laM_37 hx hb hK hP b11 d_Model_checkMade_64 ?_
      have g := lb_65 T x1 x2 (T.1 52 x1.toNatClampNeg) hR
      rw [hG] at g
      exact g _ _ hP hD hS _ (lv_sub hl [0, 1, 2] rfl)
    · replace hR := if_p c10 hR
      refine lv_aload_n hx hb d_Model_checkMade_50 rfl (lv_at hl 0 rfl) ?_
      refine rd_Model_129 hx hb hT hown hK hP d_Model_checkMade_51 ?_
      refine lv_iload_n hx hb d_Model_checkMade_54 rfl (lv_at hl 1 rfl) ?_
      replace hR := gd_e hR
      obtain ⟨b12, hR⟩ := hR
      refine laM_38 hx hb hK hP b12 d_Model_checkMade_55 ?_
      refine lv_goto (tgt := 65) hx hb d_Model_checkMade_56 (by decide) ?_
      have g := lb_65 T x1 x2 (T.1 53 x1.toNatClampNeg) hR
      rw [hG] at g
      exact g _ _ hP hD hS _ (lv_sub hl [0, 1, 2] rfl)
  unfold rb_Model_checkMade at hR
  refine lv_aload_n hx hb d_Model_checkMade_0 rfl (lv_at hl 0 rfl) ?_
  refine lv_aload_n hx hb d_Model_checkMade_1 rfl (lv_at hl 0 rfl) ?_
  refine rd_Model_144 hx hb hT hown hK hP d_Model_checkMade_2 ?_
  refine lv_iload_n hx hb d_Model_checkMade_5 rfl (lv_at hl 1 rfl) ?_
  replace hR := gd_e hR
  obtain ⟨b1, hR⟩ := hR
  refine laM_43 hx hb hK hP b1 d_Model_checkMade_6 ?_
  replace hR := bi_e hR
  obtain ⟨r2, l2, T2, hc2, hR⟩ := hR
  refine gcV_i (rest := []) ⟨hx, hb, hml, hown, hT⟩ (h_Model_liveRegionAt _ _ _ _ _ hc2) (cwV 1 hT (gV ml_Model_762 im_Model_liveRegionAt se_Model_liveRegionAt ini_Model co_Model_liveRegionAt) rfl rfl rfl pd_Model_liveRegionAt ⟨rm_hi, rm_lo (Nat.le_of_ble_eq_true rfl)⟩) hK hP hD hS hA hnw henv (Nat.le_of_ble_eq_true rfl) rfl rfl hl.1 rfl (Nat.le_of_ble_eq_true rfl) d_Model_checkMade_7 ⟨Nat.le_refl _, Nat.le_refl _⟩ (fun H locs hP hD hS => ?_)
  clear hc2
  refine lv_istore_n (lv' := [(2, .int r2), (0, .ref (ad 0)), (1, .int p1)]) hx hb d_Model_checkMade_10 rfl hl (by decide) rfl (fun ls hl => ?_)
  refine lv_aload_n hx hb d_Model_checkMade_11 rfl (lv_at hl 1 rfl) ?_
  refine rd_Model_120 hx hb hT hown hK hP d_Model_checkMade_12 ?_
  refine lv_iload_n hx hb d_Model_checkMade_15 rfl (lv_at hl 2 rfl) ?_
  replace hR := gd_e hR
  obtain ⟨b3, hR⟩ := hR
  refine laM_35 hx hb hK hP b3 d_Model_checkMade_16 ?_
  refine lv_bipush (v := 9) hx hb d_Model_checkMade_17 (by decide) ?_
  refine lv_icmp_ne (tgt := 39) hx hb d_Model_checkMade_19 (by decide) (fun c4 => ?_) (fun c4 => ?_)
  · replace hR := if_n c4 hR
    have g := lb_39 T2 p1 r2 hR
    rw [hG] at g
    exact g _ _ hP hD hS _ (lv_sub hl [1, 2, 0] rfl)
  · replace hR := if_p c4 hR
    refine lv_aload_n hx hb d_Model_checkMade_22 rfl (lv_at hl 1 rfl) ?_
    replace hR := bi_e hR
    obtain ⟨r5, l5, T5, hc5, hR⟩ := hR
    refine gcV_i (rest := []) ⟨hx, hb, hml, hown, hT⟩ (h_Model_bad _ _ _ _ hc5) (cwV 0 hT (gV ml_Model_385 im_Model_bad se_Model_bad ini_Model co_Model_bad) rfl rfl rfl pd_Model_bad ⟨rm_hi, rm_lo (Nat.le_of_ble_eq_true rfl)⟩) hK hP hD hS hA hnw henv (Nat.le_of_ble_eq_true rfl) rfl rfl hl.1 rfl (Nat.le_of_ble_eq_true rfl) d_Model_checkMade_23 ⟨Nat.le_refl _, Nat.le_refl _⟩ (fun H locs hP hD hS => ?_)
    clear hc5
    refine lv_if_ne (tgt := 39) hx hb d_Model_checkMade_26 (by decide) (fun c6 => ?_) (fun c6 => ?_)
    · replace hR := if_n c6 hR
      have g := lb_39 T5 p1 r2 hR
      rw [hG] at g
      exact g _ _ hP hD hS _ (lv_sub hl [1, 2, 0] rfl)
    · replace hR := if_p c6 hR
      refine lv_aload_n hx hb d_Model_checkMade_29 rfl (lv_at hl 1 rfl) ?_
      refine lv_aload_n hx hb d_Model_checkMade_30 rfl (lv_at hl 1 rfl) ?_
      refine rd_Model_126 hx hb hT hown hK hP d_Model_checkMade_31 ?_
      refine lv_iload_n hx hb d_Model_checkMade_34 rfl (lv_at hl 2 rfl) ?_
      replace hR := gd_e hR
      obtain ⟨b7, hR⟩ := hR
      refine laM_37 hx hb hK hP b7 d_Model_checkMade_35 ?_
      replace hR := bi_e hR
      obtain ⟨r8, l8, T8, hc8, hR⟩ := hR
      refine gcV_v (rest := []) ⟨hx, hb, hml, hown, hT⟩ (h_Model_needInt _ _ _ _ _ hc8) (cwV 1 hT (gV ml_Model_667 im_Model_needInt se_Model_needInt ini_Model co_Model_needInt) rfl rfl rfl pd_Model_needInt ⟨rm_hi, rm_lo (Nat.le_of_ble_eq_true rfl)⟩) hK hP hD hS hA hnw henv (Nat.le_of_ble_eq_true rfl) rfl rfl hl.1 rfl (Nat.le_of_ble_eq_true rfl) d_Model_checkMade_36 ⟨Nat.le_refl _, Nat.le_refl _⟩ (fun H locs hP hD hS => ?_)
      clear hc8
      have g := lb_39 T8 p1 r2 hR
      rw [hG] at g
      exact g _ _ hP hD hS _ (lv_sub hl [1, 2, 0] rfl)
set_option maxHeartbeats 4000000 in
set_option maxRecDepth 100000 in
theorem sp_Model_checkNew (l : Launch) (dC : Nat → ClassId) (dI : Nat → Nat → Nat) (ea ev ad : Nat → Nat) (km : Nat → ClassId) (F : gF) (nf d : Nat) (h_Model_liveRegionAt : mt_Model_liveRegionAt l dC dI ea ev ad km F d) (h_Model_bad : mt_Model_bad l dC dI ea ev ad km F d) (h_Model_findTitle : mt_Model_findTitle l dC dI ea ev ad km F d) (h_Model_fail : mt_Model_fail l dC dI ea ev ad km F d) (h_Model_withAt : mt_Model_withAt l dC dI ea ev ad km F d) (h_Model_fitAll : mt_Model_fitAll l dC dI ea ev ad km F d) (h_Model_findField : mt_Model_findField l dC dI ea ev ad km F d) (h_Model_check : mt_Model_check l dC dI ea ev ad km F d) (h_Model_changed : mt_Model_changed l dC dI ea ev ad km F d) (h_Model_fit : mt_Model_fit l dC dI ea ev ad km F d) (h_Model_known : mt_Model_known l dC dI ea ev ad km F d) (T0 : gSt) (p1 : Int32) (r0 : Int32) (rl0 : Int64) (T9 : gSt) (hR : rb_Model_checkNew F nf T0 p1 = some (r0, rl0, T9)) : GMi l dC dI LM ad km ea ev y_Model_checkNew w_Model_checkNew (rmD (d + 1)) [.ref (ad 0), .int p1] T0 r0 T9 := by
  intro sz
  refine Met.ofW (cc := b_Model_checkNew) (maxL := 9) (ret := (some .int)) (by decide) rfl ?_
  intro p e s m args below meth c s₁ B hml hv
  obtain ⟨rfl, hsz, hP, hK, hD0, hnw, henv⟩ := hv
  have hx := B.exec
  have hb := B.bytes
  have hr := B.returns
  have hT : ∀ w ∈ lw_good, w.before _ s = true := fun w h => atoms_spec (ws := w_Model_checkNew) B.pre w (List.mem_cons_of_mem _ h)
  have hown : s.vm.findClass R_Model = some m.cls := findClass_of_methodNamed B.named
  subst hsz
  have hD := hD0.self (sz := s.heap.size)
  clear hD0
  generalize hAe : va_A (gW LM ad km T0) s.heap.size = A at hD henv ⊢
  have hA : ∀ q : Nat, s.heap.size ≤ q → A q := fun q h => by rw [← hAe]; exact Or.inr h
  have hS : va_S A s.heap s.heap [] := va_S.rf
  have hl := lv_entry ([.ref (ad 0), .int p1]) (n := 9) (Nat.le_of_ble_eq_true rfl)
  rw [lg_entry_eq]
  generalize (lg_sl ([.ref (ad 0), .int p1]) ++ List.replicate (9 - (lg_sl ([.ref (ad 0), .int p1])).length) Slot.unset).toArray = ls at hl ⊢
  have hl : lv_has ls 9 [(0, .ref (ad 0)), (1, .int p1)] := hl
  obtain ⟨G, hG⟩ : ∃ G : Nat → List (Nat × Value) → List Value → gSt → Prop, G = (fun pc lv stk T => ∀ (H : Heap) (locs : List Loc), va_P (dC, dI) cls_all (gW LM ad km T) H → va_D A (gW LM ad km T) → va_S A s.heap H locs → ∀ (ls : Array Slot), lv_has ls 9 lv → W p l e (headSpec w_Model_checkNew (rmD (d + 1))).room s m ([.ref (ad 0), .int p1] : List Value).toArray below meth c H locs 0 0 (MQ below (va_Qi (fun (z : Int32) (_ : Unit) => z = r0) (fun _ t => gPost dC dI LM ad km T9 A t) A) ([.ref (ad 0), .int p1] : List Value).toArray s 0 0 A) (F0 m pc ls stk)) := ⟨_, rfl⟩
  have lb_346 : ∀ (T : gSt) (x2 : Int32) (x3 : Int32) (x4 : Int32), rj_Model_checkNew_346 F nf T x2 x3 x4 = some (r0, rl0, T9) → G 346 [(0, .ref (ad 0)), (2, .int x2), (3, .int x3), (4, .int x4)] [] T := by
    intro T x2 x3 x4 hR; unfold rj_Model_checkNew_346 at hR; rw [hG]; intro H locs hP hD hS ls hl
    refine lv_aload_n hx hb d_Model_checkNew_346 rfl (lv_at hl 0 rfl) ?_
    replace hR := bi_e hR
    obtain ⟨r67, l67, T67, hc67, hR⟩ := hR
    refine gcV_i (rest := []) ⟨hx, hb, hml, hown, hT⟩ (h_Model_bad _ _ _ _ hc67) (cwV 0 hT (gV ml_Model_385 im_Model_bad se_Model_bad ini_Model co_Model_bad) rfl rfl rfl pd_Model_bad ⟨rm_hi, rm_lo (Nat.le_of_ble_eq_true rfl)⟩) hK hP hD hS hA hnw henv (Nat.le_of_ble_eq_true rfl) rfl rfl hl.1 rfl (Nat.le_of_ble_eq_true rfl) d_Model_checkNew_347 ⟨Nat.le_refl _, Nat.le_refl _⟩ (fun H locs hP hD hS => ?_)
    clear hc67
    refine lv_if_eq (tgt := 355) hx hb d_Model_checkNew_350 (by decide) (fun c68 => ?_) (fun c68 => ?_)
    · replace hR := if_p c68 hR
      refine lv_aload_n hx hb d_Model_checkNew_355 rfl (lv_at hl 0 rfl) ?_
      refine lv_dup hx hb d_Model_checkNew_356 rfl ?_
      refine rd_Model_765 hx hb hT hown hK hP d_Model_checkNew_357 ?_
      refine lv_iconst (v := 1) hx hb d_Model_checkNew_360 (by decide) ?_
      refine lv_iadd hx hb d_Model_checkNew_361 ?_
      refine wr_Model_765 hx hb hT hown hK hP hD hS d_Model_checkNew_362 (fun T69 eT H locs hP hD hS => ?_)
      replace hR := stK_e eT hR
      clear eT
      refine lv_aload_n hx hb d_Model_checkNew_365 rfl (lv_at hl 0 rfl) ?_
      refine lv_iconst (v := 1) hx hb d_Model_checkNew_366 (by decide) ?_
      refine lv_iload_n hx hb d_Model_checkNew_367 rfl (lv_at hl 1 rfl) ?_
      refine lv_iconst (v := (-1)) hx hb d_Model_checkNew_368 (by decide) ?_
      refine lv_iload_n hx hb d_Model_checkNew_369 rfl (lv_at hl 2 rfl) ?_
      refine lv_iload hx hb d_Model_checkNew_370 (lv_at hl 3 rfl) ?_
      replace hR := bi_e hR
      obtain ⟨r70, l70, T70, hc70, hR⟩ := hR
      refine gcV_i (rest := []) ⟨hx, hb, hml, hown, hT⟩ (h_Model_known _ _ _ _ _ _ _ _ _ hc70) (cwV 5 hT (gV ml_Model_556 im_Model_known se_Model_known ini_Model co_Model_known) rfl rfl rfl pd_Model_known ⟨rm_hi, rm_lo (Nat.le_of_ble_eq_true rfl)⟩) hK hP hD hS hA hnw henv (Nat.le_of_ble_eq_true rfl) rfl rfl hl.1 rfl (Nat.le_of_ble_eq_true rfl) d_Model_checkNew_372 ⟨Nat.le_refl _, Nat.le_refl _⟩ (fun H locs hP hD hS => ?_)
      clear hc70
      obtain ⟨e1, -, e3⟩ := re_e hR
      subst e1; subst e3
      exact W.iret (v := r70) hx hb hr (fun t ht hW => ⟨⟨r70, (), rfl, rfl, by rw [ht]; exact hP, va_K.moved hW.alike hK, hD⟩, hS.F ht⟩) hS.2.2 d_Model_checkNew_375
    · replace hR := if_n c68 hR
      refine lv_iconst (v := 0) hx hb d_Model_checkNew_353 (by decide) ?_
      obtain ⟨e1, -, e3⟩ := re_e hR
      subst e1; subst e3
      exact W.iret (v := (0 : Int32)) hx hb hr (fun t ht hW => ⟨⟨(0 : Int32), (), rfl, rfl, by rw [ht]; exact hP, va_K.moved hW.alike hK, hD⟩, hS.F ht⟩) hS.2.2 d_Model_checkNew_354
  have lb_259 : ∀ (T : gSt) (x1 : Int32) (x2 : Int32) (x3 : Int32) (x4 : Int32) (x6 : Int32), rj_Model_checkNew_259 F nf T x1 x2 x3 x4 x6 = some (r0, rl0, T9) → G 259 [(0, .ref (ad 0)), (1, .int x1), (2, .int x2), (3, .int x3), (4, .int x4), (6, .int x6)] [] T := by
    intro T x1 x2 x3 x4 x6 hR; unfold rj_Model_checkNew_259 at hR; rw [hG]; intro H locs hP hD hS ls hl
    refine lv_aload_n hx hb d_Model_checkNew_259 rfl (lv_at hl 0 rfl) ?_
    replace hR := bi_e hR
    obtain ⟨r53, l53, T53, hc53, hR⟩ := hR
    refine gcV_i (rest := []) ⟨hx, hb, hml, hown, hT⟩ (h_Model_bad _ _ _ _ hc53) (cwV 0 hT (gV ml_Model_385 im_Model_bad se_Model_bad ini_Model co_Model_bad) rfl rfl rfl pd_Model_bad ⟨rm_hi, rm_lo (Nat.le_of_ble_eq_true rfl)⟩) hK hP hD hS hA hnw henv (Nat.le_of_ble_eq_true rfl) rfl rfl hl.1 rfl (Nat.le_of_ble_eq_true rfl) d_Model_checkNew_260 ⟨Nat.le_refl _, Nat.le_refl _⟩ (fun H locs hP hD hS => ?_)
    clear hc53
    refine lv_if_eq (tgt := 268) hx hb d_Model_checkNew_263 (by decide) (fun c54 => ?_) (fun c54 => ?_)
    · replace hR := if_p c54 hR
      refine lv_aload_n hx hb d_Model_checkNew_268 rfl (lv_at hl 0 rfl) ?_
      refine rd_Model_153 hx hb hT hown hK hP d_Model_checkNew_269 ?_
      refine lv_aload_n hx hb d_Model_checkNew_272 rfl (lv_at hl 0 rfl) ?_
      refine rd_Model_126 hx hb hT hown hK hP d_Model_checkNew_273 ?_
      refine lv_iload_n hx hb d_Model_checkNew_276 rfl (lv_at hl 1 rfl) ?_
      replace hR := gd_e hR
      obtain ⟨b55, hR⟩ := hR
      refine laM_37 hx hb hK hP b55 d_Model_checkNew_277 ?_
      refine lv_iload hx hb d_Model_checkNew_278 (lv_at hl 5 rfl) ?_
      replace hR := gd_e hR
      obtain ⟨b56, hR⟩ := hR
      refine saM_46 hx hb hK hP hD hS b56 d_Model_checkNew_280 (fun T56 eT H locs hP hD hS => ?_)
      replace hR := stK_e eT hR
      clear eT
      refine lv_aload_n hx hb d_Model_checkNew_281 rfl (lv_at hl 0 rfl) ?_
      refine rd_Model_126 hx hb hT hown hK hP d_Model_checkNew_282 ?_
      refine lv_aload_n hx hb d_Model_checkNew_285 rfl (lv_at hl 0 rfl) ?_
      refine rd_Model_126 hx hb hT hown hK hP d_Model_checkNew_286 ?_
      refine lv_iload_n hx hb d_Model_checkNew_289 rfl (lv_at hl 1 rfl) ?_
      replace hR := gd_e hR
      obtain ⟨b57, hR⟩ := hR
      refine laM_37 hx hb hK hP b57 d_Model_checkNew_290 ?_
      replace hR := gd_e hR
      obtain ⟨b58, hR⟩ := hR
      refine laM_37 hx hb hK hP b58 d_Model_checkNew_291 ?_
      refine lv_topi (fun z59 e59 => ?_)
      replace hR := vK_e e59 hR
      refine lv_istore (lv' := [(7, .int z59), (0, .ref (ad 0)), (1, .int x1), (2, .int x2), (3, .int x3), (4, .int x4), (6, .int x6)]) hx hb d_Model_checkNew_292 hl (by decide) rfl (fun ls hl => ?_)
      refine lv_aload_n hx hb d_Model_checkNew_294 rfl (lv_at hl 1 rfl) ?_
      refine lv_iload hx hb d_Model_checkNew_295 (lv_at hl 0 rfl) ?_
      replace hR := bi_e hR
      obtain ⟨r60, l60, T60, hc60, hR⟩ := hR
      refine gcV_i (rest := []) ⟨hx, hb, hml, hown, hT⟩ (h_Model_check _ _ _ _ _ hc60) (cwV 1 hT (gV ml_Model_652 im_Model_check se_Model_check ini_Model co_Model_check) rfl rfl rfl pd_Model_check ⟨rm_hi, rm_lo (Nat.le_of_ble_eq_true rfl)⟩) hK hP hD hS hA hnw henv (Nat.le_of_ble_eq_true rfl) rfl rfl hl.1 rfl (Nat.le_of_ble_eq_true rfl) d_Model_checkNew_297 ⟨Nat.le_refl _, Nat.le_refl _⟩ (fun H locs hP hD hS => ?_)
      clear hc60
      refine lv_istore (lv' := [(8, .int r60), (7, .int z59), (0, .ref (ad 0)), (1, .int x1), (2, .int x2), (3, .int x3), (4, .int x4), (6, .int x6)]) hx hb d_Model_checkNew_300 hl (by decide) rfl (fun ls hl => ?_)
      refine lv_aload_n hx hb d_Model_checkNew_302 rfl (lv_at hl 2 rfl) ?_
      refine lv_iload hx hb d_Model_checkNew_303 (lv_at hl 0 rfl) ?_
      refine lv_aload_n hx hb d_Model_checkNew_305 rfl (lv_at hl 2 rfl) ?_
      refine lv_aload_n hx hb d_Model_checkNew_306 rfl (lv_at hl 2 rfl) ?_
      refine rd_Model_51 hx hb hT hown hK hP d_Model_checkNew_307 ?_
      refine lv_aload_n hx hb d_Model_checkNew_310 rfl (lv_at hl 2 rfl) ?_
      refine rd_Model_36 hx hb hT hown hK hP d_Model_checkNew_311 ?_
      refine lv_iload_n hx hb d_Model_checkNew_314 rfl (lv_at hl 5 rfl) ?_
      replace hR := gd_e hR
      obtain ⟨b61, hR⟩ := hR
      refine laM_7 hx hb hK hP b61 d_Model_checkNew_315 ?_
      refine lv_iload hx hb d_Model_checkNew_316 (lv_at hl 7 rfl) ?_
      refine lv_iadd hx hb d_Model_checkNew_318 ?_
      replace hR := gd_e hR
      obtain ⟨b62, hR⟩ := hR
      refine laM_12 hx hb hK hP b62 d_Model_checkNew_319 ?_
      refine lv_iload hx hb d_Model_checkNew_320 (lv_at hl 6 rfl) ?_
      replace hR := bi_e hR
      obtain ⟨r63, l63, T63, hc63, hR⟩ := hR
      refine gcV_i (rest := [.int r60, .ref (ad 0)]) ⟨hx, hb, hml, hown, hT⟩ (h_Model_changed _ _ _ _ _ _ hc63) (cwV 2 hT (gV ml_Model_553 im_Model_changed se_Model_changed ini_Model co_Model_changed) rfl rfl rfl pd_Model_changed ⟨rm_hi, rm_lo (Nat.le_of_ble_eq_true rfl)⟩) hK hP hD hS hA hnw henv (Nat.le_of_ble_eq_true rfl) rfl rfl hl.1 rfl (Nat.le_of_ble_eq_true rfl) d_Model_checkNew_322 ⟨Nat.le_refl _, Nat.le_refl _⟩ (fun H locs hP hD hS => ?_)
      clear hc63
      refine lv_aload_n hx hb d_Model_checkNew_325 rfl (lv_at hl 2 rfl) ?_
      refine rd_Model_123 hx hb hT hown hK hP d_Model_checkNew_326 ?_
      refine lv_iload hx hb d_Model_checkNew_329 (lv_at hl 1 rfl) ?_
      replace hR := gd_e hR
      obtain ⟨b64, hR⟩ := hR
      refine laM_36 hx hb hK hP b64 d_Model_checkNew_331 ?_
      replace hR := bi_e hR
      obtain ⟨r65, l65, T65, hc65, hR⟩ := hR
      refine gcV_v (rest := []) ⟨hx, hb, hml, hown, hT⟩ (h_Model_fit _ _ _ _ _ _ _ hc65) (cwV 3 hT (gV ml_Model_688 im_Model_fit se_Model_fit ini_Model co_Model_fit) rfl rfl rfl pd_Model_fit ⟨rm_hi, rm_lo (Nat.le_of_ble_eq_true rfl)⟩) hK hP hD hS hA hnw henv (Nat.le_of_ble_eq_true rfl) rfl rfl hl.1 rfl (Nat.le_of_ble_eq_true rfl) d_Model_checkNew_332 ⟨Nat.le_refl _, Nat.le_refl _⟩ (fun H locs hP hD hS => ?_)
      clear hc65
      refine lv_goto (tgt := 346) hx hb d_Model_checkNew_335 (by decide) ?_
      have g := lb_346 T65 x2 x3 x4 hR
      rw [hG] at g
      exact g _ _ hP hD hS _ (lv_sub hl [2, 4, 5, 6] rfl)
    · replace hR := if_n c54 hR
      refine lv_iconst (v := 0) hx hb d_Model_checkNew_266 (by decide) ?_
      obtain ⟨e1, -, e3⟩ := re_e hR
      subst e1; subst e3
      exact W.iret (v := (0 : Int32)) hx hb hr (fun t ht hW => ⟨⟨(0 : Int32), (), rfl, rfl, by rw [ht]; exact hP, va_K.moved hW.alike hK, hD⟩, hS.F ht⟩) hS.2.2 d_Model_checkNew_267
  have lb_206 : ∀ (T : gSt) (x1 : Int32) (x2 : Int32) (x3 : Int32) (x4 : Int32) (x5 : Int32), rj_Model_checkNew_206 F nf T x1 x2 x3 x4 x5 = some (r0, rl0, T9) → G 206 [(0, .ref (ad 0)), (1, .int x1), (2, .int x2), (3, .int x3), (4, .int x4), (5, .int x5)] [] T := by
    intro T x1 x2 x3 x4 x5 hR; unfold rj_Model_checkNew_206 at hR; rw [hG]; intro H locs hP hD hS ls hl
    refine lv_aload_n hx hb d_Model_checkNew_206 rfl (lv_at hl 0 rfl) ?_
    replace hR := bi_e hR
    obtain ⟨r41, l41, T41, hc41, hR⟩ := hR
    refine gcV_i (rest := []) ⟨hx, hb, hml, hown, hT⟩ (h_Model_bad _ _ _ _ hc41) (cwV 0 hT (gV ml_Model_385 im_Model_bad se_Model_bad ini_Model co_Model_bad) rfl rfl rfl pd_Model_bad ⟨rm_hi, rm_lo (Nat.le_of_ble_eq_true rfl)⟩) hK hP hD hS hA hnw henv (Nat.le_of_ble_eq_true rfl) rfl rfl hl.1 rfl (Nat.le_of_ble_eq_true rfl) d_Model_checkNew_207 ⟨Nat.le_refl _, Nat.le_refl _⟩ (fun H locs hP hD hS => ?_)
    clear hc41
    refine lv_if_eq (tgt := 215) hx hb d_Model_checkNew_210 (by decide) (fun c42 => ?_) (fun c42 => ?_)
    · replace hR := if_p c42 hR
      refine lv_iload hx hb d_Model_checkNew_215 (lv_at hl 5 rfl) ?_
      refine lv_if_eq (tgt := 338) hx hb d_Model_checkNew_217 (by decide) (fun c43 => ?_) (fun c43 => ?_)
      · replace hR := if_p c43 hR
        refine lv_aload_n hx hb d_Model_checkNew_338 rfl (lv_at hl 0 rfl) ?_
        refine lv_iload_n hx hb d_Model_checkNew_339 rfl (lv_at hl 1 rfl) ?_
        refine lv_iload_n hx hb d_Model_checkNew_340 rfl (lv_at hl 3 rfl) ?_
        refine lv_iload hx hb d_Model_checkNew_341 (lv_at hl 4 rfl) ?_
        replace hR := bi_e hR
        obtain ⟨r44, l44, T44, hc44, hR⟩ := hR
        refine gcV_v (rest := []) ⟨hx, hb, hml, hown, hT⟩ (h_Model_fitAll _ _ _ _ _ _ _ hc44) (cwV 3 hT (gV ml_Model_768 im_Model_fitAll se_Model_fitAll ini_Model co_Model_fitAll) rfl rfl rfl pd_Model_fitAll ⟨rm_hi, rm_lo (Nat.le_of_ble_eq_true rfl)⟩) hK hP hD hS hA hnw henv (Nat.le_of_ble_eq_true rfl) rfl rfl hl.1 rfl (Nat.le_of_ble_eq_true rfl) d_Model_checkNew_343 ⟨Nat.le_refl _, Nat.le_refl _⟩ (fun H locs hP hD hS => ?_)
        clear hc44
        have g := lb_346 T44 x2 x3 x4 hR
        rw [hG] at g
        exact g _ _ hP hD hS _ (lv_sub hl [0, 2, 3, 4] rfl)
      · replace hR := if_n c43 hR
        refine lv_aload_n hx hb d_Model_checkNew_220 rfl (lv_at hl 0 rfl) ?_
        refine lv_iload_n hx hb d_Model_checkNew_221 rfl (lv_at hl 3 rfl) ?_
        refine lv_aload_n hx hb d_Model_checkNew_222 rfl (lv_at hl 0 rfl) ?_
        refine rd_Model_138 hx hb hT hown hK hP d_Model_checkNew_223 ?_
        refine lv_aload_n hx hb d_Model_checkNew_226 rfl (lv_at hl 0 rfl) ?_
        refine rd_Model_126 hx hb hT hown hK hP d_Model_checkNew_227 ?_
        refine lv_iload_n hx hb d_Model_checkNew_230 rfl (lv_at hl 1 rfl) ?_
        replace hR := gd_e hR
        obtain ⟨b45, hR⟩ := hR
        refine laM_37 hx hb hK hP b45 d_Model_checkNew_231 ?_
        replace hR := gd_e hR
        obtain ⟨b46, hR⟩ := hR
        refine laM_41 hx hb hK hP b46 d_Model_checkNew_232 ?_
        replace hR := bi_e hR
        obtain ⟨r47, l47, T47, hc47, hR⟩ := hR
        refine gcV_i (rest := []) ⟨hx, hb, hml, hown, hT⟩ (h_Model_findField _ _ _ _ _ _ hc47) (cwV 2 hT (gV ml_Model_612 im_Model_findField se_Model_findField ini_Model co_Model_findField) rfl rfl rfl pd_Model_findField ⟨rm_hi, rm_lo (Nat.le_of_ble_eq_true rfl)⟩) hK hP hD hS hA hnw henv (Nat.le_of_ble_eq_true rfl) rfl rfl hl.1 rfl (Nat.le_of_ble_eq_true rfl) d_Model_checkNew_233 ⟨Nat.le_refl _, Nat.le_refl _⟩ (fun H locs hP hD hS => ?_)
        clear hc47
        refine lv_istore (lv' := [(6, .int r47), (0, .ref (ad 0)), (1, .int x1), (2, .int x2), (3, .int x3), (4, .int x4), (5, .int x5)]) hx hb d_Model_checkNew_236 hl (by decide) rfl (fun ls hl => ?_)
        refine lv_iload hx hb d_Model_checkNew_238 (lv_at hl 0 rfl) ?_
        refine lv_if_ge (tgt := 259) hx hb d_Model_checkNew_240 (by decide) (fun c48 => ?_) (fun c48 => ?_)
        · replace hR := if_p c48 hR
          have g := lb_259 T47 x1 x2 x3 x4 r47 hR
          rw [hG] at g
          exact g _ _ hP hD hS _ (lv_sub hl [1, 2, 3, 4, 5, 0] rfl)
        · replace hR := if_n c48 hR
          refine lv_aload_n hx hb d_Model_checkNew_243 rfl (lv_at hl 1 rfl) ?_
          refine lv_iconst (v := 3) hx hb d_Model_checkNew_244 (by decide) ?_
          refine lv_aload_n hx hb d_Model_checkNew_245 rfl (lv_at hl 1 rfl) ?_
          refine rd_Model_141 hx hb hT hown hK hP d_Model_checkNew_246 ?_
          refine lv_aload_n hx hb d_Model_checkNew_249 rfl (lv_at hl 1 rfl) ?_
          refine rd_Model_126 hx hb hT hown hK hP d_Model_checkNew_250 ?_
          refine lv_iload_n hx hb d_Model_checkNew_253 rfl (lv_at hl 2 rfl) ?_
          replace hR := gd_e hR
          obtain ⟨b49, hR⟩ := hR
          refine laM_37 hx hb hK hP b49 d_Model_checkNew_254 ?_
          replace hR := gd_e hR
          obtain ⟨b50, hR⟩ := hR
          refine laM_42 hx hb hK hP b50 d_Model_checkNew_255 ?_
          replace hR := bi_e hR
          obtain ⟨r51, l51, T51, hc51, hR⟩ := hR
          refine gcV_v (rest := []) ⟨hx, hb, hml, hown, hT⟩ (h_Model_fail _ _ _ _ _ _ hc51) (cwV 2 hT (gV ml_Model_381 im_Model_fail se_Model_fail ini_Model co_Model_fail) rfl rfl rfl pd_Model_fail ⟨rm_hi, rm_lo (Nat.le_of_ble_eq_true rfl)⟩) hK hP hD hS hA hnw henv (Nat.le_of_ble_eq_true rfl) rfl rfl hl.1 rfl (Nat.le_of_ble_eq_true rfl) d_Model_checkNew_256 ⟨Nat.le_refl _, Nat.le_refl _⟩ (fun H locs hP hD hS => ?_)
          clear hc51
          have g := lb_259 T51 x1 x2 x3 x4 r47 hR
          rw [hG] at g
          exact g _ _ hP hD hS _ (lv_sub hl [1, 2, 3, 4, 5, 0] rfl)
    · replace hR := if_n c42 hR
      refine lv_iconst (v := 0) hx hb d_Model_checkNew_213 (by decide) ?_
      obtain ⟨e1, -, e3⟩ := re_e hR
      subst e1; subst e3
      exact W.iret (v := (0 : Int32)) hx hb hr (fun t ht hW => ⟨⟨(0 : Int32), (), rfl, rfl, by rw [ht]; exact hP, va_K.moved hW.alike hK, hD⟩, hS.F ht⟩) hS.2.2 d_Model_checkNew_214
  have lb_137 : ∀ (T : gSt) (x1 : Int32) (x2 : Int32) (x3 : Int32) (x4 : Int32) (x5 : Int32) (y0 : Int32) (y1 : Int32), rj_Model_checkNew_137 F nf T x1 x2 x3 x4 x5 y0 y1 = some (r0, rl0, T9) → G 137 [(0, .ref (ad 0)), (1, .int x1), (2, .int x2), (3, .int x3), (4, .int x4), (5, .int x5)] [.int y0, .int y1] T := by
    intro T x1 x2 x3 x4 x5 y0 y1 hR; unfold rj_Model_checkNew_137 at hR; rw [hG]; intro H locs hP hD hS ls hl
    refine lv_icmp_eq (tgt := 174) hx hb d_Model_checkNew_137 (by decide) (fun c28 => ?_) (fun c28 => ?_)
    · replace hR := if_p c28 hR
      refine lv_iload hx hb d_Model_checkNew_174 (lv_at hl 5 rfl) ?_
      refine lv_if_ne (tgt := 206) hx hb d_Model_checkNew_176 (by decide) (fun c29 => ?_) (fun c29 => ?_)
      · replace hR := if_n c29 hR
        have g := lb_206 T x1 x2 x3 x4 x5 hR
        rw [hG] at g
        exact g _ _ hP hD hS _ (lv_sub hl [0, 1, 2, 3, 4, 5] rfl)
      · replace hR := if_p c29 hR
        refine lv_aload_n hx hb d_Model_checkNew_179 rfl (lv_at hl 0 rfl) ?_
        refine rd_Model_129 hx hb hT hown hK hP d_Model_checkNew_180 ?_
        refine lv_iload_n hx hb d_Model_checkNew_183 rfl (lv_at hl 1 rfl) ?_
        replace hR := gd_e hR
        obtain ⟨b30, hR⟩ := hR
        refine laM_38 hx hb hK hP b30 d_Model_checkNew_184 ?_
        refine lv_aload_n hx hb d_Model_checkNew_185 rfl (lv_at hl 0 rfl) ?_
        refine rd_Model_39 hx hb hT hown hK hP d_Model_checkNew_186 ?_
        refine lv_iload_n hx hb d_Model_checkNew_189 rfl (lv_at hl 3 rfl) ?_
        replace hR := gd_e hR
        obtain ⟨b31, hR⟩ := hR
        refine laM_8 hx hb hK hP b31 d_Model_checkNew_190 ?_
        refine lv_icmp_eq (tgt := 206) hx hb d_Model_checkNew_191 (by decide) (fun c32 => ?_) (fun c32 => ?_)
        · replace hR := if_p c32 hR
          have g := lb_206 T x1 x2 x3 x4 x5 hR
          rw [hG] at g
          exact g _ _ hP hD hS _ (lv_sub hl [0, 1, 2, 3, 4, 5] rfl)
        · replace hR := if_n c32 hR
          refine lv_aload_n hx hb d_Model_checkNew_194 rfl (lv_at hl 0 rfl) ?_
          refine lv_bipush (v := 7) hx hb d_Model_checkNew_195 (by decide) ?_
          refine lv_aload_n hx hb d_Model_checkNew_197 rfl (lv_at hl 0 rfl) ?_
          refine rd_Model_141 hx hb hT hown hK hP d_Model_checkNew_198 ?_
          refine lv_iload_n hx hb d_Model_checkNew_201 rfl (lv_at hl 1 rfl) ?_
          replace hR := gd_e hR
          obtain ⟨b33, hR⟩ := hR
          refine laM_42 hx hb hK hP b33 d_Model_checkNew_202 ?_
          replace hR := bi_e hR
          obtain ⟨r34, l34, T34, hc34, hR⟩ := hR
          refine gcV_v (rest := []) ⟨hx, hb, hml, hown, hT⟩ (h_Model_fail _ _ _ _ _ _ hc34) (cwV 2 hT (gV ml_Model_381 im_Model_fail se_Model_fail ini_Model co_Model_fail) rfl rfl rfl pd_Model_fail ⟨rm_hi, rm_lo (Nat.le_of_ble_eq_true rfl)⟩) hK hP hD hS hA hnw henv (Nat.le_of_ble_eq_true rfl) rfl rfl hl.1 rfl (Nat.le_of_ble_eq_true rfl) d_Model_checkNew_203 ⟨Nat.le_refl _, Nat.le_refl _⟩ (fun H locs hP hD hS => ?_)
          clear hc34
          have g := lb_206 T34 x1 x2 x3 x4 x5 hR
          rw [hG] at g
          exact g _ _ hP hD hS _ (lv_sub hl [0, 1, 2, 3, 4, 5] rfl)
    · replace hR := if_n c28 hR
      refine lv_aload_n hx hb d_Model_checkNew_140 rfl (lv_at hl 0 rfl) ?_
      refine lv_bipush (v := 7) hx hb d_Model_checkNew_141 (by decide) ?_
      refine lv_iload hx hb d_Model_checkNew_143 (lv_at hl 5 rfl) ?_
      refine lv_if_eq (tgt := 162) hx hb d_Model_checkNew_145 (by decide) (fun c35 => ?_) (fun c35 => ?_)
      · replace hR := if_p c35 hR
        refine lv_aload_n hx hb d_Model_checkNew_162 rfl (lv_at hl 0 rfl) ?_
        refine rd_Model_153 hx hb hT hown hK hP d_Model_checkNew_163 ?_
        refine lv_iload_n hx hb d_Model_checkNew_166 rfl (lv_at hl 1 rfl) ?_
        replace hR := gd_e hR
        obtain ⟨b36, hR⟩ := hR
        refine laM_46 hx hb hK hP b36 d_Model_checkNew_167 ?_
        replace hR := bi_e hR
        obtain ⟨r37, l37, T37, hc37, hR⟩ := hR
        refine gcV_v (rest := []) ⟨hx, hb, hml, hown, hT⟩ (h_Model_fail _ _ _ _ _ _ hc37) (cwV 2 hT (gV ml_Model_381 im_Model_fail se_Model_fail ini_Model co_Model_fail) rfl rfl rfl pd_Model_fail ⟨rm_hi, rm_lo (Nat.le_of_ble_eq_true rfl)⟩) hK hP hD hS hA hnw henv (Nat.le_of_ble_eq_true rfl) rfl rfl hl.1 rfl (Nat.le_of_ble_eq_true rfl) d_Model_checkNew_168 ⟨Nat.le_refl _, Nat.le_refl _⟩ (fun H locs hP hD hS => ?_)
        clear hc37
        refine lv_goto (tgt := 206) hx hb d_Model_checkNew_171 (by decide) ?_
        have g := lb_206 T37 x1 x2 x3 x4 x5 hR
        rw [hG] at g
        exact g _ _ hP hD hS _ (lv_sub hl [0, 1, 2, 3, 4, 5] rfl)
      · replace hR := if_n c35 hR
        refine lv_aload_n hx hb d_Model_checkNew_148 rfl (lv_at hl 0 rfl) ?_
        refine rd_Model_123 hx hb hT hown hK hP d_Model_checkNew_149 ?_
        refine lv_aload_n hx hb d_Model_checkNew_152 rfl (lv_at hl 0 rfl) ?_
        refine rd_Model_126 hx hb hT hown hK hP d_Model_checkNew_153 ?_
        refine lv_iload_n hx hb d_Model_checkNew_156 rfl (lv_at hl 1 rfl) ?_
        replace hR := gd_e hR
        obtain ⟨b38, hR⟩ := hR
        refine laM_37 hx hb hK hP b38 d_Model_checkNew_157 ?_
        replace hR := gd_e hR
        obtain ⟨b39, hR⟩ := hR
        refine laM_36 hx hb hK hP b39 d_Model_checkNew_158 ?_
        refine lv_goto (tgt := 168) hx hb d_Model_checkNew_159 (by decide) ?_
        replace hR := bi_e hR
        obtain ⟨r40, l40, T40, hc40, hR⟩ := hR
        refine gcV_v (rest := []) ⟨hx, hb, hml, hown, hT⟩ (h_Model_fail _ _ _ _ _ _ hc40) (cwV 2 hT (gV ml_Model_381 im_Model_fail se_Model_fail ini_Model co_Model_fail) rfl rfl rfl pd_Model_fail ⟨rm_hi, rm_lo (Nat.le_of_ble_eq_true rfl)⟩) hK hP hD hS hA hnw henv (Nat.le_of_ble_eq_true rfl) rfl rfl hl.1 rfl (Nat.le_of_ble_eq_true rfl) d_Model_checkNew_168 ⟨Nat.le_refl _, Nat.le_refl _⟩ (fun H locs hP hD hS => ?_)
        clear hc40
        refine lv_goto (tgt := 206) hx hb d_Model_checkNew_171 (by decide) ?_
        have g := lb_206 T40 x1 x2 x3 x4 x5 hR
        rw [hG] at g
        exact g _ _ hP hD hS _ (lv_sub hl [0, 1, 2, 3, 4, 5] rfl)
  have lb_76 : ∀ (T : gSt) (x1 : Int32) (x2 : Int32) (x3 : Int32), rj_Model_checkNew_76 F nf T x1 x2 x3 = some (r0, rl0, T9) → G 76 [(0, .ref (ad 0)), (1, .int x1), (2, .int x2), (3, .int x3)] [] T := by
    intro T x1 x2 x3 hR; unfold rj_Model_checkNew_76 at hR; rw [hG]; intro H locs hP hD hS ls hl
    refine lv_aload_n hx hb d_Model_checkNew_76 rfl (lv_at hl 0 rfl) ?_
    refine lv_aload_n hx hb d_Model_checkNew_77 rfl (lv_at hl 0 rfl) ?_
    refine rd_Model_144 hx hb hT hown hK hP d_Model_checkNew_78 ?_
    refine lv_iload_n hx hb d_Model_checkNew_81 rfl (lv_at hl 1 rfl) ?_
    replace hR := gd_e hR
    obtain ⟨b16, hR⟩ := hR
    refine laM_43 hx hb hK hP b16 d_Model_checkNew_82 ?_
    refine lv_aload_n hx hb d_Model_checkNew_83 rfl (lv_at hl 0 rfl) ?_
    refine rd_Model_147 hx hb hT hown hK hP d_Model_checkNew_84 ?_
    refine lv_iload_n hx hb d_Model_checkNew_87 rfl (lv_at hl 1 rfl) ?_
    replace hR := gd_e hR
    obtain ⟨b17, hR⟩ := hR
    refine laM_44 hx hb hK hP b17 d_Model_checkNew_88 ?_
    replace hR := bi_e hR
    obtain ⟨r18, l18, T18, hc18, hR⟩ := hR
    refine gcV_i (rest := []) ⟨hx, hb, hml, hown, hT⟩ (h_Model_withAt _ _ _ _ _ _ hc18) (cwV 2 hT (gV ml_Model_590 im_Model_withAt se_Model_withAt ini_Model co_Model_withAt) rfl rfl rfl pd_Model_withAt ⟨rm_hi, rm_lo (Nat.le_of_ble_eq_true rfl)⟩) hK hP hD hS hA hnw henv (Nat.le_of_ble_eq_true rfl) rfl rfl hl.1 rfl (Nat.le_of_ble_eq_true rfl) d_Model_checkNew_89 ⟨Nat.le_refl _, Nat.le_refl _⟩ (fun H locs hP hD hS => ?_)
    clear hc18
    refine lv_istore (lv' := [(4, .int r18), (0, .ref (ad 0)), (1, .int x1), (2, .int x2), (3, .int x3)]) hx hb d_Model_checkNew_92 hl (by decide) rfl (fun ls hl => ?_)
    refine lv_aload_n hx hb d_Model_checkNew_94 rfl (lv_at hl 1 rfl) ?_
    replace hR := bi_e hR
    obtain ⟨r19, l19, T19, hc19, hR⟩ := hR
    refine gcV_i (rest := []) ⟨hx, hb, hml, hown, hT⟩ (h_Model_bad _ _ _ _ hc19) (cwV 0 hT (gV ml_Model_385 im_Model_bad se_Model_bad ini_Model co_Model_bad) rfl rfl rfl pd_Model_bad ⟨rm_hi, rm_lo (Nat.le_of_ble_eq_true rfl)⟩) hK hP hD hS hA hnw henv (Nat.le_of_ble_eq_true rfl) rfl rfl hl.1 rfl (Nat.le_of_ble_eq_true rfl) d_Model_checkNew_95 ⟨Nat.le_refl _, Nat.le_refl _⟩ (fun H locs hP hD hS => ?_)
    clear hc19
    refine lv_if_eq (tgt := 103) hx hb d_Model_checkNew_98 (by decide) (fun c20 => ?_) (fun c20 => ?_)
    · replace hR := if_p c20 hR
      refine lv_aload_n hx hb d_Model_checkNew_103 rfl (lv_at hl 1 rfl) ?_
      refine rd_Model_120 hx hb hT hown hK hP d_Model_checkNew_104 ?_
      refine lv_iload_n hx hb d_Model_checkNew_107 rfl (lv_at hl 2 rfl) ?_
      replace hR := gd_e hR
      obtain ⟨b21, hR⟩ := hR
      refine laM_35 hx hb hK hP b21 d_Model_checkNew_108 ?_
      refine lv_bipush (v := 7) hx hb d_Model_checkNew_109 (by decide) ?_
      refine lv_icmp_ne (tgt := 118) hx hb d_Model_checkNew_111 (by decide) (fun c22 => ?_) (fun c22 => ?_)
      · replace hR := if_n c22 hR
        refine lv_iconst (v := 0) hx hb d_Model_checkNew_118 (by decide) ?_
        refine lv_istore (lv' := [(5, .int (0 : Int32)), (4, .int r18), (0, .ref (ad 0)), (1, .int x1), (2, .int x2), (3, .int x3)]) hx hb d_Model_checkNew_119 hl (by decide) rfl (fun ls hl => ?_)
        refine lv_aload_n hx hb d_Model_checkNew_121 rfl (lv_at hl 2 rfl) ?_
        refine rd_Model_17 hx hb hT hown hK hP d_Model_checkNew_122 ?_
        refine lv_iload_n hx hb d_Model_checkNew_125 rfl (lv_at hl 5 rfl) ?_
        replace hR := gd_e hR
        obtain ⟨b23, hR⟩ := hR
        refine laM_1 hx hb hK hP b23 d_Model_checkNew_126 ?_
        refine lv_iload hx hb d_Model_checkNew_127 (lv_at hl 0 rfl) ?_
        refine lv_if_eq (tgt := 136) hx hb d_Model_checkNew_129 (by decide) (fun _ => ?_) (fun c24 => absurd (by decide) c24)
        refine lv_iconst (v := 0) hx hb d_Model_checkNew_136 (by decide) ?_
        have g := lb_137 T19 x1 x2 x3 r18 (0 : Int32) (0 : Int32) (T19.1 12 x3.toNatClampNeg) hR
        rw [hG] at g
        exact g _ _ hP hD hS _ (lv_sub hl [2, 3, 4, 5, 1, 0] rfl)
      · replace hR := if_p c22 hR
        refine lv_iconst (v := 1) hx hb d_Model_checkNew_114 (by decide) ?_
        refine lv_goto (tgt := 119) hx hb d_Model_checkNew_115 (by decide) ?_
        refine lv_istore (lv' := [(5, .int (1 : Int32)), (4, .int r18), (0, .ref (ad 0)), (1, .int x1), (2, .int x2), (3, .int x3)]) hx hb d_Model_checkNew_119 hl (by decide) rfl (fun ls hl => ?_)
        refine lv_aload_n hx hb d_Model_checkNew_121 rfl (lv_at hl 2 rfl) ?_
        refine rd_Model_17 hx hb hT hown hK hP d_Model_checkNew_122 ?_
        refine lv_iload_n hx hb d_Model_checkNew_125 rfl (lv_at hl 5 rfl) ?_
        replace hR := gd_e hR
        obtain ⟨b25, hR⟩ := hR
        refine laM_1 hx hb hK hP b25 d_Model_checkNew_126 ?_
        refine lv_iload hx hb d_Model_checkNew_127 (lv_at hl 0 rfl) ?_
        refine lv_if_eq (tgt := 136) hx hb d_Model_checkNew_129 (by decide) (fun c26 => absurd c26 (by decide)) (fun _ => ?_)
        refine lv_iconst (v := 1) hx hb d_Model_checkNew_132 (by decide) ?_
        refine lv_goto (tgt := 137) hx hb d_Model_checkNew_133 (by decide) ?_
        have g := lb_137 T19 x1 x2 x3 r18 (1 : Int32) (1 : Int32) (T19.1 12 x3.toNatClampNeg) hR
        rw [hG] at g
        exact g _ _ hP hD hS _ (lv_sub hl [2, 3, 4, 5, 1, 0] rfl)
    · replace hR := if_n c20 hR
      refine lv_iconst (v := 0) hx hb d_Model_checkNew_101 (by decide) ?_
      obtain ⟨e1, -, e3⟩ := re_e hR
      subst e1; subst e3
      exact W.iret (v := (0 : Int32)) hx hb hr (fun t ht hW => ⟨⟨(0 : Int32), (), rfl, rfl, by rw [ht]; exact hP, va_K.moved hW.alike hK, hD⟩, hS.F ht⟩) hS.2.2 d_Model_checkNew_102
  unfold rb_Model_checkNew at hR
  refine lv_aload_n hx hb d_Model_checkNew_0 rfl (lv_at hl 0 rfl) ?_
  refine lv_aload_n hx hb d_Model_checkNew_1 rfl (lv_at hl 0 rfl) ?_
  refine rd_Model_132 hx hb hT hown hK hP d_Model_checkNew_2 ?_
  refine lv_iload_n hx hb d_Model_checkNew_5 rfl (lv_at hl 1 rfl) ?_
  replace hR := gd_e hR
  obtain ⟨b1, hR⟩ := hR
  refine laM_39 hx hb hK hP b1 d_Model_checkNew_6 ?_
  replace hR := bi_e hR
  obtain ⟨r2, l2, T2, hc2, hR⟩ := hR
  refine gcV_i (rest := []) ⟨hx, hb, hml, hown, hT⟩ (h_Model_liveRegionAt _ _ _ _ _ hc2) (cwV 1 hT (gV ml_Model_762 im_Model_liveRegionAt se_Model_liveRegionAt ini_Model co_Model_liveRegionAt) rfl rfl rfl pd_Model_liveRegionAt ⟨rm_hi, rm_lo (Nat.le_of_ble_eq_true rfl)⟩) hK hP hD hS hA hnw henv (Nat.le_of_ble_eq_true rfl) rfl rfl hl.1 rfl (Nat.le_of_ble_eq_true rfl) d_Model_checkNew_7 ⟨Nat.le_refl _, Nat.le_refl _⟩ (fun H locs hP hD hS => ?_)
  clear hc2
  refine lv_istore_n (lv' := [(2, .int r2), (0, .ref (ad 0)), (1, .int p1)]) hx hb d_Model_checkNew_10 rfl hl (by decide) rfl (fun ls hl => ?_)
  refine lv_aload_n hx hb d_Model_checkNew_11 rfl (lv_at hl 1 rfl) ?_
  replace hR := bi_e hR
  obtain ⟨r3, l3, T3, hc3, hR⟩ := hR
  refine gcV_i (rest := []) ⟨hx, hb, hml, hown, hT⟩ (h_Model_bad _ _ _ _ hc3) (cwV 0 hT (gV ml_Model_385 im_Model_bad se_Model_bad ini_Model co_Model_bad) rfl rfl rfl pd_Model_bad ⟨rm_hi, rm_lo (Nat.le_of_ble_eq_true rfl)⟩) hK hP hD hS hA hnw henv (Nat.le_of_ble_eq_true rfl) rfl rfl hl.1 rfl (Nat.le_of_ble_eq_true rfl) d_Model_checkNew_12 ⟨Nat.le_refl _, Nat.le_refl _⟩ (fun H locs hP hD hS => ?_)
  clear hc3
  refine lv_if_eq (tgt := 20) hx hb d_Model_checkNew_15 (by decide) (fun c4 => ?_) (fun c4 => ?_)
  · replace hR := if_p c4 hR
    refine lv_aload_n hx hb d_Model_checkNew_20 rfl (lv_at hl 1 rfl) ?_
    refine lv_aload_n hx hb d_Model_checkNew_21 rfl (lv_at hl 1 rfl) ?_
    refine rd_Model_138 hx hb hT hown hK hP d_Model_checkNew_22 ?_
    refine lv_iload_n hx hb d_Model_checkNew_25 rfl (lv_at hl 2 rfl) ?_
    replace hR := gd_e hR
    obtain ⟨b5, hR⟩ := hR
    refine laM_41 hx hb hK hP b5 d_Model_checkNew_26 ?_
    replace hR := bi_e hR
    obtain ⟨r6, l6, T6, hc6, hR⟩ := hR
    refine gcV_i (rest := []) ⟨hx, hb, hml, hown, hT⟩ (h_Model_findTitle _ _ _ _ _ hc6) (cwV 1 hT (gV ml_Model_587 im_Model_findTitle se_Model_findTitle ini_Model co_Model_findTitle) rfl rfl rfl pd_Model_findTitle ⟨rm_hi, rm_lo (Nat.le_of_ble_eq_true rfl)⟩) hK hP hD hS hA hnw henv (Nat.le_of_ble_eq_true rfl) rfl rfl hl.1 rfl (Nat.le_of_ble_eq_true rfl) d_Model_checkNew_27 ⟨Nat.le_refl _, Nat.le_refl _⟩ (fun H locs hP hD hS => ?_)
    clear hc6
    refine lv_istore_n (lv' := [(3, .int r6), (2, .int r2), (0, .ref (ad 0)), (1, .int p1)]) hx hb d_Model_checkNew_30 rfl hl (by decide) rfl (fun ls hl => ?_)
    refine lv_iload_n hx hb d_Model_checkNew_31 rfl (lv_at hl 0 rfl) ?_
    refine lv_if_ge (tgt := 49) hx hb d_Model_checkNew_32 (by decide) (fun c7 => ?_) (fun c7 => ?_)
    · replace hR := if_p c7 hR
      refine lv_aload_n hx hb d_Model_checkNew_49 rfl (lv_at hl 2 rfl) ?_
      refine rd_Model_27 hx hb hT hown hK hP d_Model_checkNew_50 ?_
      refine lv_iload_n hx hb d_Model_checkNew_53 rfl (lv_at hl 0 rfl) ?_
      replace hR := gd_e hR
      obtain ⟨b8, hR⟩ := hR
      refine laM_4 hx hb hK hP b8 d_Model_checkNew_54 ?_
      refine lv_aload_n hx hb d_Model_checkNew_55 rfl (lv_at hl 2 rfl) ?_
      refine rd_Model_147 hx hb hT hown hK hP d_Model_checkNew_56 ?_
      refine lv_iload_n hx hb d_Model_checkNew_59 rfl (lv_at hl 3 rfl) ?_
      replace hR := gd_e hR
      obtain ⟨b9, hR⟩ := hR
      refine laM_44 hx hb hK hP b9 d_Model_checkNew_60 ?_
      refine lv_icmp_eq (tgt := 76) hx hb d_Model_checkNew_61 (by decide) (fun c10 => ?_) (fun c10 => ?_)
      · replace hR := if_p c10 hR
        have g := lb_76 T6 p1 r2 r6 hR
        rw [hG] at g
        exact g _ _ hP hD hS _ (lv_sub hl [2, 3, 1, 0] rfl)
      · replace hR := if_n c10 hR
        refine lv_aload_n hx hb d_Model_checkNew_64 rfl (lv_at hl 2 rfl) ?_
        refine lv_bipush (v := 7) hx hb d_Model_checkNew_65 (by decide) ?_
        refine lv_aload_n hx hb d_Model_checkNew_67 rfl (lv_at hl 2 rfl) ?_
        refine rd_Model_141 hx hb hT hown hK hP d_Model_checkNew_68 ?_
        refine lv_iload_n hx hb d_Model_checkNew_71 rfl (lv_at hl 3 rfl) ?_
        replace hR := gd_e hR
        obtain ⟨b11, hR⟩ := hR
        refine laM_42 hx hb hK hP b11 d_Model_checkNew_72 ?_
        replace hR := bi_e hR
        obtain ⟨r12, l12, T12, hc12, hR⟩ := hR
        refine gcV_v (rest := []) ⟨hx, hb, hml, hown, hT⟩ (h_Model_fail _ _ _ _ _ _ hc12) (cwV 2 hT (gV ml_Model_381 im_Model_fail se_Model_fail ini_Model co_Model_fail) rfl rfl rfl pd_Model_fail ⟨rm_hi, rm_lo (Nat.le_of_ble_eq_true rfl)⟩) hK hP hD hS hA hnw henv (Nat.le_of_ble_eq_true rfl) rfl rfl hl.1 rfl (Nat.le_of_ble_eq_true rfl) d_Model_checkNew_73 ⟨Nat.le_refl _, Nat.le_refl _⟩ (fun H locs hP hD hS => ?_)
        clear hc12
        have g := lb_76 T12 p1 r2 r6 hR
        rw [hG] at g
        exact g _ _ hP hD hS _ (lv_sub hl [2, 3, 1, 0] rfl)
    · replace hR := if_n c7 hR
      refine lv_aload_n hx hb d_Model_checkNew_35 rfl (lv_at hl 2 rfl) ?_
      refine lv_iconst (v := 3) hx hb d_Model_checkNew_36 (by decide) ?_
      refine lv_aload_n hx hb d_Model_checkNew_37 rfl (lv_at hl 2 rfl) ?_
      refine rd_Model_141 hx hb hT hown hK hP d_Model_checkNew_38 ?_
      refine lv_iload_n hx hb d_Model_checkNew_41 rfl (lv_at hl 3 rfl) ?_
      replace hR := gd_e hR
      obtain ⟨b13, hR⟩ := hR
      refine laM_42 hx hb hK hP b13 d_Model_checkNew_42 ?_
      replace hR := bi_e hR
      obtain ⟨r14, l14, T14, hc14, hR⟩ := hR
      refine gcV_v (rest := []) ⟨hx, hb, hml, hown, hT⟩ (h_Model_fail _ _ _ _ _ _ hc14) (cwV 2 hT (gV ml_Model_381 im_Model_fail se_Model_fail ini_Model co_Model_fail) rfl rfl rfl pd_Model_fail ⟨rm_hi, rm_lo (Nat.le_of_ble_eq_true rfl)⟩) hK hP hD hS hA hnw henv (Nat.le_of_ble_eq_true rfl) rfl rfl hl.1 rfl (Nat.le_of_ble_eq_true rfl) d_Model_checkNew_43 ⟨Nat.le_refl _, Nat.le_refl _⟩ (fun H locs hP hD hS => ?_)
      clear hc14
      refine lv_goto (tgt := 76) hx hb d_Model_checkNew_46 (by decide) ?_
      have g := lb_76 T14 p1 r2 r6 hR
      rw [hG] at g
      exact g _ _ hP hD hS _ (lv_sub hl [2, 3, 1, 0] rfl)
  · replace hR := if_n c4 hR
    refine lv_iconst (v := 0) hx hb d_Model_checkNew_18 (by decide) ?_
    obtain ⟨e1, -, e3⟩ := re_e hR
    subst e1; subst e3
    exact W.iret (v := (0 : Int32)) hx hb hr (fun t ht hW => ⟨⟨(0 : Int32), (), rfl, rfl, by rw [ht]; exact hP, va_K.moved hW.alike hK, hD⟩, hS.F ht⟩) hS.2.2 d_Model_checkNew_19
set_option maxHeartbeats 4000000 in
set_option maxRecDepth 100000 in
theorem sp_Model_fitAll (l : Launch) (dC : Nat → ClassId) (dI : Nat → Nat → Nat) (ea ev ad : Nat → Nat) (km : Nat → ClassId) (F : gF) (nf d : Nat) (h_Model_bad : mt_Model_bad l dC dI ea ev ad km F d) (h_Model_check : mt_Model_check l dC dI ea ev ad km F d) (h_Model_changed : mt_Model_changed l dC dI ea ev ad km F d) (h_Model_fit : mt_Model_fit l dC dI ea ev ad km F d) (T0 : gSt) (p1 : Int32) (p2 : Int32) (p3 : Int32) (r0 : Int32) (rl0 : Int64) (T9 : gSt) (hR : rb_Model_fitAll F nf T0 p1 p2 p3 = some (r0, rl0, T9)) : GMv l dC dI LM ad km ea ev y_Model_fitAll w_Model_fitAll (rmD (d + 1)) [.ref (ad 0), .int p1, .int p2, .int p3] T0 T9 := by
  intro sz
  refine Met.ofW (cc := b_Model_fitAll) (maxL := 7) (ret := none) (by decide) rfl ?_
  intro p e s m args below meth c s₁ B hml hv
  obtain ⟨rfl, hsz, hP, hK, hD0, hnw, henv⟩ := hv
  have hx := B.exec
  have hb := B.bytes
  have hr := B.returns
  have hT : ∀ w ∈ lw_good, w.before _ s = true := fun w h => atoms_spec (ws := w_Model_fitAll) B.pre w (List.mem_cons_of_mem _ h)
  have hown : s.vm.findClass R_Model = some m.cls := findClass_of_methodNamed B.named
  subst hsz
  have hD := hD0.self (sz := s.heap.size)
  clear hD0
  generalize hAe : va_A (gW LM ad km T0) s.heap.size = A at hD henv ⊢
  have hA : ∀ q : Nat, s.heap.size ≤ q → A q := fun q h => by rw [← hAe]; exact Or.inr h
  have hS : va_S A s.heap s.heap [] := va_S.rf
  have hl := lv_entry ([.ref (ad 0), .int p1, .int p2, .int p3]) (n := 7) (Nat.le_of_ble_eq_true rfl)
  rw [lg_entry_eq]
  generalize (lg_sl ([.ref (ad 0), .int p1, .int p2, .int p3]) ++ List.replicate (7 - (lg_sl ([.ref (ad 0), .int p1, .int p2, .int p3])).length) Slot.unset).toArray = ls at hl ⊢
  have hl : lv_has ls 7 [(0, .ref (ad 0)), (1, .int p1), (2, .int p2), (3, .int p3)] := hl
  obtain ⟨G, hG⟩ : ∃ G : Nat → List (Nat × Value) → List Value → gSt → Prop, G = (fun pc lv stk T => ∀ (H : Heap) (locs : List Loc), va_P (dC, dI) cls_all (gW LM ad km T) H → va_D A (gW LM ad km T) → va_S A s.heap H locs → ∀ (ls : Array Slot), lv_has ls 7 lv → W p l e (headSpec w_Model_fitAll (rmD (d + 1))).room s m ([.ref (ad 0), .int p1, .int p2, .int p3] : List Value).toArray below meth c H locs 0 0 (MQ below (va_Qv (fun (_ : Unit) => True) (fun _ t => gPost dC dI LM ad km T9 A t) A) ([.ref (ad 0), .int p1, .int p2, .int p3] : List Value).toArray s 0 0 A) (F0 m pc ls stk)) := ⟨_, rfl⟩
  have lb_16 : ∀ (n : Nat) (T : gSt) (x3 : Int32) (x4 : Int32) (x5 : Int32), rl_Model_fitAll_16 F nf n T x3 x4 x5 = some (r0, rl0, T9) → G 16 [(0, .ref (ad 0)), (3, .int x3), (4, .int x4), (5, .int x5)] [] T := by
    intro n
    induction n with
    | zero => intro T x3 x4 x5 hR; rw [rl_Model_fitAll_16] at hR; cases hR
    | succ n ih =>
      intro T x3 x4 x5 hR; rw [rl_Model_fitAll_16] at hR; rw [hG]; intro H locs hP hD hS ls hl
      refine lv_iload hx hb d_Model_fitAll_16 (lv_at hl 3 rfl) ?_
      refine lv_if_lt (tgt := 93) hx hb d_Model_fitAll_18 (by decide) (fun c5 => ?_) (fun c5 => ?_)
      · replace hR := if_p c5 hR
        obtain ⟨-, -, e3⟩ := re_e hR
        subst e3
        exact W.vret hx hb hr (fun t ht hW => ⟨⟨(), rfl, trivial, by rw [ht]; exact hP, va_K.moved hW.alike hK, hD⟩, hS.F ht⟩) hS.2.2 d_Model_fitAll_93
      · replace hR := if_n c5 hR
        refine lv_aload_n hx hb d_Model_fitAll_21 rfl (lv_at hl 0 rfl) ?_
        replace hR := bi_e hR
        obtain ⟨r6, l6, T6, hc6, hR⟩ := hR
        refine gcV_i (rest := []) ⟨hx, hb, hml, hown, hT⟩ (h_Model_bad _ _ _ _ hc6) (cwV 0 hT (gV ml_Model_385 im_Model_bad se_Model_bad ini_Model co_Model_bad) rfl rfl rfl pd_Model_bad ⟨rm_hi, rm_lo (Nat.le_of_ble_eq_true rfl)⟩) hK hP hD hS hA hnw henv (Nat.le_of_ble_eq_true rfl) rfl rfl hl.1 rfl (Nat.le_of_ble_eq_true rfl) d_Model_fitAll_22 ⟨Nat.le_refl _, Nat.le_refl _⟩ (fun H locs hP hD hS => ?_)
        clear hc6
        refine lv_if_ne (tgt := 93) hx hb d_Model_fitAll_25 (by decide) (fun c7 => ?_) (fun c7 => ?_)
        · replace hR := if_n c7 hR
          obtain ⟨-, -, e3⟩ := re_e hR
          subst e3
          exact W.vret hx hb hr (fun t ht hW => ⟨⟨(), rfl, trivial, by rw [ht]; exact hP, va_K.moved hW.alike hK, hD⟩, hS.F ht⟩) hS.2.2 d_Model_fitAll_93
        · replace hR := if_p c7 hR
          refine lv_aload_n hx hb d_Model_fitAll_28 rfl (lv_at hl 0 rfl) ?_
          refine lv_aload_n hx hb d_Model_fitAll_29 rfl (lv_at hl 0 rfl) ?_
          refine rd_Model_126 hx hb hT hown hK hP d_Model_fitAll_30 ?_
          refine lv_iload hx hb d_Model_fitAll_33 (lv_at hl 3 rfl) ?_
          replace hR := gd_e hR
          obtain ⟨b8, hR⟩ := hR
          refine laM_37 hx hb hK hP b8 d_Model_fitAll_35 ?_
          replace hR := bi_e hR
          obtain ⟨r9, l9, T9, hc9, hR⟩ := hR
          refine gcV_i (rest := []) ⟨hx, hb, hml, hown, hT⟩ (h_Model_check _ _ _ _ _ hc9) (cwV 1 hT (gV ml_Model_652 im_Model_check se_Model_check ini_Model co_Model_check) rfl rfl rfl pd_Model_check ⟨rm_hi, rm_lo (Nat.le_of_ble_eq_true rfl)⟩) hK hP hD hS hA hnw henv (Nat.le_of_ble_eq_true rfl) rfl rfl hl.1 rfl (Nat.le_of_ble_eq_true rfl) d_Model_fitAll_36 ⟨Nat.le_refl _, Nat.le_refl _⟩ (fun H locs hP hD hS => ?_)
          clear hc9
          refine lv_istore (lv' := [(6, .int r9), (0, .ref (ad 0)), (3, .int x3), (4, .int x4), (5, .int x5)]) hx hb d_Model_fitAll_39 hl (by decide) rfl (fun ls hl => ?_)
          refine lv_aload_n hx hb d_Model_fitAll_41 rfl (lv_at hl 1 rfl) ?_
          replace hR := bi_e hR
          obtain ⟨r10, l10, T10, hc10, hR⟩ := hR
          refine gcV_i (rest := []) ⟨hx, hb, hml, hown, hT⟩ (h_Model_bad _ _ _ _ hc10) (cwV 0 hT (gV ml_Model_385 im_Model_bad se_Model_bad ini_Model co_Model_bad) rfl rfl rfl pd_Model_bad ⟨rm_hi, rm_lo (Nat.le_of_ble_eq_true rfl)⟩) hK hP hD hS hA hnw henv (Nat.le_of_ble_eq_true rfl) rfl rfl hl.1 rfl (Nat.le_of_ble_eq_true rfl) d_Model_fitAll_42 ⟨Nat.le_refl _, Nat.le_refl _⟩ (fun H locs hP hD hS => ?_)
          clear hc10
          refine lv_if_ne (tgt := 78) hx hb d_Model_fitAll_45 (by decide) (fun c11 => ?_) (fun c11 => ?_)
          · replace hR := if_n c11 hR
            obtain ⟨z12, e12⟩ : ∃ y : Int32, y = x4 + (1 : Int32) := ⟨_, rfl⟩
            replace hR := vK_e e12 hR
            refine lv_iinc (v := z12) (lv' := [(4, .int z12), (6, .int r9), (0, .ref (ad 0)), (3, .int x3), (5, .int x5)]) hx hb d_Model_fitAll_78 hl (k := 3) rfl (by rw [e12]; rfl) (by decide) rfl (fun ls hl => ?_)
            refine lv_aload_n hx hb d_Model_fitAll_81 rfl (lv_at hl 2 rfl) ?_
            refine rd_Model_135 hx hb hT hown hK hP d_Model_fitAll_82 ?_
            refine lv_iload hx hb d_Model_fitAll_85 (lv_at hl 4 rfl) ?_
            replace hR := gd_e hR
            obtain ⟨b13, hR⟩ := hR
            refine laM_40 hx hb hK hP b13 d_Model_fitAll_87 ?_
            refine lv_topi (fun z14 e14 => ?_)
            replace hR := vK_e e14 hR
            refine lv_istore (lv' := [(5, .int z14), (4, .int z12), (6, .int r9), (0, .ref (ad 0)), (3, .int x3)]) hx hb d_Model_fitAll_88 hl (by decide) rfl (fun ls hl => ?_)
            refine lv_goto (tgt := 16) hx hb d_Model_fitAll_90 (by decide) ?_
            have g := ih T10 x3 z12 z14 hR
            rw [hG] at g
            exact g _ _ hP hD hS _ (lv_sub hl [3, 4, 1, 0] rfl)
          · replace hR := if_p c11 hR
            refine lv_aload_n hx hb d_Model_fitAll_48 rfl (lv_at hl 1 rfl) ?_
            refine lv_iload hx hb d_Model_fitAll_49 (lv_at hl 0 rfl) ?_
            refine lv_aload_n hx hb d_Model_fitAll_51 rfl (lv_at hl 1 rfl) ?_
            refine lv_aload_n hx hb d_Model_fitAll_52 rfl (lv_at hl 1 rfl) ?_
            refine rd_Model_51 hx hb hT hown hK hP d_Model_fitAll_53 ?_
            refine lv_iload hx hb d_Model_fitAll_56 (lv_at hl 3 rfl) ?_
            replace hR := gd_e hR
            obtain ⟨b15, hR⟩ := hR
            refine laM_12 hx hb hK hP b15 d_Model_fitAll_58 ?_
            refine lv_iload_n hx hb d_Model_fitAll_59 rfl (lv_at hl 2 rfl) ?_
            replace hR := bi_e hR
            obtain ⟨r16, l16, T16, hc16, hR⟩ := hR
            refine gcV_i (rest := [.int r9, .ref (ad 0)]) ⟨hx, hb, hml, hown, hT⟩ (h_Model_changed _ _ _ _ _ _ hc16) (cwV 2 hT (gV ml_Model_553 im_Model_changed se_Model_changed ini_Model co_Model_changed) rfl rfl rfl pd_Model_changed ⟨rm_hi, rm_lo (Nat.le_of_ble_eq_true rfl)⟩) hK hP hD hS hA hnw henv (Nat.le_of_ble_eq_true rfl) rfl rfl hl.1 rfl (Nat.le_of_ble_eq_true rfl) d_Model_fitAll_60 ⟨Nat.le_refl _, Nat.le_refl _⟩ (fun H locs hP hD hS => ?_)
            clear hc16
            refine lv_aload_n hx hb d_Model_fitAll_63 rfl (lv_at hl 1 rfl) ?_
            refine rd_Model_123 hx hb hT hown hK hP d_Model_fitAll_64 ?_
            refine lv_aload_n hx hb d_Model_fitAll_67 rfl (lv_at hl 1 rfl) ?_
            refine rd_Model_126 hx hb hT hown hK hP d_Model_fitAll_68 ?_
            refine lv_iload hx hb d_Model_fitAll_71 (lv_at hl 4 rfl) ?_
            replace hR := gd_e hR
            obtain ⟨b17, hR⟩ := hR
            refine laM_37 hx hb hK hP b17 d_Model_fitAll_73 ?_
            replace hR := gd_e hR
            obtain ⟨b18, hR⟩ := hR
            refine laM_36 hx hb hK hP b18 d_Model_fitAll_74 ?_
            replace hR := bi_e hR
            obtain ⟨r19, l19, T19, hc19, hR⟩ := hR
            refine gcV_v (rest := []) ⟨hx, hb, hml, hown, hT⟩ (h_Model_fit _ _ _ _ _ _ _ hc19) (cwV 3 hT (gV ml_Model_688 im_Model_fit se_Model_fit ini_Model co_Model_fit) rfl rfl rfl pd_Model_fit ⟨rm_hi, rm_lo (Nat.le_of_ble_eq_true rfl)⟩) hK hP hD hS hA hnw henv (Nat.le_of_ble_eq_true rfl) rfl rfl hl.1 rfl (Nat.le_of_ble_eq_true rfl) d_Model_fitAll_75 ⟨Nat.le_refl _, Nat.le_refl _⟩ (fun H locs hP hD hS => ?_)
            clear hc19
            obtain ⟨z20, e20⟩ : ∃ y : Int32, y = x4 + (1 : Int32) := ⟨_, rfl⟩
            replace hR := vK_e e20 hR
            refine lv_iinc (v := z20) (lv' := [(4, .int z20), (6, .int r9), (0, .ref (ad 0)), (3, .int x3), (5, .int x5)]) hx hb d_Model_fitAll_78 hl (k := 3) rfl (by rw [e20]; rfl) (by decide) rfl (fun ls hl => ?_)
            refine lv_aload_n hx hb d_Model_fitAll_81 rfl (lv_at hl 2 rfl) ?_
            refine rd_Model_135 hx hb hT hown hK hP d_Model_fitAll_82 ?_
            refine lv_iload hx hb d_Model_fitAll_85 (lv_at hl 4 rfl) ?_
            replace hR := gd_e hR
            obtain ⟨b21, hR⟩ := hR
            refine laM_40 hx hb hK hP b21 d_Model_fitAll_87 ?_
            refine lv_topi (fun z22 e22 => ?_)
            replace hR := vK_e e22 hR
            refine lv_istore (lv' := [(5, .int z22), (4, .int z20), (6, .int r9), (0, .ref (ad 0)), (3, .int x3)]) hx hb d_Model_fitAll_88 hl (by decide) rfl (fun ls hl => ?_)
            refine lv_goto (tgt := 16) hx hb d_Model_fitAll_90 (by decide) ?_
            have g := ih T19 x3 z20 z22 hR
            rw [hG] at g
            exact g _ _ hP hD hS _ (lv_sub hl [3, 4, 1, 0] rfl)
  unfold rb_Model_fitAll at hR
  refine lv_aload_n hx hb d_Model_fitAll_0 rfl (lv_at hl 0 rfl) ?_
  refine rd_Model_36 hx hb hT hown hK hP d_Model_fitAll_1 ?_
  refine lv_iload_n hx hb d_Model_fitAll_4 rfl (lv_at hl 2 rfl) ?_
  replace hR := gd_e hR
  obtain ⟨b1, hR⟩ := hR
  refine laM_7 hx hb hK hP b1 d_Model_fitAll_5 ?_
  refine lv_topi (fun z2 e2 => ?_)
  replace hR := vK_e e2 hR
  refine lv_istore (lv' := [(4, .int z2), (0, .ref (ad 0)), (1, .int p1), (2, .int p2), (3, .int p3)]) hx hb d_Model_fitAll_6 hl (by decide) rfl (fun ls hl => ?_)
  refine lv_aload_n hx hb d_Model_fitAll_8 rfl (lv_at hl 1 rfl) ?_
  refine rd_Model_126 hx hb hT hown hK hP d_Model_fitAll_9 ?_
  refine lv_iload_n hx hb d_Model_fitAll_12 rfl (lv_at hl 2 rfl) ?_
  replace hR := gd_e hR
  obtain ⟨b3, hR⟩ := hR
  refine laM_37 hx hb hK hP b3 d_Model_fitAll_13 ?_
  refine lv_topi (fun z4 e4 => ?_)
  replace hR := vK_e e4 hR
  refine lv_istore (lv' := [(5, .int z4), (4, .int z2), (0, .ref (ad 0)), (1, .int p1), (2, .int p2), (3, .int p3)]) hx hb d_Model_fitAll_14 hl (by decide) rfl (fun ls hl => ?_)
  have g := lb_16 nf T0 p3 z2 z4 hR
  rw [hG] at g
  exact g _ _ hP hD hS _ (lv_sub hl [2, 5, 1, 0] rfl)
set_option maxHeartbeats 4000000 in
set_option maxRecDepth 100000 in
theorem sp_Model_checkCall (l : Launch) (dC : Nat → ClassId) (dI : Nat → Nat → Nat) (ea ev ad : Nat → Nat) (km : Nat → ClassId) (F : gF) (nf d : Nat) (h_Model_findFun : mt_Model_findFun l dC dI ea ev ad km F d) (h_Model_fail : mt_Model_fail l dC dI ea ev ad km F d) (h_Model_bad : mt_Model_bad l dC dI ea ev ad km F d) (h_Model_withAt : mt_Model_withAt l dC dI ea ev ad km F d) (h_Model_fitAll : mt_Model_fitAll l dC dI ea ev ad km F d) (h_Model_part : mt_Model_part l dC dI ea ev ad km F d) (h_Model_isLive : mt_Model_isLive l dC dI ea ev ad km F d) (h_Model_regionOfItem : mt_Model_regionOfItem l dC dI ea ev ad km F d) (h_Model_doesOutlive : mt_Model_doesOutlive l dC dI ea ev ad km F d) (h_Model_changed : mt_Model_changed l dC dI ea ev ad km F d) (T0 : gSt) (p1 : Int32) (r0 : Int32) (rl0 : Int64) (T9 : gSt) (hR : rb_Model_checkCall F nf T0 p1 = some (r0, rl0, T9)) : GMi l dC dI LM ad km ea ev y_Model_checkCall w_Model_checkCall (rmD (d + 1)) [.ref (ad 0), .int p1] T0 r0 T9 := by
  intro sz
  refine Met.ofW (cc := b_Model_checkCall) (maxL := 7) (ret := (some .int)) (by decide) rfl ?_
  intro p e s m args below meth c s₁ B hml hv
  obtain ⟨rfl, hsz, hP, hK, hD0, hnw, henv⟩ := hv
  have hx := B.exec
  have hb := B.bytes
  have hr := B.returns
  have hT : ∀ w ∈ lw_good, w.before _ s = true := fun w h => atoms_spec (ws := w_Model_checkCall) B.pre w (List.mem_cons_of_mem _ h)
  have hown : s.vm.findClass R_Model = some m.cls := findClass_of_methodNamed B.named
  subst hsz
  have hD := hD0.self (sz := s.heap.size)
  clear hD0
  generalize hAe : va_A (gW LM ad km T0) s.heap.size = A at hD henv ⊢
  have hA : ∀ q : Nat, s.heap.size ≤ q → A q := fun q h => by rw [← hAe]; exact Or.inr h
  have hS : va_S A s.heap s.heap [] := va_S.rf
  have hl := lv_entry ([.ref (ad 0), .int p1]) (n := 7) (Nat.le_of_ble_eq_true rfl)
  rw [lg_entry_eq]
  generalize (lg_sl ([.ref (ad 0), .int p1]) ++ List.replicate (7 - (lg_sl ([.ref (ad 0), .int p1])).length) Slot.unset).toArray = ls at hl ⊢
  have hl : lv_has ls 7 [(0, .ref (ad 0)), (1, .int p1)] := hl
  obtain ⟨G, hG⟩ : ∃ G : Nat → List (Nat × Value) → List Value → gSt → Prop, G = (fun pc lv stk T => ∀ (H : Heap) (locs : List Loc), va_P (dC, dI) cls_all (gW LM ad km T) H → va_D A (gW LM ad km T) → va_S A s.heap H locs → ∀ (ls : Array Slot), lv_has ls 7 lv → W p l e (headSpec w_Model_checkCall (rmD (d + 1))).room s m ([.ref (ad 0), .int p1] : List Value).toArray below meth c H locs 0 0 (MQ below (va_Qi (fun (z : Int32) (_ : Unit) => z = r0) (fun _ t => gPost dC dI LM ad km T9 A t) A) ([.ref (ad 0), .int p1] : List Value).toArray s 0 0 A) (F0 m pc ls stk)) := ⟨_, rfl⟩
  have lb_317 : ∀ (T : gSt) (x1 : Int32) (x2 : Int32) (x3 : Int32), rj_Model_checkCall_317 F nf T x1 x2 x3 = some (r0, rl0, T9) → G 317 [(0, .ref (ad 0)), (1, .int x1), (2, .int x2), (3, .int x3)] [] T := by
    intro T x1 x2 x3 hR; unfold rj_Model_checkCall_317 at hR; rw [hG]; intro H locs hP hD hS ls hl
    refine lv_aload_n hx hb d_Model_checkCall_317 rfl (lv_at hl 0 rfl) ?_
    replace hR := bi_e hR
    obtain ⟨r58, l58, T58, hc58, hR⟩ := hR
    refine gcV_i (rest := []) ⟨hx, hb, hml, hown, hT⟩ (h_Model_bad _ _ _ _ hc58) (cwV 0 hT (gV ml_Model_385 im_Model_bad se_Model_bad ini_Model co_Model_bad) rfl rfl rfl pd_Model_bad ⟨rm_hi, rm_lo (Nat.le_of_ble_eq_true rfl)⟩) hK hP hD hS hA hnw henv (Nat.le_of_ble_eq_true rfl) rfl rfl hl.1 rfl (Nat.le_of_ble_eq_true rfl) d_Model_checkCall_318 ⟨Nat.le_refl _, Nat.le_refl _⟩ (fun H locs hP hD hS => ?_)
    clear hc58
    refine lv_if_eq (tgt := 326) hx hb d_Model_checkCall_321 (by decide) (fun c59 => ?_) (fun c59 => ?_)
    · replace hR := if_p c59 hR
      refine lv_aload_n hx hb d_Model_checkCall_326 rfl (lv_at hl 0 rfl) ?_
      refine rd_Model_153 hx hb hT hown hK hP d_Model_checkCall_327 ?_
      refine lv_iload_n hx hb d_Model_checkCall_330 rfl (lv_at hl 1 rfl) ?_
      refine lv_iload_n hx hb d_Model_checkCall_331 rfl (lv_at hl 2 rfl) ?_
      replace hR := gd_e hR
      obtain ⟨b60, hR⟩ := hR
      refine saM_46 hx hb hK hP hD hS b60 d_Model_checkCall_332 (fun T60 eT H locs hP hD hS => ?_)
      replace hR := stK_e eT hR
      clear eT
      refine lv_aload_n hx hb d_Model_checkCall_333 rfl (lv_at hl 0 rfl) ?_
      refine rd_Model_54 hx hb hT hown hK hP d_Model_checkCall_334 ?_
      refine lv_iload_n hx hb d_Model_checkCall_337 rfl (lv_at hl 2 rfl) ?_
      replace hR := gd_e hR
      obtain ⟨b61, hR⟩ := hR
      refine laM_13 hx hb hK hP b61 d_Model_checkCall_338 ?_
      refine lv_if_ge (tgt := 346) hx hb d_Model_checkCall_339 (by decide) (fun c62 => ?_) (fun c62 => ?_)
      · replace hR := if_p c62 hR
        refine lv_aload_n hx hb d_Model_checkCall_346 rfl (lv_at hl 0 rfl) ?_
        refine lv_aload_n hx hb d_Model_checkCall_347 rfl (lv_at hl 0 rfl) ?_
        refine rd_Model_57 hx hb hT hown hK hP d_Model_checkCall_348 ?_
        refine lv_iload_n hx hb d_Model_checkCall_351 rfl (lv_at hl 2 rfl) ?_
        replace hR := gd_e hR
        obtain ⟨b63, hR⟩ := hR
        refine laM_14 hx hb hK hP b63 d_Model_checkCall_352 ?_
        refine lv_iload_n hx hb d_Model_checkCall_353 rfl (lv_at hl 3 rfl) ?_
        replace hR := bi_e hR
        obtain ⟨r64, l64, T64, hc64, hR⟩ := hR
        refine gcV_i (rest := []) ⟨hx, hb, hml, hown, hT⟩ (h_Model_changed _ _ _ _ _ _ hc64) (cwV 2 hT (gV ml_Model_553 im_Model_changed se_Model_changed ini_Model co_Model_changed) rfl rfl rfl pd_Model_changed ⟨rm_hi, rm_lo (Nat.le_of_ble_eq_true rfl)⟩) hK hP hD hS hA hnw henv (Nat.le_of_ble_eq_true rfl) rfl rfl hl.1 rfl (Nat.le_of_ble_eq_true rfl) d_Model_checkCall_354 ⟨Nat.le_refl _, Nat.le_refl _⟩ (fun H locs hP hD hS => ?_)
        clear hc64
        obtain ⟨e1, -, e3⟩ := re_e hR
        subst e1; subst e3
        exact W.iret (v := r64) hx hb hr (fun t ht hW => ⟨⟨r64, (), rfl, rfl, by rw [ht]; exact hP, va_K.moved hW.alike hK, hD⟩, hS.F ht⟩) hS.2.2 d_Model_checkCall_357
      · replace hR := if_n c62 hR
        refine lv_iconst (v := (-1)) hx hb d_Model_checkCall_342 (by decide) ?_
        refine lv_goto (tgt := 357) hx hb d_Model_checkCall_343 (by decide) ?_
        obtain ⟨e1, -, e3⟩ := re_e hR
        subst e1; subst e3
        exact W.iret (v := (-1 : Int32)) hx hb hr (fun t ht hW => ⟨⟨(-1 : Int32), (), rfl, rfl, by rw [ht]; exact hP, va_K.moved hW.alike hK, hD⟩, hS.F ht⟩) hS.2.2 d_Model_checkCall_357
    · replace hR := if_n c59 hR
      refine lv_iconst (v := 0) hx hb d_Model_checkCall_324 (by decide) ?_
      obtain ⟨e1, -, e3⟩ := re_e hR
      subst e1; subst e3
      exact W.iret (v := (0 : Int32)) hx hb hr (fun t ht hW => ⟨⟨(0 : Int32), (), rfl, rfl, by rw [ht]; exact hP, va_K.moved hW.alike hK, hD⟩, hS.F ht⟩) hS.2.2 d_Model_checkCall_325
  have lb_205 : ∀ (n : Nat) (T : gSt) (x1 : Int32) (x2 : Int32) (x3 : Int32) (x4 : Int32), rl_Model_checkCall_205 F nf n T x1 x2 x3 x4 = some (r0, rl0, T9) → G 205 [(0, .ref (ad 0)), (1, .int x1), (2, .int x2), (3, .int x3), (4, .int x4)] [] T := by
    intro n
    induction n with
    | zero => intro T x1 x2 x3 x4 hR; rw [rl_Model_checkCall_205] at hR; cases hR
    | succ n ih =>
      intro T x1 x2 x3 x4 hR; rw [rl_Model_checkCall_205] at hR; rw [hG]; intro H locs hP hD hS ls hl
      refine lv_iload hx hb d_Model_checkCall_205 (lv_at hl 4 rfl) ?_
      refine lv_aload_n hx hb d_Model_checkCall_207 rfl (lv_at hl 0 rfl) ?_
      refine rd_Model_72 hx hb hT hown hK hP d_Model_checkCall_208 ?_
      refine lv_iload_n hx hb d_Model_checkCall_211 rfl (lv_at hl 2 rfl) ?_
      replace hR := gd_e hR
      obtain ⟨b41, hR⟩ := hR
      refine laM_19 hx hb hK hP b41 d_Model_checkCall_212 ?_
      refine lv_icmp_ge (tgt := 317) hx hb d_Model_checkCall_213 (by decide) (fun c42 => ?_) (fun c42 => ?_)
      · replace hR := if_p c42 hR
        have g := lb_317 T x1 x2 x3 hR
        rw [hG] at g
        exact g _ _ hP hD hS _ (lv_sub hl [0, 1, 2, 3] rfl)
      · replace hR := if_n c42 hR
        refine lv_aload_n hx hb d_Model_checkCall_216 rfl (lv_at hl 0 rfl) ?_
        replace hR := bi_e hR
        obtain ⟨r43, l43, T43, hc43, hR⟩ := hR
        refine gcV_i (rest := []) ⟨hx, hb, hml, hown, hT⟩ (h_Model_bad _ _ _ _ hc43) (cwV 0 hT (gV ml_Model_385 im_Model_bad se_Model_bad ini_Model co_Model_bad) rfl rfl rfl pd_Model_bad ⟨rm_hi, rm_lo (Nat.le_of_ble_eq_true rfl)⟩) hK hP hD hS hA hnw henv (Nat.le_of_ble_eq_true rfl) rfl rfl hl.1 rfl (Nat.le_of_ble_eq_true rfl) d_Model_checkCall_217 ⟨Nat.le_refl _, Nat.le_refl _⟩ (fun H locs hP hD hS => ?_)
        clear hc43
        refine lv_if_ne (tgt := 317) hx hb d_Model_checkCall_220 (by decide) (fun c44 => ?_) (fun c44 => ?_)
        · replace hR := if_n c44 hR
          have g := lb_317 T43 x1 x2 x3 hR
          rw [hG] at g
          exact g _ _ hP hD hS _ (lv_sub hl [0, 1, 2, 3] rfl)
        · replace hR := if_p c44 hR
          refine lv_aload_n hx hb d_Model_checkCall_223 rfl (lv_at hl 0 rfl) ?_
          refine lv_iload_n hx hb d_Model_checkCall_224 rfl (lv_at hl 2 rfl) ?_
          refine lv_aload_n hx hb d_Model_checkCall_225 rfl (lv_at hl 0 rfl) ?_
          refine rd_Model_75 hx hb hT hown hK hP d_Model_checkCall_226 ?_
          refine lv_bipush (v := 6) hx hb d_Model_checkCall_229 (by decide) ?_
          refine lv_iload_n hx hb d_Model_checkCall_231 rfl (lv_at hl 2 rfl) ?_
          refine lv_imul hx hb d_Model_checkCall_232 ?_
          refine lv_iconst (v := 2) hx hb d_Model_checkCall_233 (by decide) ?_
          refine lv_iload hx hb d_Model_checkCall_234 (lv_at hl 4 rfl) ?_
          refine lv_imul hx hb d_Model_checkCall_236 ?_
          refine lv_iadd hx hb d_Model_checkCall_237 ?_
          replace hR := gd_e hR
          obtain ⟨b45, hR⟩ := hR
          refine laM_20 hx hb hK hP b45 d_Model_checkCall_238 ?_
          replace hR := bi_e hR
          obtain ⟨r46, l46, T46, hc46, hR⟩ := hR
          refine gcV_i (rest := []) ⟨hx, hb, hml, hown, hT⟩ (h_Model_regionOfItem _ _ _ _ _ _ hc46) (cwV 2 hT (gV ml_Model_616 im_Model_regionOfItem se_Model_regionOfItem ini_Model co_Model_regionOfItem) rfl rfl rfl pd_Model_regionOfItem ⟨rm_hi, rm_lo (Nat.le_of_ble_eq_true rfl)⟩) hK hP hD hS hA hnw henv (Nat.le_of_ble_eq_true rfl) rfl rfl hl.1 rfl (Nat.le_of_ble_eq_true rfl) d_Model_checkCall_239 ⟨Nat.le_refl _, Nat.le_refl _⟩ (fun H locs hP hD hS => ?_)
          clear hc46
          refine lv_istore (lv' := [(5, .int r46), (0, .ref (ad 0)), (1, .int x1), (2, .int x2), (3, .int x3), (4, .int x4)]) hx hb d_Model_checkCall_242 hl (by decide) rfl (fun ls hl => ?_)
          refine lv_aload_n hx hb d_Model_checkCall_244 rfl (lv_at hl 1 rfl) ?_
          refine lv_iload_n hx hb d_Model_checkCall_245 rfl (lv_at hl 3 rfl) ?_
          refine lv_aload_n hx hb d_Model_checkCall_246 rfl (lv_at hl 1 rfl) ?_
          refine rd_Model_75 hx hb hT hown hK hP d_Model_checkCall_247 ?_
          refine lv_bipush (v := 6) hx hb d_Model_checkCall_250 (by decide) ?_
          refine lv_iload_n hx hb d_Model_checkCall_252 rfl (lv_at hl 3 rfl) ?_
          refine lv_imul hx hb d_Model_checkCall_253 ?_
          refine lv_iconst (v := 2) hx hb d_Model_checkCall_254 (by decide) ?_
          refine lv_iload hx hb d_Model_checkCall_255 (lv_at hl 5 rfl) ?_
          refine lv_imul hx hb d_Model_checkCall_257 ?_
          refine lv_iadd hx hb d_Model_checkCall_258 ?_
          refine lv_iconst (v := 1) hx hb d_Model_checkCall_259 (by decide) ?_
          refine lv_iadd hx hb d_Model_checkCall_260 ?_
          replace hR := gd_e hR
          obtain ⟨b47, hR⟩ := hR
          refine laM_20 hx hb hK hP b47 d_Model_checkCall_261 ?_
          replace hR := bi_e hR
          obtain ⟨r48, l48, T48, hc48, hR⟩ := hR
          refine gcV_i (rest := []) ⟨hx, hb, hml, hown, hT⟩ (h_Model_regionOfItem _ _ _ _ _ _ hc48) (cwV 2 hT (gV ml_Model_616 im_Model_regionOfItem se_Model_regionOfItem ini_Model co_Model_regionOfItem) rfl rfl rfl pd_Model_regionOfItem ⟨rm_hi, rm_lo (Nat.le_of_ble_eq_true rfl)⟩) hK hP hD hS hA hnw henv (Nat.le_of_ble_eq_true rfl) rfl rfl hl.1 rfl (Nat.le_of_ble_eq_true rfl) d_Model_checkCall_262 ⟨Nat.le_refl _, Nat.le_refl _⟩ (fun H locs hP hD hS => ?_)
          clear hc48
          refine lv_istore (lv' := [(6, .int r48), (5, .int r46), (0, .ref (ad 0)), (1, .int x1), (2, .int x2), (3, .int x3), (4, .int x4)]) hx hb d_Model_checkCall_265 hl (by decide) rfl (fun ls hl => ?_)
          refine lv_aload_n hx hb d_Model_checkCall_267 rfl (lv_at hl 2 rfl) ?_
          refine lv_iload_n hx hb d_Model_checkCall_268 rfl (lv_at hl 5 rfl) ?_
          refine lv_iload hx hb d_Model_checkCall_269 (lv_at hl 1 rfl) ?_
          refine lv_iconst (v := 1) hx hb d_Model_checkCall_271 (by decide) ?_
          refine lv_isub hx hb d_Model_checkCall_272 ?_
          replace hR := bi_e hR
          obtain ⟨r49, l49, T49, hc49, hR⟩ := hR
          refine gcS_i (rest := [.ref (ad 0)]) ⟨hx, hb, hml, hown, hT⟩ (h_Model_part _ _ _ _ _ _ hc49) (va_cwS 2 hT (gS ml_Model_550 st_Model_part ini_Model co_Model_part) rfl rfl rfl pd_Model_part ⟨rm_hi, rm_lo (Nat.le_of_ble_eq_true rfl)⟩) hK hP hD hS hA hnw henv rfl hl.1 rfl (Nat.le_of_ble_eq_true rfl) d_Model_checkCall_273 ⟨Nat.le_refl _, Nat.le_refl _⟩ (fun H locs hP hD hS => ?_)
          clear hc49
          refine lv_iload_n hx hb d_Model_checkCall_276 rfl (lv_at hl 5 rfl) ?_
          refine lv_iload hx hb d_Model_checkCall_277 (lv_at hl 0 rfl) ?_
          refine lv_iconst (v := 1) hx hb d_Model_checkCall_279 (by decide) ?_
          refine lv_isub hx hb d_Model_checkCall_280 ?_
          replace hR := bi_e hR
          obtain ⟨r50, l50, T50, hc50, hR⟩ := hR
          refine gcS_i (rest := [.int r49, .ref (ad 0)]) ⟨hx, hb, hml, hown, hT⟩ (h_Model_part _ _ _ _ _ _ hc50) (va_cwS 2 hT (gS ml_Model_550 st_Model_part ini_Model co_Model_part) rfl rfl rfl pd_Model_part ⟨rm_hi, rm_lo (Nat.le_of_ble_eq_true rfl)⟩) hK hP hD hS hA hnw henv rfl hl.1 rfl (Nat.le_of_ble_eq_true rfl) d_Model_checkCall_281 ⟨Nat.le_refl _, Nat.le_refl _⟩ (fun H locs hP hD hS => ?_)
          clear hc50
          replace hR := bi_e hR
          obtain ⟨r51, l51, T51, hc51, hR⟩ := hR
          refine gcV_i (rest := []) ⟨hx, hb, hml, hown, hT⟩ (h_Model_doesOutlive _ _ _ _ _ _ hc51) (cwV 2 hT (gV ml_Model_600 im_Model_doesOutlive se_Model_doesOutlive ini_Model co_Model_doesOutlive) rfl rfl rfl pd_Model_doesOutlive ⟨rm_hi, rm_lo (Nat.le_of_ble_eq_true rfl)⟩) hK hP hD hS hA hnw henv (Nat.le_of_ble_eq_true rfl) rfl rfl hl.1 rfl (Nat.le_of_ble_eq_true rfl) d_Model_checkCall_284 ⟨Nat.le_refl _, Nat.le_refl _⟩ (fun H locs hP hD hS => ?_)
          clear hc51
          refine lv_if_ne (tgt := 311) hx hb d_Model_checkCall_287 (by decide) (fun c52 => ?_) (fun c52 => ?_)
          · replace hR := if_n c52 hR
            obtain ⟨z53, e53⟩ : ∃ y : Int32, y = x4 + (1 : Int32) := ⟨_, rfl⟩
            replace hR := vK_e e53 hR
            refine lv_iinc (v := z53) (lv' := [(4, .int z53), (6, .int r48), (5, .int r46), (0, .ref (ad 0)), (1, .int x1), (2, .int x2), (3, .int x3)]) hx hb d_Model_checkCall_311 hl (k := 6) rfl (by rw [e53]; rfl) (by decide) rfl (fun ls hl => ?_)
            refine lv_goto (tgt := 205) hx hb d_Model_checkCall_314 (by decide) ?_
            have g := ih T51 x1 x2 x3 z53 hR
            rw [hG] at g
            exact g _ _ hP hD hS _ (lv_sub hl [3, 4, 5, 6, 0] rfl)
          · replace hR := if_p c52 hR
            refine lv_aload_n hx hb d_Model_checkCall_290 rfl (lv_at hl 2 rfl) ?_
            refine lv_iconst (v := 5) hx hb d_Model_checkCall_291 (by decide) ?_
            refine lv_aload_n hx hb d_Model_checkCall_292 rfl (lv_at hl 2 rfl) ?_
            refine rd_Model_114 hx hb hT hown hK hP d_Model_checkCall_293 ?_
            refine lv_aload_n hx hb d_Model_checkCall_296 rfl (lv_at hl 2 rfl) ?_
            refine rd_Model_144 hx hb hT hown hK hP d_Model_checkCall_297 ?_
            refine lv_iload_n hx hb d_Model_checkCall_300 rfl (lv_at hl 3 rfl) ?_
            replace hR := gd_e hR
            obtain ⟨b54, hR⟩ := hR
            refine laM_43 hx hb hK hP b54 d_Model_checkCall_301 ?_
            refine lv_iload hx hb d_Model_checkCall_302 (lv_at hl 1 rfl) ?_
            refine lv_iadd hx hb d_Model_checkCall_304 ?_
            refine lv_iconst (v := 1) hx hb d_Model_checkCall_305 (by decide) ?_
            refine lv_isub hx hb d_Model_checkCall_306 ?_
            replace hR := gd_e hR
            obtain ⟨b55, hR⟩ := hR
            refine laM_33 hx hb hK hP b55 d_Model_checkCall_307 ?_
            replace hR := bi_e hR
            obtain ⟨r56, l56, T56, hc56, hR⟩ := hR
            refine gcV_v (rest := []) ⟨hx, hb, hml, hown, hT⟩ (h_Model_fail _ _ _ _ _ _ hc56) (cwV 2 hT (gV ml_Model_381 im_Model_fail se_Model_fail ini_Model co_Model_fail) rfl rfl rfl pd_Model_fail ⟨rm_hi, rm_lo (Nat.le_of_ble_eq_true rfl)⟩) hK hP hD hS hA hnw henv (Nat.le_of_ble_eq_true rfl) rfl rfl hl.1 rfl (Nat.le_of_ble_eq_true rfl) d_Model_checkCall_308 ⟨Nat.le_refl _, Nat.le_refl _⟩ (fun H locs hP hD hS => ?_)
            clear hc56
            obtain ⟨z57, e57⟩ : ∃ y : Int32, y = x4 + (1 : Int32) := ⟨_, rfl⟩
            replace hR := vK_e e57 hR
            refine lv_iinc (v := z57) (lv' := [(4, .int z57), (6, .int r48), (5, .int r46), (0, .ref (ad 0)), (1, .int x1), (2, .int x2), (3, .int x3)]) hx hb d_Model_checkCall_311 hl (k := 6) rfl (by rw [e57]; rfl) (by decide) rfl (fun ls hl => ?_)
            refine lv_goto (tgt := 205) hx hb d_Model_checkCall_314 (by decide) ?_
            have g := ih T56 x1 x2 x3 z57 hR
            rw [hG] at g
            exact g _ _ hP hD hS _ (lv_sub hl [3, 4, 5, 6, 0] rfl)
  have lb_130 : ∀ (n : Nat) (T : gSt) (x1 : Int32) (x2 : Int32) (x3 : Int32) (x4 : Int32), rl_Model_checkCall_130 F nf n T x1 x2 x3 x4 = some (r0, rl0, T9) → G 130 [(0, .ref (ad 0)), (1, .int x1), (2, .int x2), (3, .int x3), (4, .int x4)] [] T := by
    intro n
    induction n with
    | zero => intro T x1 x2 x3 x4 hR; rw [rl_Model_checkCall_130] at hR; cases hR
    | succ n ih =>
      intro T x1 x2 x3 x4 hR; rw [rl_Model_checkCall_130] at hR; rw [hG]; intro H locs hP hD hS ls hl
      refine lv_iload hx hb d_Model_checkCall_130 (lv_at hl 4 rfl) ?_
      refine lv_aload_n hx hb d_Model_checkCall_132 rfl (lv_at hl 0 rfl) ?_
      refine rd_Model_147 hx hb hT hown hK hP d_Model_checkCall_133 ?_
      refine lv_iload_n hx hb d_Model_checkCall_136 rfl (lv_at hl 1 rfl) ?_
      replace hR := gd_e hR
      obtain ⟨b26, hR⟩ := hR
      refine laM_44 hx hb hK hP b26 d_Model_checkCall_137 ?_
      refine lv_icmp_ge (tgt := 202) hx hb d_Model_checkCall_138 (by decide) (fun c27 => ?_) (fun c27 => ?_)
      · replace hR := if_p c27 hR
        refine lv_iconst (v := 0) hx hb d_Model_checkCall_202 (by decide) ?_
        refine lv_istore (lv' := [(4, .int (0 : Int32)), (0, .ref (ad 0)), (1, .int x1), (2, .int x2), (3, .int x3)]) hx hb d_Model_checkCall_203 hl (by decide) rfl (fun ls hl => ?_)
        have g := lb_205 nf T x1 x2 x3 (0 : Int32) hR
        rw [hG] at g
        exact g _ _ hP hD hS _ (lv_sub hl [1, 2, 3, 4, 0] rfl)
      · replace hR := if_n c27 hR
        refine lv_aload_n hx hb d_Model_checkCall_141 rfl (lv_at hl 0 rfl) ?_
        replace hR := bi_e hR
        obtain ⟨r28, l28, T28, hc28, hR⟩ := hR
        refine gcV_i (rest := []) ⟨hx, hb, hml, hown, hT⟩ (h_Model_bad _ _ _ _ hc28) (cwV 0 hT (gV ml_Model_385 im_Model_bad se_Model_bad ini_Model co_Model_bad) rfl rfl rfl pd_Model_bad ⟨rm_hi, rm_lo (Nat.le_of_ble_eq_true rfl)⟩) hK hP hD hS hA hnw henv (Nat.le_of_ble_eq_true rfl) rfl rfl hl.1 rfl (Nat.le_of_ble_eq_true rfl) d_Model_checkCall_142 ⟨Nat.le_refl _, Nat.le_refl _⟩ (fun H locs hP hD hS => ?_)
        clear hc28
        refine lv_if_ne (tgt := 202) hx hb d_Model_checkCall_145 (by decide) (fun c29 => ?_) (fun c29 => ?_)
        · replace hR := if_n c29 hR
          refine lv_iconst (v := 0) hx hb d_Model_checkCall_202 (by decide) ?_
          refine lv_istore (lv' := [(4, .int (0 : Int32)), (0, .ref (ad 0)), (1, .int x1), (2, .int x2), (3, .int x3)]) hx hb d_Model_checkCall_203 hl (by decide) rfl (fun ls hl => ?_)
          have g := lb_205 nf T28 x1 x2 x3 (0 : Int32) hR
          rw [hG] at g
          exact g _ _ hP hD hS _ (lv_sub hl [1, 2, 3, 4, 0] rfl)
        · replace hR := if_p c29 hR
          refine lv_aload_n hx hb d_Model_checkCall_148 rfl (lv_at hl 0 rfl) ?_
          refine rd_Model_69 hx hb hT hown hK hP d_Model_checkCall_149 ?_
          refine lv_iload_n hx hb d_Model_checkCall_152 rfl (lv_at hl 2 rfl) ?_
          replace hR := gd_e hR
          obtain ⟨b30, hR⟩ := hR
          refine laM_18 hx hb hK hP b30 d_Model_checkCall_153 ?_
          refine lv_iload hx hb d_Model_checkCall_154 (lv_at hl 4 rfl) ?_
          refine lv_iconst (v := 1) hx hb d_Model_checkCall_156 (by decide) ?_
          refine lv_iadd hx hb d_Model_checkCall_157 ?_
          refine lv_ishr hx hb d_Model_checkCall_158 ?_
          refine lv_iconst (v := 1) hx hb d_Model_checkCall_159 (by decide) ?_
          refine lv_iand hx hb d_Model_checkCall_160 ?_
          refine lv_if_ne (tgt := 196) hx hb d_Model_checkCall_161 (by decide) (fun c31 => ?_) (fun c31 => ?_)
          · replace hR := if_n c31 hR
            obtain ⟨z32, e32⟩ : ∃ y : Int32, y = x4 + (1 : Int32) := ⟨_, rfl⟩
            replace hR := vK_e e32 hR
            refine lv_iinc (v := z32) (lv' := [(4, .int z32), (0, .ref (ad 0)), (1, .int x1), (2, .int x2), (3, .int x3)]) hx hb d_Model_checkCall_196 hl (k := 4) rfl (by rw [e32]; rfl) (by decide) rfl (fun ls hl => ?_)
            refine lv_goto (tgt := 130) hx hb d_Model_checkCall_199 (by decide) ?_
            have g := ih T28 x1 x2 x3 z32 hR
            rw [hG] at g
            exact g _ _ hP hD hS _ (lv_sub hl [1, 2, 3, 4, 0] rfl)
          · replace hR := if_p c31 hR
            refine lv_aload_n hx hb d_Model_checkCall_164 rfl (lv_at hl 0 rfl) ?_
            refine lv_iload_n hx hb d_Model_checkCall_165 rfl (lv_at hl 3 rfl) ?_
            refine lv_iload hx hb d_Model_checkCall_166 (lv_at hl 4 rfl) ?_
            replace hR := bi_e hR
            obtain ⟨r33, l33, T33, hc33, hR⟩ := hR
            refine gcS_i (rest := [.ref (ad 0)]) ⟨hx, hb, hml, hown, hT⟩ (h_Model_part _ _ _ _ _ _ hc33) (va_cwS 2 hT (gS ml_Model_550 st_Model_part ini_Model co_Model_part) rfl rfl rfl pd_Model_part ⟨rm_hi, rm_lo (Nat.le_of_ble_eq_true rfl)⟩) hK hP hD hS hA hnw henv rfl hl.1 rfl (Nat.le_of_ble_eq_true rfl) d_Model_checkCall_168 ⟨Nat.le_refl _, Nat.le_refl _⟩ (fun H locs hP hD hS => ?_)
            clear hc33
            replace hR := bi_e hR
            obtain ⟨r34, l34, T34, hc34, hR⟩ := hR
            refine gcV_i (rest := []) ⟨hx, hb, hml, hown, hT⟩ (h_Model_isLive _ _ _ _ _ hc34) (cwV 1 hT (gV ml_Model_581 im_Model_isLive se_Model_isLive ini_Model co_Model_isLive) rfl rfl rfl pd_Model_isLive ⟨rm_hi, rm_lo (Nat.le_of_ble_eq_true rfl)⟩) hK hP hD hS hA hnw henv (Nat.le_of_ble_eq_true rfl) rfl rfl hl.1 rfl (Nat.le_of_ble_eq_true rfl) d_Model_checkCall_171 ⟨Nat.le_refl _, Nat.le_refl _⟩ (fun H locs hP hD hS => ?_)
            clear hc34
            refine lv_if_ne (tgt := 196) hx hb d_Model_checkCall_174 (by decide) (fun c35 => ?_) (fun c35 => ?_)
            · replace hR := if_n c35 hR
              obtain ⟨z36, e36⟩ : ∃ y : Int32, y = x4 + (1 : Int32) := ⟨_, rfl⟩
              replace hR := vK_e e36 hR
              refine lv_iinc (v := z36) (lv' := [(4, .int z36), (0, .ref (ad 0)), (1, .int x1), (2, .int x2), (3, .int x3)]) hx hb d_Model_checkCall_196 hl (k := 4) rfl (by rw [e36]; rfl) (by decide) rfl (fun ls hl => ?_)
              refine lv_goto (tgt := 130) hx hb d_Model_checkCall_199 (by decide) ?_
              have g := ih T34 x1 x2 x3 z36 hR
              rw [hG] at g
              exact g _ _ hP hD hS _ (lv_sub hl [1, 2, 3, 4, 0] rfl)
            · replace hR := if_p c35 hR
              refine lv_aload_n hx hb d_Model_checkCall_177 rfl (lv_at hl 0 rfl) ?_
              refine lv_iconst (v := 5) hx hb d_Model_checkCall_178 (by decide) ?_
              refine lv_aload_n hx hb d_Model_checkCall_179 rfl (lv_at hl 0 rfl) ?_
              refine rd_Model_114 hx hb hT hown hK hP d_Model_checkCall_180 ?_
              refine lv_aload_n hx hb d_Model_checkCall_183 rfl (lv_at hl 0 rfl) ?_
              refine rd_Model_144 hx hb hT hown hK hP d_Model_checkCall_184 ?_
              refine lv_iload_n hx hb d_Model_checkCall_187 rfl (lv_at hl 1 rfl) ?_
              replace hR := gd_e hR
              obtain ⟨b37, hR⟩ := hR
              refine laM_43 hx hb hK hP b37 d_Model_checkCall_188 ?_
              refine lv_iload hx hb d_Model_checkCall_189 (lv_at hl 4 rfl) ?_
              refine lv_iadd hx hb d_Model_checkCall_191 ?_
              replace hR := gd_e hR
              obtain ⟨b38, hR⟩ := hR
              refine laM_33 hx hb hK hP b38 d_Model_checkCall_192 ?_
              replace hR := bi_e hR
              obtain ⟨r39, l39, T39, hc39, hR⟩ := hR
              refine gcV_v (rest := []) ⟨hx, hb, hml, hown, hT⟩ (h_Model_fail _ _ _ _ _ _ hc39) (cwV 2 hT (gV ml_Model_381 im_Model_fail se_Model_fail ini_Model co_Model_fail) rfl rfl rfl pd_Model_fail ⟨rm_hi, rm_lo (Nat.le_of_ble_eq_true rfl)⟩) hK hP hD hS hA hnw henv (Nat.le_of_ble_eq_true rfl) rfl rfl hl.1 rfl (Nat.le_of_ble_eq_true rfl) d_Model_checkCall_193 ⟨Nat.le_refl _, Nat.le_refl _⟩ (fun H locs hP hD hS => ?_)
              clear hc39
              obtain ⟨z40, e40⟩ : ∃ y : Int32, y = x4 + (1 : Int32) := ⟨_, rfl⟩
              replace hR := vK_e e40 hR
              refine lv_iinc (v := z40) (lv' := [(4, .int z40), (0, .ref (ad 0)), (1, .int x1), (2, .int x2), (3, .int x3)]) hx hb d_Model_checkCall_196 hl (k := 4) rfl (by rw [e40]; rfl) (by decide) rfl (fun ls hl => ?_)
              refine lv_goto (tgt := 130) hx hb d_Model_checkCall_199 (by decide) ?_
              have g := ih T39 x1 x2 x3 z40 hR
              rw [hG] at g
              exact g _ _ hP hD hS _ (lv_sub hl [1, 2, 3, 4, 0] rfl)
  have lb_80 : ∀ (T : gSt) (x1 : Int32) (x2 : Int32) (y0 : Int32) (y1 : Int32), rj_Model_checkCall_80 F nf T x1 x2 y0 y1 = some (r0, rl0, T9) → G 80 [(0, .ref (ad 0)), (1, .int x1), (2, .int x2)] [.int y0, .int y1, .ref (ad 0)] T := by
    intro T x1 x2 y0 y1 hR; unfold rj_Model_checkCall_80 at hR; rw [hG]; intro H locs hP hD hS ls hl
    replace hR := bi_e hR
    obtain ⟨r15, l15, T15, hc15, hR⟩ := hR
    refine gcV_i (rest := []) ⟨hx, hb, hml, hown, hT⟩ (h_Model_withAt _ _ _ _ _ _ hc15) (cwV 2 hT (gV ml_Model_590 im_Model_withAt se_Model_withAt ini_Model co_Model_withAt) rfl rfl rfl pd_Model_withAt ⟨rm_hi, rm_lo (Nat.le_of_ble_eq_true rfl)⟩) hK hP hD hS hA hnw henv (Nat.le_of_ble_eq_true rfl) rfl rfl hl.1 rfl (Nat.le_of_ble_eq_true rfl) d_Model_checkCall_80 ⟨Nat.le_refl _, Nat.le_refl _⟩ (fun H locs hP hD hS => ?_)
    clear hc15
    refine lv_istore_n (lv' := [(3, .int r15), (0, .ref (ad 0)), (1, .int x1), (2, .int x2)]) hx hb d_Model_checkCall_83 rfl hl (by decide) rfl (fun ls hl => ?_)
    refine lv_aload_n hx hb d_Model_checkCall_84 rfl (lv_at hl 1 rfl) ?_
    replace hR := bi_e hR
    obtain ⟨r16, l16, T16, hc16, hR⟩ := hR
    refine gcV_i (rest := []) ⟨hx, hb, hml, hown, hT⟩ (h_Model_bad _ _ _ _ hc16) (cwV 0 hT (gV ml_Model_385 im_Model_bad se_Model_bad ini_Model co_Model_bad) rfl rfl rfl pd_Model_bad ⟨rm_hi, rm_lo (Nat.le_of_ble_eq_true rfl)⟩) hK hP hD hS hA hnw henv (Nat.le_of_ble_eq_true rfl) rfl rfl hl.1 rfl (Nat.le_of_ble_eq_true rfl) d_Model_checkCall_85 ⟨Nat.le_refl _, Nat.le_refl _⟩ (fun H locs hP hD hS => ?_)
    clear hc16
    refine lv_if_eq (tgt := 93) hx hb d_Model_checkCall_88 (by decide) (fun c17 => ?_) (fun c17 => ?_)
    · replace hR := if_p c17 hR
      refine lv_aload_n hx hb d_Model_checkCall_93 rfl (lv_at hl 1 rfl) ?_
      refine rd_Model_129 hx hb hT hown hK hP d_Model_checkCall_94 ?_
      refine lv_iload_n hx hb d_Model_checkCall_97 rfl (lv_at hl 2 rfl) ?_
      replace hR := gd_e hR
      obtain ⟨b18, hR⟩ := hR
      refine laM_38 hx hb hK hP b18 d_Model_checkCall_98 ?_
      refine lv_aload_n hx hb d_Model_checkCall_99 rfl (lv_at hl 1 rfl) ?_
      refine rd_Model_39 hx hb hT hown hK hP d_Model_checkCall_100 ?_
      refine lv_iload_n hx hb d_Model_checkCall_103 rfl (lv_at hl 3 rfl) ?_
      replace hR := gd_e hR
      obtain ⟨b19, hR⟩ := hR
      refine laM_8 hx hb hK hP b19 d_Model_checkCall_104 ?_
      refine lv_icmp_eq (tgt := 120) hx hb d_Model_checkCall_105 (by decide) (fun c20 => ?_) (fun c20 => ?_)
      · replace hR := if_p c20 hR
        refine lv_aload_n hx hb d_Model_checkCall_120 rfl (lv_at hl 1 rfl) ?_
        refine lv_iload_n hx hb d_Model_checkCall_121 rfl (lv_at hl 2 rfl) ?_
        refine lv_iload_n hx hb d_Model_checkCall_122 rfl (lv_at hl 3 rfl) ?_
        refine lv_iload_n hx hb d_Model_checkCall_123 rfl (lv_at hl 0 rfl) ?_
        replace hR := bi_e hR
        obtain ⟨r21, l21, T21, hc21, hR⟩ := hR
        refine gcV_v (rest := []) ⟨hx, hb, hml, hown, hT⟩ (h_Model_fitAll _ _ _ _ _ _ _ hc21) (cwV 3 hT (gV ml_Model_768 im_Model_fitAll se_Model_fitAll ini_Model co_Model_fitAll) rfl rfl rfl pd_Model_fitAll ⟨rm_hi, rm_lo (Nat.le_of_ble_eq_true rfl)⟩) hK hP hD hS hA hnw henv (Nat.le_of_ble_eq_true rfl) rfl rfl hl.1 rfl (Nat.le_of_ble_eq_true rfl) d_Model_checkCall_124 ⟨Nat.le_refl _, Nat.le_refl _⟩ (fun H locs hP hD hS => ?_)
        clear hc21
        refine lv_iconst (v := 0) hx hb d_Model_checkCall_127 (by decide) ?_
        refine lv_istore (lv' := [(4, .int (0 : Int32)), (3, .int r15), (0, .ref (ad 0)), (1, .int x1), (2, .int x2)]) hx hb d_Model_checkCall_128 hl (by decide) rfl (fun ls hl => ?_)
        have g := lb_130 nf T21 x1 x2 r15 (0 : Int32) hR
        rw [hG] at g
        exact g _ _ hP hD hS _ (lv_sub hl [2, 3, 4, 1, 0] rfl)
      · replace hR := if_n c20 hR
        refine lv_aload_n hx hb d_Model_checkCall_108 rfl (lv_at hl 1 rfl) ?_
        refine lv_bipush (v := 7) hx hb d_Model_checkCall_109 (by decide) ?_
        refine lv_aload_n hx hb d_Model_checkCall_111 rfl (lv_at hl 1 rfl) ?_
        refine rd_Model_141 hx hb hT hown hK hP d_Model_checkCall_112 ?_
        refine lv_iload_n hx hb d_Model_checkCall_115 rfl (lv_at hl 2 rfl) ?_
        replace hR := gd_e hR
        obtain ⟨b22, hR⟩ := hR
        refine laM_42 hx hb hK hP b22 d_Model_checkCall_116 ?_
        replace hR := bi_e hR
        obtain ⟨r23, l23, T23, hc23, hR⟩ := hR
        refine gcV_v (rest := []) ⟨hx, hb, hml, hown, hT⟩ (h_Model_fail _ _ _ _ _ _ hc23) (cwV 2 hT (gV ml_Model_381 im_Model_fail se_Model_fail ini_Model co_Model_fail) rfl rfl rfl pd_Model_fail ⟨rm_hi, rm_lo (Nat.le_of_ble_eq_true rfl)⟩) hK hP hD hS hA hnw henv (Nat.le_of_ble_eq_true rfl) rfl rfl hl.1 rfl (Nat.le_of_ble_eq_true rfl) d_Model_checkCall_117 ⟨Nat.le_refl _, Nat.le_refl _⟩ (fun H locs hP hD hS => ?_)
        clear hc23
        refine lv_aload_n hx hb d_Model_checkCall_120 rfl (lv_at hl 1 rfl) ?_
        refine lv_iload_n hx hb d_Model_checkCall_121 rfl (lv_at hl 2 rfl) ?_
        refine lv_iload_n hx hb d_Model_checkCall_122 rfl (lv_at hl 3 rfl) ?_
        refine lv_iload_n hx hb d_Model_checkCall_123 rfl (lv_at hl 0 rfl) ?_
        replace hR := bi_e hR
        obtain ⟨r24, l24, T24, hc24, hR⟩ := hR
        refine gcV_v (rest := []) ⟨hx, hb, hml, hown, hT⟩ (h_Model_fitAll _ _ _ _ _ _ _ hc24) (cwV 3 hT (gV ml_Model_768 im_Model_fitAll se_Model_fitAll ini_Model co_Model_fitAll) rfl rfl rfl pd_Model_fitAll ⟨rm_hi, rm_lo (Nat.le_of_ble_eq_true rfl)⟩) hK hP hD hS hA hnw henv (Nat.le_of_ble_eq_true rfl) rfl rfl hl.1 rfl (Nat.le_of_ble_eq_true rfl) d_Model_checkCall_124 ⟨Nat.le_refl _, Nat.le_refl _⟩ (fun H locs hP hD hS => ?_)
        clear hc24
        refine lv_iconst (v := 0) hx hb d_Model_checkCall_127 (by decide) ?_
        refine lv_istore (lv' := [(4, .int (0 : Int32)), (3, .int r15), (0, .ref (ad 0)), (1, .int x1), (2, .int x2)]) hx hb d_Model_checkCall_128 hl (by decide) rfl (fun ls hl => ?_)
        have g := lb_130 nf T24 x1 x2 r15 (0 : Int32) hR
        rw [hG] at g
        exact g _ _ hP hD hS _ (lv_sub hl [2, 3, 4, 1, 0] rfl)
    · replace hR := if_n c17 hR
      refine lv_iconst (v := 0) hx hb d_Model_checkCall_91 (by decide) ?_
      obtain ⟨e1, -, e3⟩ := re_e hR
      subst e1; subst e3
      exact W.iret (v := (0 : Int32)) hx hb hr (fun t ht hW => ⟨⟨(0 : Int32), (), rfl, rfl, by rw [ht]; exact hP, va_K.moved hW.alike hK, hD⟩, hS.F ht⟩) hS.2.2 d_Model_checkCall_92
  have lb_56 : ∀ (T : gSt) (x1 : Int32) (x2 : Int32), rj_Model_checkCall_56 F nf T x1 x2 = some (r0, rl0, T9) → G 56 [(0, .ref (ad 0)), (1, .int x1), (2, .int x2)] [] T := by
    intro T x1 x2 hR; unfold rj_Model_checkCall_56 at hR; rw [hG]; intro H locs hP hD hS ls hl
    refine lv_aload_n hx hb d_Model_checkCall_56 rfl (lv_at hl 0 rfl) ?_
    refine lv_aload_n hx hb d_Model_checkCall_57 rfl (lv_at hl 0 rfl) ?_
    refine rd_Model_144 hx hb hT hown hK hP d_Model_checkCall_58 ?_
    refine lv_iload_n hx hb d_Model_checkCall_61 rfl (lv_at hl 1 rfl) ?_
    replace hR := gd_e hR
    obtain ⟨b11, hR⟩ := hR
    refine laM_43 hx hb hK hP b11 d_Model_checkCall_62 ?_
    refine lv_aload_n hx hb d_Model_checkCall_63 rfl (lv_at hl 0 rfl) ?_
    replace hR := bi_e hR
    obtain ⟨r12, l12, T12, hc12, hR⟩ := hR
    refine gcV_i (rest := [.int (T.1 58 x1.toNatClampNeg), .ref (ad 0)]) ⟨hx, hb, hml, hown, hT⟩ (h_Model_bad _ _ _ _ hc12) (cwV 0 hT (gV ml_Model_385 im_Model_bad se_Model_bad ini_Model co_Model_bad) rfl rfl rfl pd_Model_bad ⟨rm_hi, rm_lo (Nat.le_of_ble_eq_true rfl)⟩) hK hP hD hS hA hnw henv (Nat.le_of_ble_eq_true rfl) rfl rfl hl.1 rfl (Nat.le_of_ble_eq_true rfl) d_Model_checkCall_64 ⟨Nat.le_refl _, Nat.le_refl _⟩ (fun H locs hP hD hS => ?_)
    clear hc12
    refine lv_if_eq (tgt := 74) hx hb d_Model_checkCall_67 (by decide) (fun c13 => ?_) (fun c13 => ?_)
    · replace hR := if_p c13 hR
      refine lv_aload_n hx hb d_Model_checkCall_74 rfl (lv_at hl 0 rfl) ?_
      refine rd_Model_147 hx hb hT hown hK hP d_Model_checkCall_75 ?_
      refine lv_iload_n hx hb d_Model_checkCall_78 rfl (lv_at hl 1 rfl) ?_
      replace hR := gd_e hR
      obtain ⟨b14, hR⟩ := hR
      refine laM_44 hx hb hK hP b14 d_Model_checkCall_79 ?_
      have g := lb_80 T12 x1 x2 (T12.1 59 x1.toNatClampNeg) (T.1 58 x1.toNatClampNeg) hR
      rw [hG] at g
      exact g _ _ hP hD hS _ (lv_sub hl [0, 1, 2] rfl)
    · replace hR := if_n c13 hR
      refine lv_iconst (v := 0) hx hb d_Model_checkCall_70 (by decide) ?_
      refine lv_goto (tgt := 80) hx hb d_Model_checkCall_71 (by decide) ?_
      have g := lb_80 T12 x1 x2 (0 : Int32) (T.1 58 x1.toNatClampNeg) hR
      rw [hG] at g
      exact g _ _ hP hD hS _ (lv_sub hl [0, 1, 2] rfl)
  unfold rb_Model_checkCall at hR
  refine lv_aload_n hx hb d_Model_checkCall_0 rfl (lv_at hl 0 rfl) ?_
  refine lv_aload_n hx hb d_Model_checkCall_1 rfl (lv_at hl 0 rfl) ?_
  refine rd_Model_138 hx hb hT hown hK hP d_Model_checkCall_2 ?_
  refine lv_iload_n hx hb d_Model_checkCall_5 rfl (lv_at hl 1 rfl) ?_
  replace hR := gd_e hR
  obtain ⟨b1, hR⟩ := hR
  refine laM_41 hx hb hK hP b1 d_Model_checkCall_6 ?_
  replace hR := bi_e hR
  obtain ⟨r2, l2, T2, hc2, hR⟩ := hR
  refine gcV_i (rest := []) ⟨hx, hb, hml, hown, hT⟩ (h_Model_findFun _ _ _ _ _ hc2) (cwV 1 hT (gV ml_Model_606 im_Model_findFun se_Model_findFun ini_Model co_Model_findFun) rfl rfl rfl pd_Model_findFun ⟨rm_hi, rm_lo (Nat.le_of_ble_eq_true rfl)⟩) hK hP hD hS hA hnw henv (Nat.le_of_ble_eq_true rfl) rfl rfl hl.1 rfl (Nat.le_of_ble_eq_true rfl) d_Model_checkCall_7 ⟨Nat.le_refl _, Nat.le_refl _⟩ (fun H locs hP hD hS => ?_)
  clear hc2
  refine lv_istore_n (lv' := [(2, .int r2), (0, .ref (ad 0)), (1, .int p1)]) hx hb d_Model_checkCall_10 rfl hl (by decide) rfl (fun ls hl => ?_)
  refine lv_iload_n hx hb d_Model_checkCall_11 rfl (lv_at hl 0 rfl) ?_
  refine lv_if_ge (tgt := 29) hx hb d_Model_checkCall_12 (by decide) (fun c3 => ?_) (fun c3 => ?_)
  · replace hR := if_p c3 hR
    refine lv_aload_n hx hb d_Model_checkCall_29 rfl (lv_at hl 1 rfl) ?_
    refine rd_Model_27 hx hb hT hown hK hP d_Model_checkCall_30 ?_
    refine lv_iload_n hx hb d_Model_checkCall_33 rfl (lv_at hl 0 rfl) ?_
    replace hR := gd_e hR
    obtain ⟨b4, hR⟩ := hR
    refine laM_4 hx hb hK hP b4 d_Model_checkCall_34 ?_
    refine lv_aload_n hx hb d_Model_checkCall_35 rfl (lv_at hl 1 rfl) ?_
    refine rd_Model_147 hx hb hT hown hK hP d_Model_checkCall_36 ?_
    refine lv_iload_n hx hb d_Model_checkCall_39 rfl (lv_at hl 2 rfl) ?_
    replace hR := gd_e hR
    obtain ⟨b5, hR⟩ := hR
    refine laM_44 hx hb hK hP b5 d_Model_checkCall_40 ?_
    refine lv_icmp_eq (tgt := 56) hx hb d_Model_checkCall_41 (by decide) (fun c6 => ?_) (fun c6 => ?_)
    · replace hR := if_p c6 hR
      have g := lb_56 T2 p1 r2 hR
      rw [hG] at g
      exact g _ _ hP hD hS _ (lv_sub hl [1, 2, 0] rfl)
    · replace hR := if_n c6 hR
      refine lv_aload_n hx hb d_Model_checkCall_44 rfl (lv_at hl 1 rfl) ?_
      refine lv_bipush (v := 7) hx hb d_Model_checkCall_45 (by decide) ?_
      refine lv_aload_n hx hb d_Model_checkCall_47 rfl (lv_at hl 1 rfl) ?_
      refine rd_Model_141 hx hb hT hown hK hP d_Model_checkCall_48 ?_
      refine lv_iload_n hx hb d_Model_checkCall_51 rfl (lv_at hl 2 rfl) ?_
      replace hR := gd_e hR
      obtain ⟨b7, hR⟩ := hR
      refine laM_42 hx hb hK hP b7 d_Model_checkCall_52 ?_
      replace hR := bi_e hR
      obtain ⟨r8, l8, T8, hc8, hR⟩ := hR
      refine gcV_v (rest := []) ⟨hx, hb, hml, hown, hT⟩ (h_Model_fail _ _ _ _ _ _ hc8) (cwV 2 hT (gV ml_Model_381 im_Model_fail se_Model_fail ini_Model co_Model_fail) rfl rfl rfl pd_Model_fail ⟨rm_hi, rm_lo (Nat.le_of_ble_eq_true rfl)⟩) hK hP hD hS hA hnw henv (Nat.le_of_ble_eq_true rfl) rfl rfl hl.1 rfl (Nat.le_of_ble_eq_true rfl) d_Model_checkCall_53 ⟨Nat.le_refl _, Nat.le_refl _⟩ (fun H locs hP hD hS => ?_)
      clear hc8
      have g := lb_56 T8 p1 r2 hR
      rw [hG] at g
      exact g _ _ hP hD hS _ (lv_sub hl [1, 2, 0] rfl)
  · replace hR := if_n c3 hR
    refine lv_aload_n hx hb d_Model_checkCall_15 rfl (lv_at hl 1 rfl) ?_
    refine lv_iconst (v := 3) hx hb d_Model_checkCall_16 (by decide) ?_
    refine lv_aload_n hx hb d_Model_checkCall_17 rfl (lv_at hl 1 rfl) ?_
    refine rd_Model_141 hx hb hT hown hK hP d_Model_checkCall_18 ?_
    refine lv_iload_n hx hb d_Model_checkCall_21 rfl (lv_at hl 2 rfl) ?_
    replace hR := gd_e hR
    obtain ⟨b9, hR⟩ := hR
    refine laM_42 hx hb hK hP b9 d_Model_checkCall_22 ?_
    replace hR := bi_e hR
    obtain ⟨r10, l10, T10, hc10, hR⟩ := hR
    refine gcV_v (rest := []) ⟨hx, hb, hml, hown, hT⟩ (h_Model_fail _ _ _ _ _ _ hc10) (cwV 2 hT (gV ml_Model_381 im_Model_fail se_Model_fail ini_Model co_Model_fail) rfl rfl rfl pd_Model_fail ⟨rm_hi, rm_lo (Nat.le_of_ble_eq_true rfl)⟩) hK hP hD hS hA hnw henv (Nat.le_of_ble_eq_true rfl) rfl rfl hl.1 rfl (Nat.le_of_ble_eq_true rfl) d_Model_checkCall_23 ⟨Nat.le_refl _, Nat.le_refl _⟩ (fun H locs hP hD hS => ?_)
    clear hc10
    refine lv_goto (tgt := 56) hx hb d_Model_checkCall_26 (by decide) ?_
    have g := lb_56 T10 p1 r2 hR
    rw [hG] at g
    exact g _ _ hP hD hS _ (lv_sub hl [1, 2, 0] rfl)
set_option maxHeartbeats 4000000 in
set_option maxRecDepth 100000 in
theorem sp_Model_checkOperator (l : Launch) (dC : Nat → ClassId) (dI : Nat → Nat → Nat) (ea ev ad : Nat → Nat) (km : Nat → ClassId) (F : gF) (nf d : Nat) (h_Model_check : mt_Model_check l dC dI ea ev ad km F d) (h_Model_bad : mt_Model_bad l dC dI ea ev ad km F d) (h_Model_isRow : mt_Model_isRow l dC dI ea ev ad km F d) (h_Model_isPointer : mt_Model_isPointer l dC dI ea ev ad km F d) (h_Model_sameCell : mt_Model_sameCell l dC dI ea ev ad km F d) (h_Model_doesOutlive : mt_Model_doesOutlive l dC dI ea ev ad km F d) (h_Model_isLive : mt_Model_isLive l dC dI ea ev ad km F d) (h_Model_fail : mt_Model_fail l dC dI ea ev ad km F d) (T0 : gSt) (p1 : Int32) (r0 : Int32) (rl0 : Int64) (T9 : gSt) (hR : rb_Model_checkOperator F nf T0 p1 = some (r0, rl0, T9)) : GMi l dC dI LM ad km ea ev y_Model_checkOperator w_Model_checkOperator (rmD (d + 1)) [.ref (ad 0), .int p1] T0 r0 T9 := by
  intro sz
  refine Met.ofW (cc := b_Model_checkOperator) (maxL := 7) (ret := (some .int)) (by decide) rfl ?_
  intro p e s m args below meth c s₁ B hml hv
  obtain ⟨rfl, hsz, hP, hK, hD0, hnw, henv⟩ := hv
  have hx := B.exec
  have hb := B.bytes
  have hr := B.returns
  have hT : ∀ w ∈ lw_good, w.before _ s = true := fun w h => atoms_spec (ws := w_Model_checkOperator) B.pre w (List.mem_cons_of_mem _ h)
  have hown : s.vm.findClass R_Model = some m.cls := findClass_of_methodNamed B.named
  subst hsz
  have hD := hD0.self (sz := s.heap.size)
  clear hD0
  generalize hAe : va_A (gW LM ad km T0) s.heap.size = A at hD henv ⊢
  have hA : ∀ q : Nat, s.heap.size ≤ q → A q := fun q h => by rw [← hAe]; exact Or.inr h
  have hS : va_S A s.heap s.heap [] := va_S.rf
  have hl := lv_entry ([.ref (ad 0), .int p1]) (n := 7) (Nat.le_of_ble_eq_true rfl)
  rw [lg_entry_eq]
  generalize (lg_sl ([.ref (ad 0), .int p1]) ++ List.replicate (7 - (lg_sl ([.ref (ad 0), .int p1])).length) Slot.unset).toArray = ls at hl ⊢
  have hl : lv_has ls 7 [(0, .ref (ad 0)), (1, .int p1)] := hl
  obtain ⟨G, hG⟩ : ∃ G : Nat → List (Nat × Value) → List Value → gSt → Prop, G = (fun pc lv stk T => ∀ (H : Heap) (locs : List Loc), va_P (dC, dI) cls_all (gW LM ad km T) H → va_D A (gW LM ad km T) → va_S A s.heap H locs → ∀ (ls : Array Slot), lv_has ls 7 lv → W p l e (headSpec w_Model_checkOperator (rmD (d + 1))).room s m ([.ref (ad 0), .int p1] : List Value).toArray below meth c H locs 0 0 (MQ below (va_Qi (fun (z : Int32) (_ : Unit) => z = r0) (fun _ t => gPost dC dI LM ad km T9 A t) A) ([.ref (ad 0), .int p1] : List Value).toArray s 0 0 A) (F0 m pc ls stk)) := ⟨_, rfl⟩
  have lb_276 : ∀ (T : gSt) (x1 : Int32) (x2 : Int32) (x3 : Int32), rj_Model_checkOperator_276 F nf T x1 x2 x3 = some (r0, rl0, T9) → G 276 [(0, .ref (ad 0)), (1, .int x1), (2, .int x2), (3, .int x3)] [] T := by
    intro T x1 x2 x3 hR; unfold rj_Model_checkOperator_276 at hR; rw [hG]; intro H locs hP hD hS ls hl
    refine lv_iload_n hx hb d_Model_checkOperator_276 rfl (lv_at hl 2 rfl) ?_
    refine lv_if_eq (tgt := 299) hx hb d_Model_checkOperator_277 (by decide) (fun c59 => ?_) (fun c59 => ?_)
    · replace hR := if_p c59 hR
      refine lv_iload_n hx hb d_Model_checkOperator_299 rfl (lv_at hl 3 rfl) ?_
      refine lv_if_eq (tgt := 319) hx hb d_Model_checkOperator_300 (by decide) (fun c60 => ?_) (fun c60 => ?_)
      · replace hR := if_p c60 hR
        refine lv_iconst (v := 0) hx hb d_Model_checkOperator_319 (by decide) ?_
        obtain ⟨e1, -, e3⟩ := re_e hR
        subst e1; subst e3
        exact W.iret (v := (0 : Int32)) hx hb hr (fun t ht hW => ⟨⟨(0 : Int32), (), rfl, rfl, by rw [ht]; exact hP, va_K.moved hW.alike hK, hD⟩, hS.F ht⟩) hS.2.2 d_Model_checkOperator_320
      · replace hR := if_n c60 hR
        refine lv_aload_n hx hb d_Model_checkOperator_303 rfl (lv_at hl 0 rfl) ?_
        refine lv_iconst (v := 4) hx hb d_Model_checkOperator_304 (by decide) ?_
        refine lv_aload_n hx hb d_Model_checkOperator_305 rfl (lv_at hl 0 rfl) ?_
        refine rd_Model_123 hx hb hT hown hK hP d_Model_checkOperator_306 ?_
        refine lv_aload_n hx hb d_Model_checkOperator_309 rfl (lv_at hl 0 rfl) ?_
        refine rd_Model_129 hx hb hT hown hK hP d_Model_checkOperator_310 ?_
        refine lv_iload_n hx hb d_Model_checkOperator_313 rfl (lv_at hl 1 rfl) ?_
        replace hR := gd_e hR
        obtain ⟨b62, hR⟩ := hR
        refine laM_38 hx hb hK hP b62 d_Model_checkOperator_314 ?_
        replace hR := gd_e hR
        obtain ⟨b63, hR⟩ := hR
        refine laM_36 hx hb hK hP b63 d_Model_checkOperator_315 ?_
        replace hR := bi_e hR
        obtain ⟨r64, l64, T64, hc64, hR⟩ := hR
        refine gcV_v (rest := []) ⟨hx, hb, hml, hown, hT⟩ (h_Model_fail _ _ _ _ _ _ hc64) (cwV 2 hT (gV ml_Model_381 im_Model_fail se_Model_fail ini_Model co_Model_fail) rfl rfl rfl pd_Model_fail ⟨rm_hi, rm_lo (Nat.le_of_ble_eq_true rfl)⟩) hK hP hD hS hA hnw henv (Nat.le_of_ble_eq_true rfl) rfl rfl hl.1 rfl (Nat.le_of_ble_eq_true rfl) d_Model_checkOperator_316 ⟨Nat.le_refl _, Nat.le_refl _⟩ (fun H locs hP hD hS => ?_)
        clear hc64
        refine lv_iconst (v := 0) hx hb d_Model_checkOperator_319 (by decide) ?_
        obtain ⟨e1, -, e3⟩ := re_e hR
        subst e1; subst e3
        exact W.iret (v := (0 : Int32)) hx hb hr (fun t ht hW => ⟨⟨(0 : Int32), (), rfl, rfl, by rw [ht]; exact hP, va_K.moved hW.alike hK, hD⟩, hS.F ht⟩) hS.2.2 d_Model_checkOperator_320
    · replace hR := if_n c59 hR
      refine lv_aload_n hx hb d_Model_checkOperator_280 rfl (lv_at hl 0 rfl) ?_
      refine lv_iconst (v := 4) hx hb d_Model_checkOperator_281 (by decide) ?_
      refine lv_aload_n hx hb d_Model_checkOperator_282 rfl (lv_at hl 0 rfl) ?_
      refine rd_Model_123 hx hb hT hown hK hP d_Model_checkOperator_283 ?_
      refine lv_aload_n hx hb d_Model_checkOperator_286 rfl (lv_at hl 0 rfl) ?_
      refine rd_Model_126 hx hb hT hown hK hP d_Model_checkOperator_287 ?_
      refine lv_iload_n hx hb d_Model_checkOperator_290 rfl (lv_at hl 1 rfl) ?_
      replace hR := gd_e hR
      obtain ⟨b66, hR⟩ := hR
      refine laM_37 hx hb hK hP b66 d_Model_checkOperator_291 ?_
      replace hR := gd_e hR
      obtain ⟨b67, hR⟩ := hR
      refine laM_36 hx hb hK hP b67 d_Model_checkOperator_292 ?_
      replace hR := bi_e hR
      obtain ⟨r68, l68, T68, hc68, hR⟩ := hR
      refine gcV_v (rest := []) ⟨hx, hb, hml, hown, hT⟩ (h_Model_fail _ _ _ _ _ _ hc68) (cwV 2 hT (gV ml_Model_381 im_Model_fail se_Model_fail ini_Model co_Model_fail) rfl rfl rfl pd_Model_fail ⟨rm_hi, rm_lo (Nat.le_of_ble_eq_true rfl)⟩) hK hP hD hS hA hnw henv (Nat.le_of_ble_eq_true rfl) rfl rfl hl.1 rfl (Nat.le_of_ble_eq_true rfl) d_Model_checkOperator_293 ⟨Nat.le_refl _, Nat.le_refl _⟩ (fun H locs hP hD hS => ?_)
      clear hc68
      refine lv_goto (tgt := 319) hx hb d_Model_checkOperator_296 (by decide) ?_
      refine lv_iconst (v := 0) hx hb d_Model_checkOperator_319 (by decide) ?_
      obtain ⟨e1, -, e3⟩ := re_e hR
      subst e1; subst e3
      exact W.iret (v := (0 : Int32)) hx hb hr (fun t ht hW => ⟨⟨(0 : Int32), (), rfl, rfl, by rw [ht]; exact hP, va_K.moved hW.alike hK, hD⟩, hS.F ht⟩) hS.2.2 d_Model_checkOperator_320
  have lb_187 : ∀ (T : gSt) (x1 : Int32) (x2 : Int32) (x3 : Int32) (y0 : Int32), rj_Model_checkOperator_187 F nf T x1 x2 x3 y0 = some (r0, rl0, T9) → G 187 [(0, .ref (ad 0)), (1, .int x1), (2, .int x2), (3, .int x3)] [.int y0] T := by
    intro T x1 x2 x3 y0 hR; unfold rj_Model_checkOperator_187 at hR; rw [hG]; intro H locs hP hD hS ls hl
    refine lv_istore (lv' := [(6, .int y0), (0, .ref (ad 0)), (1, .int x1), (2, .int x2), (3, .int x3)]) hx hb d_Model_checkOperator_187 hl (by decide) rfl (fun ls hl => ?_)
    refine lv_iload hx hb d_Model_checkOperator_189 (lv_at hl 0 rfl) ?_
    refine lv_if_ne (tgt := 213) hx hb d_Model_checkOperator_191 (by decide) (fun c39 => ?_) (fun c39 => ?_)
    · replace hR := if_n c39 hR
      refine lv_aload_n hx hb d_Model_checkOperator_213 rfl (lv_at hl 1 rfl) ?_
      refine lv_aload_n hx hb d_Model_checkOperator_214 rfl (lv_at hl 1 rfl) ?_
      refine rd_Model_159 hx hb hT hown hK hP d_Model_checkOperator_215 ?_
      refine lv_iload_n hx hb d_Model_checkOperator_218 rfl (lv_at hl 3 rfl) ?_
      replace hR := gd_e hR
      obtain ⟨b40, hR⟩ := hR
      refine laM_48 hx hb hK hP b40 d_Model_checkOperator_219 ?_
      replace hR := bi_e hR
      obtain ⟨r41, l41, T41, hc41, hR⟩ := hR
      refine gcV_i (rest := []) ⟨hx, hb, hml, hown, hT⟩ (h_Model_isLive _ _ _ _ _ hc41) (cwV 1 hT (gV ml_Model_581 im_Model_isLive se_Model_isLive ini_Model co_Model_isLive) rfl rfl rfl pd_Model_isLive ⟨rm_hi, rm_lo (Nat.le_of_ble_eq_true rfl)⟩) hK hP hD hS hA hnw henv (Nat.le_of_ble_eq_true rfl) rfl rfl hl.1 rfl (Nat.le_of_ble_eq_true rfl) d_Model_checkOperator_220 ⟨Nat.le_refl _, Nat.le_refl _⟩ (fun H locs hP hD hS => ?_)
      clear hc41
      refine lv_if_ne (tgt := 245) hx hb d_Model_checkOperator_223 (by decide) (fun c42 => ?_) (fun c42 => ?_)
      · replace hR := if_n c42 hR
        refine lv_aload_n hx hb d_Model_checkOperator_245 rfl (lv_at hl 1 rfl) ?_
        refine lv_aload_n hx hb d_Model_checkOperator_246 rfl (lv_at hl 1 rfl) ?_
        refine rd_Model_159 hx hb hT hown hK hP d_Model_checkOperator_247 ?_
        refine lv_iload_n hx hb d_Model_checkOperator_250 rfl (lv_at hl 4 rfl) ?_
        replace hR := gd_e hR
        obtain ⟨b43, hR⟩ := hR
        refine laM_48 hx hb hK hP b43 d_Model_checkOperator_251 ?_
        replace hR := bi_e hR
        obtain ⟨r44, l44, T44, hc44, hR⟩ := hR
        refine gcV_i (rest := []) ⟨hx, hb, hml, hown, hT⟩ (h_Model_isLive _ _ _ _ _ hc44) (cwV 1 hT (gV ml_Model_581 im_Model_isLive se_Model_isLive ini_Model co_Model_isLive) rfl rfl rfl pd_Model_isLive ⟨rm_hi, rm_lo (Nat.le_of_ble_eq_true rfl)⟩) hK hP hD hS hA hnw henv (Nat.le_of_ble_eq_true rfl) rfl rfl hl.1 rfl (Nat.le_of_ble_eq_true rfl) d_Model_checkOperator_252 ⟨Nat.le_refl _, Nat.le_refl _⟩ (fun H locs hP hD hS => ?_)
        clear hc44
        refine lv_if_ne (tgt := 274) hx hb d_Model_checkOperator_255 (by decide) (fun c45 => ?_) (fun c45 => ?_)
        · replace hR := if_n c45 hR
          refine lv_iconst (v := 0) hx hb d_Model_checkOperator_274 (by decide) ?_
          obtain ⟨e1, -, e3⟩ := re_e hR
          subst e1; subst e3
          exact W.iret (v := (0 : Int32)) hx hb hr (fun t ht hW => ⟨⟨(0 : Int32), (), rfl, rfl, by rw [ht]; exact hP, va_K.moved hW.alike hK, hD⟩, hS.F ht⟩) hS.2.2 d_Model_checkOperator_275
        · replace hR := if_p c45 hR
          refine lv_aload_n hx hb d_Model_checkOperator_258 rfl (lv_at hl 1 rfl) ?_
          refine lv_iconst (v := 5) hx hb d_Model_checkOperator_259 (by decide) ?_
          refine lv_aload_n hx hb d_Model_checkOperator_260 rfl (lv_at hl 1 rfl) ?_
          refine rd_Model_123 hx hb hT hown hK hP d_Model_checkOperator_261 ?_
          refine lv_aload_n hx hb d_Model_checkOperator_264 rfl (lv_at hl 1 rfl) ?_
          refine rd_Model_129 hx hb hT hown hK hP d_Model_checkOperator_265 ?_
          refine lv_iload_n hx hb d_Model_checkOperator_268 rfl (lv_at hl 2 rfl) ?_
          replace hR := gd_e hR
          obtain ⟨b47, hR⟩ := hR
          refine laM_38 hx hb hK hP b47 d_Model_checkOperator_269 ?_
          replace hR := gd_e hR
          obtain ⟨b48, hR⟩ := hR
          refine laM_36 hx hb hK hP b48 d_Model_checkOperator_270 ?_
          replace hR := bi_e hR
          obtain ⟨r49, l49, T49, hc49, hR⟩ := hR
          refine gcV_v (rest := []) ⟨hx, hb, hml, hown, hT⟩ (h_Model_fail _ _ _ _ _ _ hc49) (cwV 2 hT (gV ml_Model_381 im_Model_fail se_Model_fail ini_Model co_Model_fail) rfl rfl rfl pd_Model_fail ⟨rm_hi, rm_lo (Nat.le_of_ble_eq_true rfl)⟩) hK hP hD hS hA hnw henv (Nat.le_of_ble_eq_true rfl) rfl rfl hl.1 rfl (Nat.le_of_ble_eq_true rfl) d_Model_checkOperator_271 ⟨Nat.le_refl _, Nat.le_refl _⟩ (fun H locs hP hD hS => ?_)
          clear hc49
          refine lv_iconst (v := 0) hx hb d_Model_checkOperator_274 (by decide) ?_
          obtain ⟨e1, -, e3⟩ := re_e hR
          subst e1; subst e3
          exact W.iret (v := (0 : Int32)) hx hb hr (fun t ht hW => ⟨⟨(0 : Int32), (), rfl, rfl, by rw [ht]; exact hP, va_K.moved hW.alike hK, hD⟩, hS.F ht⟩) hS.2.2 d_Model_checkOperator_275
      · replace hR := if_p c42 hR
        refine lv_aload_n hx hb d_Model_checkOperator_226 rfl (lv_at hl 1 rfl) ?_
        refine lv_iconst (v := 5) hx hb d_Model_checkOperator_227 (by decide) ?_
        refine lv_aload_n hx hb d_Model_checkOperator_228 rfl (lv_at hl 1 rfl) ?_
        refine rd_Model_123 hx hb hT hown hK hP d_Model_checkOperator_229 ?_
        refine lv_aload_n hx hb d_Model_checkOperator_232 rfl (lv_at hl 1 rfl) ?_
        refine rd_Model_126 hx hb hT hown hK hP d_Model_checkOperator_233 ?_
        refine lv_iload_n hx hb d_Model_checkOperator_236 rfl (lv_at hl 2 rfl) ?_
        replace hR := gd_e hR
        obtain ⟨b51, hR⟩ := hR
        refine laM_37 hx hb hK hP b51 d_Model_checkOperator_237 ?_
        replace hR := gd_e hR
        obtain ⟨b52, hR⟩ := hR
        refine laM_36 hx hb hK hP b52 d_Model_checkOperator_238 ?_
        replace hR := bi_e hR
        obtain ⟨r53, l53, T53, hc53, hR⟩ := hR
        refine gcV_v (rest := []) ⟨hx, hb, hml, hown, hT⟩ (h_Model_fail _ _ _ _ _ _ hc53) (cwV 2 hT (gV ml_Model_381 im_Model_fail se_Model_fail ini_Model co_Model_fail) rfl rfl rfl pd_Model_fail ⟨rm_hi, rm_lo (Nat.le_of_ble_eq_true rfl)⟩) hK hP hD hS hA hnw henv (Nat.le_of_ble_eq_true rfl) rfl rfl hl.1 rfl (Nat.le_of_ble_eq_true rfl) d_Model_checkOperator_239 ⟨Nat.le_refl _, Nat.le_refl _⟩ (fun H locs hP hD hS => ?_)
        clear hc53
        refine lv_goto (tgt := 274) hx hb d_Model_checkOperator_242 (by decide) ?_
        refine lv_iconst (v := 0) hx hb d_Model_checkOperator_274 (by decide) ?_
        obtain ⟨e1, -, e3⟩ := re_e hR
        subst e1; subst e3
        exact W.iret (v := (0 : Int32)) hx hb hr (fun t ht hW => ⟨⟨(0 : Int32), (), rfl, rfl, by rw [ht]; exact hP, va_K.moved hW.alike hK, hD⟩, hS.F ht⟩) hS.2.2 d_Model_checkOperator_275
    · replace hR := if_p c39 hR
      refine lv_aload_n hx hb d_Model_checkOperator_194 rfl (lv_at hl 1 rfl) ?_
      refine lv_iconst (v := 4) hx hb d_Model_checkOperator_195 (by decide) ?_
      refine lv_aload_n hx hb d_Model_checkOperator_196 rfl (lv_at hl 1 rfl) ?_
      refine rd_Model_123 hx hb hT hown hK hP d_Model_checkOperator_197 ?_
      refine lv_aload_n hx hb d_Model_checkOperator_200 rfl (lv_at hl 1 rfl) ?_
      refine rd_Model_129 hx hb hT hown hK hP d_Model_checkOperator_201 ?_
      refine lv_iload_n hx hb d_Model_checkOperator_204 rfl (lv_at hl 2 rfl) ?_
      replace hR := gd_e hR
      obtain ⟨b55, hR⟩ := hR
      refine laM_38 hx hb hK hP b55 d_Model_checkOperator_205 ?_
      replace hR := gd_e hR
      obtain ⟨b56, hR⟩ := hR
      refine laM_36 hx hb hK hP b56 d_Model_checkOperator_206 ?_
      replace hR := bi_e hR
      obtain ⟨r57, l57, T57, hc57, hR⟩ := hR
      refine gcV_v (rest := []) ⟨hx, hb, hml, hown, hT⟩ (h_Model_fail _ _ _ _ _ _ hc57) (cwV 2 hT (gV ml_Model_381 im_Model_fail se_Model_fail ini_Model co_Model_fail) rfl rfl rfl pd_Model_fail ⟨rm_hi, rm_lo (Nat.le_of_ble_eq_true rfl)⟩) hK hP hD hS hA hnw henv (Nat.le_of_ble_eq_true rfl) rfl rfl hl.1 rfl (Nat.le_of_ble_eq_true rfl) d_Model_checkOperator_207 ⟨Nat.le_refl _, Nat.le_refl _⟩ (fun H locs hP hD hS => ?_)
      clear hc57
      refine lv_goto (tgt := 274) hx hb d_Model_checkOperator_210 (by decide) ?_
      refine lv_iconst (v := 0) hx hb d_Model_checkOperator_274 (by decide) ?_
      obtain ⟨e1, -, e3⟩ := re_e hR
      subst e1; subst e3
      exact W.iret (v := (0 : Int32)) hx hb hr (fun t ht hW => ⟨⟨(0 : Int32), (), rfl, rfl, by rw [ht]; exact hP, va_K.moved hW.alike hK, hD⟩, hS.F ht⟩) hS.2.2 d_Model_checkOperator_275
  have lb_97 : ∀ (T : gSt) (x1 : Int32) (x2 : Int32) (x3 : Int32) (x4 : Int32) (y0 : Int32), rj_Model_checkOperator_97 F nf T x1 x2 x3 x4 y0 = some (r0, rl0, T9) → G 97 [(0, .ref (ad 0)), (1, .int x1), (2, .int x2), (3, .int x3), (4, .int x4)] [.int y0] T := by
    intro T x1 x2 x3 x4 y0 hR; unfold rj_Model_checkOperator_97 at hR; rw [hG]; intro H locs hP hD hS ls hl
    refine lv_istore (lv' := [(5, .int y0), (0, .ref (ad 0)), (1, .int x1), (2, .int x2), (3, .int x3), (4, .int x4)]) hx hb d_Model_checkOperator_97 hl (by decide) rfl (fun ls hl => ?_)
    refine lv_aload_n hx hb d_Model_checkOperator_99 rfl (lv_at hl 1 rfl) ?_
    refine rd_Model_132 hx hb hT hown hK hP d_Model_checkOperator_100 ?_
    refine lv_iload_n hx hb d_Model_checkOperator_103 rfl (lv_at hl 2 rfl) ?_
    replace hR := gd_e hR
    obtain ⟨b21, hR⟩ := hR
    refine laM_39 hx hb hK hP b21 d_Model_checkOperator_104 ?_
    refine lv_sipush (v := 256) hx hb d_Model_checkOperator_105 (by decide) ?_
    refine lv_icmp_ne (tgt := 276) hx hb d_Model_checkOperator_108 (by decide) (fun c22 => ?_) (fun c22 => ?_)
    · replace hR := if_n c22 hR
      have g := lb_276 T x1 x2 x3 hR
      rw [hG] at g
      exact g _ _ hP hD hS _ (lv_sub hl [1, 2, 3, 4] rfl)
    · replace hR := if_p c22 hR
      refine lv_iload hx hb d_Model_checkOperator_111 (lv_at hl 5 rfl) ?_
      refine lv_if_eq (tgt := 276) hx hb d_Model_checkOperator_113 (by decide) (fun c23 => ?_) (fun c23 => ?_)
      · replace hR := if_p c23 hR
        have g := lb_276 T x1 x2 x3 hR
        rw [hG] at g
        exact g _ _ hP hD hS _ (lv_sub hl [1, 2, 3, 4] rfl)
      · replace hR := if_n c23 hR
        refine lv_iload hx hb d_Model_checkOperator_116 (lv_at hl 0 rfl) ?_
        refine lv_if_eq (tgt := 276) hx hb d_Model_checkOperator_118 (by decide) (fun c24 => ?_) (fun c24 => ?_)
        · replace hR := if_p c24 hR
          have g := lb_276 T x1 x2 x3 hR
          rw [hG] at g
          exact g _ _ hP hD hS _ (lv_sub hl [1, 2, 3, 4] rfl)
        · replace hR := if_n c24 hR
          refine lv_iload_n hx hb d_Model_checkOperator_121 rfl (lv_at hl 3 rfl) ?_
          refine lv_bipush (v := (-2)) hx hb d_Model_checkOperator_122 (by decide) ?_
          refine lv_icmp_eq (tgt := 133) hx hb d_Model_checkOperator_124 (by decide) (fun c25 => ?_) (fun c25 => ?_)
          · replace hR := if_p c25 hR
            refine lv_iconst (v := 0) hx hb d_Model_checkOperator_133 (by decide) ?_
            obtain ⟨e1, -, e3⟩ := re_e hR
            subst e1; subst e3
            exact W.iret (v := (0 : Int32)) hx hb hr (fun t ht hW => ⟨⟨(0 : Int32), (), rfl, rfl, by rw [ht]; exact hP, va_K.moved hW.alike hK, hD⟩, hS.F ht⟩) hS.2.2 d_Model_checkOperator_134
          · replace hR := if_n c25 hR
            refine lv_iload_n hx hb d_Model_checkOperator_127 rfl (lv_at hl 4 rfl) ?_
            refine lv_bipush (v := (-2)) hx hb d_Model_checkOperator_128 (by decide) ?_
            refine lv_icmp_ne (tgt := 135) hx hb d_Model_checkOperator_130 (by decide) (fun c27 => ?_) (fun c27 => ?_)
            · replace hR := if_n c27 hR
              refine lv_aload_n hx hb d_Model_checkOperator_135 rfl (lv_at hl 1 rfl) ?_
              refine lv_iload_n hx hb d_Model_checkOperator_136 rfl (lv_at hl 3 rfl) ?_
              refine lv_iload_n hx hb d_Model_checkOperator_137 rfl (lv_at hl 4 rfl) ?_
              replace hR := bi_e hR
              obtain ⟨r28, l28, T28, hc28, hR⟩ := hR
              refine gcV_i (rest := []) ⟨hx, hb, hml, hown, hT⟩ (h_Model_sameCell _ _ _ _ _ _ hc28) (cwV 2 hT (gV ml_Model_596 im_Model_sameCell se_Model_sameCell ini_Model co_Model_sameCell) rfl rfl rfl pd_Model_sameCell ⟨rm_hi, rm_lo (Nat.le_of_ble_eq_true rfl)⟩) hK hP hD hS hA hnw henv (Nat.le_of_ble_eq_true rfl) rfl rfl hl.1 rfl (Nat.le_of_ble_eq_true rfl) d_Model_checkOperator_138 ⟨Nat.le_refl _, Nat.le_refl _⟩ (fun H locs hP hD hS => ?_)
              clear hc28
              refine lv_if_eq (tgt := 186) hx hb d_Model_checkOperator_141 (by decide) (fun c29 => ?_) (fun c29 => ?_)
              · replace hR := if_p c29 hR
                refine lv_iconst (v := 0) hx hb d_Model_checkOperator_186 (by decide) ?_
                have g := lb_187 T28 x1 x2 x3 (0 : Int32) hR
                rw [hG] at g
                exact g _ _ hP hD hS _ (lv_sub hl [1, 2, 3, 4] rfl)
              · replace hR := if_n c29 hR
                refine lv_aload_n hx hb d_Model_checkOperator_144 rfl (lv_at hl 1 rfl) ?_
                refine lv_aload_n hx hb d_Model_checkOperator_145 rfl (lv_at hl 1 rfl) ?_
                refine rd_Model_159 hx hb hT hown hK hP d_Model_checkOperator_146 ?_
                refine lv_iload_n hx hb d_Model_checkOperator_149 rfl (lv_at hl 3 rfl) ?_
                replace hR := gd_e hR
                obtain ⟨b30, hR⟩ := hR
                refine laM_48 hx hb hK hP b30 d_Model_checkOperator_150 ?_
                refine lv_aload_n hx hb d_Model_checkOperator_151 rfl (lv_at hl 1 rfl) ?_
                refine rd_Model_159 hx hb hT hown hK hP d_Model_checkOperator_152 ?_
                refine lv_iload_n hx hb d_Model_checkOperator_155 rfl (lv_at hl 4 rfl) ?_
                replace hR := gd_e hR
                obtain ⟨b31, hR⟩ := hR
                refine laM_48 hx hb hK hP b31 d_Model_checkOperator_156 ?_
                replace hR := bi_e hR
                obtain ⟨r32, l32, T32, hc32, hR⟩ := hR
                refine gcV_i (rest := []) ⟨hx, hb, hml, hown, hT⟩ (h_Model_doesOutlive _ _ _ _ _ _ hc32) (cwV 2 hT (gV ml_Model_600 im_Model_doesOutlive se_Model_doesOutlive ini_Model co_Model_doesOutlive) rfl rfl rfl pd_Model_doesOutlive ⟨rm_hi, rm_lo (Nat.le_of_ble_eq_true rfl)⟩) hK hP hD hS hA hnw henv (Nat.le_of_ble_eq_true rfl) rfl rfl hl.1 rfl (Nat.le_of_ble_eq_true rfl) d_Model_checkOperator_157 ⟨Nat.le_refl _, Nat.le_refl _⟩ (fun H locs hP hD hS => ?_)
                clear hc32
                refine lv_if_ne (tgt := 182) hx hb d_Model_checkOperator_160 (by decide) (fun c33 => ?_) (fun c33 => ?_)
                · replace hR := if_n c33 hR
                  refine lv_iconst (v := 1) hx hb d_Model_checkOperator_182 (by decide) ?_
                  refine lv_goto (tgt := 187) hx hb d_Model_checkOperator_183 (by decide) ?_
                  have g := lb_187 T32 x1 x2 x3 (1 : Int32) hR
                  rw [hG] at g
                  exact g _ _ hP hD hS _ (lv_sub hl [1, 2, 3, 4] rfl)
                · replace hR := if_p c33 hR
                  refine lv_aload_n hx hb d_Model_checkOperator_163 rfl (lv_at hl 1 rfl) ?_
                  refine lv_aload_n hx hb d_Model_checkOperator_164 rfl (lv_at hl 1 rfl) ?_
                  refine rd_Model_159 hx hb hT hown hK hP d_Model_checkOperator_165 ?_
                  refine lv_iload_n hx hb d_Model_checkOperator_168 rfl (lv_at hl 4 rfl) ?_
                  replace hR := gd_e hR
                  obtain ⟨b34, hR⟩ := hR
                  refine laM_48 hx hb hK hP b34 d_Model_checkOperator_169 ?_
                  refine lv_aload_n hx hb d_Model_checkOperator_170 rfl (lv_at hl 1 rfl) ?_
                  refine rd_Model_159 hx hb hT hown hK hP d_Model_checkOperator_171 ?_
                  refine lv_iload_n hx hb d_Model_checkOperator_174 rfl (lv_at hl 3 rfl) ?_
                  replace hR := gd_e hR
                  obtain ⟨b35, hR⟩ := hR
                  refine laM_48 hx hb hK hP b35 d_Model_checkOperator_175 ?_
                  replace hR := bi_e hR
                  obtain ⟨r36, l36, T36, hc36, hR⟩ := hR
                  refine gcV_i (rest := []) ⟨hx, hb, hml, hown, hT⟩ (h_Model_doesOutlive _ _ _ _ _ _ hc36) (cwV 2 hT (gV ml_Model_600 im_Model_doesOutlive se_Model_doesOutlive ini_Model co_Model_doesOutlive) rfl rfl rfl pd_Model_doesOutlive ⟨rm_hi, rm_lo (Nat.le_of_ble_eq_true rfl)⟩) hK hP hD hS hA hnw henv (Nat.le_of_ble_eq_true rfl) rfl rfl hl.1 rfl (Nat.le_of_ble_eq_true rfl) d_Model_checkOperator_176 ⟨Nat.le_refl _, Nat.le_refl _⟩ (fun H locs hP hD hS => ?_)
                  clear hc36
                  refine lv_if_eq (tgt := 186) hx hb d_Model_checkOperator_179 (by decide) (fun c37 => ?_) (fun c37 => ?_)
                  · replace hR := if_p c37 hR
                    refine lv_iconst (v := 0) hx hb d_Model_checkOperator_186 (by decide) ?_
                    have g := lb_187 T36 x1 x2 x3 (0 : Int32) hR
                    rw [hG] at g
                    exact g _ _ hP hD hS _ (lv_sub hl [1, 2, 3, 4] rfl)
                  · replace hR := if_n c37 hR
                    refine lv_iconst (v := 1) hx hb d_Model_checkOperator_182 (by decide) ?_
                    refine lv_goto (tgt := 187) hx hb d_Model_checkOperator_183 (by decide) ?_
                    have g := lb_187 T36 x1 x2 x3 (1 : Int32) hR
                    rw [hG] at g
                    exact g _ _ hP hD hS _ (lv_sub hl [1, 2, 3, 4] rfl)
            · replace hR := if_p c27 hR
              refine lv_iconst (v := 0) hx hb d_Model_checkOperator_133 (by decide) ?_
              obtain ⟨e1, -, e3⟩ := re_e hR
              subst e1; subst e3
              exact W.iret (v := (0 : Int32)) hx hb hr (fun t ht hW => ⟨⟨(0 : Int32), (), rfl, rfl, by rw [ht]; exact hP, va_K.moved hW.alike hK, hD⟩, hS.F ht⟩) hS.2.2 d_Model_checkOperator_134
  have lb_76 : ∀ (T : gSt) (x1 : Int32) (x2 : Int32) (x3 : Int32) (y0 : Int32), rj_Model_checkOperator_76 F nf T x1 x2 x3 y0 = some (r0, rl0, T9) → G 76 [(0, .ref (ad 0)), (1, .int x1), (2, .int x2), (3, .int x3)] [.int y0] T := by
    intro T x1 x2 x3 y0 hR; unfold rj_Model_checkOperator_76 at hR; rw [hG]; intro H locs hP hD hS ls hl
    refine lv_istore (lv' := [(4, .int y0), (0, .ref (ad 0)), (1, .int x1), (2, .int x2), (3, .int x3)]) hx hb d_Model_checkOperator_76 hl (by decide) rfl (fun ls hl => ?_)
    refine lv_iload_n hx hb d_Model_checkOperator_78 rfl (lv_at hl 4 rfl) ?_
    refine lv_bipush (v := (-2)) hx hb d_Model_checkOperator_79 (by decide) ?_
    refine lv_icmp_eq (tgt := 92) hx hb d_Model_checkOperator_81 (by decide) (fun c18 => ?_) (fun c18 => ?_)
    · replace hR := if_p c18 hR
      refine lv_iconst (v := 1) hx hb d_Model_checkOperator_92 (by decide) ?_
      refine lv_goto (tgt := 97) hx hb d_Model_checkOperator_93 (by decide) ?_
      have g := lb_97 T x1 x2 x3 y0 (1 : Int32) hR
      rw [hG] at g
      exact g _ _ hP hD hS _ (lv_sub hl [1, 2, 3, 4, 0] rfl)
    · replace hR := if_n c18 hR
      refine lv_aload_n hx hb d_Model_checkOperator_84 rfl (lv_at hl 1 rfl) ?_
      refine lv_iload_n hx hb d_Model_checkOperator_85 rfl (lv_at hl 4 rfl) ?_
      replace hR := bi_e hR
      obtain ⟨r19, l19, T19, hc19, hR⟩ := hR
      refine gcV_i (rest := []) ⟨hx, hb, hml, hown, hT⟩ (h_Model_isPointer _ _ _ _ _ hc19) (cwV 1 hT (gV ml_Model_560 im_Model_isPointer se_Model_isPointer ini_Model co_Model_isPointer) rfl rfl rfl pd_Model_isPointer ⟨rm_hi, rm_lo (Nat.le_of_ble_eq_true rfl)⟩) hK hP hD hS hA hnw henv (Nat.le_of_ble_eq_true rfl) rfl rfl hl.1 rfl (Nat.le_of_ble_eq_true rfl) d_Model_checkOperator_86 ⟨Nat.le_refl _, Nat.le_refl _⟩ (fun H locs hP hD hS => ?_)
      clear hc19
      refine lv_if_eq (tgt := 96) hx hb d_Model_checkOperator_89 (by decide) (fun c20 => ?_) (fun c20 => ?_)
      · replace hR := if_p c20 hR
        refine lv_iconst (v := 0) hx hb d_Model_checkOperator_96 (by decide) ?_
        have g := lb_97 T19 x1 x2 x3 y0 (0 : Int32) hR
        rw [hG] at g
        exact g _ _ hP hD hS _ (lv_sub hl [1, 2, 3, 4, 0] rfl)
      · replace hR := if_n c20 hR
        refine lv_iconst (v := 1) hx hb d_Model_checkOperator_92 (by decide) ?_
        refine lv_goto (tgt := 97) hx hb d_Model_checkOperator_93 (by decide) ?_
        have g := lb_97 T19 x1 x2 x3 y0 (1 : Int32) hR
        rw [hG] at g
        exact g _ _ hP hD hS _ (lv_sub hl [1, 2, 3, 4, 0] rfl)
  have lb_57 : ∀ (T : gSt) (x1 : Int32) (x2 : Int32) (x3 : Int32), rj_Model_checkOperator_57 F nf T x1 x2 x3 = some (r0, rl0, T9) → G 57 [(0, .ref (ad 0)), (1, .int x1), (2, .int x2), (3, .int x3)] [] T := by
    intro T x1 x2 x3 hR; unfold rj_Model_checkOperator_57 at hR; rw [hG]; intro H locs hP hD hS ls hl
    refine lv_iload_n hx hb d_Model_checkOperator_57 rfl (lv_at hl 2 rfl) ?_
    refine lv_bipush (v := (-2)) hx hb d_Model_checkOperator_58 (by decide) ?_
    refine lv_icmp_eq (tgt := 71) hx hb d_Model_checkOperator_60 (by decide) (fun c15 => ?_) (fun c15 => ?_)
    · replace hR := if_p c15 hR
      refine lv_iconst (v := 1) hx hb d_Model_checkOperator_71 (by decide) ?_
      refine lv_goto (tgt := 76) hx hb d_Model_checkOperator_72 (by decide) ?_
      have g := lb_76 T x1 x2 x3 (1 : Int32) hR
      rw [hG] at g
      exact g _ _ hP hD hS _ (lv_sub hl [0, 1, 2, 3] rfl)
    · replace hR := if_n c15 hR
      refine lv_aload_n hx hb d_Model_checkOperator_63 rfl (lv_at hl 0 rfl) ?_
      refine lv_iload_n hx hb d_Model_checkOperator_64 rfl (lv_at hl 2 rfl) ?_
      replace hR := bi_e hR
      obtain ⟨r16, l16, T16, hc16, hR⟩ := hR
      refine gcV_i (rest := []) ⟨hx, hb, hml, hown, hT⟩ (h_Model_isPointer _ _ _ _ _ hc16) (cwV 1 hT (gV ml_Model_560 im_Model_isPointer se_Model_isPointer ini_Model co_Model_isPointer) rfl rfl rfl pd_Model_isPointer ⟨rm_hi, rm_lo (Nat.le_of_ble_eq_true rfl)⟩) hK hP hD hS hA hnw henv (Nat.le_of_ble_eq_true rfl) rfl rfl hl.1 rfl (Nat.le_of_ble_eq_true rfl) d_Model_checkOperator_65 ⟨Nat.le_refl _, Nat.le_refl _⟩ (fun H locs hP hD hS => ?_)
      clear hc16
      refine lv_if_eq (tgt := 75) hx hb d_Model_checkOperator_68 (by decide) (fun c17 => ?_) (fun c17 => ?_)
      · replace hR := if_p c17 hR
        refine lv_iconst (v := 0) hx hb d_Model_checkOperator_75 (by decide) ?_
        have g := lb_76 T16 x1 x2 x3 (0 : Int32) hR
        rw [hG] at g
        exact g _ _ hP hD hS _ (lv_sub hl [0, 1, 2, 3] rfl)
      · replace hR := if_n c17 hR
        refine lv_iconst (v := 1) hx hb d_Model_checkOperator_71 (by decide) ?_
        refine lv_goto (tgt := 76) hx hb d_Model_checkOperator_72 (by decide) ?_
        have g := lb_76 T16 x1 x2 x3 (1 : Int32) hR
        rw [hG] at g
        exact g _ _ hP hD hS _ (lv_sub hl [0, 1, 2, 3] rfl)
  unfold rb_Model_checkOperator at hR
  refine lv_aload_n hx hb d_Model_checkOperator_0 rfl (lv_at hl 0 rfl) ?_
  refine rd_Model_150 hx hb hT hown hK hP d_Model_checkOperator_1 ?_
  refine lv_aload_n hx hb d_Model_checkOperator_4 rfl (lv_at hl 0 rfl) ?_
  refine rd_Model_126 hx hb hT hown hK hP d_Model_checkOperator_5 ?_
  refine lv_iload_n hx hb d_Model_checkOperator_8 rfl (lv_at hl 1 rfl) ?_
  replace hR := gd_e hR
  obtain ⟨b1, hR⟩ := hR
  refine laM_37 hx hb hK hP b1 d_Model_checkOperator_9 ?_
  replace hR := gd_e hR
  obtain ⟨b2, hR⟩ := hR
  refine laM_45 hx hb hK hP b2 d_Model_checkOperator_10 ?_
  refine lv_topi (fun z3 e3 => ?_)
  replace hR := vK_e e3 hR
  refine lv_istore_n (lv' := [(2, .int z3), (0, .ref (ad 0)), (1, .int p1)]) hx hb d_Model_checkOperator_11 rfl hl (by decide) rfl (fun ls hl => ?_)
  refine lv_aload_n hx hb d_Model_checkOperator_12 rfl (lv_at hl 1 rfl) ?_
  refine lv_aload_n hx hb d_Model_checkOperator_13 rfl (lv_at hl 1 rfl) ?_
  refine rd_Model_129 hx hb hT hown hK hP d_Model_checkOperator_14 ?_
  refine lv_iload_n hx hb d_Model_checkOperator_17 rfl (lv_at hl 2 rfl) ?_
  replace hR := gd_e hR
  obtain ⟨b4, hR⟩ := hR
  refine laM_38 hx hb hK hP b4 d_Model_checkOperator_18 ?_
  replace hR := bi_e hR
  obtain ⟨r5, l5, T5, hc5, hR⟩ := hR
  refine gcV_i (rest := []) ⟨hx, hb, hml, hown, hT⟩ (h_Model_check _ _ _ _ _ hc5) (cwV 1 hT (gV ml_Model_652 im_Model_check se_Model_check ini_Model co_Model_check) rfl rfl rfl pd_Model_check ⟨rm_hi, rm_lo (Nat.le_of_ble_eq_true rfl)⟩) hK hP hD hS hA hnw henv (Nat.le_of_ble_eq_true rfl) rfl rfl hl.1 rfl (Nat.le_of_ble_eq_true rfl) d_Model_checkOperator_19 ⟨Nat.le_refl _, Nat.le_refl _⟩ (fun H locs hP hD hS => ?_)
  clear hc5
  refine lv_istore_n (lv' := [(3, .int r5), (2, .int z3), (0, .ref (ad 0)), (1, .int p1)]) hx hb d_Model_checkOperator_22 rfl hl (by decide) rfl (fun ls hl => ?_)
  refine lv_aload_n hx hb d_Model_checkOperator_23 rfl (lv_at hl 2 rfl) ?_
  replace hR := bi_e hR
  obtain ⟨r6, l6, T6, hc6, hR⟩ := hR
  refine gcV_i (rest := []) ⟨hx, hb, hml, hown, hT⟩ (h_Model_bad _ _ _ _ hc6) (cwV 0 hT (gV ml_Model_385 im_Model_bad se_Model_bad ini_Model co_Model_bad) rfl rfl rfl pd_Model_bad ⟨rm_hi, rm_lo (Nat.le_of_ble_eq_true rfl)⟩) hK hP hD hS hA hnw henv (Nat.le_of_ble_eq_true rfl) rfl rfl hl.1 rfl (Nat.le_of_ble_eq_true rfl) d_Model_checkOperator_24 ⟨Nat.le_refl _, Nat.le_refl _⟩ (fun H locs hP hD hS => ?_)
  clear hc6
  refine lv_if_eq (tgt := 32) hx hb d_Model_checkOperator_27 (by decide) (fun c7 => ?_) (fun c7 => ?_)
  · replace hR := if_p c7 hR
    refine lv_aload_n hx hb d_Model_checkOperator_32 rfl (lv_at hl 2 rfl) ?_
    refine rd_Model_132 hx hb hT hown hK hP d_Model_checkOperator_33 ?_
    refine lv_iload_n hx hb d_Model_checkOperator_36 rfl (lv_at hl 3 rfl) ?_
    replace hR := gd_e hR
    obtain ⟨b8, hR⟩ := hR
    refine laM_39 hx hb hK hP b8 d_Model_checkOperator_37 ?_
    refine lv_bipush (v := 43) hx hb d_Model_checkOperator_38 (by decide) ?_
    refine lv_icmp_ne (tgt := 57) hx hb d_Model_checkOperator_40 (by decide) (fun c9 => ?_) (fun c9 => ?_)
    · replace hR := if_n c9 hR
      have g := lb_57 T6 p1 z3 r5 hR
      rw [hG] at g
      exact g _ _ hP hD hS _ (lv_sub hl [2, 3, 1, 0] rfl)
    · replace hR := if_p c9 hR
      refine lv_aload_n hx hb d_Model_checkOperator_43 rfl (lv_at hl 2 rfl) ?_
      refine lv_iload_n hx hb d_Model_checkOperator_44 rfl (lv_at hl 1 rfl) ?_
      replace hR := bi_e hR
      obtain ⟨r10, l10, T10, hc10, hR⟩ := hR
      refine gcV_i (rest := []) ⟨hx, hb, hml, hown, hT⟩ (h_Model_isRow _ _ _ _ _ hc10) (cwV 1 hT (gV ml_Model_744 im_Model_isRow se_Model_isRow ini_Model co_Model_isRow) rfl rfl rfl pd_Model_isRow ⟨rm_hi, rm_lo (Nat.le_of_ble_eq_true rfl)⟩) hK hP hD hS hA hnw henv (Nat.le_of_ble_eq_true rfl) rfl rfl hl.1 rfl (Nat.le_of_ble_eq_true rfl) d_Model_checkOperator_45 ⟨Nat.le_refl _, Nat.le_refl _⟩ (fun H locs hP hD hS => ?_)
      clear hc10
      refine lv_if_eq (tgt := 57) hx hb d_Model_checkOperator_48 (by decide) (fun c11 => ?_) (fun c11 => ?_)
      · replace hR := if_p c11 hR
        have g := lb_57 T10 p1 z3 r5 hR
        rw [hG] at g
        exact g _ _ hP hD hS _ (lv_sub hl [2, 3, 1, 0] rfl)
      · replace hR := if_n c11 hR
        refine lv_iload_n hx hb d_Model_checkOperator_51 rfl (lv_at hl 0 rfl) ?_
        refine lv_if_ne (tgt := 57) hx hb d_Model_checkOperator_52 (by decide) (fun c12 => ?_) (fun c12 => ?_)
        · replace hR := if_n c12 hR
          have g := lb_57 T10 p1 z3 r5 hR
          rw [hG] at g
          exact g _ _ hP hD hS _ (lv_sub hl [2, 3, 1, 0] rfl)
        · replace hR := if_p c12 hR
          refine lv_iload_n hx hb d_Model_checkOperator_55 rfl (lv_at hl 1 rfl) ?_
          obtain ⟨e1, -, e3⟩ := re_e hR
          subst e1; subst e3
          exact W.iret (v := z3) hx hb hr (fun t ht hW => ⟨⟨z3, (), rfl, rfl, by rw [ht]; exact hP, va_K.moved hW.alike hK, hD⟩, hS.F ht⟩) hS.2.2 d_Model_checkOperator_56
  · replace hR := if_n c7 hR
    refine lv_iconst (v := 0) hx hb d_Model_checkOperator_30 (by decide) ?_
    obtain ⟨e1, -, e3⟩ := re_e hR
    subst e1; subst e3
    exact W.iret (v := (0 : Int32)) hx hb hr (fun t ht hW => ⟨⟨(0 : Int32), (), rfl, rfl, by rw [ht]; exact hP, va_K.moved hW.alike hK, hD⟩, hS.F ht⟩) hS.2.2 d_Model_checkOperator_31
set_option maxHeartbeats 4000000 in
set_option maxRecDepth 100000 in
theorem sp_Model_lay (l : Launch) (dC : Nat → ClassId) (dI : Nat → Nat → Nat) (ea ev ad : Nat → Nat) (km : Nat → ClassId) (F : gF) (nf d : Nat) (T0 : gSt) (p1 : Int32) (p2 : Int32) (p3 : Int32) (p4 : Int32) (r0 : Int32) (rl0 : Int64) (T9 : gSt) (hR : rb_Model_lay F nf T0 p1 p2 p3 p4 = some (r0, rl0, T9)) : GMi l dC dI LM ad km ea ev y_Model_lay w_Model_lay (rmD (d + 1)) [.ref (ad 0), .int p1, .int p2, .int p3, .int p4] T0 r0 T9 := by
  intro sz
  refine Met.ofW (cc := b_Model_lay) (maxL := 5) (ret := (some .int)) (by decide) rfl ?_
  intro p e s m args below meth c s₁ B hml hv
  obtain ⟨rfl, hsz, hP, hK, hD0, hnw, henv⟩ := hv
  have hx := B.exec
  have hb := B.bytes
  have hr := B.returns
  have hT : ∀ w ∈ lw_good, w.before _ s = true := fun w h => atoms_spec (ws := w_Model_lay) B.pre w (List.mem_cons_of_mem _ h)
  have hown : s.vm.findClass R_Model = some m.cls := findClass_of_methodNamed B.named
  subst hsz
  have hD := hD0.self (sz := s.heap.size)
  clear hD0
  generalize hAe : va_A (gW LM ad km T0) s.heap.size = A at hD henv ⊢
  have hA : ∀ q : Nat, s.heap.size ≤ q → A q := fun q h => by rw [← hAe]; exact Or.inr h
  have hS : va_S A s.heap s.heap [] := va_S.rf
  have hl := lv_entry ([.ref (ad 0), .int p1, .int p2, .int p3, .int p4]) (n := 5) (Nat.le_of_ble_eq_true rfl)
  rw [lg_entry_eq]
  generalize (lg_sl ([.ref (ad 0), .int p1, .int p2, .int p3, .int p4]) ++ List.replicate (5 - (lg_sl ([.ref (ad 0), .int p1, .int p2, .int p3, .int p4])).length) Slot.unset).toArray = ls at hl ⊢
  have hl : lv_has ls 5 [(0, .ref (ad 0)), (1, .int p1), (2, .int p2), (3, .int p3), (4, .int p4)] := hl
  unfold rb_Model_lay at hR
  refine lv_aload_n hx hb d_Model_lay_0 rfl (lv_at hl 0 rfl) ?_
  refine rd_Model_195 hx hb hT hown hK hP d_Model_lay_1 ?_
  refine lv_aload_n hx hb d_Model_lay_4 rfl (lv_at hl 0 rfl) ?_
  refine rd_Model_771 hx hb hT hown hK hP d_Model_lay_5 ?_
  refine lv_iload_n hx hb d_Model_lay_8 rfl (lv_at hl 1 rfl) ?_
  replace hR := gd_e hR
  obtain ⟨b1, hR⟩ := hR
  refine saM_60 hx hb hK hP hD hS b1 d_Model_lay_9 (fun T1 eT H locs hP hD hS => ?_)
  replace hR := stK_e eT hR
  clear eT
  refine lv_aload_n hx hb d_Model_lay_10 rfl (lv_at hl 0 rfl) ?_
  refine rd_Model_198 hx hb hT hown hK hP d_Model_lay_11 ?_
  refine lv_aload_n hx hb d_Model_lay_14 rfl (lv_at hl 0 rfl) ?_
  refine rd_Model_771 hx hb hT hown hK hP d_Model_lay_15 ?_
  refine lv_iload_n hx hb d_Model_lay_18 rfl (lv_at hl 2 rfl) ?_
  replace hR := gd_e hR
  obtain ⟨b2, hR⟩ := hR
  refine saM_61 hx hb hK hP hD hS b2 d_Model_lay_19 (fun T2 eT H locs hP hD hS => ?_)
  replace hR := stK_e eT hR
  clear eT
  refine lv_aload_n hx hb d_Model_lay_20 rfl (lv_at hl 0 rfl) ?_
  refine rd_Model_201 hx hb hT hown hK hP d_Model_lay_21 ?_
  refine lv_aload_n hx hb d_Model_lay_24 rfl (lv_at hl 0 rfl) ?_
  refine rd_Model_771 hx hb hT hown hK hP d_Model_lay_25 ?_
  refine lv_iload_n hx hb d_Model_lay_28 rfl (lv_at hl 3 rfl) ?_
  replace hR := gd_e hR
  obtain ⟨b3, hR⟩ := hR
  refine saM_62 hx hb hK hP hD hS b3 d_Model_lay_29 (fun T3 eT H locs hP hD hS => ?_)
  replace hR := stK_e eT hR
  clear eT
  refine lv_aload_n hx hb d_Model_lay_30 rfl (lv_at hl 0 rfl) ?_
  refine rd_Model_204 hx hb hT hown hK hP d_Model_lay_31 ?_
  refine lv_aload_n hx hb d_Model_lay_34 rfl (lv_at hl 0 rfl) ?_
  refine rd_Model_771 hx hb hT hown hK hP d_Model_lay_35 ?_
  refine lv_iload hx hb d_Model_lay_38 (lv_at hl 4 rfl) ?_
  replace hR := gd_e hR
  obtain ⟨b4, hR⟩ := hR
  refine saM_63 hx hb hK hP hD hS b4 d_Model_lay_40 (fun T4 eT H locs hP hD hS => ?_)
  replace hR := stK_e eT hR
  clear eT
  refine lv_aload_n hx hb d_Model_lay_41 rfl (lv_at hl 0 rfl) ?_
  refine lv_dup hx hb d_Model_lay_42 rfl ?_
  refine rd_Model_771 hx hb hT hown hK hP d_Model_lay_43 ?_
  refine lv_iconst (v := 1) hx hb d_Model_lay_46 (by decide) ?_
  refine lv_iadd hx hb d_Model_lay_47 ?_
  refine wr_Model_771 hx hb hT hown hK hP hD hS d_Model_lay_48 (fun T5 eT H locs hP hD hS => ?_)
  replace hR := stK_e eT hR
  clear eT
  refine lv_aload_n hx hb d_Model_lay_51 rfl (lv_at hl 0 rfl) ?_
  refine rd_Model_771 hx hb hT hown hK hP d_Model_lay_52 ?_
  refine lv_iconst (v := 1) hx hb d_Model_lay_55 (by decide) ?_
  refine lv_isub hx hb d_Model_lay_56 ?_
  obtain ⟨e1, -, e3⟩ := re_e hR
  subst e1; subst e3
  exact W.iret (v := (T5.1 95 0) - (1 : Int32)) hx hb hr (fun t ht hW => ⟨⟨(T5.1 95 0) - (1 : Int32), (), rfl, rfl, by rw [ht]; exact hP, va_K.moved hW.alike hK, hD⟩, hS.F ht⟩) hS.2.2 d_Model_lay_57
set_option maxHeartbeats 4000000 in
set_option maxRecDepth 100000 in
theorem sp_Model_layOut (l : Launch) (dC : Nat → ClassId) (dI : Nat → Nat → Nat) (ea ev ad : Nat → Nat) (km : Nat → ClassId) (F : gF) (nf d : Nat) (h_Model_layBlock : mt_Model_layBlock l dC dI ea ev ad km F d) (h_Model_lay : mt_Model_lay l dC dI ea ev ad km F d) (T0 : gSt) (r0 : Int32) (rl0 : Int64) (T9 : gSt) (hR : rb_Model_layOut F nf T0 = some (r0, rl0, T9)) : GMv l dC dI LM ad km ea ev y_Model_layOut w_Model_layOut (rmD (d + 1)) [.ref (ad 0)] T0 T9 := by
  intro sz
  refine Met.ofW (cc := b_Model_layOut) (maxL := 2) (ret := none) (by decide) rfl ?_
  intro p e s m args below meth c s₁ B hml hv
  obtain ⟨rfl, hsz, hP, hK, hD0, hnw, henv⟩ := hv
  have hx := B.exec
  have hb := B.bytes
  have hr := B.returns
  have hT : ∀ w ∈ lw_good, w.before _ s = true := fun w h => atoms_spec (ws := w_Model_layOut) B.pre w (List.mem_cons_of_mem _ h)
  have hown : s.vm.findClass R_Model = some m.cls := findClass_of_methodNamed B.named
  subst hsz
  have hD := hD0.self (sz := s.heap.size)
  clear hD0
  generalize hAe : va_A (gW LM ad km T0) s.heap.size = A at hD henv ⊢
  have hA : ∀ q : Nat, s.heap.size ≤ q → A q := fun q h => by rw [← hAe]; exact Or.inr h
  have hS : va_S A s.heap s.heap [] := va_S.rf
  have hl := lv_entry ([.ref (ad 0)]) (n := 2) (Nat.le_of_ble_eq_true rfl)
  rw [lg_entry_eq]
  generalize (lg_sl ([.ref (ad 0)]) ++ List.replicate (2 - (lg_sl ([.ref (ad 0)])).length) Slot.unset).toArray = ls at hl ⊢
  have hl : lv_has ls 2 [(0, .ref (ad 0))] := hl
  obtain ⟨G, hG⟩ : ∃ G : Nat → List (Nat × Value) → List Value → gSt → Prop, G = (fun pc lv stk T => ∀ (H : Heap) (locs : List Loc), va_P (dC, dI) cls_all (gW LM ad km T) H → va_D A (gW LM ad km T) → va_S A s.heap H locs → ∀ (ls : Array Slot), lv_has ls 2 lv → W p l e (headSpec w_Model_layOut (rmD (d + 1))).room s m ([.ref (ad 0)] : List Value).toArray below meth c H locs 0 0 (MQ below (va_Qv (fun (_ : Unit) => True) (fun _ t => gPost dC dI LM ad km T9 A t) A) ([.ref (ad 0)] : List Value).toArray s 0 0 A) (F0 m pc ls stk)) := ⟨_, rfl⟩
  have lb_7 : ∀ (n : Nat) (T : gSt) (x1 : Int32), rl_Model_layOut_7 F nf n T x1 = some (r0, rl0, T9) → G 7 [(0, .ref (ad 0)), (1, .int x1)] [] T := by
    intro n
    induction n with
    | zero => intro T x1 hR; rw [rl_Model_layOut_7] at hR; cases hR
    | succ n ih =>
      intro T x1 hR; rw [rl_Model_layOut_7] at hR; rw [hG]; intro H locs hP hD hS ls hl
      refine lv_iload_n hx hb d_Model_layOut_7 rfl (lv_at hl 1 rfl) ?_
      refine lv_aload_n hx hb d_Model_layOut_8 rfl (lv_at hl 0 rfl) ?_
      refine rd_Model_412 hx hb hT hown hK hP d_Model_layOut_9 ?_
      refine lv_icmp_ge (tgt := 64) hx hb d_Model_layOut_12 (by decide) (fun c2 => ?_) (fun c2 => ?_)
      · replace hR := if_p c2 hR
        obtain ⟨-, -, e3⟩ := re_e hR
        subst e3
        exact W.vret hx hb hr (fun t ht hW => ⟨⟨(), rfl, trivial, by rw [ht]; exact hP, va_K.moved hW.alike hK, hD⟩, hS.F ht⟩) hS.2.2 d_Model_layOut_64
      · replace hR := if_n c2 hR
        refine lv_aload_n hx hb d_Model_layOut_15 rfl (lv_at hl 0 rfl) ?_
        refine rd_Model_17 hx hb hT hown hK hP d_Model_layOut_16 ?_
        refine lv_iload_n hx hb d_Model_layOut_19 rfl (lv_at hl 1 rfl) ?_
        replace hR := gd_e hR
        obtain ⟨b3, hR⟩ := hR
        refine laM_1 hx hb hK hP b3 d_Model_layOut_20 ?_
        refine lv_iconst (v := 2) hx hb d_Model_layOut_21 (by decide) ?_
        refine lv_icmp_ge (tgt := 28) hx hb d_Model_layOut_22 (by decide) (fun c4 => ?_) (fun c4 => ?_)
        · replace hR := if_p c4 hR
          refine lv_aload_n hx hb d_Model_layOut_28 rfl (lv_at hl 0 rfl) ?_
          refine rd_Model_87 hx hb hT hown hK hP d_Model_layOut_29 ?_
          refine lv_iload_n hx hb d_Model_layOut_32 rfl (lv_at hl 1 rfl) ?_
          refine lv_aload_n hx hb d_Model_layOut_33 rfl (lv_at hl 0 rfl) ?_
          refine rd_Model_771 hx hb hT hown hK hP d_Model_layOut_34 ?_
          replace hR := gd_e hR
          obtain ⟨b5, hR⟩ := hR
          refine saM_24 hx hb hK hP hD hS b5 d_Model_layOut_37 (fun T5 eT H locs hP hD hS => ?_)
          replace hR := stK_e eT hR
          clear eT
          refine lv_aload_n hx hb d_Model_layOut_38 rfl (lv_at hl 0 rfl) ?_
          refine lv_aload_n hx hb d_Model_layOut_39 rfl (lv_at hl 0 rfl) ?_
          refine rd_Model_81 hx hb hT hown hK hP d_Model_layOut_40 ?_
          refine lv_iload_n hx hb d_Model_layOut_43 rfl (lv_at hl 1 rfl) ?_
          replace hR := gd_e hR
          obtain ⟨b6, hR⟩ := hR
          refine laM_22 hx hb hK hP b6 d_Model_layOut_44 ?_
          replace hR := bi_e hR
          obtain ⟨r7, l7, T7, hc7, hR⟩ := hR
          refine gcV_v (rest := []) ⟨hx, hb, hml, hown, hT⟩ (h_Model_layBlock _ _ _ _ _ hc7) (cwV 1 hT (gV ml_Model_774 im_Model_layBlock se_Model_layBlock ini_Model co_Model_layBlock) rfl rfl rfl pd_Model_layBlock ⟨rm_hi, rm_lo (Nat.le_of_ble_eq_true rfl)⟩) hK hP hD hS hA hnw henv (Nat.le_of_ble_eq_true rfl) rfl rfl hl.1 rfl (Nat.le_of_ble_eq_true rfl) d_Model_layOut_45 ⟨Nat.le_refl _, Nat.le_refl _⟩ (fun H locs hP hD hS => ?_)
          clear hc7
          refine lv_aload_n hx hb d_Model_layOut_48 rfl (lv_at hl 0 rfl) ?_
          refine lv_bipush (v := 28) hx hb d_Model_layOut_49 (by decide) ?_
          refine lv_iconst (v := 0) hx hb d_Model_layOut_51 (by decide) ?_
          refine lv_iconst (v := 0) hx hb d_Model_layOut_52 (by decide) ?_
          refine lv_iconst (v := 0) hx hb d_Model_layOut_53 (by decide) ?_
          replace hR := bi_e hR
          obtain ⟨r8, l8, T8, hc8, hR⟩ := hR
          refine gcV_i (rest := []) ⟨hx, hb, hml, hown, hT⟩ (h_Model_lay _ _ _ _ _ _ _ _ hc8) (cwV 4 hT (gV ml_Model_777 im_Model_lay se_Model_lay ini_Model co_Model_lay) rfl rfl rfl pd_Model_lay ⟨rm_hi, rm_lo (Nat.le_of_ble_eq_true rfl)⟩) hK hP hD hS hA hnw henv (Nat.le_of_ble_eq_true rfl) rfl rfl hl.1 rfl (Nat.le_of_ble_eq_true rfl) d_Model_layOut_54 ⟨Nat.le_refl _, Nat.le_refl _⟩ (fun H locs hP hD hS => ?_)
          clear hc8
          refine lv_pop hx hb d_Model_layOut_57 rfl ?_
          obtain ⟨z9, e9⟩ : ∃ y : Int32, y = x1 + (1 : Int32) := ⟨_, rfl⟩
          replace hR := vK_e e9 hR
          refine lv_iinc (v := z9) (lv' := [(1, .int z9), (0, .ref (ad 0))]) hx hb d_Model_layOut_58 hl (k := 1) rfl (by rw [e9]; rfl) (by decide) rfl (fun ls hl => ?_)
          refine lv_goto (tgt := 7) hx hb d_Model_layOut_61 (by decide) ?_
          have g := ih T8 z9 hR
          rw [hG] at g
          exact g _ _ hP hD hS _ (lv_sub hl [1, 0] rfl)
        · replace hR := if_n c4 hR
          refine lv_goto (tgt := 58) hx hb d_Model_layOut_25 (by decide) ?_
          obtain ⟨z10, e10⟩ : ∃ y : Int32, y = x1 + (1 : Int32) := ⟨_, rfl⟩
          replace hR := vK_e e10 hR
          refine lv_iinc (v := z10) (lv' := [(1, .int z10), (0, .ref (ad 0))]) hx hb d_Model_layOut_58 hl (k := 1) rfl (by rw [e10]; rfl) (by decide) rfl (fun ls hl => ?_)
          refine lv_goto (tgt := 7) hx hb d_Model_layOut_61 (by decide) ?_
          have g := ih T z10 hR
          rw [hG] at g
          exact g _ _ hP hD hS _ (lv_sub hl [1, 0] rfl)
  unfold rb_Model_layOut at hR
  refine lv_aload_n hx hb d_Model_layOut_0 rfl (lv_at hl 0 rfl) ?_
  refine lv_iconst (v := 0) hx hb d_Model_layOut_1 (by decide) ?_
  refine wr_Model_771 hx hb hT hown hK hP hD hS d_Model_layOut_2 (fun T1 eT H locs hP hD hS => ?_)
  replace hR := stK_e eT hR
  clear eT
  refine lv_iconst (v := 0) hx hb d_Model_layOut_5 (by decide) ?_
  refine lv_istore_n (lv' := [(1, .int (0 : Int32)), (0, .ref (ad 0))]) hx hb d_Model_layOut_6 rfl hl (by decide) rfl (fun ls hl => ?_)
  have g := lb_7 nf T1 (0 : Int32) hR
  rw [hG] at g
  exact g _ _ hP hD hS _ (lv_sub hl [1, 0] rfl)
set_option maxHeartbeats 4000000 in
set_option maxRecDepth 100000 in
theorem sp_Model_layBlock (l : Launch) (dC : Nat → ClassId) (dI : Nat → Nat → Nat) (ea ev ad : Nat → Nat) (km : Nat → ClassId) (F : gF) (nf d : Nat) (h_Model_layStep : mt_Model_layStep l dC dI ea ev ad km F d) (T0 : gSt) (p1 : Int32) (r0 : Int32) (rl0 : Int64) (T9 : gSt) (hR : rb_Model_layBlock F nf T0 p1 = some (r0, rl0, T9)) : GMv l dC dI LM ad km ea ev y_Model_layBlock w_Model_layBlock (rmD (d + 1)) [.ref (ad 0), .int p1] T0 T9 := by
  intro sz
  refine Met.ofW (cc := b_Model_layBlock) (maxL := 3) (ret := none) (by decide) rfl ?_
  intro p e s m args below meth c s₁ B hml hv
  obtain ⟨rfl, hsz, hP, hK, hD0, hnw, henv⟩ := hv
  have hx := B.exec
  have hb := B.bytes
  have hr := B.returns
  have hT : ∀ w ∈ lw_good, w.before _ s = true := fun w h => atoms_spec (ws := w_Model_layBlock) B.pre w (List.mem_cons_of_mem _ h)
  have hown : s.vm.findClass R_Model = some m.cls := findClass_of_methodNamed B.named
  subst hsz
  have hD := hD0.self (sz := s.heap.size)
  clear hD0
  generalize hAe : va_A (gW LM ad km T0) s.heap.size = A at hD henv ⊢
  have hA : ∀ q : Nat, s.heap.size ≤ q → A q := fun q h => by rw [← hAe]; exact Or.inr h
  have hS : va_S A s.heap s.heap [] := va_S.rf
  have hl := lv_entry ([.ref (ad 0), .int p1]) (n := 3) (Nat.le_of_ble_eq_true rfl)
  rw [lg_entry_eq]
  generalize (lg_sl ([.ref (ad 0), .int p1]) ++ List.replicate (3 - (lg_sl ([.ref (ad 0), .int p1])).length) Slot.unset).toArray = ls at hl ⊢
  have hl : lv_has ls 3 [(0, .ref (ad 0)), (1, .int p1)] := hl
  obtain ⟨G, hG⟩ : ∃ G : Nat → List (Nat × Value) → List Value → gSt → Prop, G = (fun pc lv stk T => ∀ (H : Heap) (locs : List Loc), va_P (dC, dI) cls_all (gW LM ad km T) H → va_D A (gW LM ad km T) → va_S A s.heap H locs → ∀ (ls : Array Slot), lv_has ls 3 lv → W p l e (headSpec w_Model_layBlock (rmD (d + 1))).room s m ([.ref (ad 0), .int p1] : List Value).toArray below meth c H locs 0 0 (MQ below (va_Qv (fun (_ : Unit) => True) (fun _ t => gPost dC dI LM ad km T9 A t) A) ([.ref (ad 0), .int p1] : List Value).toArray s 0 0 A) (F0 m pc ls stk)) := ⟨_, rfl⟩
  have lb_7 : ∀ (n : Nat) (T : gSt) (x2 : Int32), rl_Model_layBlock_7 F nf n T x2 = some (r0, rl0, T9) → G 7 [(0, .ref (ad 0)), (2, .int x2)] [] T := by
    intro n
    induction n with
    | zero => intro T x2 hR; rw [rl_Model_layBlock_7] at hR; cases hR
    | succ n ih =>
      intro T x2 hR; rw [rl_Model_layBlock_7] at hR; rw [hG]; intro H locs hP hD hS ls hl
      refine lv_iload_n hx hb d_Model_layBlock_7 rfl (lv_at hl 1 rfl) ?_
      refine lv_if_lt (tgt := 26) hx hb d_Model_layBlock_8 (by decide) (fun c3 => ?_) (fun c3 => ?_)
      · replace hR := if_p c3 hR
        obtain ⟨-, -, e3⟩ := re_e hR
        subst e3
        exact W.vret hx hb hr (fun t ht hW => ⟨⟨(), rfl, trivial, by rw [ht]; exact hP, va_K.moved hW.alike hK, hD⟩, hS.F ht⟩) hS.2.2 d_Model_layBlock_26
      · replace hR := if_n c3 hR
        refine lv_aload_n hx hb d_Model_layBlock_11 rfl (lv_at hl 0 rfl) ?_
        refine lv_iload_n hx hb d_Model_layBlock_12 rfl (lv_at hl 1 rfl) ?_
        replace hR := bi_e hR
        obtain ⟨r4, l4, T4, hc4, hR⟩ := hR
        refine gcV_v (rest := []) ⟨hx, hb, hml, hown, hT⟩ (h_Model_layStep _ _ _ _ _ hc4) (cwV 1 hT (gV ml_Model_781 im_Model_layStep se_Model_layStep ini_Model co_Model_layStep) rfl rfl rfl pd_Model_layStep ⟨rm_hi, rm_lo (Nat.le_of_ble_eq_true rfl)⟩) hK hP hD hS hA hnw henv (Nat.le_of_ble_eq_true rfl) rfl rfl hl.1 rfl (Nat.le_of_ble_eq_true rfl) d_Model_layBlock_13 ⟨Nat.le_refl _, Nat.le_refl _⟩ (fun H locs hP hD hS => ?_)
        clear hc4
        refine lv_aload_n hx hb d_Model_layBlock_16 rfl (lv_at hl 0 rfl) ?_
        refine rd_Model_135 hx hb hT hown hK hP d_Model_layBlock_17 ?_
        refine lv_iload_n hx hb d_Model_layBlock_20 rfl (lv_at hl 1 rfl) ?_
        replace hR := gd_e hR
        obtain ⟨b5, hR⟩ := hR
        refine laM_40 hx hb hK hP b5 d_Model_layBlock_21 ?_
        refine lv_topi (fun z6 e6 => ?_)
        replace hR := vK_e e6 hR
        refine lv_istore_n (lv' := [(2, .int z6), (0, .ref (ad 0))]) hx hb d_Model_layBlock_22 rfl hl (by decide) rfl (fun ls hl => ?_)
        refine lv_goto (tgt := 7) hx hb d_Model_layBlock_23 (by decide) ?_
        have g := ih T4 z6 hR
        rw [hG] at g
        exact g _ _ hP hD hS _ (lv_sub hl [1, 0] rfl)
  unfold rb_Model_layBlock at hR
  refine lv_aload_n hx hb d_Model_layBlock_0 rfl (lv_at hl 0 rfl) ?_
  refine rd_Model_126 hx hb hT hown hK hP d_Model_layBlock_1 ?_
  refine lv_iload_n hx hb d_Model_layBlock_4 rfl (lv_at hl 1 rfl) ?_
  replace hR := gd_e hR
  obtain ⟨b1, hR⟩ := hR
  refine laM_37 hx hb hK hP b1 d_Model_layBlock_5 ?_
  refine lv_topi (fun z2 e2 => ?_)
  replace hR := vK_e e2 hR
  refine lv_istore_n (lv' := [(2, .int z2), (0, .ref (ad 0)), (1, .int p1)]) hx hb d_Model_layBlock_6 rfl hl (by decide) rfl (fun ls hl => ?_)
  have g := lb_7 nf T0 z2 hR
  rw [hG] at g
  exact g _ _ hP hD hS _ (lv_sub hl [1, 0] rfl)
