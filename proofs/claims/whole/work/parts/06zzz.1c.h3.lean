abbrev b_Heads_closed : ByteArray := prog_4_method_9_code
abbrev y_Heads_closed : MethodName := ⟨R_Heads, "closed", "(I)I"⟩
theorem co_Heads_closed : Cond.code y_Heads_closed b_Heads_closed 6 (some .int) ∈ lw_good := lg_in (tin_5 _ (List.mem_of_getElem? (i := 158) rfl)) rfl
abbrev w_Heads_closed : List Cond := Cond.code y_Heads_closed b_Heads_closed 6 (some .int) :: lw_good
theorem st_Heads_closed : Cond.static y_Heads_closed ∈ lw_good := lg_right (i := 1117) (by decide +kernel) rfl
theorem d_Heads_closed_0 : decode b_Heads_closed 0 = .ok (.iload_n 0, 1) := by decide +kernel
theorem d_Heads_closed_1 : decode b_Heads_closed 1 = .ok (.istore_n 1, 1) := by decide +kernel
theorem d_Heads_closed_2 : decode b_Heads_closed 2 = .ok (.iconst 1, 1) := by decide +kernel
theorem d_Heads_closed_3 : decode b_Heads_closed 3 = .ok (.istore_n 2, 1) := by decide +kernel
theorem d_Heads_closed_4 : decode b_Heads_closed 4 = .ok (.iload_n 2, 1) := by decide +kernel
theorem d_Heads_closed_5 : decode b_Heads_closed 5 = .ok (.iconst 3, 1) := by decide +kernel
theorem d_Heads_closed_6 : decode b_Heads_closed 6 = .ok (.if_icmp .gt 85, 3) := by decide +kernel
theorem d_Heads_closed_9 : decode b_Heads_closed 9 = .ok (.iconst 1, 1) := by decide +kernel
theorem d_Heads_closed_10 : decode b_Heads_closed 10 = .ok (.istore_n 3, 1) := by decide +kernel
theorem d_Heads_closed_11 : decode b_Heads_closed 11 = .ok (.iload_n 3, 1) := by decide +kernel
theorem d_Heads_closed_12 : decode b_Heads_closed 12 = .ok (.iconst 3, 1) := by decide +kernel
theorem d_Heads_closed_13 : decode b_Heads_closed 13 = .ok (.if_icmp .gt 72, 3) := by decide +kernel
theorem d_Heads_closed_16 : decode b_Heads_closed 16 = .ok (.iconst 1, 1) := by decide +kernel
theorem d_Heads_closed_17 : decode b_Heads_closed 17 = .ok (.istore 4, 2) := by decide +kernel
theorem d_Heads_closed_19 : decode b_Heads_closed 19 = .ok (.iload 4, 2) := by decide +kernel
theorem d_Heads_closed_21 : decode b_Heads_closed 21 = .ok (.iconst 3, 1) := by decide +kernel
theorem d_Heads_closed_22 : decode b_Heads_closed 22 = .ok (.if_icmp .gt 57, 3) := by decide +kernel
theorem d_Heads_closed_25 : decode b_Heads_closed 25 = .ok (.iload_n 1, 1) := by decide +kernel
theorem d_Heads_closed_26 : decode b_Heads_closed 26 = .ok (.iload_n 3, 1) := by decide +kernel
theorem d_Heads_closed_27 : decode b_Heads_closed 27 = .ok (.iload_n 2, 1) := by decide +kernel
theorem d_Heads_closed_28 : decode b_Heads_closed 28 = .ok (.invokestatic 166, 3) := by decide +kernel
theorem d_Heads_closed_31 : decode b_Heads_closed 31 = .ok (.ishr, 1) := by decide +kernel
theorem d_Heads_closed_32 : decode b_Heads_closed 32 = .ok (.iload_n 1, 1) := by decide +kernel
theorem d_Heads_closed_33 : decode b_Heads_closed 33 = .ok (.iload_n 2, 1) := by decide +kernel
theorem d_Heads_closed_34 : decode b_Heads_closed 34 = .ok (.iload 4, 2) := by decide +kernel
theorem d_Heads_closed_36 : decode b_Heads_closed 36 = .ok (.invokestatic 166, 3) := by decide +kernel
theorem d_Heads_closed_39 : decode b_Heads_closed 39 = .ok (.ishr, 1) := by decide +kernel
theorem d_Heads_closed_40 : decode b_Heads_closed 40 = .ok (.iand, 1) := by decide +kernel
theorem d_Heads_closed_41 : decode b_Heads_closed 41 = .ok (.iconst 1, 1) := by decide +kernel
theorem d_Heads_closed_42 : decode b_Heads_closed 42 = .ok (.iand, 1) := by decide +kernel
theorem d_Heads_closed_43 : decode b_Heads_closed 43 = .ok (.ifCond .eq 7, 3) := by decide +kernel
theorem d_Heads_closed_46 : decode b_Heads_closed 46 = .ok (.iconst 1, 1) := by decide +kernel
theorem d_Heads_closed_47 : decode b_Heads_closed 47 = .ok (.goto 4, 3) := by decide +kernel
theorem d_Heads_closed_50 : decode b_Heads_closed 50 = .ok (.iconst 0, 1) := by decide +kernel
theorem d_Heads_closed_51 : decode b_Heads_closed 51 = .ok (.istore 5, 2) := by decide +kernel
theorem d_Heads_closed_53 : decode b_Heads_closed 53 = .ok (.iload_n 1, 1) := by decide +kernel
theorem d_Heads_closed_54 : decode b_Heads_closed 54 = .ok (.iload 5, 2) := by decide +kernel
theorem d_Heads_closed_56 : decode b_Heads_closed 56 = .ok (.ifCond .eq 14, 3) := by decide +kernel
theorem d_Heads_closed_59 : decode b_Heads_closed 59 = .ok (.iconst 1, 1) := by decide +kernel
theorem d_Heads_closed_60 : decode b_Heads_closed 60 = .ok (.iload_n 3, 1) := by decide +kernel
theorem d_Heads_closed_61 : decode b_Heads_closed 61 = .ok (.iload 4, 2) := by decide +kernel
theorem d_Heads_closed_63 : decode b_Heads_closed 63 = .ok (.invokestatic 166, 3) := by decide +kernel
theorem d_Heads_closed_66 : decode b_Heads_closed 66 = .ok (.ishl, 1) := by decide +kernel
theorem d_Heads_closed_67 : decode b_Heads_closed 67 = .ok (.goto 4, 3) := by decide +kernel
theorem d_Heads_closed_70 : decode b_Heads_closed 70 = .ok (.iconst 0, 1) := by decide +kernel
theorem d_Heads_closed_71 : decode b_Heads_closed 71 = .ok (.ior, 1) := by decide +kernel
theorem d_Heads_closed_72 : decode b_Heads_closed 72 = .ok (.istore_n 1, 1) := by decide +kernel
theorem d_Heads_closed_73 : decode b_Heads_closed 73 = .ok (.iinc 4 1, 3) := by decide +kernel
theorem d_Heads_closed_76 : decode b_Heads_closed 76 = .ok (.goto (-57), 3) := by decide +kernel
theorem d_Heads_closed_79 : decode b_Heads_closed 79 = .ok (.iinc 3 1, 3) := by decide +kernel
theorem d_Heads_closed_82 : decode b_Heads_closed 82 = .ok (.goto (-71), 3) := by decide +kernel
theorem d_Heads_closed_85 : decode b_Heads_closed 85 = .ok (.iinc 2 1, 3) := by decide +kernel
theorem d_Heads_closed_88 : decode b_Heads_closed 88 = .ok (.goto (-84), 3) := by decide +kernel
theorem d_Heads_closed_91 : decode b_Heads_closed 91 = .ok (.iload_n 1, 1) := by decide +kernel
theorem d_Heads_closed_92 : decode b_Heads_closed 92 = .ok (.ireturn, 1) := by decide +kernel
abbrev b_Heads_readRegion : ByteArray := prog_4_method_11_code
abbrev y_Heads_readRegion : MethodName := ⟨R_Heads, "readRegion", "(I)I"⟩
theorem co_Heads_readRegion : Cond.code y_Heads_readRegion b_Heads_readRegion 3 (some .int) ∈ lw_good := lg_in (tin_5 _ (List.mem_of_getElem? (i := 109) rfl)) rfl
abbrev w_Heads_readRegion : List Cond := Cond.code y_Heads_readRegion b_Heads_readRegion 3 (some .int) :: lw_good
theorem im_Heads_readRegion : Cond.instanceMethod y_Heads_readRegion ∈ lw_good := lg_right (i := 1067) (by decide +kernel) rfl
theorem se_Heads_readRegion : Cond.selects R_Heads y_Heads_readRegion y_Heads_readRegion ∈ lw_good := lg_right (i := 1068) (by decide +kernel) rfl
theorem d_Heads_readRegion_0 : decode b_Heads_readRegion 0 = .ok (.aload_n 0, 1) := by decide +kernel
theorem d_Heads_readRegion_1 : decode b_Heads_readRegion 1 = .ok (.getfield 23, 3) := by decide +kernel
theorem d_Heads_readRegion_4 : decode b_Heads_readRegion 4 = .ok (.aload_n 0, 1) := by decide +kernel
theorem d_Heads_readRegion_5 : decode b_Heads_readRegion 5 = .ok (.getfield 9, 3) := by decide +kernel
theorem d_Heads_readRegion_8 : decode b_Heads_readRegion 8 = .ok (.iload_n 1, 1) := by decide +kernel
theorem d_Heads_readRegion_9 : decode b_Heads_readRegion 9 = .ok (.invokevirtual 99, 3) := by decide +kernel
theorem d_Heads_readRegion_12 : decode b_Heads_readRegion 12 = .ok (.invokevirtual 103, 3) := by decide +kernel
theorem d_Heads_readRegion_15 : decode b_Heads_readRegion 15 = .ok (.istore_n 2, 1) := by decide +kernel
theorem d_Heads_readRegion_16 : decode b_Heads_readRegion 16 = .ok (.iload_n 2, 1) := by decide +kernel
theorem d_Heads_readRegion_17 : decode b_Heads_readRegion 17 = .ok (.iconst (-1), 1) := by decide +kernel
theorem d_Heads_readRegion_18 : decode b_Heads_readRegion 18 = .ok (.if_icmp .ne 21, 3) := by decide +kernel
theorem d_Heads_readRegion_21 : decode b_Heads_readRegion 21 = .ok (.aload_n 0, 1) := by decide +kernel
theorem d_Heads_readRegion_22 : decode b_Heads_readRegion 22 = .ok (.getfield 27, 3) := by decide +kernel
theorem d_Heads_readRegion_25 : decode b_Heads_readRegion 25 = .ok (.iconst 3, 1) := by decide +kernel
theorem d_Heads_readRegion_26 : decode b_Heads_readRegion 26 = .ok (.aload_n 0, 1) := by decide +kernel
theorem d_Heads_readRegion_27 : decode b_Heads_readRegion 27 = .ok (.getfield 9, 3) := by decide +kernel
theorem d_Heads_readRegion_30 : decode b_Heads_readRegion 30 = .ok (.iload_n 1, 1) := by decide +kernel
theorem d_Heads_readRegion_31 : decode b_Heads_readRegion 31 = .ok (.invokevirtual 90, 3) := by decide +kernel
theorem d_Heads_readRegion_34 : decode b_Heads_readRegion 34 = .ok (.invokevirtual 77, 3) := by decide +kernel
theorem d_Heads_readRegion_37 : decode b_Heads_readRegion 37 = .ok (.iconst 0, 1) := by decide +kernel
theorem d_Heads_readRegion_38 : decode b_Heads_readRegion 38 = .ok (.ireturn, 1) := by decide +kernel
theorem d_Heads_readRegion_39 : decode b_Heads_readRegion 39 = .ok (.iload_n 2, 1) := by decide +kernel
theorem d_Heads_readRegion_40 : decode b_Heads_readRegion 40 = .ok (.ireturn, 1) := by decide +kernel
abbrev b_Heads_readRegions : ByteArray := prog_4_method_12_code
abbrev y_Heads_readRegions : MethodName := ⟨R_Heads, "readRegions", "(II)I"⟩
theorem co_Heads_readRegions : Cond.code y_Heads_readRegions b_Heads_readRegions 5 (some .int) ∈ lw_good := lg_in (tin_5 _ (List.mem_of_getElem? (i := 105) rfl)) rfl
abbrev w_Heads_readRegions : List Cond := Cond.code y_Heads_readRegions b_Heads_readRegions 5 (some .int) :: lw_good
theorem im_Heads_readRegions : Cond.instanceMethod y_Heads_readRegions ∈ lw_good := lg_right (i := 1063) (by decide +kernel) rfl
theorem se_Heads_readRegions : Cond.selects R_Heads y_Heads_readRegions y_Heads_readRegions ∈ lw_good := lg_right (i := 1064) (by decide +kernel) rfl
theorem d_Heads_readRegions_0 : decode b_Heads_readRegions 0 = .ok (.iconst 0, 1) := by decide +kernel
theorem d_Heads_readRegions_1 : decode b_Heads_readRegions 1 = .ok (.istore_n 3, 1) := by decide +kernel
theorem d_Heads_readRegions_2 : decode b_Heads_readRegions 2 = .ok (.iconst 0, 1) := by decide +kernel
theorem d_Heads_readRegions_3 : decode b_Heads_readRegions 3 = .ok (.istore 4, 2) := by decide +kernel
theorem d_Heads_readRegions_5 : decode b_Heads_readRegions 5 = .ok (.iload 4, 2) := by decide +kernel
theorem d_Heads_readRegions_7 : decode b_Heads_readRegions 7 = .ok (.iload_n 2, 1) := by decide +kernel
theorem d_Heads_readRegions_8 : decode b_Heads_readRegions 8 = .ok (.if_icmp .ge 31, 3) := by decide +kernel
theorem d_Heads_readRegions_11 : decode b_Heads_readRegions 11 = .ok (.iload 4, 2) := by decide +kernel
theorem d_Heads_readRegions_13 : decode b_Heads_readRegions 13 = .ok (.iconst 3, 1) := by decide +kernel
theorem d_Heads_readRegions_14 : decode b_Heads_readRegions 14 = .ok (.if_icmp .ge 25, 3) := by decide +kernel
theorem d_Heads_readRegions_17 : decode b_Heads_readRegions 17 = .ok (.iload_n 3, 1) := by decide +kernel
theorem d_Heads_readRegions_18 : decode b_Heads_readRegions 18 = .ok (.aload_n 0, 1) := by decide +kernel
theorem d_Heads_readRegions_19 : decode b_Heads_readRegions 19 = .ok (.iload_n 1, 1) := by decide +kernel
theorem d_Heads_readRegions_20 : decode b_Heads_readRegions 20 = .ok (.iload 4, 2) := by decide +kernel
theorem d_Heads_readRegions_22 : decode b_Heads_readRegions 22 = .ok (.iadd, 1) := by decide +kernel
theorem d_Heads_readRegions_23 : decode b_Heads_readRegions 23 = .ok (.invokevirtual 179, 3) := by decide +kernel
theorem d_Heads_readRegions_26 : decode b_Heads_readRegions 26 = .ok (.iconst 4, 1) := by decide +kernel
theorem d_Heads_readRegions_27 : decode b_Heads_readRegions 27 = .ok (.iload 4, 2) := by decide +kernel
theorem d_Heads_readRegions_29 : decode b_Heads_readRegions 29 = .ok (.imul, 1) := by decide +kernel
theorem d_Heads_readRegions_30 : decode b_Heads_readRegions 30 = .ok (.ishl, 1) := by decide +kernel
theorem d_Heads_readRegions_31 : decode b_Heads_readRegions 31 = .ok (.ior, 1) := by decide +kernel
theorem d_Heads_readRegions_32 : decode b_Heads_readRegions 32 = .ok (.istore_n 3, 1) := by decide +kernel
theorem d_Heads_readRegions_33 : decode b_Heads_readRegions 33 = .ok (.iinc 4 1, 3) := by decide +kernel
theorem d_Heads_readRegions_36 : decode b_Heads_readRegions 36 = .ok (.goto (-31), 3) := by decide +kernel
theorem d_Heads_readRegions_39 : decode b_Heads_readRegions 39 = .ok (.iload_n 3, 1) := by decide +kernel
theorem d_Heads_readRegions_40 : decode b_Heads_readRegions 40 = .ok (.ireturn, 1) := by decide +kernel
abbrev b_Heads_readTitle : ByteArray := prog_4_method_14_code
abbrev y_Heads_readTitle : MethodName := ⟨R_Heads, "readTitle", "(I)I"⟩
theorem co_Heads_readTitle : Cond.code y_Heads_readTitle b_Heads_readTitle 4 (some .int) ∈ lw_good := lg_in (tin_5 _ (List.mem_of_getElem? (i := 96) rfl)) rfl
abbrev w_Heads_readTitle : List Cond := Cond.code y_Heads_readTitle b_Heads_readTitle 4 (some .int) :: lw_good
theorem im_Heads_readTitle : Cond.instanceMethod y_Heads_readTitle ∈ lw_good := lg_right (i := 1054) (by decide +kernel) rfl
theorem se_Heads_readTitle : Cond.selects R_Heads y_Heads_readTitle y_Heads_readTitle ∈ lw_good := lg_right (i := 1055) (by decide +kernel) rfl
theorem d_Heads_readTitle_0 : decode b_Heads_readTitle 0 = .ok (.aload_n 0, 1) := by decide +kernel
theorem d_Heads_readTitle_1 : decode b_Heads_readTitle 1 = .ok (.getfield 9, 3) := by decide +kernel
theorem d_Heads_readTitle_4 : decode b_Heads_readTitle 4 = .ok (.iload_n 1, 1) := by decide +kernel
theorem d_Heads_readTitle_5 : decode b_Heads_readTitle 5 = .ok (.iconst 1, 1) := by decide +kernel
theorem d_Heads_readTitle_6 : decode b_Heads_readTitle 6 = .ok (.iadd, 1) := by decide +kernel
theorem d_Heads_readTitle_7 : decode b_Heads_readTitle 7 = .ok (.invokevirtual 148, 3) := by decide +kernel
theorem d_Heads_readTitle_10 : decode b_Heads_readTitle 10 = .ok (.istore_n 2, 1) := by decide +kernel
theorem d_Heads_readTitle_11 : decode b_Heads_readTitle 11 = .ok (.aload_n 0, 1) := by decide +kernel
theorem d_Heads_readTitle_12 : decode b_Heads_readTitle 12 = .ok (.getfield 15, 3) := by decide +kernel
theorem d_Heads_readTitle_15 : decode b_Heads_readTitle 15 = .ok (.aload_n 0, 1) := by decide +kernel
theorem d_Heads_readTitle_16 : decode b_Heads_readTitle 16 = .ok (.getfield 9, 3) := by decide +kernel
theorem d_Heads_readTitle_19 : decode b_Heads_readTitle 19 = .ok (.iload_n 1, 1) := by decide +kernel
theorem d_Heads_readTitle_20 : decode b_Heads_readTitle 20 = .ok (.invokevirtual 99, 3) := by decide +kernel
theorem d_Heads_readTitle_23 : decode b_Heads_readTitle 23 = .ok (.iconst 0, 1) := by decide +kernel
theorem d_Heads_readTitle_24 : decode b_Heads_readTitle 24 = .ok (.invokevirtual 59, 3) := by decide +kernel
theorem d_Heads_readTitle_27 : decode b_Heads_readTitle 27 = .ok (.istore_n 3, 1) := by decide +kernel
theorem d_Heads_readTitle_28 : decode b_Heads_readTitle 28 = .ok (.iload_n 3, 1) := by decide +kernel
theorem d_Heads_readTitle_29 : decode b_Heads_readTitle 29 = .ok (.iconst (-1), 1) := by decide +kernel
theorem d_Heads_readTitle_30 : decode b_Heads_readTitle 30 = .ok (.if_icmp .ne 21, 3) := by decide +kernel
theorem d_Heads_readTitle_33 : decode b_Heads_readTitle 33 = .ok (.aload_n 0, 1) := by decide +kernel
theorem d_Heads_readTitle_34 : decode b_Heads_readTitle 34 = .ok (.getfield 27, 3) := by decide +kernel
theorem d_Heads_readTitle_37 : decode b_Heads_readTitle 37 = .ok (.iconst 3, 1) := by decide +kernel
theorem d_Heads_readTitle_38 : decode b_Heads_readTitle 38 = .ok (.aload_n 0, 1) := by decide +kernel
theorem d_Heads_readTitle_39 : decode b_Heads_readTitle 39 = .ok (.getfield 9, 3) := by decide +kernel
theorem d_Heads_readTitle_42 : decode b_Heads_readTitle 42 = .ok (.iload_n 1, 1) := by decide +kernel
theorem d_Heads_readTitle_43 : decode b_Heads_readTitle 43 = .ok (.invokevirtual 90, 3) := by decide +kernel
theorem d_Heads_readTitle_46 : decode b_Heads_readTitle 46 = .ok (.invokevirtual 77, 3) := by decide +kernel
theorem d_Heads_readTitle_49 : decode b_Heads_readTitle 49 = .ok (.iconst 1, 1) := by decide +kernel
theorem d_Heads_readTitle_50 : decode b_Heads_readTitle 50 = .ok (.ireturn, 1) := by decide +kernel
theorem d_Heads_readTitle_51 : decode b_Heads_readTitle 51 = .ok (.aload_n 0, 1) := by decide +kernel
theorem d_Heads_readTitle_52 : decode b_Heads_readTitle 52 = .ok (.getfield 15, 3) := by decide +kernel
theorem d_Heads_readTitle_55 : decode b_Heads_readTitle 55 = .ok (.getfield 63, 3) := by decide +kernel
theorem d_Heads_readTitle_58 : decode b_Heads_readTitle 58 = .ok (.iload_n 3, 1) := by decide +kernel
theorem d_Heads_readTitle_59 : decode b_Heads_readTitle 59 = .ok (.iaload, 1) := by decide +kernel
theorem d_Heads_readTitle_60 : decode b_Heads_readTitle 60 = .ok (.iload_n 2, 1) := by decide +kernel
theorem d_Heads_readTitle_61 : decode b_Heads_readTitle 61 = .ok (.if_icmp .eq 22, 3) := by decide +kernel
theorem d_Heads_readTitle_64 : decode b_Heads_readTitle 64 = .ok (.aload_n 0, 1) := by decide +kernel
theorem d_Heads_readTitle_65 : decode b_Heads_readTitle 65 = .ok (.getfield 27, 3) := by decide +kernel
theorem d_Heads_readTitle_68 : decode b_Heads_readTitle 68 = .ok (.bipush 7, 2) := by decide +kernel
theorem d_Heads_readTitle_70 : decode b_Heads_readTitle 70 = .ok (.aload_n 0, 1) := by decide +kernel
theorem d_Heads_readTitle_71 : decode b_Heads_readTitle 71 = .ok (.getfield 9, 3) := by decide +kernel
theorem d_Heads_readTitle_74 : decode b_Heads_readTitle 74 = .ok (.iload_n 1, 1) := by decide +kernel
theorem d_Heads_readTitle_75 : decode b_Heads_readTitle 75 = .ok (.invokevirtual 90, 3) := by decide +kernel
theorem d_Heads_readTitle_78 : decode b_Heads_readTitle 78 = .ok (.invokevirtual 77, 3) := by decide +kernel
theorem d_Heads_readTitle_81 : decode b_Heads_readTitle 81 = .ok (.iconst 1, 1) := by decide +kernel
theorem d_Heads_readTitle_82 : decode b_Heads_readTitle 82 = .ok (.ireturn, 1) := by decide +kernel
theorem d_Heads_readTitle_83 : decode b_Heads_readTitle 83 = .ok (.aload_n 0, 1) := by decide +kernel
theorem d_Heads_readTitle_84 : decode b_Heads_readTitle 84 = .ok (.getfield 19, 3) := by decide +kernel
theorem d_Heads_readTitle_87 : decode b_Heads_readTitle 87 = .ok (.iload_n 3, 1) := by decide +kernel
theorem d_Heads_readTitle_88 : decode b_Heads_readTitle 88 = .ok (.aload_n 0, 1) := by decide +kernel
theorem d_Heads_readTitle_89 : decode b_Heads_readTitle 89 = .ok (.iload_n 1, 1) := by decide +kernel
theorem d_Heads_readTitle_90 : decode b_Heads_readTitle 90 = .ok (.iconst 1, 1) := by decide +kernel
theorem d_Heads_readTitle_91 : decode b_Heads_readTitle 91 = .ok (.iadd, 1) := by decide +kernel
theorem d_Heads_readTitle_92 : decode b_Heads_readTitle 92 = .ok (.iload_n 2, 1) := by decide +kernel
theorem d_Heads_readTitle_93 : decode b_Heads_readTitle 93 = .ok (.invokevirtual 189, 3) := by decide +kernel
theorem ml_Heads_189 : Cond.methodLink R_Heads 189 ⟨"PointerHouse$Heads", "readRegions", "(II)I"⟩ ∈ lw_good := lg_right (i := 1062) (by decide +kernel) rfl
theorem d_Heads_readTitle_96 : decode b_Heads_readTitle 96 = .ok (.invokevirtual 192, 3) := by decide +kernel
theorem ml_Heads_192 : Cond.methodLink R_Heads 192 ⟨"PointerHouse$Types", "thing", "(II)I"⟩ ∈ lw_good := lg_right (i := 1070) (by decide +kernel) rfl
theorem d_Heads_readTitle_99 : decode b_Heads_readTitle 99 = .ok (.ireturn, 1) := by decide +kernel
abbrev b_Exprs_check : ByteArray := prog_3_method_2_code
abbrev y_Exprs_check : MethodName := ⟨R_Exprs, "check", "(II)I"⟩
theorem co_Exprs_check : Cond.code y_Exprs_check b_Exprs_check 7 (some .int) ∈ lw_good := lg_in (tin_5 _ (List.mem_of_getElem? (i := 238) rfl)) rfl
abbrev w_Exprs_check : List Cond := Cond.code y_Exprs_check b_Exprs_check 7 (some .int) :: lw_good
theorem im_Exprs_check : Cond.instanceMethod y_Exprs_check ∈ lw_good := lg_right (i := 1196) (by decide +kernel) rfl
theorem se_Exprs_check : Cond.selects R_Exprs y_Exprs_check y_Exprs_check ∈ lw_good := lg_right (i := 1197) (by decide +kernel) rfl
theorem d_Exprs_check_0 : decode b_Exprs_check 0 = .ok (.aload_n 0, 1) := by decide +kernel
theorem d_Exprs_check_1 : decode b_Exprs_check 1 = .ok (.iload_n 1, 1) := by decide +kernel
theorem d_Exprs_check_2 : decode b_Exprs_check 2 = .ok (.iconst 0, 1) := by decide +kernel
theorem d_Exprs_check_3 : decode b_Exprs_check 3 = .ok (.iload_n 2, 1) := by decide +kernel
theorem d_Exprs_check_4 : decode b_Exprs_check 4 = .ok (.invokevirtual 39, 3) := by decide +kernel
theorem ml_Exprs_39 : Cond.methodLink R_Exprs 39 ⟨"PointerHouse$Exprs", "checkTerm", "(III)I"⟩ ∈ lw_good := lg_right (i := 1199) (by decide +kernel) rfl
theorem d_Exprs_check_7 : decode b_Exprs_check 7 = .ok (.istore_n 3, 1) := by decide +kernel
theorem d_Exprs_check_8 : decode b_Exprs_check 8 = .ok (.aload_n 0, 1) := by decide +kernel
theorem d_Exprs_check_9 : decode b_Exprs_check 9 = .ok (.getfield 9, 3) := by decide +kernel
theorem fl_Exprs_9 : Cond.fieldLink R_Exprs 9 "PointerHouse$Exprs" "source" "LPointerHouse$Source;" ∈ lw_good := lg_right (i := 540) (by decide +kernel) rfl
theorem d_Exprs_check_12 : decode b_Exprs_check 12 = .ok (.getfield 43, 3) := by decide +kernel
theorem fl_Exprs_43 : Cond.fieldLink R_Exprs 43 "PointerHouse$Source" "next" "[I" ∈ lw_good := lg_right (i := 200) (by decide +kernel) rfl
theorem d_Exprs_check_15 : decode b_Exprs_check 15 = .ok (.iload_n 1, 1) := by decide +kernel
theorem d_Exprs_check_16 : decode b_Exprs_check 16 = .ok (.iaload, 1) := by decide +kernel
theorem d_Exprs_check_17 : decode b_Exprs_check 17 = .ok (.istore 4, 2) := by decide +kernel
theorem d_Exprs_check_19 : decode b_Exprs_check 19 = .ok (.iconst 0, 1) := by decide +kernel
theorem d_Exprs_check_20 : decode b_Exprs_check 20 = .ok (.istore 5, 2) := by decide +kernel
theorem d_Exprs_check_22 : decode b_Exprs_check 22 = .ok (.iload 4, 2) := by decide +kernel
theorem d_Exprs_check_24 : decode b_Exprs_check 24 = .ok (.ifCond .eq 50, 3) := by decide +kernel
theorem d_Exprs_check_27 : decode b_Exprs_check 27 = .ok (.iload 5, 2) := by decide +kernel
theorem d_Exprs_check_29 : decode b_Exprs_check 29 = .ok (.sipush 4000, 3) := by decide +kernel
theorem d_Exprs_check_32 : decode b_Exprs_check 32 = .ok (.if_icmp .ge 42, 3) := by decide +kernel
theorem d_Exprs_check_35 : decode b_Exprs_check 35 = .ok (.aload_n 0, 1) := by decide +kernel
theorem d_Exprs_check_36 : decode b_Exprs_check 36 = .ok (.iload 4, 2) := by decide +kernel
theorem d_Exprs_check_38 : decode b_Exprs_check 38 = .ok (.iconst 0, 1) := by decide +kernel
theorem d_Exprs_check_39 : decode b_Exprs_check 39 = .ok (.iload_n 2, 1) := by decide +kernel
theorem d_Exprs_check_40 : decode b_Exprs_check 40 = .ok (.invokevirtual 39, 3) := by decide +kernel
theorem d_Exprs_check_43 : decode b_Exprs_check 43 = .ok (.istore 6, 2) := by decide +kernel
theorem d_Exprs_check_45 : decode b_Exprs_check 45 = .ok (.aload_n 0, 1) := by decide +kernel
theorem d_Exprs_check_46 : decode b_Exprs_check 46 = .ok (.iload_n 1, 1) := by decide +kernel
theorem d_Exprs_check_47 : decode b_Exprs_check 47 = .ok (.iload 4, 2) := by decide +kernel
theorem d_Exprs_check_49 : decode b_Exprs_check 49 = .ok (.iload_n 3, 1) := by decide +kernel
theorem d_Exprs_check_50 : decode b_Exprs_check 50 = .ok (.iload 6, 2) := by decide +kernel
theorem d_Exprs_check_52 : decode b_Exprs_check 52 = .ok (.invokevirtual 49, 3) := by decide +kernel
theorem ml_Exprs_49 : Cond.methodLink R_Exprs 49 ⟨"PointerHouse$Exprs", "checkOperator", "(IIII)I"⟩ ∈ lw_good := lg_right (i := 1436) (by decide +kernel) rfl
theorem d_Exprs_check_55 : decode b_Exprs_check 55 = .ok (.istore_n 3, 1) := by decide +kernel
theorem d_Exprs_check_56 : decode b_Exprs_check 56 = .ok (.aload_n 0, 1) := by decide +kernel
theorem d_Exprs_check_57 : decode b_Exprs_check 57 = .ok (.getfield 9, 3) := by decide +kernel
theorem d_Exprs_check_60 : decode b_Exprs_check 60 = .ok (.getfield 43, 3) := by decide +kernel
theorem d_Exprs_check_63 : decode b_Exprs_check 63 = .ok (.iload 4, 2) := by decide +kernel
theorem d_Exprs_check_65 : decode b_Exprs_check 65 = .ok (.iaload, 1) := by decide +kernel
theorem d_Exprs_check_66 : decode b_Exprs_check 66 = .ok (.istore 4, 2) := by decide +kernel
theorem d_Exprs_check_68 : decode b_Exprs_check 68 = .ok (.iinc 5 1, 3) := by decide +kernel
theorem d_Exprs_check_71 : decode b_Exprs_check 71 = .ok (.goto (-49), 3) := by decide +kernel
theorem d_Exprs_check_74 : decode b_Exprs_check 74 = .ok (.iload_n 3, 1) := by decide +kernel
theorem d_Exprs_check_75 : decode b_Exprs_check 75 = .ok (.ireturn, 1) := by decide +kernel
abbrev b_Exprs_checkTerm : ByteArray := prog_3_method_11_code
abbrev y_Exprs_checkTerm : MethodName := ⟨R_Exprs, "checkTerm", "(III)I"⟩
theorem co_Exprs_checkTerm : Cond.code y_Exprs_checkTerm b_Exprs_checkTerm 8 (some .int) ∈ lw_good := lg_in (tin_6 _ (List.mem_of_getElem? (i := 2) rfl)) rfl
abbrev w_Exprs_checkTerm : List Cond := Cond.code y_Exprs_checkTerm b_Exprs_checkTerm 8 (some .int) :: lw_good
theorem im_Exprs_checkTerm : Cond.instanceMethod y_Exprs_checkTerm ∈ lw_good := lg_right (i := 1201) (by decide +kernel) rfl
theorem se_Exprs_checkTerm : Cond.selects R_Exprs y_Exprs_checkTerm y_Exprs_checkTerm ∈ lw_good := lg_left (i := 48) (by decide +kernel) rfl
theorem d_Exprs_checkTerm_0 : decode b_Exprs_checkTerm 0 = .ok (.iload_n 1, 1) := by decide +kernel
theorem d_Exprs_checkTerm_1 : decode b_Exprs_checkTerm 1 = .ok (.ifCond .eq 9, 3) := by decide +kernel
theorem d_Exprs_checkTerm_4 : decode b_Exprs_checkTerm 4 = .ok (.iload_n 3, 1) := by decide +kernel
theorem d_Exprs_checkTerm_5 : decode b_Exprs_checkTerm 5 = .ok (.bipush 20, 2) := by decide +kernel
theorem d_Exprs_checkTerm_7 : decode b_Exprs_checkTerm 7 = .ok (.if_icmp .le 5, 3) := by decide +kernel
theorem d_Exprs_checkTerm_10 : decode b_Exprs_checkTerm 10 = .ok (.iconst 0, 1) := by decide +kernel
theorem d_Exprs_checkTerm_11 : decode b_Exprs_checkTerm 11 = .ok (.ireturn, 1) := by decide +kernel
theorem d_Exprs_checkTerm_12 : decode b_Exprs_checkTerm 12 = .ok (.aload_n 0, 1) := by decide +kernel
theorem d_Exprs_checkTerm_13 : decode b_Exprs_checkTerm 13 = .ok (.iload_n 1, 1) := by decide +kernel
theorem d_Exprs_checkTerm_14 : decode b_Exprs_checkTerm 14 = .ok (.iload_n 3, 1) := by decide +kernel
theorem d_Exprs_checkTerm_15 : decode b_Exprs_checkTerm 15 = .ok (.invokevirtual 118, 3) := by decide +kernel
theorem ml_Exprs_118 : Cond.methodLink R_Exprs 118 ⟨"PointerHouse$Exprs", "checkPrimary", "(II)I"⟩ ∈ lw_good := lg_right (i := 1203) (by decide +kernel) rfl
theorem d_Exprs_checkTerm_18 : decode b_Exprs_checkTerm 18 = .ok (.istore 4, 2) := by decide +kernel
theorem d_Exprs_checkTerm_20 : decode b_Exprs_checkTerm 20 = .ok (.aload_n 0, 1) := by decide +kernel
theorem d_Exprs_checkTerm_21 : decode b_Exprs_checkTerm 21 = .ok (.getfield 9, 3) := by decide +kernel
theorem d_Exprs_checkTerm_24 : decode b_Exprs_checkTerm 24 = .ok (.iload_n 1, 1) := by decide +kernel
theorem d_Exprs_checkTerm_25 : decode b_Exprs_checkTerm 25 = .ok (.invokevirtual 64, 3) := by decide +kernel
theorem ml_Exprs_64 : Cond.methodLink R_Exprs 64 ⟨"PointerHouse$Source", "beginOf", "(I)I"⟩ ∈ lw_good := lg_right (i := 1315) (by decide +kernel) rfl
theorem d_Exprs_checkTerm_28 : decode b_Exprs_checkTerm 28 = .ok (.istore 5, 2) := by decide +kernel
theorem d_Exprs_checkTerm_30 : decode b_Exprs_checkTerm 30 = .ok (.aload_n 0, 1) := by decide +kernel
theorem d_Exprs_checkTerm_31 : decode b_Exprs_checkTerm 31 = .ok (.getfield 9, 3) := by decide +kernel
theorem d_Exprs_checkTerm_34 : decode b_Exprs_checkTerm 34 = .ok (.getfield 121, 3) := by decide +kernel
theorem fl_Exprs_121 : Cond.fieldLink R_Exprs 121 "PointerHouse$Source" "tail" "[I" ∈ lw_good := lg_right (i := 219) (by decide +kernel) rfl
theorem d_Exprs_checkTerm_37 : decode b_Exprs_checkTerm 37 = .ok (.iload_n 1, 1) := by decide +kernel
theorem d_Exprs_checkTerm_38 : decode b_Exprs_checkTerm 38 = .ok (.iaload, 1) := by decide +kernel
theorem d_Exprs_checkTerm_39 : decode b_Exprs_checkTerm 39 = .ok (.istore 6, 2) := by decide +kernel
theorem d_Exprs_checkTerm_41 : decode b_Exprs_checkTerm 41 = .ok (.iconst 0, 1) := by decide +kernel
theorem d_Exprs_checkTerm_42 : decode b_Exprs_checkTerm 42 = .ok (.istore 7, 2) := by decide +kernel
theorem d_Exprs_checkTerm_44 : decode b_Exprs_checkTerm 44 = .ok (.iload 6, 2) := by decide +kernel
theorem d_Exprs_checkTerm_46 : decode b_Exprs_checkTerm 46 = .ok (.ifCond .eq 77, 3) := by decide +kernel
theorem d_Exprs_checkTerm_49 : decode b_Exprs_checkTerm 49 = .ok (.iload 6, 2) := by decide +kernel
theorem d_Exprs_checkTerm_51 : decode b_Exprs_checkTerm 51 = .ok (.iload_n 2, 1) := by decide +kernel
theorem d_Exprs_checkTerm_52 : decode b_Exprs_checkTerm 52 = .ok (.if_icmp .eq 71, 3) := by decide +kernel
theorem d_Exprs_checkTerm_55 : decode b_Exprs_checkTerm 55 = .ok (.iload 7, 2) := by decide +kernel
theorem d_Exprs_checkTerm_57 : decode b_Exprs_checkTerm 57 = .ok (.sipush 4000, 3) := by decide +kernel
theorem d_Exprs_checkTerm_60 : decode b_Exprs_checkTerm 60 = .ok (.if_icmp .ge 63, 3) := by decide +kernel
theorem d_Exprs_checkTerm_63 : decode b_Exprs_checkTerm 63 = .ok (.aload_n 0, 1) := by decide +kernel
theorem d_Exprs_checkTerm_64 : decode b_Exprs_checkTerm 64 = .ok (.getfield 9, 3) := by decide +kernel
theorem d_Exprs_checkTerm_67 : decode b_Exprs_checkTerm 67 = .ok (.getfield 124, 3) := by decide +kernel
theorem fl_Exprs_124 : Cond.fieldLink R_Exprs 124 "PointerHouse$Source" "kind" "[I" ∈ lw_good := lg_right (i := 194) (by decide +kernel) rfl
theorem d_Exprs_checkTerm_70 : decode b_Exprs_checkTerm 70 = .ok (.iload 6, 2) := by decide +kernel
theorem d_Exprs_checkTerm_72 : decode b_Exprs_checkTerm 72 = .ok (.iaload, 1) := by decide +kernel
theorem d_Exprs_checkTerm_73 : decode b_Exprs_checkTerm 73 = .ok (.bipush 33, 2) := by decide +kernel
theorem d_Exprs_checkTerm_75 : decode b_Exprs_checkTerm 75 = .ok (.if_icmp .ne 16, 3) := by decide +kernel
theorem d_Exprs_checkTerm_78 : decode b_Exprs_checkTerm 78 = .ok (.aload_n 0, 1) := by decide +kernel
theorem d_Exprs_checkTerm_79 : decode b_Exprs_checkTerm 79 = .ok (.iload 6, 2) := by decide +kernel
theorem d_Exprs_checkTerm_81 : decode b_Exprs_checkTerm 81 = .ok (.iload 4, 2) := by decide +kernel
theorem d_Exprs_checkTerm_83 : decode b_Exprs_checkTerm 83 = .ok (.iload 5, 2) := by decide +kernel
theorem d_Exprs_checkTerm_85 : decode b_Exprs_checkTerm 85 = .ok (.invokevirtual 127, 3) := by decide +kernel
theorem ml_Exprs_127 : Cond.methodLink R_Exprs 127 ⟨"PointerHouse$Exprs", "checkIs", "(III)I"⟩ ∈ lw_good := lg_right (i := 1432) (by decide +kernel) rfl
theorem d_Exprs_checkTerm_88 : decode b_Exprs_checkTerm 88 = .ok (.goto 15, 3) := by decide +kernel
theorem d_Exprs_checkTerm_91 : decode b_Exprs_checkTerm 91 = .ok (.aload_n 0, 1) := by decide +kernel
theorem d_Exprs_checkTerm_92 : decode b_Exprs_checkTerm 92 = .ok (.iload 6, 2) := by decide +kernel
theorem d_Exprs_checkTerm_94 : decode b_Exprs_checkTerm 94 = .ok (.iload 4, 2) := by decide +kernel
theorem d_Exprs_checkTerm_96 : decode b_Exprs_checkTerm 96 = .ok (.iload 5, 2) := by decide +kernel
theorem d_Exprs_checkTerm_98 : decode b_Exprs_checkTerm 98 = .ok (.iconst 0, 1) := by decide +kernel
theorem d_Exprs_checkTerm_99 : decode b_Exprs_checkTerm 99 = .ok (.iload_n 3, 1) := by decide +kernel
theorem d_Exprs_checkTerm_100 : decode b_Exprs_checkTerm 100 = .ok (.invokevirtual 130, 3) := by decide +kernel
theorem ml_Exprs_130 : Cond.methodLink R_Exprs 130 ⟨"PointerHouse$Exprs", "checkPlace", "(IIIII)I"⟩ ∈ lw_good := lg_right (i := 1395) (by decide +kernel) rfl
theorem d_Exprs_checkTerm_103 : decode b_Exprs_checkTerm 103 = .ok (.istore 4, 2) := by decide +kernel
theorem d_Exprs_checkTerm_105 : decode b_Exprs_checkTerm 105 = .ok (.aload_n 0, 1) := by decide +kernel
theorem d_Exprs_checkTerm_106 : decode b_Exprs_checkTerm 106 = .ok (.getfield 9, 3) := by decide +kernel
theorem d_Exprs_checkTerm_109 : decode b_Exprs_checkTerm 109 = .ok (.getfield 43, 3) := by decide +kernel
theorem d_Exprs_checkTerm_112 : decode b_Exprs_checkTerm 112 = .ok (.iload 6, 2) := by decide +kernel
theorem d_Exprs_checkTerm_114 : decode b_Exprs_checkTerm 114 = .ok (.iaload, 1) := by decide +kernel
theorem d_Exprs_checkTerm_115 : decode b_Exprs_checkTerm 115 = .ok (.istore 6, 2) := by decide +kernel
theorem d_Exprs_checkTerm_117 : decode b_Exprs_checkTerm 117 = .ok (.iinc 7 1, 3) := by decide +kernel
theorem d_Exprs_checkTerm_120 : decode b_Exprs_checkTerm 120 = .ok (.goto (-76), 3) := by decide +kernel
theorem d_Exprs_checkTerm_123 : decode b_Exprs_checkTerm 123 = .ok (.iload 4, 2) := by decide +kernel
theorem d_Exprs_checkTerm_125 : decode b_Exprs_checkTerm 125 = .ok (.ireturn, 1) := by decide +kernel
abbrev b_Exprs_checkOperator : ByteArray := prog_3_method_7_code
abbrev y_Exprs_checkOperator : MethodName := ⟨R_Exprs, "checkOperator", "(IIII)I"⟩
theorem co_Exprs_checkOperator : Cond.code y_Exprs_checkOperator b_Exprs_checkOperator 7 (some .int) ∈ lw_good := lg_in (tin_6 _ (List.mem_of_getElem? (i := 239) rfl)) rfl
abbrev w_Exprs_checkOperator : List Cond := Cond.code y_Exprs_checkOperator b_Exprs_checkOperator 7 (some .int) :: lw_good
theorem im_Exprs_checkOperator : Cond.instanceMethod y_Exprs_checkOperator ∈ lw_good := lg_right (i := 1438) (by decide +kernel) rfl
theorem se_Exprs_checkOperator : Cond.selects R_Exprs y_Exprs_checkOperator y_Exprs_checkOperator ∈ lw_good := lg_left (i := 74) (by decide +kernel) rfl
theorem d_Exprs_checkOperator_0 : decode b_Exprs_checkOperator 0 = .ok (.aload_n 0, 1) := by decide +kernel
theorem d_Exprs_checkOperator_1 : decode b_Exprs_checkOperator 1 = .ok (.getfield 9, 3) := by decide +kernel
theorem d_Exprs_checkOperator_4 : decode b_Exprs_checkOperator 4 = .ok (.getfield 91, 3) := by decide +kernel
theorem fl_Exprs_91 : Cond.fieldLink R_Exprs 91 "PointerHouse$Source" "op" "[I" ∈ lw_good := lg_right (i := 207) (by decide +kernel) rfl
theorem d_Exprs_checkOperator_7 : decode b_Exprs_checkOperator 7 = .ok (.iload_n 2, 1) := by decide +kernel
theorem d_Exprs_checkOperator_8 : decode b_Exprs_checkOperator 8 = .ok (.iaload, 1) := by decide +kernel
theorem d_Exprs_checkOperator_9 : decode b_Exprs_checkOperator 9 = .ok (.istore 5, 2) := by decide +kernel
theorem d_Exprs_checkOperator_11 : decode b_Exprs_checkOperator 11 = .ok (.aload_n 0, 1) := by decide +kernel
theorem d_Exprs_checkOperator_12 : decode b_Exprs_checkOperator 12 = .ok (.getfield 9, 3) := by decide +kernel
theorem d_Exprs_checkOperator_15 : decode b_Exprs_checkOperator 15 = .ok (.iload_n 1, 1) := by decide +kernel
theorem d_Exprs_checkOperator_16 : decode b_Exprs_checkOperator 16 = .ok (.invokevirtual 64, 3) := by decide +kernel
theorem d_Exprs_checkOperator_19 : decode b_Exprs_checkOperator 19 = .ok (.istore 6, 2) := by decide +kernel
theorem d_Exprs_checkOperator_21 : decode b_Exprs_checkOperator 21 = .ok (.iload 5, 2) := by decide +kernel
theorem d_Exprs_checkOperator_23 : decode b_Exprs_checkOperator 23 = .ok (.bipush 53, 2) := by decide +kernel
theorem d_Exprs_checkOperator_25 : decode b_Exprs_checkOperator 25 = .ok (.if_icmp .ne 35, 3) := by decide +kernel
theorem d_Exprs_checkOperator_28 : decode b_Exprs_checkOperator 28 = .ok (.aload_n 0, 1) := by decide +kernel
theorem d_Exprs_checkOperator_29 : decode b_Exprs_checkOperator 29 = .ok (.getfield 29, 3) := by decide +kernel
theorem fl_Exprs_29 : Cond.fieldLink R_Exprs 29 "PointerHouse$Exprs" "types" "LPointerHouse$Types;" ∈ lw_good := lg_right (i := 543) (by decide +kernel) rfl
theorem d_Exprs_checkOperator_32 : decode b_Exprs_checkOperator 32 = .ok (.iload_n 3, 1) := by decide +kernel
theorem d_Exprs_checkOperator_33 : decode b_Exprs_checkOperator 33 = .ok (.invokevirtual 74, 3) := by decide +kernel
theorem ml_Exprs_74 : Cond.methodLink R_Exprs 74 ⟨"PointerHouse$Types", "kindOf", "(I)I"⟩ ∈ lw_good := lg_right (i := 1241) (by decide +kernel) rfl
theorem d_Exprs_checkOperator_36 : decode b_Exprs_checkOperator 36 = .ok (.iconst 5, 1) := by decide +kernel
theorem d_Exprs_checkOperator_37 : decode b_Exprs_checkOperator 37 = .ok (.if_icmp .ne 23, 3) := by decide +kernel
theorem d_Exprs_checkOperator_40 : decode b_Exprs_checkOperator 40 = .ok (.iload 4, 2) := by decide +kernel
theorem d_Exprs_checkOperator_42 : decode b_Exprs_checkOperator 42 = .ok (.iconst 1, 1) := by decide +kernel
theorem d_Exprs_checkOperator_43 : decode b_Exprs_checkOperator 43 = .ok (.if_icmp .ne 17, 3) := by decide +kernel
theorem d_Exprs_checkOperator_46 : decode b_Exprs_checkOperator 46 = .ok (.aload_n 0, 1) := by decide +kernel
theorem d_Exprs_checkOperator_47 : decode b_Exprs_checkOperator 47 = .ok (.getfield 35, 3) := by decide +kernel
theorem fl_Exprs_35 : Cond.fieldLink R_Exprs 35 "PointerHouse$Exprs" "code" "LPointerHouse$Code;" ∈ lw_good := lg_right (i := 545) (by decide +kernel) rfl
theorem d_Exprs_checkOperator_50 : decode b_Exprs_checkOperator 50 = .ok (.bipush 9, 2) := by decide +kernel
theorem d_Exprs_checkOperator_52 : decode b_Exprs_checkOperator 52 = .ok (.iconst 0, 1) := by decide +kernel
theorem d_Exprs_checkOperator_53 : decode b_Exprs_checkOperator 53 = .ok (.iconst 0, 1) := by decide +kernel
theorem d_Exprs_checkOperator_54 : decode b_Exprs_checkOperator 54 = .ok (.invokevirtual 94, 3) := by decide +kernel
theorem ml_Exprs_94 : Cond.methodLink R_Exprs 94 ⟨"PointerHouse$Code", "emit", "(III)I"⟩ ∈ lw_good := lg_right (i := 1208) (by decide +kernel) rfl
theorem d_Exprs_checkOperator_57 : decode b_Exprs_checkOperator 57 = .ok (.pop, 1) := by decide +kernel
theorem d_Exprs_checkOperator_58 : decode b_Exprs_checkOperator 58 = .ok (.iload_n 3, 1) := by decide +kernel
theorem d_Exprs_checkOperator_59 : decode b_Exprs_checkOperator 59 = .ok (.ireturn, 1) := by decide +kernel
theorem d_Exprs_checkOperator_60 : decode b_Exprs_checkOperator 60 = .ok (.iload 5, 2) := by decide +kernel
theorem d_Exprs_checkOperator_62 : decode b_Exprs_checkOperator 62 = .ok (.bipush 62, 2) := by decide +kernel
theorem d_Exprs_checkOperator_64 : decode b_Exprs_checkOperator 64 = .ok (.if_icmp .ne 40, 3) := by decide +kernel
theorem d_Exprs_checkOperator_67 : decode b_Exprs_checkOperator 67 = .ok (.aload_n 0, 1) := by decide +kernel
theorem d_Exprs_checkOperator_68 : decode b_Exprs_checkOperator 68 = .ok (.iload_n 3, 1) := by decide +kernel
theorem d_Exprs_checkOperator_69 : decode b_Exprs_checkOperator 69 = .ok (.invokevirtual 97, 3) := by decide +kernel
theorem ml_Exprs_97 : Cond.methodLink R_Exprs 97 ⟨"PointerHouse$Exprs", "mayCompare", "(I)Z"⟩ ∈ lw_good := lg_right (i := 1440) (by decide +kernel) rfl
theorem d_Exprs_checkOperator_72 : decode b_Exprs_checkOperator 72 = .ok (.ifCond .eq 32, 3) := by decide +kernel
theorem d_Exprs_checkOperator_75 : decode b_Exprs_checkOperator 75 = .ok (.aload_n 0, 1) := by decide +kernel
theorem d_Exprs_checkOperator_76 : decode b_Exprs_checkOperator 76 = .ok (.iload 4, 2) := by decide +kernel
theorem d_Exprs_checkOperator_78 : decode b_Exprs_checkOperator 78 = .ok (.invokevirtual 97, 3) := by decide +kernel
theorem d_Exprs_checkOperator_81 : decode b_Exprs_checkOperator 81 = .ok (.ifCond .eq 23, 3) := by decide +kernel
theorem d_Exprs_checkOperator_84 : decode b_Exprs_checkOperator 84 = .ok (.aload_n 0, 1) := by decide +kernel
theorem d_Exprs_checkOperator_85 : decode b_Exprs_checkOperator 85 = .ok (.iload_n 3, 1) := by decide +kernel
theorem d_Exprs_checkOperator_86 : decode b_Exprs_checkOperator 86 = .ok (.iload 4, 2) := by decide +kernel
theorem d_Exprs_checkOperator_88 : decode b_Exprs_checkOperator 88 = .ok (.iload 6, 2) := by decide +kernel
theorem d_Exprs_checkOperator_90 : decode b_Exprs_checkOperator 90 = .ok (.aload_n 0, 1) := by decide +kernel
theorem d_Exprs_checkOperator_91 : decode b_Exprs_checkOperator 91 = .ok (.getfield 9, 3) := by decide +kernel
theorem d_Exprs_checkOperator_94 : decode b_Exprs_checkOperator 94 = .ok (.iload_n 2, 1) := by decide +kernel
theorem d_Exprs_checkOperator_95 : decode b_Exprs_checkOperator 95 = .ok (.invokevirtual 64, 3) := by decide +kernel
theorem d_Exprs_checkOperator_98 : decode b_Exprs_checkOperator 98 = .ok (.invokevirtual 101, 3) := by decide +kernel
theorem ml_Exprs_101 : Cond.methodLink R_Exprs 101 ⟨"PointerHouse$Exprs", "checkComparison", "(IIII)V"⟩ ∈ lw_good := lg_right (i := 1444) (by decide +kernel) rfl
theorem d_Exprs_checkOperator_101 : decode b_Exprs_checkOperator 101 = .ok (.goto 43, 3) := by decide +kernel
theorem d_Exprs_checkOperator_104 : decode b_Exprs_checkOperator 104 = .ok (.iload_n 3, 1) := by decide +kernel
theorem d_Exprs_checkOperator_105 : decode b_Exprs_checkOperator 105 = .ok (.iconst 1, 1) := by decide +kernel
theorem d_Exprs_checkOperator_106 : decode b_Exprs_checkOperator 106 = .ok (.if_icmp .eq 16, 3) := by decide +kernel
theorem d_Exprs_checkOperator_109 : decode b_Exprs_checkOperator 109 = .ok (.aload_n 0, 1) := by decide +kernel
theorem d_Exprs_checkOperator_110 : decode b_Exprs_checkOperator 110 = .ok (.getfield 35, 3) := by decide +kernel
theorem d_Exprs_checkOperator_113 : decode b_Exprs_checkOperator 113 = .ok (.iconst 4, 1) := by decide +kernel
theorem d_Exprs_checkOperator_114 : decode b_Exprs_checkOperator 114 = .ok (.iload 6, 2) := by decide +kernel
theorem d_Exprs_checkOperator_116 : decode b_Exprs_checkOperator 116 = .ok (.invokevirtual 68, 3) := by decide +kernel
theorem ml_Exprs_68 : Cond.methodLink R_Exprs 68 ⟨"PointerHouse$Code", "note", "(II)V"⟩ ∈ lw_good := lg_right (i := 1214) (by decide +kernel) rfl
theorem d_Exprs_checkOperator_119 : decode b_Exprs_checkOperator 119 = .ok (.goto 25, 3) := by decide +kernel
theorem d_Exprs_checkOperator_122 : decode b_Exprs_checkOperator 122 = .ok (.iload 4, 2) := by decide +kernel
theorem d_Exprs_checkOperator_124 : decode b_Exprs_checkOperator 124 = .ok (.iconst 1, 1) := by decide +kernel
theorem d_Exprs_checkOperator_125 : decode b_Exprs_checkOperator 125 = .ok (.if_icmp .eq 19, 3) := by decide +kernel
theorem d_Exprs_checkOperator_128 : decode b_Exprs_checkOperator 128 = .ok (.aload_n 0, 1) := by decide +kernel
theorem d_Exprs_checkOperator_129 : decode b_Exprs_checkOperator 129 = .ok (.getfield 35, 3) := by decide +kernel
theorem d_Exprs_checkOperator_132 : decode b_Exprs_checkOperator 132 = .ok (.iconst 4, 1) := by decide +kernel
theorem d_Exprs_checkOperator_133 : decode b_Exprs_checkOperator 133 = .ok (.aload_n 0, 1) := by decide +kernel
theorem d_Exprs_checkOperator_134 : decode b_Exprs_checkOperator 134 = .ok (.getfield 9, 3) := by decide +kernel
theorem d_Exprs_checkOperator_137 : decode b_Exprs_checkOperator 137 = .ok (.iload_n 2, 1) := by decide +kernel
theorem d_Exprs_checkOperator_138 : decode b_Exprs_checkOperator 138 = .ok (.invokevirtual 64, 3) := by decide +kernel
theorem d_Exprs_checkOperator_141 : decode b_Exprs_checkOperator 141 = .ok (.invokevirtual 68, 3) := by decide +kernel
theorem d_Exprs_checkOperator_144 : decode b_Exprs_checkOperator 144 = .ok (.aload_n 0, 1) := by decide +kernel
theorem d_Exprs_checkOperator_145 : decode b_Exprs_checkOperator 145 = .ok (.getfield 35, 3) := by decide +kernel
theorem d_Exprs_checkOperator_148 : decode b_Exprs_checkOperator 148 = .ok (.iload 5, 2) := by decide +kernel
theorem d_Exprs_checkOperator_150 : decode b_Exprs_checkOperator 150 = .ok (.invokestatic 105, 3) := by decide +kernel
theorem ml_Exprs_105 : Cond.methodLink R_Exprs 105 ⟨"PointerHouse$Exprs", "instructionOf", "(I)I"⟩ ∈ lw_good := lg_right (i := 1448) (by decide +kernel) rfl
theorem d_Exprs_checkOperator_153 : decode b_Exprs_checkOperator 153 = .ok (.iconst 0, 1) := by decide +kernel
theorem d_Exprs_checkOperator_154 : decode b_Exprs_checkOperator 154 = .ok (.iconst 0, 1) := by decide +kernel
theorem d_Exprs_checkOperator_155 : decode b_Exprs_checkOperator 155 = .ok (.invokevirtual 94, 3) := by decide +kernel
theorem d_Exprs_checkOperator_158 : decode b_Exprs_checkOperator 158 = .ok (.pop, 1) := by decide +kernel
theorem d_Exprs_checkOperator_159 : decode b_Exprs_checkOperator 159 = .ok (.iconst 1, 1) := by decide +kernel
theorem d_Exprs_checkOperator_160 : decode b_Exprs_checkOperator 160 = .ok (.ireturn, 1) := by decide +kernel
abbrev b_Exprs_checkFits : ByteArray := prog_3_method_3_code
abbrev y_Exprs_checkFits : MethodName := ⟨R_Exprs, "checkFits", "(III)V"⟩
theorem co_Exprs_checkFits : Cond.code y_Exprs_checkFits b_Exprs_checkFits 4 none ∈ lw_good := lg_in (tin_6 _ (List.mem_of_getElem? (i := 96) rfl)) rfl
abbrev w_Exprs_checkFits : List Cond := Cond.code y_Exprs_checkFits b_Exprs_checkFits 4 none :: lw_good
theorem im_Exprs_checkFits : Cond.instanceMethod y_Exprs_checkFits ∈ lw_good := lg_right (i := 1294) (by decide +kernel) rfl
theorem se_Exprs_checkFits : Cond.selects R_Exprs y_Exprs_checkFits y_Exprs_checkFits ∈ lw_good := lg_right (i := 1295) (by decide +kernel) rfl
theorem d_Exprs_checkFits_0 : decode b_Exprs_checkFits 0 = .ok (.aload_n 0, 1) := by decide +kernel
theorem d_Exprs_checkFits_1 : decode b_Exprs_checkFits 1 = .ok (.aload_n 0, 1) := by decide +kernel
theorem d_Exprs_checkFits_2 : decode b_Exprs_checkFits 2 = .ok (.iload_n 1, 1) := by decide +kernel
theorem d_Exprs_checkFits_3 : decode b_Exprs_checkFits 3 = .ok (.iload_n 3, 1) := by decide +kernel
theorem d_Exprs_checkFits_4 : decode b_Exprs_checkFits 4 = .ok (.invokevirtual 53, 3) := by decide +kernel
theorem ml_Exprs_53 : Cond.methodLink R_Exprs 53 ⟨"PointerHouse$Exprs", "check", "(II)I"⟩ ∈ lw_good := lg_right (i := 1297) (by decide +kernel) rfl
theorem d_Exprs_checkFits_7 : decode b_Exprs_checkFits 7 = .ok (.iload_n 2, 1) := by decide +kernel
theorem d_Exprs_checkFits_8 : decode b_Exprs_checkFits 8 = .ok (.iload_n 1, 1) := by decide +kernel
theorem d_Exprs_checkFits_9 : decode b_Exprs_checkFits 9 = .ok (.invokevirtual 57, 3) := by decide +kernel
theorem ml_Exprs_57 : Cond.methodLink R_Exprs 57 ⟨"PointerHouse$Exprs", "demandFit", "(III)V"⟩ ∈ lw_good := lg_right (i := 1298) (by decide +kernel) rfl
theorem d_Exprs_checkFits_12 : decode b_Exprs_checkFits 12 = .ok (.return_, 1) := by decide +kernel
abbrev b_Exprs_demandFit : ByteArray := prog_3_method_4_code
abbrev y_Exprs_demandFit : MethodName := ⟨R_Exprs, "demandFit", "(III)V"⟩
theorem co_Exprs_demandFit : Cond.code y_Exprs_demandFit b_Exprs_demandFit 5 none ∈ lw_good := lg_in (tin_6 _ (List.mem_of_getElem? (i := 101) rfl)) rfl
abbrev w_Exprs_demandFit : List Cond := Cond.code y_Exprs_demandFit b_Exprs_demandFit 5 none :: lw_good
theorem im_Exprs_demandFit : Cond.instanceMethod y_Exprs_demandFit ∈ lw_good := lg_right (i := 1299) (by decide +kernel) rfl
theorem se_Exprs_demandFit : Cond.selects R_Exprs y_Exprs_demandFit y_Exprs_demandFit ∈ lw_good := lg_right (i := 1300) (by decide +kernel) rfl
theorem d_Exprs_demandFit_0 : decode b_Exprs_demandFit 0 = .ok (.aload_n 0, 1) := by decide +kernel
theorem d_Exprs_demandFit_1 : decode b_Exprs_demandFit 1 = .ok (.iload_n 1, 1) := by decide +kernel
theorem d_Exprs_demandFit_2 : decode b_Exprs_demandFit 2 = .ok (.iload_n 2, 1) := by decide +kernel
theorem d_Exprs_demandFit_3 : decode b_Exprs_demandFit 3 = .ok (.invokevirtual 61, 3) := by decide +kernel
theorem ml_Exprs_61 : Cond.methodLink R_Exprs 61 ⟨"PointerHouse$Exprs", "lackOf", "(II)I"⟩ ∈ lw_good := lg_right (i := 1302) (by decide +kernel) rfl
theorem d_Exprs_demandFit_6 : decode b_Exprs_demandFit 6 = .ok (.istore 4, 2) := by decide +kernel
theorem d_Exprs_demandFit_8 : decode b_Exprs_demandFit 8 = .ok (.iload 4, 2) := by decide +kernel
theorem d_Exprs_demandFit_10 : decode b_Exprs_demandFit 10 = .ok (.ifCond .eq 20, 3) := by decide +kernel
theorem d_Exprs_demandFit_13 : decode b_Exprs_demandFit 13 = .ok (.aload_n 0, 1) := by decide +kernel
theorem d_Exprs_demandFit_14 : decode b_Exprs_demandFit 14 = .ok (.getfield 35, 3) := by decide +kernel
theorem d_Exprs_demandFit_17 : decode b_Exprs_demandFit 17 = .ok (.iload 4, 2) := by decide +kernel
theorem d_Exprs_demandFit_19 : decode b_Exprs_demandFit 19 = .ok (.aload_n 0, 1) := by decide +kernel
theorem d_Exprs_demandFit_20 : decode b_Exprs_demandFit 20 = .ok (.getfield 9, 3) := by decide +kernel
theorem d_Exprs_demandFit_23 : decode b_Exprs_demandFit 23 = .ok (.iload_n 3, 1) := by decide +kernel
theorem d_Exprs_demandFit_24 : decode b_Exprs_demandFit 24 = .ok (.invokevirtual 64, 3) := by decide +kernel
theorem d_Exprs_demandFit_27 : decode b_Exprs_demandFit 27 = .ok (.invokevirtual 68, 3) := by decide +kernel
theorem d_Exprs_demandFit_30 : decode b_Exprs_demandFit 30 = .ok (.return_, 1) := by decide +kernel
abbrev b_Exprs_lackOf : ByteArray := prog_3_method_6_code
abbrev y_Exprs_lackOf : MethodName := ⟨R_Exprs, "lackOf", "(II)I"⟩
theorem co_Exprs_lackOf : Cond.code y_Exprs_lackOf b_Exprs_lackOf 6 (some .int) ∈ lw_good := lg_in (tin_6 _ (List.mem_of_getElem? (i := 105) rfl)) rfl
abbrev w_Exprs_lackOf : List Cond := Cond.code y_Exprs_lackOf b_Exprs_lackOf 6 (some .int) :: lw_good
theorem im_Exprs_lackOf : Cond.instanceMethod y_Exprs_lackOf ∈ lw_good := lg_right (i := 1304) (by decide +kernel) rfl
theorem se_Exprs_lackOf : Cond.selects R_Exprs y_Exprs_lackOf y_Exprs_lackOf ∈ lw_good := lg_left (i := 54) (by decide +kernel) rfl
theorem d_Exprs_lackOf_0 : decode b_Exprs_lackOf 0 = .ok (.aload_n 0, 1) := by decide +kernel
theorem d_Exprs_lackOf_1 : decode b_Exprs_lackOf 1 = .ok (.getfield 29, 3) := by decide +kernel
theorem d_Exprs_lackOf_4 : decode b_Exprs_lackOf 4 = .ok (.iload_n 1, 1) := by decide +kernel
theorem d_Exprs_lackOf_5 : decode b_Exprs_lackOf 5 = .ok (.invokevirtual 74, 3) := by decide +kernel
theorem d_Exprs_lackOf_8 : decode b_Exprs_lackOf 8 = .ok (.istore_n 3, 1) := by decide +kernel
theorem d_Exprs_lackOf_9 : decode b_Exprs_lackOf 9 = .ok (.aload_n 0, 1) := by decide +kernel
theorem d_Exprs_lackOf_10 : decode b_Exprs_lackOf 10 = .ok (.getfield 29, 3) := by decide +kernel
theorem d_Exprs_lackOf_13 : decode b_Exprs_lackOf 13 = .ok (.iload_n 2, 1) := by decide +kernel
theorem d_Exprs_lackOf_14 : decode b_Exprs_lackOf 14 = .ok (.invokevirtual 74, 3) := by decide +kernel
theorem d_Exprs_lackOf_17 : decode b_Exprs_lackOf 17 = .ok (.istore 4, 2) := by decide +kernel
theorem d_Exprs_lackOf_19 : decode b_Exprs_lackOf 19 = .ok (.iload_n 3, 1) := by decide +kernel
theorem d_Exprs_lackOf_20 : decode b_Exprs_lackOf 20 = .ok (.iconst 2, 1) := by decide +kernel
theorem d_Exprs_lackOf_21 : decode b_Exprs_lackOf 21 = .ok (.if_icmp .ne 15, 3) := by decide +kernel
theorem d_Exprs_lackOf_24 : decode b_Exprs_lackOf 24 = .ok (.iload 4, 2) := by decide +kernel
theorem d_Exprs_lackOf_26 : decode b_Exprs_lackOf 26 = .ok (.iconst 4, 1) := by decide +kernel
theorem d_Exprs_lackOf_27 : decode b_Exprs_lackOf 27 = .ok (.if_icmp .ne 7, 3) := by decide +kernel
theorem d_Exprs_lackOf_30 : decode b_Exprs_lackOf 30 = .ok (.iconst 0, 1) := by decide +kernel
theorem d_Exprs_lackOf_31 : decode b_Exprs_lackOf 31 = .ok (.goto 4, 3) := by decide +kernel
theorem d_Exprs_lackOf_34 : decode b_Exprs_lackOf 34 = .ok (.iconst 4, 1) := by decide +kernel
theorem d_Exprs_lackOf_35 : decode b_Exprs_lackOf 35 = .ok (.ireturn, 1) := by decide +kernel
theorem d_Exprs_lackOf_36 : decode b_Exprs_lackOf 36 = .ok (.iload_n 3, 1) := by decide +kernel
theorem d_Exprs_lackOf_37 : decode b_Exprs_lackOf 37 = .ok (.iconst 3, 1) := by decide +kernel
theorem d_Exprs_lackOf_38 : decode b_Exprs_lackOf 38 = .ok (.if_icmp .lt 9, 3) := by decide +kernel
theorem d_Exprs_lackOf_41 : decode b_Exprs_lackOf 41 = .ok (.iload 4, 2) := by decide +kernel
theorem d_Exprs_lackOf_43 : decode b_Exprs_lackOf 43 = .ok (.iconst 3, 1) := by decide +kernel
theorem d_Exprs_lackOf_44 : decode b_Exprs_lackOf 44 = .ok (.if_icmp .ge 20, 3) := by decide +kernel
theorem d_Exprs_lackOf_47 : decode b_Exprs_lackOf 47 = .ok (.iload_n 3, 1) := by decide +kernel
theorem d_Exprs_lackOf_48 : decode b_Exprs_lackOf 48 = .ok (.iconst 1, 1) := by decide +kernel
theorem d_Exprs_lackOf_49 : decode b_Exprs_lackOf 49 = .ok (.if_icmp .ne 13, 3) := by decide +kernel
theorem d_Exprs_lackOf_52 : decode b_Exprs_lackOf 52 = .ok (.iload 4, 2) := by decide +kernel
theorem d_Exprs_lackOf_54 : decode b_Exprs_lackOf 54 = .ok (.iconst 1, 1) := by decide +kernel
theorem d_Exprs_lackOf_55 : decode b_Exprs_lackOf 55 = .ok (.if_icmp .ne 7, 3) := by decide +kernel
theorem d_Exprs_lackOf_58 : decode b_Exprs_lackOf 58 = .ok (.iconst 0, 1) := by decide +kernel
theorem d_Exprs_lackOf_59 : decode b_Exprs_lackOf 59 = .ok (.goto 4, 3) := by decide +kernel
theorem d_Exprs_lackOf_62 : decode b_Exprs_lackOf 62 = .ok (.iconst 4, 1) := by decide +kernel
theorem d_Exprs_lackOf_63 : decode b_Exprs_lackOf 63 = .ok (.ireturn, 1) := by decide +kernel
theorem d_Exprs_lackOf_64 : decode b_Exprs_lackOf 64 = .ok (.iload_n 3, 1) := by decide +kernel
theorem d_Exprs_lackOf_65 : decode b_Exprs_lackOf 65 = .ok (.iload 4, 2) := by decide +kernel
theorem d_Exprs_lackOf_67 : decode b_Exprs_lackOf 67 = .ok (.if_icmp .eq 14, 3) := by decide +kernel
theorem d_Exprs_lackOf_70 : decode b_Exprs_lackOf 70 = .ok (.iload_n 3, 1) := by decide +kernel
theorem d_Exprs_lackOf_71 : decode b_Exprs_lackOf 71 = .ok (.iconst 3, 1) := by decide +kernel
theorem d_Exprs_lackOf_72 : decode b_Exprs_lackOf 72 = .ok (.if_icmp .ne 13, 3) := by decide +kernel
theorem d_Exprs_lackOf_75 : decode b_Exprs_lackOf 75 = .ok (.iload 4, 2) := by decide +kernel
theorem d_Exprs_lackOf_77 : decode b_Exprs_lackOf 77 = .ok (.iconst 4, 1) := by decide +kernel
theorem d_Exprs_lackOf_78 : decode b_Exprs_lackOf 78 = .ok (.if_icmp .ne 7, 3) := by decide +kernel
theorem d_Exprs_lackOf_81 : decode b_Exprs_lackOf 81 = .ok (.iconst 1, 1) := by decide +kernel
theorem d_Exprs_lackOf_82 : decode b_Exprs_lackOf 82 = .ok (.goto 4, 3) := by decide +kernel
theorem d_Exprs_lackOf_85 : decode b_Exprs_lackOf 85 = .ok (.iconst 0, 1) := by decide +kernel
theorem d_Exprs_lackOf_86 : decode b_Exprs_lackOf 86 = .ok (.istore 5, 2) := by decide +kernel
theorem d_Exprs_lackOf_88 : decode b_Exprs_lackOf 88 = .ok (.iload 5, 2) := by decide +kernel
theorem d_Exprs_lackOf_90 : decode b_Exprs_lackOf 90 = .ok (.ifCond .eq 22, 3) := by decide +kernel
theorem d_Exprs_lackOf_93 : decode b_Exprs_lackOf 93 = .ok (.aload_n 0, 1) := by decide +kernel
theorem d_Exprs_lackOf_94 : decode b_Exprs_lackOf 94 = .ok (.getfield 29, 3) := by decide +kernel
theorem d_Exprs_lackOf_97 : decode b_Exprs_lackOf 97 = .ok (.iload_n 1, 1) := by decide +kernel
theorem d_Exprs_lackOf_98 : decode b_Exprs_lackOf 98 = .ok (.invokevirtual 79, 3) := by decide +kernel
theorem ml_Exprs_79 : Cond.methodLink R_Exprs 79 ⟨"PointerHouse$Types", "behind", "(I)I"⟩ ∈ lw_good := lg_right (i := 1257) (by decide +kernel) rfl
theorem d_Exprs_lackOf_101 : decode b_Exprs_lackOf 101 = .ok (.aload_n 0, 1) := by decide +kernel
theorem d_Exprs_lackOf_102 : decode b_Exprs_lackOf 102 = .ok (.getfield 29, 3) := by decide +kernel
theorem d_Exprs_lackOf_105 : decode b_Exprs_lackOf 105 = .ok (.iload_n 2, 1) := by decide +kernel
theorem d_Exprs_lackOf_106 : decode b_Exprs_lackOf 106 = .ok (.invokevirtual 79, 3) := by decide +kernel
theorem d_Exprs_lackOf_109 : decode b_Exprs_lackOf 109 = .ok (.if_icmp .eq 5, 3) := by decide +kernel
theorem d_Exprs_lackOf_112 : decode b_Exprs_lackOf 112 = .ok (.iconst 4, 1) := by decide +kernel
theorem d_Exprs_lackOf_113 : decode b_Exprs_lackOf 113 = .ok (.ireturn, 1) := by decide +kernel
theorem d_Exprs_lackOf_114 : decode b_Exprs_lackOf 114 = .ok (.aload_n 0, 1) := by decide +kernel
theorem d_Exprs_lackOf_115 : decode b_Exprs_lackOf 115 = .ok (.getfield 34, 3) := by decide +kernel
theorem fl_Exprs_34 : Cond.fieldLink R_Exprs 34 "PointerHouse$Exprs" "scope" "LPointerHouse$Scope;" ∈ lw_good := lg_right (i := 544) (by decide +kernel) rfl
theorem d_Exprs_lackOf_118 : decode b_Exprs_lackOf 118 = .ok (.aload_n 0, 1) := by decide +kernel
theorem d_Exprs_lackOf_119 : decode b_Exprs_lackOf 119 = .ok (.getfield 29, 3) := by decide +kernel
theorem d_Exprs_lackOf_122 : decode b_Exprs_lackOf 122 = .ok (.iload_n 1, 1) := by decide +kernel
theorem d_Exprs_lackOf_123 : decode b_Exprs_lackOf 123 = .ok (.invokevirtual 82, 3) := by decide +kernel
theorem ml_Exprs_82 : Cond.methodLink R_Exprs 82 ⟨"PointerHouse$Types", "regionOf", "(I)I"⟩ ∈ lw_good := lg_right (i := 1253) (by decide +kernel) rfl
theorem d_Exprs_lackOf_126 : decode b_Exprs_lackOf 126 = .ok (.aload_n 0, 1) := by decide +kernel
theorem d_Exprs_lackOf_127 : decode b_Exprs_lackOf 127 = .ok (.getfield 29, 3) := by decide +kernel
theorem d_Exprs_lackOf_130 : decode b_Exprs_lackOf 130 = .ok (.iload_n 2, 1) := by decide +kernel
theorem d_Exprs_lackOf_131 : decode b_Exprs_lackOf 131 = .ok (.invokevirtual 82, 3) := by decide +kernel
theorem d_Exprs_lackOf_134 : decode b_Exprs_lackOf 134 = .ok (.invokevirtual 85, 3) := by decide +kernel
theorem ml_Exprs_85 : Cond.methodLink R_Exprs 85 ⟨"PointerHouse$Scope", "outlives", "(II)Z"⟩ ∈ lw_good := lg_right (i := 1306) (by decide +kernel) rfl
theorem d_Exprs_lackOf_137 : decode b_Exprs_lackOf 137 = .ok (.ifCond .eq 7, 3) := by decide +kernel
theorem d_Exprs_lackOf_140 : decode b_Exprs_lackOf 140 = .ok (.iconst 0, 1) := by decide +kernel
theorem d_Exprs_lackOf_141 : decode b_Exprs_lackOf 141 = .ok (.goto 4, 3) := by decide +kernel
theorem d_Exprs_lackOf_144 : decode b_Exprs_lackOf 144 = .ok (.iconst 5, 1) := by decide +kernel
theorem d_Exprs_lackOf_145 : decode b_Exprs_lackOf 145 = .ok (.ireturn, 1) := by decide +kernel
abbrev b_Exprs_demand : ByteArray := prog_3_method_5_code
abbrev y_Exprs_demand : MethodName := ⟨R_Exprs, "demand", "(ZII)V"⟩
theorem co_Exprs_demand : Cond.code y_Exprs_demand b_Exprs_demand 4 none ∈ lw_good := lg_in (tin_6 _ (List.mem_of_getElem? (i := 13) rfl)) rfl
abbrev w_Exprs_demand : List Cond := Cond.code y_Exprs_demand b_Exprs_demand 4 none :: lw_good
theorem im_Exprs_demand : Cond.instanceMethod y_Exprs_demand ∈ lw_good := lg_right (i := 1211) (by decide +kernel) rfl
theorem se_Exprs_demand : Cond.selects R_Exprs y_Exprs_demand y_Exprs_demand ∈ lw_good := lg_right (i := 1212) (by decide +kernel) rfl
theorem d_Exprs_demand_0 : decode b_Exprs_demand 0 = .ok (.iload_n 1, 1) := by decide +kernel
theorem d_Exprs_demand_1 : decode b_Exprs_demand 1 = .ok (.ifCond .ne 12, 3) := by decide +kernel
theorem d_Exprs_demand_4 : decode b_Exprs_demand 4 = .ok (.aload_n 0, 1) := by decide +kernel
theorem d_Exprs_demand_5 : decode b_Exprs_demand 5 = .ok (.getfield 35, 3) := by decide +kernel
theorem d_Exprs_demand_8 : decode b_Exprs_demand 8 = .ok (.iload_n 2, 1) := by decide +kernel
theorem d_Exprs_demand_9 : decode b_Exprs_demand 9 = .ok (.iload_n 3, 1) := by decide +kernel
theorem d_Exprs_demand_10 : decode b_Exprs_demand 10 = .ok (.invokevirtual 68, 3) := by decide +kernel
theorem d_Exprs_demand_13 : decode b_Exprs_demand 13 = .ok (.return_, 1) := by decide +kernel
abbrev b_Exprs_mayCompare : ByteArray := prog_3_method_8_code
abbrev y_Exprs_mayCompare : MethodName := ⟨R_Exprs, "mayCompare", "(I)Z"⟩
theorem co_Exprs_mayCompare : Cond.code y_Exprs_mayCompare b_Exprs_mayCompare 2 (some .boolean) ∈ lw_good := lg_in (tin_7 _ (List.mem_of_getElem? (i := 3) rfl)) rfl
abbrev w_Exprs_mayCompare : List Cond := Cond.code y_Exprs_mayCompare b_Exprs_mayCompare 2 (some .boolean) :: lw_good
theorem im_Exprs_mayCompare : Cond.instanceMethod y_Exprs_mayCompare ∈ lw_good := lg_right (i := 1442) (by decide +kernel) rfl
theorem se_Exprs_mayCompare : Cond.selects R_Exprs y_Exprs_mayCompare y_Exprs_mayCompare ∈ lw_good := lg_left (i := 75) (by decide +kernel) rfl
theorem d_Exprs_mayCompare_0 : decode b_Exprs_mayCompare 0 = .ok (.iload_n 1, 1) := by decide +kernel
theorem d_Exprs_mayCompare_1 : decode b_Exprs_mayCompare 1 = .ok (.iconst 2, 1) := by decide +kernel
theorem d_Exprs_mayCompare_2 : decode b_Exprs_mayCompare 2 = .ok (.if_icmp .eq 14, 3) := by decide +kernel
theorem d_Exprs_mayCompare_5 : decode b_Exprs_mayCompare 5 = .ok (.aload_n 0, 1) := by decide +kernel
theorem d_Exprs_mayCompare_6 : decode b_Exprs_mayCompare 6 = .ok (.getfield 29, 3) := by decide +kernel
theorem d_Exprs_mayCompare_9 : decode b_Exprs_mayCompare 9 = .ok (.iload_n 1, 1) := by decide +kernel
theorem d_Exprs_mayCompare_10 : decode b_Exprs_mayCompare 10 = .ok (.invokevirtual 108, 3) := by decide +kernel
theorem ml_Exprs_108 : Cond.methodLink R_Exprs 108 ⟨"PointerHouse$Types", "isPointed", "(I)Z"⟩ ∈ lw_good := lg_right (i := 1423) (by decide +kernel) rfl
theorem d_Exprs_mayCompare_13 : decode b_Exprs_mayCompare 13 = .ok (.ifCond .eq 7, 3) := by decide +kernel
theorem d_Exprs_mayCompare_16 : decode b_Exprs_mayCompare 16 = .ok (.iconst 1, 1) := by decide +kernel
theorem d_Exprs_mayCompare_17 : decode b_Exprs_mayCompare 17 = .ok (.goto 4, 3) := by decide +kernel
theorem d_Exprs_mayCompare_20 : decode b_Exprs_mayCompare 20 = .ok (.iconst 0, 1) := by decide +kernel
theorem d_Exprs_mayCompare_21 : decode b_Exprs_mayCompare 21 = .ok (.ireturn, 1) := by decide +kernel
abbrev b_Exprs_checkComparison : ByteArray := prog_3_method_9_code
abbrev y_Exprs_checkComparison : MethodName := ⟨R_Exprs, "checkComparison", "(IIII)V"⟩
theorem co_Exprs_checkComparison : Cond.code y_Exprs_checkComparison b_Exprs_checkComparison 8 none ∈ lw_good := lg_in (tin_7 _ (List.mem_of_getElem? (i := 7) rfl)) rfl
abbrev w_Exprs_checkComparison : List Cond := Cond.code y_Exprs_checkComparison b_Exprs_checkComparison 8 none :: lw_good
theorem im_Exprs_checkComparison : Cond.instanceMethod y_Exprs_checkComparison ∈ lw_good := lg_right (i := 1446) (by decide +kernel) rfl
theorem se_Exprs_checkComparison : Cond.selects R_Exprs y_Exprs_checkComparison y_Exprs_checkComparison ∈ lw_good := lg_left (i := 76) (by decide +kernel) rfl
theorem d_Exprs_checkComparison_0 : decode b_Exprs_checkComparison 0 = .ok (.iload_n 1, 1) := by decide +kernel
theorem d_Exprs_checkComparison_1 : decode b_Exprs_checkComparison 1 = .ok (.iconst 2, 1) := by decide +kernel
theorem d_Exprs_checkComparison_2 : decode b_Exprs_checkComparison 2 = .ok (.if_icmp .eq 8, 3) := by decide +kernel
theorem d_Exprs_checkComparison_5 : decode b_Exprs_checkComparison 5 = .ok (.iload_n 2, 1) := by decide +kernel
theorem d_Exprs_checkComparison_6 : decode b_Exprs_checkComparison 6 = .ok (.iconst 2, 1) := by decide +kernel
theorem d_Exprs_checkComparison_7 : decode b_Exprs_checkComparison 7 = .ok (.if_icmp .ne 4, 3) := by decide +kernel
theorem d_Exprs_checkComparison_10 : decode b_Exprs_checkComparison 10 = .ok (.return_, 1) := by decide +kernel
theorem d_Exprs_checkComparison_11 : decode b_Exprs_checkComparison 11 = .ok (.aload_n 0, 1) := by decide +kernel
theorem d_Exprs_checkComparison_12 : decode b_Exprs_checkComparison 12 = .ok (.getfield 29, 3) := by decide +kernel
theorem d_Exprs_checkComparison_15 : decode b_Exprs_checkComparison 15 = .ok (.iload_n 1, 1) := by decide +kernel
theorem d_Exprs_checkComparison_16 : decode b_Exprs_checkComparison 16 = .ok (.invokevirtual 82, 3) := by decide +kernel
theorem d_Exprs_checkComparison_19 : decode b_Exprs_checkComparison 19 = .ok (.istore 5, 2) := by decide +kernel
theorem d_Exprs_checkComparison_21 : decode b_Exprs_checkComparison 21 = .ok (.aload_n 0, 1) := by decide +kernel
theorem d_Exprs_checkComparison_22 : decode b_Exprs_checkComparison 22 = .ok (.getfield 29, 3) := by decide +kernel
theorem d_Exprs_checkComparison_25 : decode b_Exprs_checkComparison 25 = .ok (.iload_n 2, 1) := by decide +kernel
theorem d_Exprs_checkComparison_26 : decode b_Exprs_checkComparison 26 = .ok (.invokevirtual 82, 3) := by decide +kernel
theorem d_Exprs_checkComparison_29 : decode b_Exprs_checkComparison 29 = .ok (.istore 6, 2) := by decide +kernel
theorem d_Exprs_checkComparison_31 : decode b_Exprs_checkComparison 31 = .ok (.aload_n 0, 1) := by decide +kernel
theorem d_Exprs_checkComparison_32 : decode b_Exprs_checkComparison 32 = .ok (.getfield 29, 3) := by decide +kernel
theorem d_Exprs_checkComparison_35 : decode b_Exprs_checkComparison 35 = .ok (.iload_n 1, 1) := by decide +kernel
theorem d_Exprs_checkComparison_36 : decode b_Exprs_checkComparison 36 = .ok (.invokevirtual 79, 3) := by decide +kernel
theorem d_Exprs_checkComparison_39 : decode b_Exprs_checkComparison 39 = .ok (.aload_n 0, 1) := by decide +kernel
theorem d_Exprs_checkComparison_40 : decode b_Exprs_checkComparison 40 = .ok (.getfield 29, 3) := by decide +kernel
theorem d_Exprs_checkComparison_43 : decode b_Exprs_checkComparison 43 = .ok (.iload_n 2, 1) := by decide +kernel
theorem d_Exprs_checkComparison_44 : decode b_Exprs_checkComparison 44 = .ok (.invokevirtual 79, 3) := by decide +kernel
theorem d_Exprs_checkComparison_47 : decode b_Exprs_checkComparison 47 = .ok (.if_icmp .ne 35, 3) := by decide +kernel
theorem d_Exprs_checkComparison_50 : decode b_Exprs_checkComparison 50 = .ok (.aload_n 0, 1) := by decide +kernel
theorem d_Exprs_checkComparison_51 : decode b_Exprs_checkComparison 51 = .ok (.getfield 34, 3) := by decide +kernel
theorem d_Exprs_checkComparison_54 : decode b_Exprs_checkComparison 54 = .ok (.iload 5, 2) := by decide +kernel
theorem d_Exprs_checkComparison_56 : decode b_Exprs_checkComparison 56 = .ok (.iload 6, 2) := by decide +kernel
theorem d_Exprs_checkComparison_58 : decode b_Exprs_checkComparison 58 = .ok (.invokevirtual 85, 3) := by decide +kernel
theorem d_Exprs_checkComparison_61 : decode b_Exprs_checkComparison 61 = .ok (.ifCond .ne 17, 3) := by decide +kernel
theorem d_Exprs_checkComparison_64 : decode b_Exprs_checkComparison 64 = .ok (.aload_n 0, 1) := by decide +kernel
theorem d_Exprs_checkComparison_65 : decode b_Exprs_checkComparison 65 = .ok (.getfield 34, 3) := by decide +kernel
theorem d_Exprs_checkComparison_68 : decode b_Exprs_checkComparison 68 = .ok (.iload 6, 2) := by decide +kernel
theorem d_Exprs_checkComparison_70 : decode b_Exprs_checkComparison 70 = .ok (.iload 5, 2) := by decide +kernel
theorem d_Exprs_checkComparison_72 : decode b_Exprs_checkComparison 72 = .ok (.invokevirtual 85, 3) := by decide +kernel
theorem d_Exprs_checkComparison_75 : decode b_Exprs_checkComparison 75 = .ok (.ifCond .eq 7, 3) := by decide +kernel
theorem d_Exprs_checkComparison_78 : decode b_Exprs_checkComparison 78 = .ok (.iconst 1, 1) := by decide +kernel
theorem d_Exprs_checkComparison_79 : decode b_Exprs_checkComparison 79 = .ok (.goto 4, 3) := by decide +kernel
theorem d_Exprs_checkComparison_82 : decode b_Exprs_checkComparison 82 = .ok (.iconst 0, 1) := by decide +kernel
theorem d_Exprs_checkComparison_83 : decode b_Exprs_checkComparison 83 = .ok (.istore 7, 2) := by decide +kernel
theorem d_Exprs_checkComparison_85 : decode b_Exprs_checkComparison 85 = .ok (.aload_n 0, 1) := by decide +kernel
theorem d_Exprs_checkComparison_86 : decode b_Exprs_checkComparison 86 = .ok (.iload 7, 2) := by decide +kernel
theorem d_Exprs_checkComparison_88 : decode b_Exprs_checkComparison 88 = .ok (.iconst 4, 1) := by decide +kernel
theorem d_Exprs_checkComparison_89 : decode b_Exprs_checkComparison 89 = .ok (.iload 4, 2) := by decide +kernel
theorem d_Exprs_checkComparison_91 : decode b_Exprs_checkComparison 91 = .ok (.invokevirtual 111, 3) := by decide +kernel
theorem ml_Exprs_111 : Cond.methodLink R_Exprs 111 ⟨"PointerHouse$Exprs", "demand", "(ZII)V"⟩ ∈ lw_good := lg_right (i := 1210) (by decide +kernel) rfl
theorem d_Exprs_checkComparison_94 : decode b_Exprs_checkComparison 94 = .ok (.aload_n 0, 1) := by decide +kernel
theorem d_Exprs_checkComparison_95 : decode b_Exprs_checkComparison 95 = .ok (.aload_n 0, 1) := by decide +kernel
theorem d_Exprs_checkComparison_96 : decode b_Exprs_checkComparison 96 = .ok (.getfield 34, 3) := by decide +kernel
theorem d_Exprs_checkComparison_99 : decode b_Exprs_checkComparison 99 = .ok (.iload 5, 2) := by decide +kernel
theorem d_Exprs_checkComparison_101 : decode b_Exprs_checkComparison 101 = .ok (.invokevirtual 115, 3) := by decide +kernel
theorem ml_Exprs_115 : Cond.methodLink R_Exprs 115 ⟨"PointerHouse$Scope", "isLive", "(I)Z"⟩ ∈ lw_good := lg_right (i := 1321) (by decide +kernel) rfl
theorem d_Exprs_checkComparison_104 : decode b_Exprs_checkComparison 104 = .ok (.iconst 5, 1) := by decide +kernel
theorem d_Exprs_checkComparison_105 : decode b_Exprs_checkComparison 105 = .ok (.iload_n 3, 1) := by decide +kernel
theorem d_Exprs_checkComparison_106 : decode b_Exprs_checkComparison 106 = .ok (.invokevirtual 111, 3) := by decide +kernel
theorem d_Exprs_checkComparison_109 : decode b_Exprs_checkComparison 109 = .ok (.aload_n 0, 1) := by decide +kernel
theorem d_Exprs_checkComparison_110 : decode b_Exprs_checkComparison 110 = .ok (.aload_n 0, 1) := by decide +kernel
theorem d_Exprs_checkComparison_111 : decode b_Exprs_checkComparison 111 = .ok (.getfield 34, 3) := by decide +kernel
theorem d_Exprs_checkComparison_114 : decode b_Exprs_checkComparison 114 = .ok (.iload 6, 2) := by decide +kernel
theorem d_Exprs_checkComparison_116 : decode b_Exprs_checkComparison 116 = .ok (.invokevirtual 115, 3) := by decide +kernel
theorem d_Exprs_checkComparison_119 : decode b_Exprs_checkComparison 119 = .ok (.iconst 5, 1) := by decide +kernel
theorem d_Exprs_checkComparison_120 : decode b_Exprs_checkComparison 120 = .ok (.iload 4, 2) := by decide +kernel
theorem d_Exprs_checkComparison_122 : decode b_Exprs_checkComparison 122 = .ok (.invokevirtual 111, 3) := by decide +kernel
theorem d_Exprs_checkComparison_125 : decode b_Exprs_checkComparison 125 = .ok (.return_, 1) := by decide +kernel
abbrev b_Exprs_instructionOf : ByteArray := prog_3_method_10_code
abbrev y_Exprs_instructionOf : MethodName := ⟨R_Exprs, "instructionOf", "(I)I"⟩
theorem co_Exprs_instructionOf : Cond.code y_Exprs_instructionOf b_Exprs_instructionOf 1 (some .int) ∈ lw_good := lg_in (tin_7 _ (List.mem_of_getElem? (i := 10) rfl)) rfl
abbrev w_Exprs_instructionOf : List Cond := Cond.code y_Exprs_instructionOf b_Exprs_instructionOf 1 (some .int) :: lw_good
theorem st_Exprs_instructionOf : Cond.static y_Exprs_instructionOf ∈ lw_good := lg_right (i := 1449) (by decide +kernel) rfl
theorem d_Exprs_instructionOf_0 : decode b_Exprs_instructionOf 0 = .ok (.iload_n 0, 1) := by decide +kernel
theorem d_Exprs_instructionOf_1 : decode b_Exprs_instructionOf 1 = .ok (.tableswitch 61 51 57 #[58, 61, 43, 46, 49, 52, 55], 43) := by decide +kernel
theorem d_Exprs_instructionOf_44 : decode b_Exprs_instructionOf 44 = .ok (.bipush 10, 2) := by decide +kernel
theorem d_Exprs_instructionOf_46 : decode b_Exprs_instructionOf 46 = .ok (.ireturn, 1) := by decide +kernel
theorem d_Exprs_instructionOf_47 : decode b_Exprs_instructionOf 47 = .ok (.bipush 11, 2) := by decide +kernel
theorem d_Exprs_instructionOf_49 : decode b_Exprs_instructionOf 49 = .ok (.ireturn, 1) := by decide +kernel
theorem d_Exprs_instructionOf_50 : decode b_Exprs_instructionOf 50 = .ok (.bipush 12, 2) := by decide +kernel
theorem d_Exprs_instructionOf_52 : decode b_Exprs_instructionOf 52 = .ok (.ireturn, 1) := by decide +kernel
theorem d_Exprs_instructionOf_53 : decode b_Exprs_instructionOf 53 = .ok (.bipush 13, 2) := by decide +kernel
theorem d_Exprs_instructionOf_55 : decode b_Exprs_instructionOf 55 = .ok (.ireturn, 1) := by decide +kernel
theorem d_Exprs_instructionOf_56 : decode b_Exprs_instructionOf 56 = .ok (.bipush 14, 2) := by decide +kernel
theorem d_Exprs_instructionOf_58 : decode b_Exprs_instructionOf 58 = .ok (.ireturn, 1) := by decide +kernel
theorem d_Exprs_instructionOf_59 : decode b_Exprs_instructionOf 59 = .ok (.bipush 16, 2) := by decide +kernel
theorem d_Exprs_instructionOf_61 : decode b_Exprs_instructionOf 61 = .ok (.ireturn, 1) := by decide +kernel
theorem d_Exprs_instructionOf_62 : decode b_Exprs_instructionOf 62 = .ok (.bipush 15, 2) := by decide +kernel
theorem d_Exprs_instructionOf_64 : decode b_Exprs_instructionOf 64 = .ok (.ireturn, 1) := by decide +kernel
abbrev b_Exprs_checkPrimary : ByteArray := prog_3_method_19_code
abbrev y_Exprs_checkPrimary : MethodName := ⟨R_Exprs, "checkPrimary", "(II)I"⟩
theorem co_Exprs_checkPrimary : Cond.code y_Exprs_checkPrimary b_Exprs_checkPrimary 4 (some .int) ∈ lw_good := lg_in (tin_6 _ (List.mem_of_getElem? (i := 6) rfl)) rfl
abbrev w_Exprs_checkPrimary : List Cond := Cond.code y_Exprs_checkPrimary b_Exprs_checkPrimary 4 (some .int) :: lw_good
theorem im_Exprs_checkPrimary : Cond.instanceMethod y_Exprs_checkPrimary ∈ lw_good := lg_right (i := 1205) (by decide +kernel) rfl
theorem se_Exprs_checkPrimary : Cond.selects R_Exprs y_Exprs_checkPrimary y_Exprs_checkPrimary ∈ lw_good := lg_left (i := 49) (by decide +kernel) rfl
theorem d_Exprs_checkPrimary_0 : decode b_Exprs_checkPrimary 0 = .ok (.aload_n 0, 1) := by decide +kernel
theorem d_Exprs_checkPrimary_1 : decode b_Exprs_checkPrimary 1 = .ok (.getfield 9, 3) := by decide +kernel
theorem d_Exprs_checkPrimary_4 : decode b_Exprs_checkPrimary 4 = .ok (.getfield 146, 3) := by decide +kernel
theorem fl_Exprs_146 : Cond.fieldLink R_Exprs 146 "PointerHouse$Source" "tok" "[I" ∈ lw_good := lg_right (i := 198) (by decide +kernel) rfl
theorem d_Exprs_checkPrimary_7 : decode b_Exprs_checkPrimary 7 = .ok (.iload_n 1, 1) := by decide +kernel
theorem d_Exprs_checkPrimary_8 : decode b_Exprs_checkPrimary 8 = .ok (.iaload, 1) := by decide +kernel
theorem d_Exprs_checkPrimary_9 : decode b_Exprs_checkPrimary 9 = .ok (.istore_n 3, 1) := by decide +kernel
theorem d_Exprs_checkPrimary_10 : decode b_Exprs_checkPrimary 10 = .ok (.aload_n 0, 1) := by decide +kernel
theorem d_Exprs_checkPrimary_11 : decode b_Exprs_checkPrimary 11 = .ok (.getfield 9, 3) := by decide +kernel
theorem d_Exprs_checkPrimary_14 : decode b_Exprs_checkPrimary 14 = .ok (.getfield 124, 3) := by decide +kernel
theorem d_Exprs_checkPrimary_17 : decode b_Exprs_checkPrimary 17 = .ok (.iload_n 1, 1) := by decide +kernel
theorem d_Exprs_checkPrimary_18 : decode b_Exprs_checkPrimary 18 = .ok (.iaload, 1) := by decide +kernel
theorem d_Exprs_checkPrimary_19 : decode b_Exprs_checkPrimary 19 = .ok (.lookupswitch 261 #[(2, 206), (5, 105), (27, 126), (28, 219), (29, 226), (30, 233), (31, 247), (32, 254), (34, 139), (35, 153), (58, 240), (63, 212)], 105) := by decide +kernel
theorem d_Exprs_checkPrimary_124 : decode b_Exprs_checkPrimary 124 = .ok (.aload_n 0, 1) := by decide +kernel
theorem d_Exprs_checkPrimary_125 : decode b_Exprs_checkPrimary 125 = .ok (.getfield 35, 3) := by decide +kernel
theorem d_Exprs_checkPrimary_128 : decode b_Exprs_checkPrimary 128 = .ok (.iconst 2, 1) := by decide +kernel
theorem d_Exprs_checkPrimary_129 : decode b_Exprs_checkPrimary 129 = .ok (.aload_n 0, 1) := by decide +kernel
theorem d_Exprs_checkPrimary_130 : decode b_Exprs_checkPrimary 130 = .ok (.getfield 9, 3) := by decide +kernel
theorem d_Exprs_checkPrimary_133 : decode b_Exprs_checkPrimary 133 = .ok (.iload_n 3, 1) := by decide +kernel
theorem d_Exprs_checkPrimary_134 : decode b_Exprs_checkPrimary 134 = .ok (.invokevirtual 149, 3) := by decide +kernel
theorem ml_Exprs_149 : Cond.methodLink R_Exprs 149 ⟨"PointerHouse$Source", "nameAt", "(I)J"⟩ ∈ lw_good := lg_right (i := 1207) (by decide +kernel) rfl
theorem d_Exprs_checkPrimary_137 : decode b_Exprs_checkPrimary 137 = .ok (.l2i, 1) := by decide +kernel
theorem d_Exprs_checkPrimary_138 : decode b_Exprs_checkPrimary 138 = .ok (.iconst 0, 1) := by decide +kernel
theorem d_Exprs_checkPrimary_139 : decode b_Exprs_checkPrimary 139 = .ok (.invokevirtual 94, 3) := by decide +kernel
theorem d_Exprs_checkPrimary_142 : decode b_Exprs_checkPrimary 142 = .ok (.pop, 1) := by decide +kernel
theorem d_Exprs_checkPrimary_143 : decode b_Exprs_checkPrimary 143 = .ok (.iconst 1, 1) := by decide +kernel
theorem d_Exprs_checkPrimary_144 : decode b_Exprs_checkPrimary 144 = .ok (.ireturn, 1) := by decide +kernel
theorem d_Exprs_checkPrimary_145 : decode b_Exprs_checkPrimary 145 = .ok (.aload_n 0, 1) := by decide +kernel
theorem d_Exprs_checkPrimary_146 : decode b_Exprs_checkPrimary 146 = .ok (.getfield 35, 3) := by decide +kernel
theorem d_Exprs_checkPrimary_149 : decode b_Exprs_checkPrimary 149 = .ok (.iconst 2, 1) := by decide +kernel
theorem d_Exprs_checkPrimary_150 : decode b_Exprs_checkPrimary 150 = .ok (.iconst 0, 1) := by decide +kernel
theorem d_Exprs_checkPrimary_151 : decode b_Exprs_checkPrimary 151 = .ok (.iconst 0, 1) := by decide +kernel
theorem d_Exprs_checkPrimary_152 : decode b_Exprs_checkPrimary 152 = .ok (.invokevirtual 94, 3) := by decide +kernel
theorem d_Exprs_checkPrimary_155 : decode b_Exprs_checkPrimary 155 = .ok (.pop, 1) := by decide +kernel
theorem d_Exprs_checkPrimary_156 : decode b_Exprs_checkPrimary 156 = .ok (.iconst 2, 1) := by decide +kernel
theorem d_Exprs_checkPrimary_157 : decode b_Exprs_checkPrimary 157 = .ok (.ireturn, 1) := by decide +kernel
theorem d_Exprs_checkPrimary_158 : decode b_Exprs_checkPrimary 158 = .ok (.aload_n 0, 1) := by decide +kernel
theorem d_Exprs_checkPrimary_159 : decode b_Exprs_checkPrimary 159 = .ok (.getfield 35, 3) := by decide +kernel
theorem d_Exprs_checkPrimary_162 : decode b_Exprs_checkPrimary 162 = .ok (.bipush 6, 2) := by decide +kernel
theorem d_Exprs_checkPrimary_164 : decode b_Exprs_checkPrimary 164 = .ok (.iconst 0, 1) := by decide +kernel
theorem d_Exprs_checkPrimary_165 : decode b_Exprs_checkPrimary 165 = .ok (.iconst 0, 1) := by decide +kernel
theorem d_Exprs_checkPrimary_166 : decode b_Exprs_checkPrimary 166 = .ok (.invokevirtual 94, 3) := by decide +kernel
theorem d_Exprs_checkPrimary_169 : decode b_Exprs_checkPrimary 169 = .ok (.pop, 1) := by decide +kernel
theorem d_Exprs_checkPrimary_170 : decode b_Exprs_checkPrimary 170 = .ok (.iconst 1, 1) := by decide +kernel
theorem d_Exprs_checkPrimary_171 : decode b_Exprs_checkPrimary 171 = .ok (.ireturn, 1) := by decide +kernel
theorem d_Exprs_checkPrimary_172 : decode b_Exprs_checkPrimary 172 = .ok (.aload_n 0, 1) := by decide +kernel
theorem d_Exprs_checkPrimary_173 : decode b_Exprs_checkPrimary 173 = .ok (.aload_n 0, 1) := by decide +kernel
theorem d_Exprs_checkPrimary_174 : decode b_Exprs_checkPrimary 174 = .ok (.getfield 34, 3) := by decide +kernel
theorem d_Exprs_checkPrimary_177 : decode b_Exprs_checkPrimary 177 = .ok (.getfield 191, 3) := by decide +kernel
theorem fl_Exprs_191 : Cond.fieldLink R_Exprs 191 "PointerHouse$Scope" "catches" "I" ∈ lw_good := lg_right (i := 476) (by decide +kernel) rfl
theorem d_Exprs_checkPrimary_180 : decode b_Exprs_checkPrimary 180 = .ok (.ifCond .le 7, 3) := by decide +kernel
theorem d_Exprs_checkPrimary_183 : decode b_Exprs_checkPrimary 183 = .ok (.iconst 1, 1) := by decide +kernel
theorem d_Exprs_checkPrimary_184 : decode b_Exprs_checkPrimary 184 = .ok (.goto 4, 3) := by decide +kernel
theorem d_Exprs_checkPrimary_187 : decode b_Exprs_checkPrimary 187 = .ok (.iconst 0, 1) := by decide +kernel
theorem d_Exprs_checkPrimary_188 : decode b_Exprs_checkPrimary 188 = .ok (.bipush 8, 2) := by decide +kernel
theorem d_Exprs_checkPrimary_190 : decode b_Exprs_checkPrimary 190 = .ok (.aload_n 0, 1) := by decide +kernel
theorem d_Exprs_checkPrimary_191 : decode b_Exprs_checkPrimary 191 = .ok (.getfield 9, 3) := by decide +kernel
theorem d_Exprs_checkPrimary_194 : decode b_Exprs_checkPrimary 194 = .ok (.iload_n 3, 1) := by decide +kernel
theorem d_Exprs_checkPrimary_195 : decode b_Exprs_checkPrimary 195 = .ok (.invokevirtual 157, 3) := by decide +kernel
theorem ml_Exprs_157 : Cond.methodLink R_Exprs 157 ⟨"PointerHouse$Source", "startOf", "(I)I"⟩ ∈ lw_good := lg_right (i := 1209) (by decide +kernel) rfl
theorem d_Exprs_checkPrimary_198 : decode b_Exprs_checkPrimary 198 = .ok (.invokevirtual 111, 3) := by decide +kernel
theorem d_Exprs_checkPrimary_201 : decode b_Exprs_checkPrimary 201 = .ok (.aload_n 0, 1) := by decide +kernel
theorem d_Exprs_checkPrimary_202 : decode b_Exprs_checkPrimary 202 = .ok (.getfield 35, 3) := by decide +kernel
theorem d_Exprs_checkPrimary_205 : decode b_Exprs_checkPrimary 205 = .ok (.iconst 3, 1) := by decide +kernel
theorem d_Exprs_checkPrimary_206 : decode b_Exprs_checkPrimary 206 = .ok (.bipush 60, 2) := by decide +kernel
theorem d_Exprs_checkPrimary_208 : decode b_Exprs_checkPrimary 208 = .ok (.aload_n 0, 1) := by decide +kernel
theorem d_Exprs_checkPrimary_209 : decode b_Exprs_checkPrimary 209 = .ok (.getfield 34, 3) := by decide +kernel
theorem d_Exprs_checkPrimary_212 : decode b_Exprs_checkPrimary 212 = .ok (.getfield 191, 3) := by decide +kernel
theorem d_Exprs_checkPrimary_215 : decode b_Exprs_checkPrimary 215 = .ok (.iadd, 1) := by decide +kernel
theorem d_Exprs_checkPrimary_216 : decode b_Exprs_checkPrimary 216 = .ok (.iconst 1, 1) := by decide +kernel
theorem d_Exprs_checkPrimary_217 : decode b_Exprs_checkPrimary 217 = .ok (.isub, 1) := by decide +kernel
theorem d_Exprs_checkPrimary_218 : decode b_Exprs_checkPrimary 218 = .ok (.iconst 1, 1) := by decide +kernel
theorem d_Exprs_checkPrimary_219 : decode b_Exprs_checkPrimary 219 = .ok (.invokevirtual 94, 3) := by decide +kernel
theorem d_Exprs_checkPrimary_222 : decode b_Exprs_checkPrimary 222 = .ok (.pop, 1) := by decide +kernel
theorem d_Exprs_checkPrimary_223 : decode b_Exprs_checkPrimary 223 = .ok (.iconst 1, 1) := by decide +kernel
theorem d_Exprs_checkPrimary_224 : decode b_Exprs_checkPrimary 224 = .ok (.ireturn, 1) := by decide +kernel
theorem d_Exprs_checkPrimary_225 : decode b_Exprs_checkPrimary 225 = .ok (.aload_n 0, 1) := by decide +kernel
theorem d_Exprs_checkPrimary_226 : decode b_Exprs_checkPrimary 226 = .ok (.iload_n 3, 1) := by decide +kernel
theorem d_Exprs_checkPrimary_227 : decode b_Exprs_checkPrimary 227 = .ok (.invokevirtual 195, 3) := by decide +kernel
theorem ml_Exprs_195 : Cond.methodLink R_Exprs 195 ⟨"PointerHouse$Exprs", "checkName", "(I)I"⟩ ∈ lw_good := lg_right (i := 1215) (by decide +kernel) rfl
theorem d_Exprs_checkPrimary_230 : decode b_Exprs_checkPrimary 230 = .ok (.ireturn, 1) := by decide +kernel
theorem d_Exprs_checkPrimary_231 : decode b_Exprs_checkPrimary 231 = .ok (.aload_n 0, 1) := by decide +kernel
theorem d_Exprs_checkPrimary_232 : decode b_Exprs_checkPrimary 232 = .ok (.iload_n 1, 1) := by decide +kernel
theorem d_Exprs_checkPrimary_233 : decode b_Exprs_checkPrimary 233 = .ok (.iload_n 2, 1) := by decide +kernel
theorem d_Exprs_checkPrimary_234 : decode b_Exprs_checkPrimary 234 = .ok (.invokevirtual 198, 3) := by decide +kernel
theorem ml_Exprs_198 : Cond.methodLink R_Exprs 198 ⟨"PointerHouse$Exprs", "checkCall", "(II)I"⟩ ∈ lw_good := lg_right (i := 1262) (by decide +kernel) rfl
theorem d_Exprs_checkPrimary_237 : decode b_Exprs_checkPrimary 237 = .ok (.ireturn, 1) := by decide +kernel
theorem d_Exprs_checkPrimary_238 : decode b_Exprs_checkPrimary 238 = .ok (.aload_n 0, 1) := by decide +kernel
theorem d_Exprs_checkPrimary_239 : decode b_Exprs_checkPrimary 239 = .ok (.iload_n 1, 1) := by decide +kernel
theorem d_Exprs_checkPrimary_240 : decode b_Exprs_checkPrimary 240 = .ok (.iload_n 2, 1) := by decide +kernel
theorem d_Exprs_checkPrimary_241 : decode b_Exprs_checkPrimary 241 = .ok (.invokevirtual 201, 3) := by decide +kernel
theorem ml_Exprs_201 : Cond.methodLink R_Exprs 201 ⟨"PointerHouse$Exprs", "checkNew", "(II)I"⟩ ∈ lw_good := lg_right (i := 1334) (by decide +kernel) rfl
theorem d_Exprs_checkPrimary_244 : decode b_Exprs_checkPrimary 244 = .ok (.ireturn, 1) := by decide +kernel
theorem d_Exprs_checkPrimary_245 : decode b_Exprs_checkPrimary 245 = .ok (.aload_n 0, 1) := by decide +kernel
theorem d_Exprs_checkPrimary_246 : decode b_Exprs_checkPrimary 246 = .ok (.iload_n 1, 1) := by decide +kernel
theorem d_Exprs_checkPrimary_247 : decode b_Exprs_checkPrimary 247 = .ok (.iload_n 2, 1) := by decide +kernel
theorem d_Exprs_checkPrimary_248 : decode b_Exprs_checkPrimary 248 = .ok (.invokevirtual 204, 3) := by decide +kernel
theorem ml_Exprs_204 : Cond.methodLink R_Exprs 204 ⟨"PointerHouse$Exprs", "checkNewCell", "(II)I"⟩ ∈ lw_good := lg_right (i := 1367) (by decide +kernel) rfl
theorem d_Exprs_checkPrimary_251 : decode b_Exprs_checkPrimary 251 = .ok (.ireturn, 1) := by decide +kernel
theorem d_Exprs_checkPrimary_252 : decode b_Exprs_checkPrimary 252 = .ok (.aload_n 0, 1) := by decide +kernel
theorem d_Exprs_checkPrimary_253 : decode b_Exprs_checkPrimary 253 = .ok (.iload_n 1, 1) := by decide +kernel
theorem d_Exprs_checkPrimary_254 : decode b_Exprs_checkPrimary 254 = .ok (.iload_n 2, 1) := by decide +kernel
theorem d_Exprs_checkPrimary_255 : decode b_Exprs_checkPrimary 255 = .ok (.invokevirtual 207, 3) := by decide +kernel
theorem ml_Exprs_207 : Cond.methodLink R_Exprs 207 ⟨"PointerHouse$Exprs", "checkNewRow", "(II)I"⟩ ∈ lw_good := lg_right (i := 1375) (by decide +kernel) rfl
theorem d_Exprs_checkPrimary_258 : decode b_Exprs_checkPrimary 258 = .ok (.ireturn, 1) := by decide +kernel
theorem d_Exprs_checkPrimary_259 : decode b_Exprs_checkPrimary 259 = .ok (.aload_n 0, 1) := by decide +kernel
theorem d_Exprs_checkPrimary_260 : decode b_Exprs_checkPrimary 260 = .ok (.iload_n 1, 1) := by decide +kernel
theorem d_Exprs_checkPrimary_261 : decode b_Exprs_checkPrimary 261 = .ok (.iload_n 2, 1) := by decide +kernel
theorem d_Exprs_checkPrimary_262 : decode b_Exprs_checkPrimary 262 = .ok (.invokevirtual 210, 3) := by decide +kernel
theorem ml_Exprs_210 : Cond.methodLink R_Exprs 210 ⟨"PointerHouse$Exprs", "checkAddress", "(II)I"⟩ ∈ lw_good := lg_right (i := 1379) (by decide +kernel) rfl
theorem d_Exprs_checkPrimary_265 : decode b_Exprs_checkPrimary 265 = .ok (.ireturn, 1) := by decide +kernel
theorem d_Exprs_checkPrimary_266 : decode b_Exprs_checkPrimary 266 = .ok (.aload_n 0, 1) := by decide +kernel
theorem d_Exprs_checkPrimary_267 : decode b_Exprs_checkPrimary 267 = .ok (.iload_n 1, 1) := by decide +kernel
theorem d_Exprs_checkPrimary_268 : decode b_Exprs_checkPrimary 268 = .ok (.iload_n 2, 1) := by decide +kernel
theorem d_Exprs_checkPrimary_269 : decode b_Exprs_checkPrimary 269 = .ok (.invokevirtual 213, 3) := by decide +kernel
theorem ml_Exprs_213 : Cond.methodLink R_Exprs 213 ⟨"PointerHouse$Exprs", "checkSolid", "(II)I"⟩ ∈ lw_good := lg_right (i := 1424) (by decide +kernel) rfl
theorem d_Exprs_checkPrimary_272 : decode b_Exprs_checkPrimary 272 = .ok (.ireturn, 1) := by decide +kernel
theorem d_Exprs_checkPrimary_273 : decode b_Exprs_checkPrimary 273 = .ok (.aload_n 0, 1) := by decide +kernel
theorem d_Exprs_checkPrimary_274 : decode b_Exprs_checkPrimary 274 = .ok (.iload_n 1, 1) := by decide +kernel
theorem d_Exprs_checkPrimary_275 : decode b_Exprs_checkPrimary 275 = .ok (.iload_n 2, 1) := by decide +kernel
theorem d_Exprs_checkPrimary_276 : decode b_Exprs_checkPrimary 276 = .ok (.invokevirtual 216, 3) := by decide +kernel
theorem ml_Exprs_216 : Cond.methodLink R_Exprs 216 ⟨"PointerHouse$Exprs", "checkSize", "(II)I"⟩ ∈ lw_good := lg_right (i := 1428) (by decide +kernel) rfl
theorem d_Exprs_checkPrimary_279 : decode b_Exprs_checkPrimary 279 = .ok (.ireturn, 1) := by decide +kernel
theorem d_Exprs_checkPrimary_280 : decode b_Exprs_checkPrimary 280 = .ok (.aload_n 0, 1) := by decide +kernel
theorem d_Exprs_checkPrimary_281 : decode b_Exprs_checkPrimary 281 = .ok (.aload_n 0, 1) := by decide +kernel
theorem d_Exprs_checkPrimary_282 : decode b_Exprs_checkPrimary 282 = .ok (.getfield 9, 3) := by decide +kernel
theorem d_Exprs_checkPrimary_285 : decode b_Exprs_checkPrimary 285 = .ok (.getfield 188, 3) := by decide +kernel
theorem fl_Exprs_188 : Cond.fieldLink R_Exprs 188 "PointerHouse$Source" "right" "[I" ∈ lw_good := lg_right (i := 215) (by decide +kernel) rfl
theorem d_Exprs_checkPrimary_288 : decode b_Exprs_checkPrimary 288 = .ok (.iload_n 1, 1) := by decide +kernel
theorem d_Exprs_checkPrimary_289 : decode b_Exprs_checkPrimary 289 = .ok (.iaload, 1) := by decide +kernel
theorem d_Exprs_checkPrimary_290 : decode b_Exprs_checkPrimary 290 = .ok (.iload_n 2, 1) := by decide +kernel
theorem d_Exprs_checkPrimary_291 : decode b_Exprs_checkPrimary 291 = .ok (.iconst 1, 1) := by decide +kernel
theorem d_Exprs_checkPrimary_292 : decode b_Exprs_checkPrimary 292 = .ok (.iadd, 1) := by decide +kernel
theorem d_Exprs_checkPrimary_293 : decode b_Exprs_checkPrimary 293 = .ok (.invokevirtual 53, 3) := by decide +kernel
theorem d_Exprs_checkPrimary_296 : decode b_Exprs_checkPrimary 296 = .ok (.ireturn, 1) := by decide +kernel
abbrev b_Exprs_checkPlace : ByteArray := prog_3_method_12_code
abbrev y_Exprs_checkPlace : MethodName := ⟨R_Exprs, "checkPlace", "(IIIII)I"⟩
theorem co_Exprs_checkPlace : Cond.code y_Exprs_checkPlace b_Exprs_checkPlace 6 (some .int) ∈ lw_good := lg_in (tin_6 _ (List.mem_of_getElem? (i := 198) rfl)) rfl
abbrev w_Exprs_checkPlace : List Cond := Cond.code y_Exprs_checkPlace b_Exprs_checkPlace 6 (some .int) :: lw_good
theorem im_Exprs_checkPlace : Cond.instanceMethod y_Exprs_checkPlace ∈ lw_good := lg_right (i := 1397) (by decide +kernel) rfl
theorem se_Exprs_checkPlace : Cond.selects R_Exprs y_Exprs_checkPlace y_Exprs_checkPlace ∈ lw_good := lg_left (i := 65) (by decide +kernel) rfl
theorem d_Exprs_checkPlace_0 : decode b_Exprs_checkPlace 0 = .ok (.aload_n 0, 1) := by decide +kernel
theorem d_Exprs_checkPlace_1 : decode b_Exprs_checkPlace 1 = .ok (.getfield 9, 3) := by decide +kernel
theorem d_Exprs_checkPlace_4 : decode b_Exprs_checkPlace 4 = .ok (.getfield 124, 3) := by decide +kernel
theorem d_Exprs_checkPlace_7 : decode b_Exprs_checkPlace 7 = .ok (.iload_n 1, 1) := by decide +kernel
theorem d_Exprs_checkPlace_8 : decode b_Exprs_checkPlace 8 = .ok (.iaload, 1) := by decide +kernel
theorem d_Exprs_checkPlace_9 : decode b_Exprs_checkPlace 9 = .ok (.lookupswitch 49 #[(44, 37), (49, 27)], 27) := by decide +kernel
theorem d_Exprs_checkPlace_36 : decode b_Exprs_checkPlace 36 = .ok (.aload_n 0, 1) := by decide +kernel
theorem d_Exprs_checkPlace_37 : decode b_Exprs_checkPlace 37 = .ok (.iload_n 1, 1) := by decide +kernel
theorem d_Exprs_checkPlace_38 : decode b_Exprs_checkPlace 38 = .ok (.iload_n 2, 1) := by decide +kernel
theorem d_Exprs_checkPlace_39 : decode b_Exprs_checkPlace 39 = .ok (.iload_n 3, 1) := by decide +kernel
theorem d_Exprs_checkPlace_40 : decode b_Exprs_checkPlace 40 = .ok (.iload 4, 2) := by decide +kernel
theorem d_Exprs_checkPlace_42 : decode b_Exprs_checkPlace 42 = .ok (.invokevirtual 134, 3) := by decide +kernel
theorem ml_Exprs_134 : Cond.methodLink R_Exprs 134 ⟨"PointerHouse$Exprs", "checkField", "(IIII)I"⟩ ∈ lw_good := lg_right (i := 1399) (by decide +kernel) rfl
theorem d_Exprs_checkPlace_45 : decode b_Exprs_checkPlace 45 = .ok (.ireturn, 1) := by decide +kernel
theorem d_Exprs_checkPlace_46 : decode b_Exprs_checkPlace 46 = .ok (.aload_n 0, 1) := by decide +kernel
theorem d_Exprs_checkPlace_47 : decode b_Exprs_checkPlace 47 = .ok (.iload_n 1, 1) := by decide +kernel
theorem d_Exprs_checkPlace_48 : decode b_Exprs_checkPlace 48 = .ok (.iload_n 2, 1) := by decide +kernel
theorem d_Exprs_checkPlace_49 : decode b_Exprs_checkPlace 49 = .ok (.iload_n 3, 1) := by decide +kernel
theorem d_Exprs_checkPlace_50 : decode b_Exprs_checkPlace 50 = .ok (.iload 4, 2) := by decide +kernel
theorem d_Exprs_checkPlace_52 : decode b_Exprs_checkPlace 52 = .ok (.iload 5, 2) := by decide +kernel
theorem d_Exprs_checkPlace_54 : decode b_Exprs_checkPlace 54 = .ok (.invokevirtual 137, 3) := by decide +kernel
theorem ml_Exprs_137 : Cond.methodLink R_Exprs 137 ⟨"PointerHouse$Exprs", "checkIndex", "(IIIII)I"⟩ ∈ lw_good := lg_right (i := 1415) (by decide +kernel) rfl
theorem d_Exprs_checkPlace_57 : decode b_Exprs_checkPlace 57 = .ok (.ireturn, 1) := by decide +kernel
theorem d_Exprs_checkPlace_58 : decode b_Exprs_checkPlace 58 = .ok (.aload_n 0, 1) := by decide +kernel
theorem d_Exprs_checkPlace_59 : decode b_Exprs_checkPlace 59 = .ok (.iload_n 2, 1) := by decide +kernel
theorem d_Exprs_checkPlace_60 : decode b_Exprs_checkPlace 60 = .ok (.iload_n 3, 1) := by decide +kernel
theorem d_Exprs_checkPlace_61 : decode b_Exprs_checkPlace 61 = .ok (.iload 4, 2) := by decide +kernel
theorem d_Exprs_checkPlace_63 : decode b_Exprs_checkPlace 63 = .ok (.invokevirtual 140, 3) := by decide +kernel
theorem ml_Exprs_140 : Cond.methodLink R_Exprs 140 ⟨"PointerHouse$Exprs", "checkCell", "(III)I"⟩ ∈ lw_good := lg_right (i := 1419) (by decide +kernel) rfl
theorem d_Exprs_checkPlace_66 : decode b_Exprs_checkPlace 66 = .ok (.ireturn, 1) := by decide +kernel
abbrev b_Exprs_checkIs : ByteArray := prog_3_method_18_code
abbrev y_Exprs_checkIs : MethodName := ⟨R_Exprs, "checkIs", "(III)I"⟩
theorem co_Exprs_checkIs : Cond.code y_Exprs_checkIs b_Exprs_checkIs 6 (some .int) ∈ lw_good := lg_in (tin_6 _ (List.mem_of_getElem? (i := 235) rfl)) rfl
abbrev w_Exprs_checkIs : List Cond := Cond.code y_Exprs_checkIs b_Exprs_checkIs 6 (some .int) :: lw_good
theorem im_Exprs_checkIs : Cond.instanceMethod y_Exprs_checkIs ∈ lw_good := lg_right (i := 1434) (by decide +kernel) rfl
theorem se_Exprs_checkIs : Cond.selects R_Exprs y_Exprs_checkIs y_Exprs_checkIs ∈ lw_good := lg_left (i := 73) (by decide +kernel) rfl
theorem d_Exprs_checkIs_0 : decode b_Exprs_checkIs 0 = .ok (.aload_n 0, 1) := by decide +kernel
theorem d_Exprs_checkIs_1 : decode b_Exprs_checkIs 1 = .ok (.getfield 29, 3) := by decide +kernel
theorem d_Exprs_checkIs_4 : decode b_Exprs_checkIs 4 = .ok (.iload_n 2, 1) := by decide +kernel
theorem d_Exprs_checkIs_5 : decode b_Exprs_checkIs 5 = .ok (.invokevirtual 143, 3) := by decide +kernel
theorem ml_Exprs_143 : Cond.methodLink R_Exprs 143 ⟨"PointerHouse$Types", "titleBehind", "(I)I"⟩ ∈ lw_good := lg_right (i := 1344) (by decide +kernel) rfl
theorem d_Exprs_checkIs_8 : decode b_Exprs_checkIs 8 = .ok (.istore 4, 2) := by decide +kernel
theorem d_Exprs_checkIs_10 : decode b_Exprs_checkIs 10 = .ok (.iload 4, 2) := by decide +kernel
theorem d_Exprs_checkIs_12 : decode b_Exprs_checkIs 12 = .ok (.iconst (-1), 1) := by decide +kernel
theorem d_Exprs_checkIs_13 : decode b_Exprs_checkIs 13 = .ok (.if_icmp .eq 18, 3) := by decide +kernel
theorem d_Exprs_checkIs_16 : decode b_Exprs_checkIs 16 = .ok (.aload_n 0, 1) := by decide +kernel
theorem d_Exprs_checkIs_17 : decode b_Exprs_checkIs 17 = .ok (.getfield 15, 3) := by decide +kernel
theorem fl_Exprs_15 : Cond.fieldLink R_Exprs 15 "PointerHouse$Exprs" "items" "LPointerHouse$Items;" ∈ lw_good := lg_right (i := 541) (by decide +kernel) rfl
theorem d_Exprs_checkIs_20 : decode b_Exprs_checkIs 20 = .ok (.getfield 175, 3) := by decide +kernel
theorem fl_Exprs_175 : Cond.fieldLink R_Exprs 175 "PointerHouse$Items" "kind" "[I" ∈ lw_good := lg_right (i := 279) (by decide +kernel) rfl
theorem d_Exprs_checkIs_23 : decode b_Exprs_checkIs 23 = .ok (.iload 4, 2) := by decide +kernel
theorem d_Exprs_checkIs_25 : decode b_Exprs_checkIs 25 = .ok (.iaload, 1) := by decide +kernel
theorem d_Exprs_checkIs_26 : decode b_Exprs_checkIs 26 = .ok (.bipush 11, 2) := by decide +kernel
theorem d_Exprs_checkIs_28 : decode b_Exprs_checkIs 28 = .ok (.if_icmp .eq 14, 3) := by decide +kernel
theorem d_Exprs_checkIs_31 : decode b_Exprs_checkIs 31 = .ok (.aload_n 0, 1) := by decide +kernel
theorem d_Exprs_checkIs_32 : decode b_Exprs_checkIs 32 = .ok (.getfield 35, 3) := by decide +kernel
theorem d_Exprs_checkIs_35 : decode b_Exprs_checkIs 35 = .ok (.iconst 4, 1) := by decide +kernel
theorem d_Exprs_checkIs_36 : decode b_Exprs_checkIs 36 = .ok (.iload_n 3, 1) := by decide +kernel
theorem d_Exprs_checkIs_37 : decode b_Exprs_checkIs 37 = .ok (.invokevirtual 68, 3) := by decide +kernel
theorem d_Exprs_checkIs_40 : decode b_Exprs_checkIs 40 = .ok (.iconst 1, 1) := by decide +kernel
theorem d_Exprs_checkIs_41 : decode b_Exprs_checkIs 41 = .ok (.ireturn, 1) := by decide +kernel
theorem d_Exprs_checkIs_42 : decode b_Exprs_checkIs 42 = .ok (.aload_n 0, 1) := by decide +kernel
theorem d_Exprs_checkIs_43 : decode b_Exprs_checkIs 43 = .ok (.aload_n 0, 1) := by decide +kernel
theorem d_Exprs_checkIs_44 : decode b_Exprs_checkIs 44 = .ok (.getfield 34, 3) := by decide +kernel
theorem d_Exprs_checkIs_47 : decode b_Exprs_checkIs 47 = .ok (.aload_n 0, 1) := by decide +kernel
theorem d_Exprs_checkIs_48 : decode b_Exprs_checkIs 48 = .ok (.getfield 29, 3) := by decide +kernel
theorem d_Exprs_checkIs_51 : decode b_Exprs_checkIs 51 = .ok (.iload_n 2, 1) := by decide +kernel
theorem d_Exprs_checkIs_52 : decode b_Exprs_checkIs 52 = .ok (.invokevirtual 82, 3) := by decide +kernel
theorem d_Exprs_checkIs_55 : decode b_Exprs_checkIs 55 = .ok (.invokevirtual 115, 3) := by decide +kernel
theorem d_Exprs_checkIs_58 : decode b_Exprs_checkIs 58 = .ok (.iconst 5, 1) := by decide +kernel
theorem d_Exprs_checkIs_59 : decode b_Exprs_checkIs 59 = .ok (.iload_n 3, 1) := by decide +kernel
theorem d_Exprs_checkIs_60 : decode b_Exprs_checkIs 60 = .ok (.invokevirtual 111, 3) := by decide +kernel
theorem d_Exprs_checkIs_63 : decode b_Exprs_checkIs 63 = .ok (.aload_n 0, 1) := by decide +kernel
theorem d_Exprs_checkIs_64 : decode b_Exprs_checkIs 64 = .ok (.getfield 19, 3) := by decide +kernel
theorem fl_Exprs_19 : Cond.fieldLink R_Exprs 19 "PointerHouse$Exprs" "heads" "LPointerHouse$Heads;" ∈ lw_good := lg_right (i := 542) (by decide +kernel) rfl
theorem d_Exprs_checkIs_67 : decode b_Exprs_checkIs 67 = .ok (.iload 4, 2) := by decide +kernel
theorem d_Exprs_checkIs_69 : decode b_Exprs_checkIs 69 = .ok (.aload_n 0, 1) := by decide +kernel
theorem d_Exprs_checkIs_70 : decode b_Exprs_checkIs 70 = .ok (.getfield 9, 3) := by decide +kernel
theorem d_Exprs_checkIs_73 : decode b_Exprs_checkIs 73 = .ok (.aload_n 0, 1) := by decide +kernel
theorem d_Exprs_checkIs_74 : decode b_Exprs_checkIs 74 = .ok (.getfield 9, 3) := by decide +kernel
theorem d_Exprs_checkIs_77 : decode b_Exprs_checkIs 77 = .ok (.getfield 146, 3) := by decide +kernel
theorem d_Exprs_checkIs_80 : decode b_Exprs_checkIs 80 = .ok (.iload_n 1, 1) := by decide +kernel
theorem d_Exprs_checkIs_81 : decode b_Exprs_checkIs 81 = .ok (.iaload, 1) := by decide +kernel
theorem d_Exprs_checkIs_82 : decode b_Exprs_checkIs 82 = .ok (.iconst 1, 1) := by decide +kernel
theorem d_Exprs_checkIs_83 : decode b_Exprs_checkIs 83 = .ok (.iadd, 1) := by decide +kernel
theorem d_Exprs_checkIs_84 : decode b_Exprs_checkIs 84 = .ok (.invokevirtual 149, 3) := by decide +kernel
theorem d_Exprs_checkIs_87 : decode b_Exprs_checkIs 87 = .ok (.invokevirtual 153, 3) := by decide +kernel
theorem ml_Exprs_153 : Cond.methodLink R_Exprs 153 ⟨"PointerHouse$Heads", "findPart", "(IJ)I"⟩ ∈ lw_good := lg_right (i := 1358) (by decide +kernel) rfl
theorem d_Exprs_checkIs_90 : decode b_Exprs_checkIs 90 = .ok (.istore 5, 2) := by decide +kernel
theorem d_Exprs_checkIs_92 : decode b_Exprs_checkIs 92 = .ok (.aload_n 0, 1) := by decide +kernel
theorem d_Exprs_checkIs_93 : decode b_Exprs_checkIs 93 = .ok (.iload 5, 2) := by decide +kernel
theorem d_Exprs_checkIs_95 : decode b_Exprs_checkIs 95 = .ok (.iconst (-1), 1) := by decide +kernel
theorem d_Exprs_checkIs_96 : decode b_Exprs_checkIs 96 = .ok (.if_icmp .eq 7, 3) := by decide +kernel
theorem d_Exprs_checkIs_99 : decode b_Exprs_checkIs 99 = .ok (.iconst 1, 1) := by decide +kernel
theorem d_Exprs_checkIs_100 : decode b_Exprs_checkIs 100 = .ok (.goto 4, 3) := by decide +kernel
theorem d_Exprs_checkIs_103 : decode b_Exprs_checkIs 103 = .ok (.iconst 0, 1) := by decide +kernel
theorem d_Exprs_checkIs_104 : decode b_Exprs_checkIs 104 = .ok (.iconst 3, 1) := by decide +kernel
theorem d_Exprs_checkIs_105 : decode b_Exprs_checkIs 105 = .ok (.aload_n 0, 1) := by decide +kernel
theorem d_Exprs_checkIs_106 : decode b_Exprs_checkIs 106 = .ok (.getfield 9, 3) := by decide +kernel
theorem d_Exprs_checkIs_109 : decode b_Exprs_checkIs 109 = .ok (.aload_n 0, 1) := by decide +kernel
theorem d_Exprs_checkIs_110 : decode b_Exprs_checkIs 110 = .ok (.getfield 9, 3) := by decide +kernel
theorem d_Exprs_checkIs_113 : decode b_Exprs_checkIs 113 = .ok (.getfield 146, 3) := by decide +kernel
theorem d_Exprs_checkIs_116 : decode b_Exprs_checkIs 116 = .ok (.iload_n 1, 1) := by decide +kernel
theorem d_Exprs_checkIs_117 : decode b_Exprs_checkIs 117 = .ok (.iaload, 1) := by decide +kernel
theorem d_Exprs_checkIs_118 : decode b_Exprs_checkIs 118 = .ok (.iconst 1, 1) := by decide +kernel
theorem d_Exprs_checkIs_119 : decode b_Exprs_checkIs 119 = .ok (.iadd, 1) := by decide +kernel
theorem d_Exprs_checkIs_120 : decode b_Exprs_checkIs 120 = .ok (.invokevirtual 157, 3) := by decide +kernel
theorem d_Exprs_checkIs_123 : decode b_Exprs_checkIs 123 = .ok (.invokevirtual 111, 3) := by decide +kernel
theorem d_Exprs_checkIs_126 : decode b_Exprs_checkIs 126 = .ok (.aload_n 0, 1) := by decide +kernel
theorem d_Exprs_checkIs_127 : decode b_Exprs_checkIs 127 = .ok (.iload_n 2, 1) := by decide +kernel
theorem d_Exprs_checkIs_128 : decode b_Exprs_checkIs 128 = .ok (.invokevirtual 160, 3) := by decide +kernel
theorem ml_Exprs_160 : Cond.methodLink R_Exprs 160 ⟨"PointerHouse$Exprs", "countNull", "(I)V"⟩ ∈ lw_good := lg_right (i := 1403) (by decide +kernel) rfl
theorem d_Exprs_checkIs_131 : decode b_Exprs_checkIs 131 = .ok (.aload_n 0, 1) := by decide +kernel
theorem d_Exprs_checkIs_132 : decode b_Exprs_checkIs 132 = .ok (.getfield 35, 3) := by decide +kernel
theorem d_Exprs_checkIs_135 : decode b_Exprs_checkIs 135 = .ok (.bipush 22, 2) := by decide +kernel
theorem d_Exprs_checkIs_137 : decode b_Exprs_checkIs 137 = .ok (.iload 5, 2) := by decide +kernel
theorem d_Exprs_checkIs_139 : decode b_Exprs_checkIs 139 = .ok (.iconst 1, 1) := by decide +kernel
theorem d_Exprs_checkIs_140 : decode b_Exprs_checkIs 140 = .ok (.iadd, 1) := by decide +kernel
theorem d_Exprs_checkIs_141 : decode b_Exprs_checkIs 141 = .ok (.iconst 0, 1) := by decide +kernel
theorem d_Exprs_checkIs_142 : decode b_Exprs_checkIs 142 = .ok (.invokevirtual 94, 3) := by decide +kernel
theorem d_Exprs_checkIs_145 : decode b_Exprs_checkIs 145 = .ok (.pop, 1) := by decide +kernel
theorem d_Exprs_checkIs_146 : decode b_Exprs_checkIs 146 = .ok (.iconst 1, 1) := by decide +kernel
theorem d_Exprs_checkIs_147 : decode b_Exprs_checkIs 147 = .ok (.ireturn, 1) := by decide +kernel
abbrev b_Exprs_checkIndex : ByteArray := prog_3_method_16_code
abbrev y_Exprs_checkIndex : MethodName := ⟨R_Exprs, "checkIndex", "(IIIII)I"⟩
theorem co_Exprs_checkIndex : Cond.code y_Exprs_checkIndex b_Exprs_checkIndex 10 (some .int) ∈ lw_good := lg_in (tin_6 _ (List.mem_of_getElem? (i := 218) rfl)) rfl
abbrev w_Exprs_checkIndex : List Cond := Cond.code y_Exprs_checkIndex b_Exprs_checkIndex 10 (some .int) :: lw_good
theorem im_Exprs_checkIndex : Cond.instanceMethod y_Exprs_checkIndex ∈ lw_good := lg_right (i := 1417) (by decide +kernel) rfl
theorem se_Exprs_checkIndex : Cond.selects R_Exprs y_Exprs_checkIndex y_Exprs_checkIndex ∈ lw_good := lg_left (i := 69) (by decide +kernel) rfl
theorem d_Exprs_checkIndex_0 : decode b_Exprs_checkIndex 0 = .ok (.aload_n 0, 1) := by decide +kernel
theorem d_Exprs_checkIndex_1 : decode b_Exprs_checkIndex 1 = .ok (.getfield 9, 3) := by decide +kernel
theorem d_Exprs_checkIndex_4 : decode b_Exprs_checkIndex 4 = .ok (.getfield 188, 3) := by decide +kernel
theorem d_Exprs_checkIndex_7 : decode b_Exprs_checkIndex 7 = .ok (.iload_n 1, 1) := by decide +kernel
theorem d_Exprs_checkIndex_8 : decode b_Exprs_checkIndex 8 = .ok (.iaload, 1) := by decide +kernel
theorem d_Exprs_checkIndex_9 : decode b_Exprs_checkIndex 9 = .ok (.istore 6, 2) := by decide +kernel
theorem d_Exprs_checkIndex_11 : decode b_Exprs_checkIndex 11 = .ok (.aload_n 0, 1) := by decide +kernel
theorem d_Exprs_checkIndex_12 : decode b_Exprs_checkIndex 12 = .ok (.iload 6, 2) := by decide +kernel
theorem d_Exprs_checkIndex_14 : decode b_Exprs_checkIndex 14 = .ok (.iload 5, 2) := by decide +kernel
theorem d_Exprs_checkIndex_16 : decode b_Exprs_checkIndex 16 = .ok (.iconst 1, 1) := by decide +kernel
theorem d_Exprs_checkIndex_17 : decode b_Exprs_checkIndex 17 = .ok (.iadd, 1) := by decide +kernel
theorem d_Exprs_checkIndex_18 : decode b_Exprs_checkIndex 18 = .ok (.invokevirtual 53, 3) := by decide +kernel
theorem d_Exprs_checkIndex_21 : decode b_Exprs_checkIndex 21 = .ok (.istore 7, 2) := by decide +kernel
theorem d_Exprs_checkIndex_23 : decode b_Exprs_checkIndex 23 = .ok (.aload_n 0, 1) := by decide +kernel
theorem d_Exprs_checkIndex_24 : decode b_Exprs_checkIndex 24 = .ok (.getfield 29, 3) := by decide +kernel
theorem d_Exprs_checkIndex_27 : decode b_Exprs_checkIndex 27 = .ok (.iload_n 2, 1) := by decide +kernel
theorem d_Exprs_checkIndex_28 : decode b_Exprs_checkIndex 28 = .ok (.invokevirtual 74, 3) := by decide +kernel
theorem d_Exprs_checkIndex_31 : decode b_Exprs_checkIndex 31 = .ok (.iconst 5, 1) := by decide +kernel
theorem d_Exprs_checkIndex_32 : decode b_Exprs_checkIndex 32 = .ok (.if_icmp .eq 14, 3) := by decide +kernel
theorem d_Exprs_checkIndex_35 : decode b_Exprs_checkIndex 35 = .ok (.aload_n 0, 1) := by decide +kernel
theorem d_Exprs_checkIndex_36 : decode b_Exprs_checkIndex 36 = .ok (.getfield 35, 3) := by decide +kernel
theorem d_Exprs_checkIndex_39 : decode b_Exprs_checkIndex 39 = .ok (.iconst 4, 1) := by decide +kernel
theorem d_Exprs_checkIndex_40 : decode b_Exprs_checkIndex 40 = .ok (.iload_n 3, 1) := by decide +kernel
theorem d_Exprs_checkIndex_41 : decode b_Exprs_checkIndex 41 = .ok (.invokevirtual 68, 3) := by decide +kernel
theorem d_Exprs_checkIndex_44 : decode b_Exprs_checkIndex 44 = .ok (.iconst 1, 1) := by decide +kernel
theorem d_Exprs_checkIndex_45 : decode b_Exprs_checkIndex 45 = .ok (.ireturn, 1) := by decide +kernel
theorem d_Exprs_checkIndex_46 : decode b_Exprs_checkIndex 46 = .ok (.aload_n 0, 1) := by decide +kernel
theorem d_Exprs_checkIndex_47 : decode b_Exprs_checkIndex 47 = .ok (.aload_n 0, 1) := by decide +kernel
theorem d_Exprs_checkIndex_48 : decode b_Exprs_checkIndex 48 = .ok (.getfield 34, 3) := by decide +kernel
theorem d_Exprs_checkIndex_51 : decode b_Exprs_checkIndex 51 = .ok (.aload_n 0, 1) := by decide +kernel
theorem d_Exprs_checkIndex_52 : decode b_Exprs_checkIndex 52 = .ok (.getfield 29, 3) := by decide +kernel
theorem d_Exprs_checkIndex_55 : decode b_Exprs_checkIndex 55 = .ok (.iload_n 2, 1) := by decide +kernel
theorem d_Exprs_checkIndex_56 : decode b_Exprs_checkIndex 56 = .ok (.invokevirtual 82, 3) := by decide +kernel
theorem d_Exprs_checkIndex_59 : decode b_Exprs_checkIndex 59 = .ok (.invokevirtual 115, 3) := by decide +kernel
theorem d_Exprs_checkIndex_62 : decode b_Exprs_checkIndex 62 = .ok (.iconst 5, 1) := by decide +kernel
theorem d_Exprs_checkIndex_63 : decode b_Exprs_checkIndex 63 = .ok (.iload_n 3, 1) := by decide +kernel
theorem d_Exprs_checkIndex_64 : decode b_Exprs_checkIndex 64 = .ok (.invokevirtual 111, 3) := by decide +kernel
theorem d_Exprs_checkIndex_67 : decode b_Exprs_checkIndex 67 = .ok (.aload_n 0, 1) := by decide +kernel
theorem d_Exprs_checkIndex_68 : decode b_Exprs_checkIndex 68 = .ok (.iload 7, 2) := by decide +kernel
theorem d_Exprs_checkIndex_70 : decode b_Exprs_checkIndex 70 = .ok (.iconst 1, 1) := by decide +kernel
theorem d_Exprs_checkIndex_71 : decode b_Exprs_checkIndex 71 = .ok (.if_icmp .ne 7, 3) := by decide +kernel
theorem d_Exprs_checkIndex_74 : decode b_Exprs_checkIndex 74 = .ok (.iconst 1, 1) := by decide +kernel
theorem d_Exprs_checkIndex_75 : decode b_Exprs_checkIndex 75 = .ok (.goto 4, 3) := by decide +kernel
theorem d_Exprs_checkIndex_78 : decode b_Exprs_checkIndex 78 = .ok (.iconst 0, 1) := by decide +kernel
theorem d_Exprs_checkIndex_79 : decode b_Exprs_checkIndex 79 = .ok (.iconst 4, 1) := by decide +kernel
theorem d_Exprs_checkIndex_80 : decode b_Exprs_checkIndex 80 = .ok (.aload_n 0, 1) := by decide +kernel
theorem d_Exprs_checkIndex_81 : decode b_Exprs_checkIndex 81 = .ok (.getfield 9, 3) := by decide +kernel
theorem d_Exprs_checkIndex_84 : decode b_Exprs_checkIndex 84 = .ok (.iload 6, 2) := by decide +kernel
theorem d_Exprs_checkIndex_86 : decode b_Exprs_checkIndex 86 = .ok (.invokevirtual 64, 3) := by decide +kernel
theorem d_Exprs_checkIndex_89 : decode b_Exprs_checkIndex 89 = .ok (.invokevirtual 111, 3) := by decide +kernel
theorem d_Exprs_checkIndex_92 : decode b_Exprs_checkIndex 92 = .ok (.aload_n 0, 1) := by decide +kernel
theorem d_Exprs_checkIndex_93 : decode b_Exprs_checkIndex 93 = .ok (.getfield 35, 3) := by decide +kernel
theorem d_Exprs_checkIndex_96 : decode b_Exprs_checkIndex 96 = .ok (.iconst 4, 1) := by decide +kernel
theorem d_Exprs_checkIndex_97 : decode b_Exprs_checkIndex 97 = .ok (.invokevirtual 176, 3) := by decide +kernel
theorem ml_Exprs_176 : Cond.methodLink R_Exprs 176 ⟨"PointerHouse$Code", "tally", "(I)V"⟩ ∈ lw_good := lg_right (i := 1353) (by decide +kernel) rfl
theorem d_Exprs_checkIndex_100 : decode b_Exprs_checkIndex 100 = .ok (.aload_n 0, 1) := by decide +kernel
theorem d_Exprs_checkIndex_101 : decode b_Exprs_checkIndex 101 = .ok (.getfield 29, 3) := by decide +kernel
theorem d_Exprs_checkIndex_104 : decode b_Exprs_checkIndex 104 = .ok (.iload_n 2, 1) := by decide +kernel
theorem d_Exprs_checkIndex_105 : decode b_Exprs_checkIndex 105 = .ok (.invokevirtual 79, 3) := by decide +kernel
theorem d_Exprs_checkIndex_108 : decode b_Exprs_checkIndex 108 = .ok (.istore 8, 2) := by decide +kernel
theorem d_Exprs_checkIndex_110 : decode b_Exprs_checkIndex 110 = .ok (.iload 4, 2) := by decide +kernel
theorem d_Exprs_checkIndex_112 : decode b_Exprs_checkIndex 112 = .ok (.ifCond .ne 8, 3) := by decide +kernel
theorem d_Exprs_checkIndex_115 : decode b_Exprs_checkIndex 115 = .ok (.bipush 30, 2) := by decide +kernel
theorem d_Exprs_checkIndex_117 : decode b_Exprs_checkIndex 117 = .ok (.goto 16, 3) := by decide +kernel
theorem d_Exprs_checkIndex_120 : decode b_Exprs_checkIndex 120 = .ok (.iload 4, 2) := by decide +kernel
theorem d_Exprs_checkIndex_122 : decode b_Exprs_checkIndex 122 = .ok (.iconst 1, 1) := by decide +kernel
theorem d_Exprs_checkIndex_123 : decode b_Exprs_checkIndex 123 = .ok (.if_icmp .ne 8, 3) := by decide +kernel
theorem d_Exprs_checkIndex_126 : decode b_Exprs_checkIndex 126 = .ok (.bipush 31, 2) := by decide +kernel
theorem d_Exprs_checkIndex_128 : decode b_Exprs_checkIndex 128 = .ok (.goto 5, 3) := by decide +kernel
theorem d_Exprs_checkIndex_131 : decode b_Exprs_checkIndex 131 = .ok (.bipush 32, 2) := by decide +kernel
theorem d_Exprs_checkIndex_133 : decode b_Exprs_checkIndex 133 = .ok (.istore 9, 2) := by decide +kernel
theorem d_Exprs_checkIndex_135 : decode b_Exprs_checkIndex 135 = .ok (.aload_n 0, 1) := by decide +kernel
theorem d_Exprs_checkIndex_136 : decode b_Exprs_checkIndex 136 = .ok (.getfield 35, 3) := by decide +kernel
theorem d_Exprs_checkIndex_139 : decode b_Exprs_checkIndex 139 = .ok (.iload 9, 2) := by decide +kernel
theorem d_Exprs_checkIndex_141 : decode b_Exprs_checkIndex 141 = .ok (.iconst 0, 1) := by decide +kernel
theorem d_Exprs_checkIndex_142 : decode b_Exprs_checkIndex 142 = .ok (.aload_n 0, 1) := by decide +kernel
theorem d_Exprs_checkIndex_143 : decode b_Exprs_checkIndex 143 = .ok (.getfield 29, 3) := by decide +kernel
theorem d_Exprs_checkIndex_146 : decode b_Exprs_checkIndex 146 = .ok (.iload 8, 2) := by decide +kernel
theorem d_Exprs_checkIndex_148 : decode b_Exprs_checkIndex 148 = .ok (.invokevirtual 179, 3) := by decide +kernel
theorem ml_Exprs_179 : Cond.methodLink R_Exprs 179 ⟨"PointerHouse$Types", "wordsOf", "(I)I"⟩ ∈ lw_good := lg_right (i := 1240) (by decide +kernel) rfl
theorem d_Exprs_checkIndex_151 : decode b_Exprs_checkIndex 151 = .ok (.invokevirtual 94, 3) := by decide +kernel
theorem d_Exprs_checkIndex_154 : decode b_Exprs_checkIndex 154 = .ok (.pop, 1) := by decide +kernel
theorem d_Exprs_checkIndex_155 : decode b_Exprs_checkIndex 155 = .ok (.iload 8, 2) := by decide +kernel
theorem d_Exprs_checkIndex_157 : decode b_Exprs_checkIndex 157 = .ok (.ireturn, 1) := by decide +kernel
abbrev b_Exprs_checkField : ByteArray := prog_3_method_13_code
abbrev y_Exprs_checkField : MethodName := ⟨R_Exprs, "checkField", "(IIII)I"⟩
theorem co_Exprs_checkField : Cond.code y_Exprs_checkField b_Exprs_checkField 8 (some .int) ∈ lw_good := lg_in (tin_6 _ (List.mem_of_getElem? (i := 202) rfl)) rfl
abbrev w_Exprs_checkField : List Cond := Cond.code y_Exprs_checkField b_Exprs_checkField 8 (some .int) :: lw_good
theorem im_Exprs_checkField : Cond.instanceMethod y_Exprs_checkField ∈ lw_good := lg_right (i := 1401) (by decide +kernel) rfl
theorem se_Exprs_checkField : Cond.selects R_Exprs y_Exprs_checkField y_Exprs_checkField ∈ lw_good := lg_left (i := 66) (by decide +kernel) rfl
theorem d_Exprs_checkField_0 : decode b_Exprs_checkField 0 = .ok (.aload_n 0, 1) := by decide +kernel
theorem d_Exprs_checkField_1 : decode b_Exprs_checkField 1 = .ok (.getfield 29, 3) := by decide +kernel
theorem d_Exprs_checkField_4 : decode b_Exprs_checkField 4 = .ok (.iload_n 2, 1) := by decide +kernel
theorem d_Exprs_checkField_5 : decode b_Exprs_checkField 5 = .ok (.invokevirtual 143, 3) := by decide +kernel
theorem d_Exprs_checkField_8 : decode b_Exprs_checkField 8 = .ok (.istore 5, 2) := by decide +kernel
theorem d_Exprs_checkField_10 : decode b_Exprs_checkField 10 = .ok (.iload 5, 2) := by decide +kernel
theorem d_Exprs_checkField_12 : decode b_Exprs_checkField 12 = .ok (.iconst (-1), 1) := by decide +kernel
theorem d_Exprs_checkField_13 : decode b_Exprs_checkField 13 = .ok (.if_icmp .ne 14, 3) := by decide +kernel
theorem d_Exprs_checkField_16 : decode b_Exprs_checkField 16 = .ok (.aload_n 0, 1) := by decide +kernel
theorem d_Exprs_checkField_17 : decode b_Exprs_checkField 17 = .ok (.getfield 35, 3) := by decide +kernel
theorem d_Exprs_checkField_20 : decode b_Exprs_checkField 20 = .ok (.iconst 4, 1) := by decide +kernel
theorem d_Exprs_checkField_21 : decode b_Exprs_checkField 21 = .ok (.iload_n 3, 1) := by decide +kernel
theorem d_Exprs_checkField_22 : decode b_Exprs_checkField 22 = .ok (.invokevirtual 68, 3) := by decide +kernel
theorem d_Exprs_checkField_25 : decode b_Exprs_checkField 25 = .ok (.iconst 1, 1) := by decide +kernel
theorem d_Exprs_checkField_26 : decode b_Exprs_checkField 26 = .ok (.ireturn, 1) := by decide +kernel
theorem d_Exprs_checkField_27 : decode b_Exprs_checkField 27 = .ok (.aload_n 0, 1) := by decide +kernel
theorem d_Exprs_checkField_28 : decode b_Exprs_checkField 28 = .ok (.aload_n 0, 1) := by decide +kernel
theorem d_Exprs_checkField_29 : decode b_Exprs_checkField 29 = .ok (.getfield 34, 3) := by decide +kernel
theorem d_Exprs_checkField_32 : decode b_Exprs_checkField 32 = .ok (.aload_n 0, 1) := by decide +kernel
theorem d_Exprs_checkField_33 : decode b_Exprs_checkField 33 = .ok (.getfield 29, 3) := by decide +kernel
theorem d_Exprs_checkField_36 : decode b_Exprs_checkField 36 = .ok (.iload_n 2, 1) := by decide +kernel
theorem d_Exprs_checkField_37 : decode b_Exprs_checkField 37 = .ok (.invokevirtual 82, 3) := by decide +kernel
theorem d_Exprs_checkField_40 : decode b_Exprs_checkField 40 = .ok (.invokevirtual 115, 3) := by decide +kernel
theorem d_Exprs_checkField_43 : decode b_Exprs_checkField 43 = .ok (.iconst 5, 1) := by decide +kernel
theorem d_Exprs_checkField_44 : decode b_Exprs_checkField 44 = .ok (.iload_n 3, 1) := by decide +kernel
theorem d_Exprs_checkField_45 : decode b_Exprs_checkField 45 = .ok (.invokevirtual 111, 3) := by decide +kernel
theorem d_Exprs_checkField_48 : decode b_Exprs_checkField 48 = .ok (.aload_n 0, 1) := by decide +kernel
theorem d_Exprs_checkField_49 : decode b_Exprs_checkField 49 = .ok (.getfield 19, 3) := by decide +kernel
theorem d_Exprs_checkField_52 : decode b_Exprs_checkField 52 = .ok (.iload 5, 2) := by decide +kernel
theorem d_Exprs_checkField_54 : decode b_Exprs_checkField 54 = .ok (.aload_n 0, 1) := by decide +kernel
theorem d_Exprs_checkField_55 : decode b_Exprs_checkField 55 = .ok (.getfield 9, 3) := by decide +kernel
theorem d_Exprs_checkField_58 : decode b_Exprs_checkField 58 = .ok (.aload_n 0, 1) := by decide +kernel
theorem d_Exprs_checkField_59 : decode b_Exprs_checkField 59 = .ok (.getfield 9, 3) := by decide +kernel
theorem d_Exprs_checkField_62 : decode b_Exprs_checkField 62 = .ok (.getfield 146, 3) := by decide +kernel
theorem d_Exprs_checkField_65 : decode b_Exprs_checkField 65 = .ok (.iload_n 1, 1) := by decide +kernel
theorem d_Exprs_checkField_66 : decode b_Exprs_checkField 66 = .ok (.iaload, 1) := by decide +kernel
theorem d_Exprs_checkField_67 : decode b_Exprs_checkField 67 = .ok (.iconst 1, 1) := by decide +kernel
theorem d_Exprs_checkField_68 : decode b_Exprs_checkField 68 = .ok (.iadd, 1) := by decide +kernel
theorem d_Exprs_checkField_69 : decode b_Exprs_checkField 69 = .ok (.invokevirtual 149, 3) := by decide +kernel
theorem d_Exprs_checkField_72 : decode b_Exprs_checkField 72 = .ok (.invokevirtual 153, 3) := by decide +kernel
theorem d_Exprs_checkField_75 : decode b_Exprs_checkField 75 = .ok (.istore 6, 2) := by decide +kernel
theorem d_Exprs_checkField_77 : decode b_Exprs_checkField 77 = .ok (.iload 6, 2) := by decide +kernel
theorem d_Exprs_checkField_79 : decode b_Exprs_checkField 79 = .ok (.iconst (-1), 1) := by decide +kernel
theorem d_Exprs_checkField_80 : decode b_Exprs_checkField 80 = .ok (.if_icmp .ne 31, 3) := by decide +kernel
theorem d_Exprs_checkField_83 : decode b_Exprs_checkField 83 = .ok (.aload_n 0, 1) := by decide +kernel
theorem d_Exprs_checkField_84 : decode b_Exprs_checkField 84 = .ok (.getfield 35, 3) := by decide +kernel
theorem d_Exprs_checkField_87 : decode b_Exprs_checkField 87 = .ok (.iconst 3, 1) := by decide +kernel
theorem d_Exprs_checkField_88 : decode b_Exprs_checkField 88 = .ok (.aload_n 0, 1) := by decide +kernel
theorem d_Exprs_checkField_89 : decode b_Exprs_checkField 89 = .ok (.getfield 9, 3) := by decide +kernel
theorem d_Exprs_checkField_92 : decode b_Exprs_checkField 92 = .ok (.aload_n 0, 1) := by decide +kernel
theorem d_Exprs_checkField_93 : decode b_Exprs_checkField 93 = .ok (.getfield 9, 3) := by decide +kernel
theorem d_Exprs_checkField_96 : decode b_Exprs_checkField 96 = .ok (.getfield 146, 3) := by decide +kernel
theorem d_Exprs_checkField_99 : decode b_Exprs_checkField 99 = .ok (.iload_n 1, 1) := by decide +kernel
theorem d_Exprs_checkField_100 : decode b_Exprs_checkField 100 = .ok (.iaload, 1) := by decide +kernel
theorem d_Exprs_checkField_101 : decode b_Exprs_checkField 101 = .ok (.iconst 1, 1) := by decide +kernel
theorem d_Exprs_checkField_102 : decode b_Exprs_checkField 102 = .ok (.iadd, 1) := by decide +kernel
theorem d_Exprs_checkField_103 : decode b_Exprs_checkField 103 = .ok (.invokevirtual 157, 3) := by decide +kernel
theorem d_Exprs_checkField_106 : decode b_Exprs_checkField 106 = .ok (.invokevirtual 68, 3) := by decide +kernel
theorem d_Exprs_checkField_109 : decode b_Exprs_checkField 109 = .ok (.iconst 1, 1) := by decide +kernel
theorem d_Exprs_checkField_110 : decode b_Exprs_checkField 110 = .ok (.ireturn, 1) := by decide +kernel
theorem d_Exprs_checkField_111 : decode b_Exprs_checkField 111 = .ok (.aload_n 0, 1) := by decide +kernel
theorem d_Exprs_checkField_112 : decode b_Exprs_checkField 112 = .ok (.iload_n 2, 1) := by decide +kernel
theorem d_Exprs_checkField_113 : decode b_Exprs_checkField 113 = .ok (.invokevirtual 160, 3) := by decide +kernel
theorem d_Exprs_checkField_116 : decode b_Exprs_checkField 116 = .ok (.aload_n 0, 1) := by decide +kernel
theorem d_Exprs_checkField_117 : decode b_Exprs_checkField 117 = .ok (.getfield 29, 3) := by decide +kernel
theorem d_Exprs_checkField_120 : decode b_Exprs_checkField 120 = .ok (.aload_n 0, 1) := by decide +kernel
theorem d_Exprs_checkField_121 : decode b_Exprs_checkField 121 = .ok (.getfield 15, 3) := by decide +kernel
theorem d_Exprs_checkField_124 : decode b_Exprs_checkField 124 = .ok (.iload 5, 2) := by decide +kernel
theorem d_Exprs_checkField_126 : decode b_Exprs_checkField 126 = .ok (.iload 6, 2) := by decide +kernel
theorem d_Exprs_checkField_128 : decode b_Exprs_checkField 128 = .ok (.invokevirtual 164, 3) := by decide +kernel
theorem ml_Exprs_164 : Cond.methodLink R_Exprs 164 ⟨"PointerHouse$Items", "typeOfPart", "(II)I"⟩ ∈ lw_good := lg_right (i := 1276) (by decide +kernel) rfl
theorem d_Exprs_checkField_131 : decode b_Exprs_checkField 131 = .ok (.aload_n 0, 1) := by decide +kernel
theorem d_Exprs_checkField_132 : decode b_Exprs_checkField 132 = .ok (.getfield 29, 3) := by decide +kernel
theorem d_Exprs_checkField_135 : decode b_Exprs_checkField 135 = .ok (.iload_n 2, 1) := by decide +kernel
theorem d_Exprs_checkField_136 : decode b_Exprs_checkField 136 = .ok (.invokevirtual 169, 3) := by decide +kernel
theorem ml_Exprs_169 : Cond.methodLink R_Exprs 169 ⟨"PointerHouse$Types", "regionsBehind", "(I)I"⟩ ∈ lw_good := lg_right (i := 1359) (by decide +kernel) rfl
theorem d_Exprs_checkField_139 : decode b_Exprs_checkField 139 = .ok (.iconst 1, 1) := by decide +kernel
theorem d_Exprs_checkField_140 : decode b_Exprs_checkField 140 = .ok (.invokevirtual 172, 3) := by decide +kernel
theorem ml_Exprs_172 : Cond.methodLink R_Exprs 172 ⟨"PointerHouse$Types", "told", "(III)I"⟩ ∈ lw_good := lg_right (i := 1277) (by decide +kernel) rfl
theorem d_Exprs_checkField_143 : decode b_Exprs_checkField 143 = .ok (.istore 7, 2) := by decide +kernel
theorem d_Exprs_checkField_145 : decode b_Exprs_checkField 145 = .ok (.aload_n 0, 1) := by decide +kernel
theorem d_Exprs_checkField_146 : decode b_Exprs_checkField 146 = .ok (.getfield 15, 3) := by decide +kernel
theorem d_Exprs_checkField_149 : decode b_Exprs_checkField 149 = .ok (.getfield 175, 3) := by decide +kernel
theorem d_Exprs_checkField_152 : decode b_Exprs_checkField 152 = .ok (.iload 5, 2) := by decide +kernel
theorem d_Exprs_checkField_154 : decode b_Exprs_checkField 154 = .ok (.iaload, 1) := by decide +kernel
theorem d_Exprs_checkField_155 : decode b_Exprs_checkField 155 = .ok (.bipush 11, 2) := by decide +kernel
theorem d_Exprs_checkField_157 : decode b_Exprs_checkField 157 = .ok (.if_icmp .ne 69, 3) := by decide +kernel
theorem d_Exprs_checkField_160 : decode b_Exprs_checkField 160 = .ok (.aload_n 0, 1) := by decide +kernel
theorem d_Exprs_checkField_161 : decode b_Exprs_checkField 161 = .ok (.iload 4, 2) := by decide +kernel
theorem d_Exprs_checkField_163 : decode b_Exprs_checkField 163 = .ok (.iconst 1, 1) := by decide +kernel
theorem d_Exprs_checkField_164 : decode b_Exprs_checkField 164 = .ok (.if_icmp .eq 7, 3) := by decide +kernel
theorem d_Exprs_checkField_167 : decode b_Exprs_checkField 167 = .ok (.iconst 1, 1) := by decide +kernel
theorem d_Exprs_checkField_168 : decode b_Exprs_checkField 168 = .ok (.goto 4, 3) := by decide +kernel
theorem d_Exprs_checkField_171 : decode b_Exprs_checkField 171 = .ok (.iconst 0, 1) := by decide +kernel
theorem d_Exprs_checkField_172 : decode b_Exprs_checkField 172 = .ok (.iconst 4, 1) := by decide +kernel
theorem d_Exprs_checkField_173 : decode b_Exprs_checkField 173 = .ok (.iload_n 3, 1) := by decide +kernel
theorem d_Exprs_checkField_174 : decode b_Exprs_checkField 174 = .ok (.invokevirtual 111, 3) := by decide +kernel
theorem d_Exprs_checkField_177 : decode b_Exprs_checkField 177 = .ok (.iload 4, 2) := by decide +kernel
theorem d_Exprs_checkField_179 : decode b_Exprs_checkField 179 = .ok (.ifCond .ne 11, 3) := by decide +kernel
theorem d_Exprs_checkField_182 : decode b_Exprs_checkField 182 = .ok (.aload_n 0, 1) := by decide +kernel
theorem d_Exprs_checkField_183 : decode b_Exprs_checkField 183 = .ok (.getfield 35, 3) := by decide +kernel
theorem d_Exprs_checkField_186 : decode b_Exprs_checkField 186 = .ok (.iconst 5, 1) := by decide +kernel
theorem d_Exprs_checkField_187 : decode b_Exprs_checkField 187 = .ok (.invokevirtual 176, 3) := by decide +kernel
theorem d_Exprs_checkField_190 : decode b_Exprs_checkField 190 = .ok (.aload_n 0, 1) := by decide +kernel
theorem d_Exprs_checkField_191 : decode b_Exprs_checkField 191 = .ok (.getfield 35, 3) := by decide +kernel
theorem d_Exprs_checkField_194 : decode b_Exprs_checkField 194 = .ok (.iload 4, 2) := by decide +kernel
theorem d_Exprs_checkField_196 : decode b_Exprs_checkField 196 = .ok (.ifCond .ne 8, 3) := by decide +kernel
theorem d_Exprs_checkField_199 : decode b_Exprs_checkField 199 = .ok (.bipush 21, 2) := by decide +kernel
theorem d_Exprs_checkField_201 : decode b_Exprs_checkField 201 = .ok (.goto 5, 3) := by decide +kernel
theorem d_Exprs_checkField_204 : decode b_Exprs_checkField 204 = .ok (.bipush 26, 2) := by decide +kernel
theorem d_Exprs_checkField_206 : decode b_Exprs_checkField 206 = .ok (.iload 6, 2) := by decide +kernel
theorem d_Exprs_checkField_208 : decode b_Exprs_checkField 208 = .ok (.iconst 1, 1) := by decide +kernel
theorem d_Exprs_checkField_209 : decode b_Exprs_checkField 209 = .ok (.iadd, 1) := by decide +kernel
theorem d_Exprs_checkField_210 : decode b_Exprs_checkField 210 = .ok (.aload_n 0, 1) := by decide +kernel
theorem d_Exprs_checkField_211 : decode b_Exprs_checkField 211 = .ok (.getfield 29, 3) := by decide +kernel
theorem d_Exprs_checkField_214 : decode b_Exprs_checkField 214 = .ok (.iload 7, 2) := by decide +kernel
theorem d_Exprs_checkField_216 : decode b_Exprs_checkField 216 = .ok (.invokevirtual 179, 3) := by decide +kernel
theorem d_Exprs_checkField_219 : decode b_Exprs_checkField 219 = .ok (.invokevirtual 94, 3) := by decide +kernel
theorem d_Exprs_checkField_222 : decode b_Exprs_checkField 222 = .ok (.pop, 1) := by decide +kernel
theorem d_Exprs_checkField_223 : decode b_Exprs_checkField 223 = .ok (.goto 22, 3) := by decide +kernel
theorem d_Exprs_checkField_226 : decode b_Exprs_checkField 226 = .ok (.aload_n 0, 1) := by decide +kernel
theorem d_Exprs_checkField_227 : decode b_Exprs_checkField 227 = .ok (.iload 4, 2) := by decide +kernel
theorem d_Exprs_checkField_229 : decode b_Exprs_checkField 229 = .ok (.aload_n 0, 1) := by decide +kernel
theorem d_Exprs_checkField_230 : decode b_Exprs_checkField 230 = .ok (.getfield 15, 3) := by decide +kernel
theorem d_Exprs_checkField_233 : decode b_Exprs_checkField 233 = .ok (.iload 5, 2) := by decide +kernel
theorem d_Exprs_checkField_235 : decode b_Exprs_checkField 235 = .ok (.iload 6, 2) := by decide +kernel
theorem d_Exprs_checkField_237 : decode b_Exprs_checkField 237 = .ok (.invokevirtual 182, 3) := by decide +kernel
theorem ml_Exprs_182 : Cond.methodLink R_Exprs 182 ⟨"PointerHouse$Items", "placeOfPart", "(II)I"⟩ ∈ lw_good := lg_right (i := 1407) (by decide +kernel) rfl
theorem d_Exprs_checkField_240 : decode b_Exprs_checkField 240 = .ok (.iload 7, 2) := by decide +kernel
theorem d_Exprs_checkField_242 : decode b_Exprs_checkField 242 = .ok (.invokevirtual 185, 3) := by decide +kernel
theorem ml_Exprs_185 : Cond.methodLink R_Exprs 185 ⟨"PointerHouse$Exprs", "emitPointed", "(III)V"⟩ ∈ lw_good := lg_right (i := 1411) (by decide +kernel) rfl
theorem d_Exprs_checkField_245 : decode b_Exprs_checkField 245 = .ok (.iload 7, 2) := by decide +kernel
theorem d_Exprs_checkField_247 : decode b_Exprs_checkField 247 = .ok (.ireturn, 1) := by decide +kernel
abbrev b_Exprs_checkCell : ByteArray := prog_3_method_17_code
abbrev y_Exprs_checkCell : MethodName := ⟨R_Exprs, "checkCell", "(III)I"⟩
theorem co_Exprs_checkCell : Cond.code y_Exprs_checkCell b_Exprs_checkCell 5 (some .int) ∈ lw_good := lg_in (tin_6 _ (List.mem_of_getElem? (i := 222) rfl)) rfl
abbrev w_Exprs_checkCell : List Cond := Cond.code y_Exprs_checkCell b_Exprs_checkCell 5 (some .int) :: lw_good
theorem im_Exprs_checkCell : Cond.instanceMethod y_Exprs_checkCell ∈ lw_good := lg_right (i := 1421) (by decide +kernel) rfl
theorem se_Exprs_checkCell : Cond.selects R_Exprs y_Exprs_checkCell y_Exprs_checkCell ∈ lw_good := lg_left (i := 70) (by decide +kernel) rfl
theorem d_Exprs_checkCell_0 : decode b_Exprs_checkCell 0 = .ok (.aload_n 0, 1) := by decide +kernel
theorem d_Exprs_checkCell_1 : decode b_Exprs_checkCell 1 = .ok (.getfield 29, 3) := by decide +kernel
theorem d_Exprs_checkCell_4 : decode b_Exprs_checkCell 4 = .ok (.iload_n 1, 1) := by decide +kernel
theorem d_Exprs_checkCell_5 : decode b_Exprs_checkCell 5 = .ok (.invokevirtual 108, 3) := by decide +kernel
theorem d_Exprs_checkCell_8 : decode b_Exprs_checkCell 8 = .ok (.ifCond .eq 15, 3) := by decide +kernel
theorem d_Exprs_checkCell_11 : decode b_Exprs_checkCell 11 = .ok (.aload_n 0, 1) := by decide +kernel
theorem d_Exprs_checkCell_12 : decode b_Exprs_checkCell 12 = .ok (.getfield 29, 3) := by decide +kernel
theorem d_Exprs_checkCell_15 : decode b_Exprs_checkCell 15 = .ok (.iload_n 1, 1) := by decide +kernel
theorem d_Exprs_checkCell_16 : decode b_Exprs_checkCell 16 = .ok (.invokevirtual 143, 3) := by decide +kernel
theorem d_Exprs_checkCell_19 : decode b_Exprs_checkCell 19 = .ok (.iconst (-1), 1) := by decide +kernel
theorem d_Exprs_checkCell_20 : decode b_Exprs_checkCell 20 = .ok (.if_icmp .eq 14, 3) := by decide +kernel
theorem d_Exprs_checkCell_23 : decode b_Exprs_checkCell 23 = .ok (.aload_n 0, 1) := by decide +kernel
theorem d_Exprs_checkCell_24 : decode b_Exprs_checkCell 24 = .ok (.getfield 35, 3) := by decide +kernel
theorem d_Exprs_checkCell_27 : decode b_Exprs_checkCell 27 = .ok (.iconst 4, 1) := by decide +kernel
theorem d_Exprs_checkCell_28 : decode b_Exprs_checkCell 28 = .ok (.iload_n 2, 1) := by decide +kernel
theorem d_Exprs_checkCell_29 : decode b_Exprs_checkCell 29 = .ok (.invokevirtual 68, 3) := by decide +kernel
theorem d_Exprs_checkCell_32 : decode b_Exprs_checkCell 32 = .ok (.iconst 1, 1) := by decide +kernel
theorem d_Exprs_checkCell_33 : decode b_Exprs_checkCell 33 = .ok (.ireturn, 1) := by decide +kernel
theorem d_Exprs_checkCell_34 : decode b_Exprs_checkCell 34 = .ok (.aload_n 0, 1) := by decide +kernel
theorem d_Exprs_checkCell_35 : decode b_Exprs_checkCell 35 = .ok (.aload_n 0, 1) := by decide +kernel
theorem d_Exprs_checkCell_36 : decode b_Exprs_checkCell 36 = .ok (.getfield 34, 3) := by decide +kernel
theorem d_Exprs_checkCell_39 : decode b_Exprs_checkCell 39 = .ok (.aload_n 0, 1) := by decide +kernel
theorem d_Exprs_checkCell_40 : decode b_Exprs_checkCell 40 = .ok (.getfield 29, 3) := by decide +kernel
theorem d_Exprs_checkCell_43 : decode b_Exprs_checkCell 43 = .ok (.iload_n 1, 1) := by decide +kernel
theorem d_Exprs_checkCell_44 : decode b_Exprs_checkCell 44 = .ok (.invokevirtual 82, 3) := by decide +kernel
theorem d_Exprs_checkCell_47 : decode b_Exprs_checkCell 47 = .ok (.invokevirtual 115, 3) := by decide +kernel
theorem d_Exprs_checkCell_50 : decode b_Exprs_checkCell 50 = .ok (.iconst 5, 1) := by decide +kernel
theorem d_Exprs_checkCell_51 : decode b_Exprs_checkCell 51 = .ok (.iload_n 2, 1) := by decide +kernel
theorem d_Exprs_checkCell_52 : decode b_Exprs_checkCell 52 = .ok (.invokevirtual 111, 3) := by decide +kernel
theorem d_Exprs_checkCell_55 : decode b_Exprs_checkCell 55 = .ok (.aload_n 0, 1) := by decide +kernel
theorem d_Exprs_checkCell_56 : decode b_Exprs_checkCell 56 = .ok (.iload_n 1, 1) := by decide +kernel
theorem d_Exprs_checkCell_57 : decode b_Exprs_checkCell 57 = .ok (.invokevirtual 160, 3) := by decide +kernel
theorem d_Exprs_checkCell_60 : decode b_Exprs_checkCell 60 = .ok (.aload_n 0, 1) := by decide +kernel
theorem d_Exprs_checkCell_61 : decode b_Exprs_checkCell 61 = .ok (.getfield 29, 3) := by decide +kernel
theorem d_Exprs_checkCell_64 : decode b_Exprs_checkCell 64 = .ok (.iload_n 1, 1) := by decide +kernel
theorem d_Exprs_checkCell_65 : decode b_Exprs_checkCell 65 = .ok (.invokevirtual 79, 3) := by decide +kernel
theorem d_Exprs_checkCell_68 : decode b_Exprs_checkCell 68 = .ok (.istore 4, 2) := by decide +kernel
theorem d_Exprs_checkCell_70 : decode b_Exprs_checkCell 70 = .ok (.aload_n 0, 1) := by decide +kernel
theorem d_Exprs_checkCell_71 : decode b_Exprs_checkCell 71 = .ok (.iload_n 3, 1) := by decide +kernel
theorem d_Exprs_checkCell_72 : decode b_Exprs_checkCell 72 = .ok (.iconst 0, 1) := by decide +kernel
theorem d_Exprs_checkCell_73 : decode b_Exprs_checkCell 73 = .ok (.iload 4, 2) := by decide +kernel
theorem d_Exprs_checkCell_75 : decode b_Exprs_checkCell 75 = .ok (.invokevirtual 185, 3) := by decide +kernel
theorem d_Exprs_checkCell_78 : decode b_Exprs_checkCell 78 = .ok (.iload 4, 2) := by decide +kernel
theorem d_Exprs_checkCell_80 : decode b_Exprs_checkCell 80 = .ok (.ireturn, 1) := by decide +kernel
abbrev b_Exprs_countNull : ByteArray := prog_3_method_15_code
abbrev y_Exprs_countNull : MethodName := ⟨R_Exprs, "countNull", "(I)V"⟩
theorem co_Exprs_countNull : Cond.code y_Exprs_countNull b_Exprs_countNull 2 none ∈ lw_good := lg_in (tin_6 _ (List.mem_of_getElem? (i := 206) rfl)) rfl
abbrev w_Exprs_countNull : List Cond := Cond.code y_Exprs_countNull b_Exprs_countNull 2 none :: lw_good
theorem im_Exprs_countNull : Cond.instanceMethod y_Exprs_countNull ∈ lw_good := lg_right (i := 1405) (by decide +kernel) rfl
theorem se_Exprs_countNull : Cond.selects R_Exprs y_Exprs_countNull y_Exprs_countNull ∈ lw_good := lg_left (i := 67) (by decide +kernel) rfl
theorem d_Exprs_countNull_0 : decode b_Exprs_countNull 0 = .ok (.aload_n 0, 1) := by decide +kernel
theorem d_Exprs_countNull_1 : decode b_Exprs_countNull 1 = .ok (.getfield 29, 3) := by decide +kernel
theorem d_Exprs_countNull_4 : decode b_Exprs_countNull 4 = .ok (.iload_n 1, 1) := by decide +kernel
theorem d_Exprs_countNull_5 : decode b_Exprs_countNull 5 = .ok (.invokevirtual 74, 3) := by decide +kernel
theorem d_Exprs_countNull_8 : decode b_Exprs_countNull 8 = .ok (.iconst 4, 1) := by decide +kernel
theorem d_Exprs_countNull_9 : decode b_Exprs_countNull 9 = .ok (.if_icmp .ne 11, 3) := by decide +kernel
theorem d_Exprs_countNull_12 : decode b_Exprs_countNull 12 = .ok (.aload_n 0, 1) := by decide +kernel
theorem d_Exprs_countNull_13 : decode b_Exprs_countNull 13 = .ok (.getfield 35, 3) := by decide +kernel
theorem d_Exprs_countNull_16 : decode b_Exprs_countNull 16 = .ok (.iconst 3, 1) := by decide +kernel
theorem d_Exprs_countNull_17 : decode b_Exprs_countNull 17 = .ok (.invokevirtual 176, 3) := by decide +kernel
theorem d_Exprs_countNull_20 : decode b_Exprs_countNull 20 = .ok (.return_, 1) := by decide +kernel
abbrev b_Exprs_emitPointed : ByteArray := prog_3_method_14_code
abbrev y_Exprs_emitPointed : MethodName := ⟨R_Exprs, "emitPointed", "(III)V"⟩
theorem co_Exprs_emitPointed : Cond.code y_Exprs_emitPointed b_Exprs_emitPointed 4 none ∈ lw_good := lg_in (tin_6 _ (List.mem_of_getElem? (i := 214) rfl)) rfl
abbrev w_Exprs_emitPointed : List Cond := Cond.code y_Exprs_emitPointed b_Exprs_emitPointed 4 none :: lw_good
theorem im_Exprs_emitPointed : Cond.instanceMethod y_Exprs_emitPointed ∈ lw_good := lg_right (i := 1413) (by decide +kernel) rfl
theorem se_Exprs_emitPointed : Cond.selects R_Exprs y_Exprs_emitPointed y_Exprs_emitPointed ∈ lw_good := lg_left (i := 68) (by decide +kernel) rfl
theorem d_Exprs_emitPointed_0 : decode b_Exprs_emitPointed 0 = .ok (.aload_n 0, 1) := by decide +kernel
theorem d_Exprs_emitPointed_1 : decode b_Exprs_emitPointed 1 = .ok (.getfield 35, 3) := by decide +kernel
theorem d_Exprs_emitPointed_4 : decode b_Exprs_emitPointed 4 = .ok (.iload_n 1, 1) := by decide +kernel
theorem d_Exprs_emitPointed_5 : decode b_Exprs_emitPointed 5 = .ok (.ifCond .ne 8, 3) := by decide +kernel
theorem d_Exprs_emitPointed_8 : decode b_Exprs_emitPointed 8 = .ok (.bipush 20, 2) := by decide +kernel
theorem d_Exprs_emitPointed_10 : decode b_Exprs_emitPointed 10 = .ok (.goto 15, 3) := by decide +kernel
theorem d_Exprs_emitPointed_13 : decode b_Exprs_emitPointed 13 = .ok (.iload_n 1, 1) := by decide +kernel
theorem d_Exprs_emitPointed_14 : decode b_Exprs_emitPointed 14 = .ok (.iconst 1, 1) := by decide +kernel
theorem d_Exprs_emitPointed_15 : decode b_Exprs_emitPointed 15 = .ok (.if_icmp .ne 8, 3) := by decide +kernel
theorem d_Exprs_emitPointed_18 : decode b_Exprs_emitPointed 18 = .ok (.bipush 24, 2) := by decide +kernel
theorem d_Exprs_emitPointed_20 : decode b_Exprs_emitPointed 20 = .ok (.goto 5, 3) := by decide +kernel
theorem d_Exprs_emitPointed_23 : decode b_Exprs_emitPointed 23 = .ok (.bipush 25, 2) := by decide +kernel
theorem d_Exprs_emitPointed_25 : decode b_Exprs_emitPointed 25 = .ok (.iload_n 2, 1) := by decide +kernel
theorem d_Exprs_emitPointed_26 : decode b_Exprs_emitPointed 26 = .ok (.aload_n 0, 1) := by decide +kernel
theorem d_Exprs_emitPointed_27 : decode b_Exprs_emitPointed 27 = .ok (.getfield 29, 3) := by decide +kernel
theorem d_Exprs_emitPointed_30 : decode b_Exprs_emitPointed 30 = .ok (.iload_n 3, 1) := by decide +kernel
theorem d_Exprs_emitPointed_31 : decode b_Exprs_emitPointed 31 = .ok (.invokevirtual 179, 3) := by decide +kernel
theorem d_Exprs_emitPointed_34 : decode b_Exprs_emitPointed 34 = .ok (.invokevirtual 94, 3) := by decide +kernel
theorem d_Exprs_emitPointed_37 : decode b_Exprs_emitPointed 37 = .ok (.pop, 1) := by decide +kernel
theorem d_Exprs_emitPointed_38 : decode b_Exprs_emitPointed 38 = .ok (.return_, 1) := by decide +kernel
section GV
variable {p : Program} {l : Launch} {e : Env} {R : Room} {s : State} {m : MethodId} {args : Array Value} {below : List Frame} {meth : Method} {c : Code} {H : Heap} {locs : List Loc} {cells slots : Nat} {Q : State → Prop}
variable {cc : ByteArray} {pc : Nat} {ls : Array Slot} {rest st0 : List Value} {dC : Nat → ClassId} {dI : Nat → Nat → Nat} {A : Nat → Prop} {ad ea ev : Nat → Nat} {km : Nat → ClassId} {T T' : gSt} {H0 : Heap}
theorem rd_Heads_157 (hx : p.tables.exec = Jvm.exec) (hb : c.code = cc) (hT : ∀ w ∈ lw_good, w.before args s = true) (hown : s.vm.findClass R_Heads = some m.cls) (hK : va_K (dC, dI) cls_all (gT LH km) s) (hP : va_P (dC, dI) cls_all (gW LH ad km T) H) (hdg : decode cc pc = .ok (.getfield 157, 3)) (kk : W p l e R s m args below meth c H locs cells slots Q (F0 m (pc + 3) ls (.ref (ad 37) :: rest))) : W p l e R s m args below meth c H locs cells slots Q (F0 m pc ls (.ref (ad 2) :: rest)) := gw_get hx hb hT i_Items hown hK hP 2 13 40 (Nat.le_of_ble_eq_true rfl) rfl rfl (Nat.le_of_ble_eq_true rfl) rfl (gv_a rfl) (hT _ fl_Heads_157) (fun _ h9 => h9) hdg kk
theorem rd_Heads_160 (hx : p.tables.exec = Jvm.exec) (hb : c.code = cc) (hT : ∀ w ∈ lw_good, w.before args s = true) (hown : s.vm.findClass R_Heads = some m.cls) (hK : va_K (dC, dI) cls_all (gT LH km) s) (hP : va_P (dC, dI) cls_all (gW LH ad km T) H) (hnw : nw_all s) (hdg : decode cc pc = .ok (.getfield 160, 3)) (kk : W p l e R s m args below meth c H locs cells slots Q (F0 m (pc + 3) ls (.ref (ad 43) :: rest))) : W p l e R s m args below meth c H locs cells slots Q (F0 m pc ls (.ref (ad 2) :: rest)) := gw_getN hx hb hT i_Items hown hK hP 2 19 46 (Nat.le_of_ble_eq_true rfl) rfl rfl (Nat.le_of_ble_eq_true rfl) rfl (gv_a rfl) (va_Nw.use rfl hnw.2.2.1) (fun _ h9 => h9) hdg kk
theorem rd_Heads_163 (hx : p.tables.exec = Jvm.exec) (hb : c.code = cc) (hT : ∀ w ∈ lw_good, w.before args s = true) (hown : s.vm.findClass R_Heads = some m.cls) (hK : va_K (dC, dI) cls_all (gT LH km) s) (hP : va_P (dC, dI) cls_all (gW LH ad km T) H) (hdg : decode cc pc = .ok (.getfield 163, 3)) (kk : W p l e R s m args below meth c H locs cells slots Q (F0 m (pc + 3) ls (.ref (ad 32) :: rest))) : W p l e R s m args below meth c H locs cells slots Q (F0 m pc ls (.ref (ad 2) :: rest)) := gw_get hx hb hT i_Items hown hK hP 2 8 35 (Nat.le_of_ble_eq_true rfl) rfl rfl (Nat.le_of_ble_eq_true rfl) rfl (gv_a rfl) (hT _ fl_Heads_163) (fun _ h9 => h9) hdg kk
theorem rd_Exprs_9 (hx : p.tables.exec = Jvm.exec) (hb : c.code = cc) (hT : ∀ w ∈ lw_good, w.before args s = true) (hown : s.vm.findClass R_Exprs = some m.cls) (hK : va_K (dC, dI) cls_all (gT LH km) s) (hP : va_P (dC, dI) cls_all (gW LH ad km T) H) (hdg : decode cc pc = .ok (.getfield 9, 3)) (kk : W p l e R s m args below meth c H locs cells slots Q (F0 m (pc + 3) ls (.ref (ad 1) :: rest))) : W p l e R s m args below meth c H locs cells slots Q (F0 m pc ls (.ref (ad 8) :: rest)) := gw_get hx hb hT i_Exprs hown hK hP 8 0 83 (Nat.le_of_ble_eq_true rfl) rfl rfl (Nat.le_of_ble_eq_true rfl) rfl (gv_o rfl) (hT _ fl_Exprs_9) (fun _ h9 => h9) hdg kk
theorem rd_Exprs_43 (hx : p.tables.exec = Jvm.exec) (hb : c.code = cc) (hT : ∀ w ∈ lw_good, w.before args s = true) (hown : s.vm.findClass R_Exprs = some m.cls) (hK : va_K (dC, dI) cls_all (gT LH km) s) (hP : va_P (dC, dI) cls_all (gW LH ad km T) H) (hdg : decode cc pc = .ok (.getfield 43, 3)) (kk : W p l e R s m args below meth c H locs cells slots Q (F0 m (pc + 3) ls (.ref (ad 15) :: rest))) : W p l e R s m args below meth c H locs cells slots Q (F0 m pc ls (.ref (ad 1) :: rest)) := gw_get hx hb hT i_Source hown hK hP 1 2 13 (Nat.le_of_ble_eq_true rfl) rfl rfl (Nat.le_of_ble_eq_true rfl) rfl (gv_a rfl) (hT _ fl_Exprs_43) (fun _ h9 => h9) hdg kk
theorem rd_Exprs_35 (hx : p.tables.exec = Jvm.exec) (hb : c.code = cc) (hT : ∀ w ∈ lw_good, w.before args s = true) (hown : s.vm.findClass R_Exprs = some m.cls) (hK : va_K (dC, dI) cls_all (gT LH km) s) (hP : va_P (dC, dI) cls_all (gW LH ad km T) H) (hdg : decode cc pc = .ok (.getfield 35, 3)) (kk : W p l e R s m args below meth c H locs cells slots Q (F0 m (pc + 3) ls (.ref (ad 3) :: rest))) : W p l e R s m args below meth c H locs cells slots Q (F0 m pc ls (.ref (ad 8) :: rest)) := gw_get hx hb hT i_Exprs hown hK hP 8 5 88 (Nat.le_of_ble_eq_true rfl) rfl rfl (Nat.le_of_ble_eq_true rfl) rfl (gv_o rfl) (hT _ fl_Exprs_35) (fun _ h9 => h9) hdg kk
theorem rd_Exprs_29 (hx : p.tables.exec = Jvm.exec) (hb : c.code = cc) (hT : ∀ w ∈ lw_good, w.before args s = true) (hown : s.vm.findClass R_Exprs = some m.cls) (hK : va_K (dC, dI) cls_all (gT LH km) s) (hP : va_P (dC, dI) cls_all (gW LH ad km T) H) (hdg : decode cc pc = .ok (.getfield 29, 3)) (kk : W p l e R s m args below meth c H locs cells slots Q (F0 m (pc + 3) ls (.ref (ad 5) :: rest))) : W p l e R s m args below meth c H locs cells slots Q (F0 m pc ls (.ref (ad 8) :: rest)) := gw_get hx hb hT i_Exprs hown hK hP 8 3 86 (Nat.le_of_ble_eq_true rfl) rfl rfl (Nat.le_of_ble_eq_true rfl) rfl (gv_o rfl) (hT _ fl_Exprs_29) (fun _ h9 => h9) hdg kk
theorem rd_Exprs_34 (hx : p.tables.exec = Jvm.exec) (hb : c.code = cc) (hT : ∀ w ∈ lw_good, w.before args s = true) (hown : s.vm.findClass R_Exprs = some m.cls) (hK : va_K (dC, dI) cls_all (gT LH km) s) (hP : va_P (dC, dI) cls_all (gW LH ad km T) H) (hdg : decode cc pc = .ok (.getfield 34, 3)) (kk : W p l e R s m args below meth c H locs cells slots Q (F0 m (pc + 3) ls (.ref (ad 6) :: rest))) : W p l e R s m args below meth c H locs cells slots Q (F0 m pc ls (.ref (ad 8) :: rest)) := gw_get hx hb hT i_Exprs hown hK hP 8 4 87 (Nat.le_of_ble_eq_true rfl) rfl rfl (Nat.le_of_ble_eq_true rfl) rfl (gv_o rfl) (hT _ fl_Exprs_34) (fun _ h9 => h9) hdg kk
theorem rd_Exprs_91 (hx : p.tables.exec = Jvm.exec) (hb : c.code = cc) (hT : ∀ w ∈ lw_good, w.before args s = true) (hown : s.vm.findClass R_Exprs = some m.cls) (hK : va_K (dC, dI) cls_all (gT LH km) s) (hP : va_P (dC, dI) cls_all (gW LH ad km T) H) (hdg : decode cc pc = .ok (.getfield 91, 3)) (kk : W p l e R s m args below meth c H locs cells slots Q (F0 m (pc + 3) ls (.ref (ad 17) :: rest))) : W p l e R s m args below meth c H locs cells slots Q (F0 m pc ls (.ref (ad 1) :: rest)) := gw_get hx hb hT i_Source hown hK hP 1 4 15 (Nat.le_of_ble_eq_true rfl) rfl rfl (Nat.le_of_ble_eq_true rfl) rfl (gv_a rfl) (hT _ fl_Exprs_91) (fun _ h9 => h9) hdg kk
theorem rd_Exprs_121 (hx : p.tables.exec = Jvm.exec) (hb : c.code = cc) (hT : ∀ w ∈ lw_good, w.before args s = true) (hown : s.vm.findClass R_Exprs = some m.cls) (hK : va_K (dC, dI) cls_all (gT LH km) s) (hP : va_P (dC, dI) cls_all (gW LH ad km T) H) (hdg : decode cc pc = .ok (.getfield 121, 3)) (kk : W p l e R s m args below meth c H locs cells slots Q (F0 m (pc + 3) ls (.ref (ad 20) :: rest))) : W p l e R s m args below meth c H locs cells slots Q (F0 m pc ls (.ref (ad 1) :: rest)) := gw_get hx hb hT i_Source hown hK hP 1 7 18 (Nat.le_of_ble_eq_true rfl) rfl rfl (Nat.le_of_ble_eq_true rfl) rfl (gv_a rfl) (hT _ fl_Exprs_121) (fun _ h9 => h9) hdg kk
theorem rd_Exprs_124 (hx : p.tables.exec = Jvm.exec) (hb : c.code = cc) (hT : ∀ w ∈ lw_good, w.before args s = true) (hown : s.vm.findClass R_Exprs = some m.cls) (hK : va_K (dC, dI) cls_all (gT LH km) s) (hP : va_P (dC, dI) cls_all (gW LH ad km T) H) (hdg : decode cc pc = .ok (.getfield 124, 3)) (kk : W p l e R s m args below meth c H locs cells slots Q (F0 m (pc + 3) ls (.ref (ad 13) :: rest))) : W p l e R s m args below meth c H locs cells slots Q (F0 m pc ls (.ref (ad 1) :: rest)) := gw_get hx hb hT i_Source hown hK hP 1 0 11 (Nat.le_of_ble_eq_true rfl) rfl rfl (Nat.le_of_ble_eq_true rfl) rfl (gv_a rfl) (hT _ fl_Exprs_124) (fun _ h9 => h9) hdg kk
theorem rd_Exprs_19 (hx : p.tables.exec = Jvm.exec) (hb : c.code = cc) (hT : ∀ w ∈ lw_good, w.before args s = true) (hown : s.vm.findClass R_Exprs = some m.cls) (hK : va_K (dC, dI) cls_all (gT LH km) s) (hP : va_P (dC, dI) cls_all (gW LH ad km T) H) (hdg : decode cc pc = .ok (.getfield 19, 3)) (kk : W p l e R s m args below meth c H locs cells slots Q (F0 m (pc + 3) ls (.ref (ad 7) :: rest))) : W p l e R s m args below meth c H locs cells slots Q (F0 m pc ls (.ref (ad 8) :: rest)) := gw_get hx hb hT i_Exprs hown hK hP 8 2 85 (Nat.le_of_ble_eq_true rfl) rfl rfl (Nat.le_of_ble_eq_true rfl) rfl (gv_o rfl) (hT _ fl_Exprs_19) (fun _ h9 => h9) hdg kk
theorem rd_Exprs_146 (hx : p.tables.exec = Jvm.exec) (hb : c.code = cc) (hT : ∀ w ∈ lw_good, w.before args s = true) (hown : s.vm.findClass R_Exprs = some m.cls) (hK : va_K (dC, dI) cls_all (gT LH km) s) (hP : va_P (dC, dI) cls_all (gW LH ad km T) H) (hdg : decode cc pc = .ok (.getfield 146, 3)) (kk : W p l e R s m args below meth c H locs cells slots Q (F0 m (pc + 3) ls (.ref (ad 14) :: rest))) : W p l e R s m args below meth c H locs cells slots Q (F0 m pc ls (.ref (ad 1) :: rest)) := gw_get hx hb hT i_Source hown hK hP 1 1 12 (Nat.le_of_ble_eq_true rfl) rfl rfl (Nat.le_of_ble_eq_true rfl) rfl (gv_a rfl) (hT _ fl_Exprs_146) (fun _ h9 => h9) hdg kk
theorem rd_Exprs_15 (hx : p.tables.exec = Jvm.exec) (hb : c.code = cc) (hT : ∀ w ∈ lw_good, w.before args s = true) (hown : s.vm.findClass R_Exprs = some m.cls) (hK : va_K (dC, dI) cls_all (gT LH km) s) (hP : va_P (dC, dI) cls_all (gW LH ad km T) H) (hdg : decode cc pc = .ok (.getfield 15, 3)) (kk : W p l e R s m args below meth c H locs cells slots Q (F0 m (pc + 3) ls (.ref (ad 2) :: rest))) : W p l e R s m args below meth c H locs cells slots Q (F0 m pc ls (.ref (ad 8) :: rest)) := gw_get hx hb hT i_Exprs hown hK hP 8 1 84 (Nat.le_of_ble_eq_true rfl) rfl rfl (Nat.le_of_ble_eq_true rfl) rfl (gv_o rfl) (hT _ fl_Exprs_15) (fun _ h9 => h9) hdg kk
theorem rd_Exprs_175 (hx : p.tables.exec = Jvm.exec) (hb : c.code = cc) (hT : ∀ w ∈ lw_good, w.before args s = true) (hown : s.vm.findClass R_Exprs = some m.cls) (hK : va_K (dC, dI) cls_all (gT LH km) s) (hP : va_P (dC, dI) cls_all (gW LH ad km T) H) (hdg : decode cc pc = .ok (.getfield 175, 3)) (kk : W p l e R s m args below meth c H locs cells slots Q (F0 m (pc + 3) ls (.ref (ad 25) :: rest))) : W p l e R s m args below meth c H locs cells slots Q (F0 m pc ls (.ref (ad 2) :: rest)) := gw_get hx hb hT i_Items hown hK hP 2 1 28 (Nat.le_of_ble_eq_true rfl) rfl rfl (Nat.le_of_ble_eq_true rfl) rfl (gv_a rfl) (hT _ fl_Exprs_175) (fun _ h9 => h9) hdg kk
theorem rd_Exprs_188 (hx : p.tables.exec = Jvm.exec) (hb : c.code = cc) (hT : ∀ w ∈ lw_good, w.before args s = true) (hown : s.vm.findClass R_Exprs = some m.cls) (hK : va_K (dC, dI) cls_all (gT LH km) s) (hP : va_P (dC, dI) cls_all (gW LH ad km T) H) (hdg : decode cc pc = .ok (.getfield 188, 3)) (kk : W p l e R s m args below meth c H locs cells slots Q (F0 m (pc + 3) ls (.ref (ad 19) :: rest))) : W p l e R s m args below meth c H locs cells slots Q (F0 m pc ls (.ref (ad 1) :: rest)) := gw_get hx hb hT i_Source hown hK hP 1 6 17 (Nat.le_of_ble_eq_true rfl) rfl rfl (Nat.le_of_ble_eq_true rfl) rfl (gv_a rfl) (hT _ fl_Exprs_188) (fun _ h9 => h9) hdg kk
end GV
def mt_Heads_closed (l : Launch) (dC : Nat → ClassId) (dI : Nat → Nat → Nat) (ea ev ad : Nat → Nat) (km : Nat → ClassId) (F : gF) (d : Nat) : Prop := ∀ (T : gSt) (p1 : Int32) (r : Int32) (rl : Int64) (T' : gSt), F 133 T [p1] [] = some (r, rl, T') → GMi l dC dI LH ad km ea ev y_Heads_closed w_Heads_closed (rmD d) [.int p1] T r T'
theorem pd_Heads_closed : (y_Heads_closed).cls ≠ "java/lang/invoke/MethodHandle" ∧ (y_Heads_closed).cls ≠ "java/lang/invoke/VarHandle" ∧ (parseMethodDescriptor (y_Heads_closed).desc).map (fun d => d.parameters.length) = some 1 := by decide +kernel
def mt_Heads_readRegion (l : Launch) (dC : Nat → ClassId) (dI : Nat → Nat → Nat) (ea ev ad : Nat → Nat) (km : Nat → ClassId) (F : gF) (d : Nat) : Prop := ∀ (T : gSt) (p1 : Int32) (r : Int32) (rl : Int64) (T' : gSt), F 135 T [p1] [] = some (r, rl, T') → GMi l dC dI LH ad km ea ev y_Heads_readRegion w_Heads_readRegion (rmD d) [.ref (ad 7), .int p1] T r T'
theorem pd_Heads_readRegion : (y_Heads_readRegion).cls = R_Heads ∧ (y_Heads_readRegion).cls ≠ "java/lang/invoke/MethodHandle" ∧ (y_Heads_readRegion).cls ≠ "java/lang/invoke/VarHandle" ∧ (parseMethodDescriptor (y_Heads_readRegion).desc).map (fun d => d.parameters.length) = some 1 := by decide +kernel
def mt_Heads_readRegions (l : Launch) (dC : Nat → ClassId) (dI : Nat → Nat → Nat) (ea ev ad : Nat → Nat) (km : Nat → ClassId) (F : gF) (d : Nat) : Prop := ∀ (T : gSt) (p1 : Int32) (p2 : Int32) (r : Int32) (rl : Int64) (T' : gSt), F 136 T [p1, p2] [] = some (r, rl, T') → GMi l dC dI LH ad km ea ev y_Heads_readRegions w_Heads_readRegions (rmD d) [.ref (ad 7), .int p1, .int p2] T r T'
theorem pd_Heads_readRegions : (y_Heads_readRegions).cls = R_Heads ∧ (y_Heads_readRegions).cls ≠ "java/lang/invoke/MethodHandle" ∧ (y_Heads_readRegions).cls ≠ "java/lang/invoke/VarHandle" ∧ (parseMethodDescriptor (y_Heads_readRegions).desc).map (fun d => d.parameters.length) = some 2 := by decide +kernel
def mt_Heads_readTitle (l : Launch) (dC : Nat → ClassId) (dI : Nat → Nat → Nat) (ea ev ad : Nat → Nat) (km : Nat → ClassId) (F : gF) (d : Nat) : Prop := ∀ (T : gSt) (p1 : Int32) (r : Int32) (rl : Int64) (T' : gSt), F 138 T [p1] [] = some (r, rl, T') → GMi l dC dI LH ad km ea ev y_Heads_readTitle w_Heads_readTitle (rmD d) [.ref (ad 7), .int p1] T r T'
theorem pd_Heads_readTitle : (y_Heads_readTitle).cls = R_Heads ∧ (y_Heads_readTitle).cls ≠ "java/lang/invoke/MethodHandle" ∧ (y_Heads_readTitle).cls ≠ "java/lang/invoke/VarHandle" ∧ (parseMethodDescriptor (y_Heads_readTitle).desc).map (fun d => d.parameters.length) = some 1 := by decide +kernel
def mt_Exprs_checkTerm (l : Launch) (dC : Nat → ClassId) (dI : Nat → Nat → Nat) (ea ev ad : Nat → Nat) (km : Nat → ClassId) (F : gF) (d : Nat) : Prop := ∀ (T : gSt) (p1 : Int32) (p2 : Int32) (p3 : Int32) (r : Int32) (rl : Int64) (T' : gSt), F 148 T [p1, p2, p3] [] = some (r, rl, T') → GMi l dC dI LH ad km ea ev y_Exprs_checkTerm w_Exprs_checkTerm (rmD d) [.ref (ad 8), .int p1, .int p2, .int p3] T r T'
theorem pd_Exprs_checkTerm : (y_Exprs_checkTerm).cls = R_Exprs ∧ (y_Exprs_checkTerm).cls ≠ "java/lang/invoke/MethodHandle" ∧ (y_Exprs_checkTerm).cls ≠ "java/lang/invoke/VarHandle" ∧ (parseMethodDescriptor (y_Exprs_checkTerm).desc).map (fun d => d.parameters.length) = some 3 := by decide +kernel
def mt_Exprs_checkOperator (l : Launch) (dC : Nat → ClassId) (dI : Nat → Nat → Nat) (ea ev ad : Nat → Nat) (km : Nat → ClassId) (F : gF) (d : Nat) : Prop := ∀ (T : gSt) (p1 : Int32) (p2 : Int32) (p3 : Int32) (p4 : Int32) (r : Int32) (rl : Int64) (T' : gSt), F 144 T [p1, p2, p3, p4] [] = some (r, rl, T') → GMi l dC dI LH ad km ea ev y_Exprs_checkOperator w_Exprs_checkOperator (rmD d) [.ref (ad 8), .int p1, .int p2, .int p3, .int p4] T r T'
theorem pd_Exprs_checkOperator : (y_Exprs_checkOperator).cls = R_Exprs ∧ (y_Exprs_checkOperator).cls ≠ "java/lang/invoke/MethodHandle" ∧ (y_Exprs_checkOperator).cls ≠ "java/lang/invoke/VarHandle" ∧ (parseMethodDescriptor (y_Exprs_checkOperator).desc).map (fun d => d.parameters.length) = some 4 := by decide +kernel
def mt_Exprs_check (l : Launch) (dC : Nat → ClassId) (dI : Nat → Nat → Nat) (ea ev ad : Nat → Nat) (km : Nat → ClassId) (F : gF) (d : Nat) : Prop := ∀ (T : gSt) (p1 : Int32) (p2 : Int32) (r : Int32) (rl : Int64) (T' : gSt), F 139 T [p1, p2] [] = some (r, rl, T') → GMi l dC dI LH ad km ea ev y_Exprs_check w_Exprs_check (rmD d) [.ref (ad 8), .int p1, .int p2] T r T'
theorem pd_Exprs_check : (y_Exprs_check).cls = R_Exprs ∧ (y_Exprs_check).cls ≠ "java/lang/invoke/MethodHandle" ∧ (y_Exprs_check).cls ≠ "java/lang/invoke/VarHandle" ∧ (parseMethodDescriptor (y_Exprs_check).desc).map (fun d => d.parameters.length) = some 2 := by decide +kernel
def mt_Exprs_demandFit (l : Launch) (dC : Nat → ClassId) (dI : Nat → Nat → Nat) (ea ev ad : Nat → Nat) (km : Nat → ClassId) (F : gF) (d : Nat) : Prop := ∀ (T : gSt) (p1 : Int32) (p2 : Int32) (p3 : Int32) (r : Int32) (rl : Int64) (T' : gSt), F 141 T [p1, p2, p3] [] = some (r, rl, T') → GMv l dC dI LH ad km ea ev y_Exprs_demandFit w_Exprs_demandFit (rmD d) [.ref (ad 8), .int p1, .int p2, .int p3] T T'
theorem pd_Exprs_demandFit : (y_Exprs_demandFit).cls = R_Exprs ∧ (y_Exprs_demandFit).cls ≠ "java/lang/invoke/MethodHandle" ∧ (y_Exprs_demandFit).cls ≠ "java/lang/invoke/VarHandle" ∧ (parseMethodDescriptor (y_Exprs_demandFit).desc).map (fun d => d.parameters.length) = some 3 := by decide +kernel
def mt_Exprs_checkFits (l : Launch) (dC : Nat → ClassId) (dI : Nat → Nat → Nat) (ea ev ad : Nat → Nat) (km : Nat → ClassId) (F : gF) (d : Nat) : Prop := ∀ (T : gSt) (p1 : Int32) (p2 : Int32) (p3 : Int32) (r : Int32) (rl : Int64) (T' : gSt), F 140 T [p1, p2, p3] [] = some (r, rl, T') → GMv l dC dI LH ad km ea ev y_Exprs_checkFits w_Exprs_checkFits (rmD d) [.ref (ad 8), .int p1, .int p2, .int p3] T T'
theorem pd_Exprs_checkFits : (y_Exprs_checkFits).cls = R_Exprs ∧ (y_Exprs_checkFits).cls ≠ "java/lang/invoke/MethodHandle" ∧ (y_Exprs_checkFits).cls ≠ "java/lang/invoke/VarHandle" ∧ (parseMethodDescriptor (y_Exprs_checkFits).desc).map (fun d => d.parameters.length) = some 3 := by decide +kernel
def mt_Exprs_lackOf (l : Launch) (dC : Nat → ClassId) (dI : Nat → Nat → Nat) (ea ev ad : Nat → Nat) (km : Nat → ClassId) (F : gF) (d : Nat) : Prop := ∀ (T : gSt) (p1 : Int32) (p2 : Int32) (r : Int32) (rl : Int64) (T' : gSt), F 143 T [p1, p2] [] = some (r, rl, T') → GMi l dC dI LH ad km ea ev y_Exprs_lackOf w_Exprs_lackOf (rmD d) [.ref (ad 8), .int p1, .int p2] T r T'
theorem pd_Exprs_lackOf : (y_Exprs_lackOf).cls = R_Exprs ∧ (y_Exprs_lackOf).cls ≠ "java/lang/invoke/MethodHandle" ∧ (y_Exprs_lackOf).cls ≠ "java/lang/invoke/VarHandle" ∧ (parseMethodDescriptor (y_Exprs_lackOf).desc).map (fun d => d.parameters.length) = some 2 := by decide +kernel
def mt_Exprs_demand (l : Launch) (dC : Nat → ClassId) (dI : Nat → Nat → Nat) (ea ev ad : Nat → Nat) (km : Nat → ClassId) (F : gF) (d : Nat) : Prop := ∀ (T : gSt) (p1 : Int32) (p2 : Int32) (p3 : Int32) (r : Int32) (rl : Int64) (T' : gSt), F 142 T [p1, p2, p3] [] = some (r, rl, T') → GMv l dC dI LH ad km ea ev y_Exprs_demand w_Exprs_demand (rmD d) [.ref (ad 8), .int p1, .int p2, .int p3] T T'
theorem pd_Exprs_demand : (y_Exprs_demand).cls = R_Exprs ∧ (y_Exprs_demand).cls ≠ "java/lang/invoke/MethodHandle" ∧ (y_Exprs_demand).cls ≠ "java/lang/invoke/VarHandle" ∧ (parseMethodDescriptor (y_Exprs_demand).desc).map (fun d => d.parameters.length) = some 3 := by decide +kernel
def mt_Exprs_mayCompare (l : Launch) (dC : Nat → ClassId) (dI : Nat → Nat → Nat) (ea ev ad : Nat → Nat) (km : Nat → ClassId) (F : gF) (d : Nat) : Prop := ∀ (T : gSt) (p1 : Int32) (r : Int32) (rl : Int64) (T' : gSt), F 145 T [p1] [] = some (r, rl, T') → GMi l dC dI LH ad km ea ev y_Exprs_mayCompare w_Exprs_mayCompare (rmD d) [.ref (ad 8), .int p1] T r T'
theorem pd_Exprs_mayCompare : (y_Exprs_mayCompare).cls = R_Exprs ∧ (y_Exprs_mayCompare).cls ≠ "java/lang/invoke/MethodHandle" ∧ (y_Exprs_mayCompare).cls ≠ "java/lang/invoke/VarHandle" ∧ (parseMethodDescriptor (y_Exprs_mayCompare).desc).map (fun d => d.parameters.length) = some 1 := by decide +kernel
def mt_Exprs_checkComparison (l : Launch) (dC : Nat → ClassId) (dI : Nat → Nat → Nat) (ea ev ad : Nat → Nat) (km : Nat → ClassId) (F : gF) (d : Nat) : Prop := ∀ (T : gSt) (p1 : Int32) (p2 : Int32) (p3 : Int32) (p4 : Int32) (r : Int32) (rl : Int64) (T' : gSt), F 146 T [p1, p2, p3, p4] [] = some (r, rl, T') → GMv l dC dI LH ad km ea ev y_Exprs_checkComparison w_Exprs_checkComparison (rmD d) [.ref (ad 8), .int p1, .int p2, .int p3, .int p4] T T'
theorem pd_Exprs_checkComparison : (y_Exprs_checkComparison).cls = R_Exprs ∧ (y_Exprs_checkComparison).cls ≠ "java/lang/invoke/MethodHandle" ∧ (y_Exprs_checkComparison).cls ≠ "java/lang/invoke/VarHandle" ∧ (parseMethodDescriptor (y_Exprs_checkComparison).desc).map (fun d => d.parameters.length) = some 4 := by decide +kernel
def mt_Exprs_instructionOf (l : Launch) (dC : Nat → ClassId) (dI : Nat → Nat → Nat) (ea ev ad : Nat → Nat) (km : Nat → ClassId) (F : gF) (d : Nat) : Prop := ∀ (T : gSt) (p1 : Int32) (r : Int32) (rl : Int64) (T' : gSt), F 147 T [p1] [] = some (r, rl, T') → GMi l dC dI LH ad km ea ev y_Exprs_instructionOf w_Exprs_instructionOf (rmD d) [.int p1] T r T'
theorem pd_Exprs_instructionOf : (y_Exprs_instructionOf).cls ≠ "java/lang/invoke/MethodHandle" ∧ (y_Exprs_instructionOf).cls ≠ "java/lang/invoke/VarHandle" ∧ (parseMethodDescriptor (y_Exprs_instructionOf).desc).map (fun d => d.parameters.length) = some 1 := by decide +kernel
def mt_Exprs_checkPrimary (l : Launch) (dC : Nat → ClassId) (dI : Nat → Nat → Nat) (ea ev ad : Nat → Nat) (km : Nat → ClassId) (F : gF) (d : Nat) : Prop := ∀ (T : gSt) (p1 : Int32) (p2 : Int32) (r : Int32) (rl : Int64) (T' : gSt), F 156 T [p1, p2] [] = some (r, rl, T') → GMi l dC dI LH ad km ea ev y_Exprs_checkPrimary w_Exprs_checkPrimary (rmD d) [.ref (ad 8), .int p1, .int p2] T r T'
theorem pd_Exprs_checkPrimary : (y_Exprs_checkPrimary).cls = R_Exprs ∧ (y_Exprs_checkPrimary).cls ≠ "java/lang/invoke/MethodHandle" ∧ (y_Exprs_checkPrimary).cls ≠ "java/lang/invoke/VarHandle" ∧ (parseMethodDescriptor (y_Exprs_checkPrimary).desc).map (fun d => d.parameters.length) = some 2 := by decide +kernel
def mt_Exprs_checkPlace (l : Launch) (dC : Nat → ClassId) (dI : Nat → Nat → Nat) (ea ev ad : Nat → Nat) (km : Nat → ClassId) (F : gF) (d : Nat) : Prop := ∀ (T : gSt) (p1 : Int32) (p2 : Int32) (p3 : Int32) (p4 : Int32) (p5 : Int32) (r : Int32) (rl : Int64) (T' : gSt), F 149 T [p1, p2, p3, p4, p5] [] = some (r, rl, T') → GMi l dC dI LH ad km ea ev y_Exprs_checkPlace w_Exprs_checkPlace (rmD d) [.ref (ad 8), .int p1, .int p2, .int p3, .int p4, .int p5] T r T'
theorem pd_Exprs_checkPlace : (y_Exprs_checkPlace).cls = R_Exprs ∧ (y_Exprs_checkPlace).cls ≠ "java/lang/invoke/MethodHandle" ∧ (y_Exprs_checkPlace).cls ≠ "java/lang/invoke/VarHandle" ∧ (parseMethodDescriptor (y_Exprs_checkPlace).desc).map (fun d => d.parameters.length) = some 5 := by decide +kernel
def mt_Exprs_checkIs (l : Launch) (dC : Nat → ClassId) (dI : Nat → Nat → Nat) (ea ev ad : Nat → Nat) (km : Nat → ClassId) (F : gF) (d : Nat) : Prop := ∀ (T : gSt) (p1 : Int32) (p2 : Int32) (p3 : Int32) (r : Int32) (rl : Int64) (T' : gSt), F 155 T [p1, p2, p3] [] = some (r, rl, T') → GMi l dC dI LH ad km ea ev y_Exprs_checkIs w_Exprs_checkIs (rmD d) [.ref (ad 8), .int p1, .int p2, .int p3] T r T'
theorem pd_Exprs_checkIs : (y_Exprs_checkIs).cls = R_Exprs ∧ (y_Exprs_checkIs).cls ≠ "java/lang/invoke/MethodHandle" ∧ (y_Exprs_checkIs).cls ≠ "java/lang/invoke/VarHandle" ∧ (parseMethodDescriptor (y_Exprs_checkIs).desc).map (fun d => d.parameters.length) = some 3 := by decide +kernel
def mt_Exprs_checkIndex (l : Launch) (dC : Nat → ClassId) (dI : Nat → Nat → Nat) (ea ev ad : Nat → Nat) (km : Nat → ClassId) (F : gF) (d : Nat) : Prop := ∀ (T : gSt) (p1 : Int32) (p2 : Int32) (p3 : Int32) (p4 : Int32) (p5 : Int32) (r : Int32) (rl : Int64) (T' : gSt), F 153 T [p1, p2, p3, p4, p5] [] = some (r, rl, T') → GMi l dC dI LH ad km ea ev y_Exprs_checkIndex w_Exprs_checkIndex (rmD d) [.ref (ad 8), .int p1, .int p2, .int p3, .int p4, .int p5] T r T'
theorem pd_Exprs_checkIndex : (y_Exprs_checkIndex).cls = R_Exprs ∧ (y_Exprs_checkIndex).cls ≠ "java/lang/invoke/MethodHandle" ∧ (y_Exprs_checkIndex).cls ≠ "java/lang/invoke/VarHandle" ∧ (parseMethodDescriptor (y_Exprs_checkIndex).desc).map (fun d => d.parameters.length) = some 5 := by decide +kernel
def mt_Exprs_checkField (l : Launch) (dC : Nat → ClassId) (dI : Nat → Nat → Nat) (ea ev ad : Nat → Nat) (km : Nat → ClassId) (F : gF) (d : Nat) : Prop := ∀ (T : gSt) (p1 : Int32) (p2 : Int32) (p3 : Int32) (p4 : Int32) (r : Int32) (rl : Int64) (T' : gSt), F 150 T [p1, p2, p3, p4] [] = some (r, rl, T') → GMi l dC dI LH ad km ea ev y_Exprs_checkField w_Exprs_checkField (rmD d) [.ref (ad 8), .int p1, .int p2, .int p3, .int p4] T r T'
theorem pd_Exprs_checkField : (y_Exprs_checkField).cls = R_Exprs ∧ (y_Exprs_checkField).cls ≠ "java/lang/invoke/MethodHandle" ∧ (y_Exprs_checkField).cls ≠ "java/lang/invoke/VarHandle" ∧ (parseMethodDescriptor (y_Exprs_checkField).desc).map (fun d => d.parameters.length) = some 4 := by decide +kernel
def mt_Exprs_checkCell (l : Launch) (dC : Nat → ClassId) (dI : Nat → Nat → Nat) (ea ev ad : Nat → Nat) (km : Nat → ClassId) (F : gF) (d : Nat) : Prop := ∀ (T : gSt) (p1 : Int32) (p2 : Int32) (p3 : Int32) (r : Int32) (rl : Int64) (T' : gSt), F 154 T [p1, p2, p3] [] = some (r, rl, T') → GMi l dC dI LH ad km ea ev y_Exprs_checkCell w_Exprs_checkCell (rmD d) [.ref (ad 8), .int p1, .int p2, .int p3] T r T'
theorem pd_Exprs_checkCell : (y_Exprs_checkCell).cls = R_Exprs ∧ (y_Exprs_checkCell).cls ≠ "java/lang/invoke/MethodHandle" ∧ (y_Exprs_checkCell).cls ≠ "java/lang/invoke/VarHandle" ∧ (parseMethodDescriptor (y_Exprs_checkCell).desc).map (fun d => d.parameters.length) = some 3 := by decide +kernel
def mt_Exprs_countNull (l : Launch) (dC : Nat → ClassId) (dI : Nat → Nat → Nat) (ea ev ad : Nat → Nat) (km : Nat → ClassId) (F : gF) (d : Nat) : Prop := ∀ (T : gSt) (p1 : Int32) (r : Int32) (rl : Int64) (T' : gSt), F 152 T [p1] [] = some (r, rl, T') → GMv l dC dI LH ad km ea ev y_Exprs_countNull w_Exprs_countNull (rmD d) [.ref (ad 8), .int p1] T T'
theorem pd_Exprs_countNull : (y_Exprs_countNull).cls = R_Exprs ∧ (y_Exprs_countNull).cls ≠ "java/lang/invoke/MethodHandle" ∧ (y_Exprs_countNull).cls ≠ "java/lang/invoke/VarHandle" ∧ (parseMethodDescriptor (y_Exprs_countNull).desc).map (fun d => d.parameters.length) = some 1 := by decide +kernel
def mt_Exprs_emitPointed (l : Launch) (dC : Nat → ClassId) (dI : Nat → Nat → Nat) (ea ev ad : Nat → Nat) (km : Nat → ClassId) (F : gF) (d : Nat) : Prop := ∀ (T : gSt) (p1 : Int32) (p2 : Int32) (p3 : Int32) (r : Int32) (rl : Int64) (T' : gSt), F 151 T [p1, p2, p3] [] = some (r, rl, T') → GMv l dC dI LH ad km ea ev y_Exprs_emitPointed w_Exprs_emitPointed (rmD d) [.ref (ad 8), .int p1, .int p2, .int p3] T T'
theorem pd_Exprs_emitPointed : (y_Exprs_emitPointed).cls = R_Exprs ∧ (y_Exprs_emitPointed).cls ≠ "java/lang/invoke/MethodHandle" ∧ (y_Exprs_emitPointed).cls ≠ "java/lang/invoke/VarHandle" ∧ (parseMethodDescriptor (y_Exprs_emitPointed).desc).map (fun d => d.parameters.length) = some 3 := by decide +kernel
set_option maxHeartbeats 4000000 in
set_option maxRecDepth 100000 in
theorem sp_Heads_readWhere (l : Launch) (dC : Nat → ClassId) (dI : Nat → Nat → Nat) (ea ev ad : Nat → Nat) (km : Nat → ClassId) (F : gF) (nf d : Nat) (h_Heads_closed : mt_Heads_closed l dC dI ea ev ad km F d) (h_Heads_ownRegion : mt_Heads_ownRegion l dC dI ea ev ad km F d) (h_Scope_aboveBit : mt_Scope_aboveBit l dC dI ea ev ad km F d) (h_Items_addPair : mt_Items_addPair l dC dI ea ev ad km F d) (h_Source_kindAt : mt_Source_kindAt l dC dI ea ev ad km F d) (T0 : gSt) (p1 : Int32) (r0 : Int32) (rl0 : Int64) (T9 : gSt) (hR : rb_Heads_readWhere F nf T0 p1 = some (r0, rl0, T9)) : GMv l dC dI LH ad km ea ev y_Heads_readWhere w_Heads_readWhere (rmD (d + 1)) [.ref (ad 7), .int p1] T0 T9 := by
  intro sz
  refine Met.ofW (cc := b_Heads_readWhere) (maxL := 7) (ret := none) (by decide) rfl ?_
  intro p e s m args below meth c s₁ B hml hv
  obtain ⟨rfl, hsz, hP, hK, hD0, hnw, henv⟩ := hv
  have hx := B.exec
  have hb := B.bytes
  have hr := B.returns
  have hT : ∀ w ∈ lw_good, w.before _ s = true := fun w h => atoms_spec (ws := w_Heads_readWhere) B.pre w (List.mem_cons_of_mem _ h)
  have hown : s.vm.findClass R_Heads = some m.cls := findClass_of_methodNamed B.named
  subst hsz
  have hD := hD0.self (sz := s.heap.size)
  clear hD0
  generalize hAe : va_A (gW LH ad km T0) s.heap.size = A at hD henv ⊢
  have hA : ∀ q : Nat, s.heap.size ≤ q → A q := fun q h => by rw [← hAe]; exact Or.inr h
  have hS : va_S A s.heap s.heap [] := va_S.rf
  have hl := lv_entry ([.ref (ad 7), .int p1]) (n := 7) (Nat.le_of_ble_eq_true rfl)
  rw [lg_entry_eq]
  generalize (lg_sl ([.ref (ad 7), .int p1]) ++ List.replicate (7 - (lg_sl ([.ref (ad 7), .int p1])).length) Slot.unset).toArray = ls at hl ⊢
  have hl : lv_has ls 7 [(0, .ref (ad 7)), (1, .int p1)] := hl
  obtain ⟨G, hG⟩ : ∃ G : Nat → List (Nat × Value) → List Value → gSt → Prop, G = (fun pc lv stk T => ∀ (H : Heap) (locs : List Loc), va_P (dC, dI) cls_all (gW LH ad km T) H → va_D A (gW LH ad km T) → va_S A s.heap H locs → ∀ (ls : Array Slot), lv_has ls 7 lv → W p l e (headSpec w_Heads_readWhere (rmD (d + 1))).room s m ([.ref (ad 7), .int p1] : List Value).toArray below meth c H locs 0 0 (MQ below (va_Qv (fun (_ : Unit) => True) (fun _ t => gPost dC dI LH ad km T9 A t) A) ([.ref (ad 7), .int p1] : List Value).toArray s 0 0 A) (F0 m pc ls stk)) := ⟨_, rfl⟩
  have lb_53 : ∀ (n : Nat) (T : gSt) (x1 : Int32) (x2 : Int32) (x3 : Int32) (x4 : Int32), rl_Heads_readWhere_53 F nf n T x1 x2 x3 x4 = some (r0, rl0, T9) → G 53 [(0, .ref (ad 7)), (1, .int x1), (2, .int x2), (3, .int x3), (4, .int x4)] [] T := by
    intro n
    induction n with
    | zero => intro T x1 x2 x3 x4 hR; rw [rl_Heads_readWhere_53] at hR; cases hR
    | succ n ih =>
      intro T x1 x2 x3 x4 hR; rw [rl_Heads_readWhere_53] at hR; rw [hG]; intro H locs hP hD hS ls hl
      refine lv_iload hx hb d_Heads_readWhere_53 (lv_at hl 4 rfl) ?_
      refine lv_iconst (v := 3) hx hb d_Heads_readWhere_55 (by decide) ?_
      refine lv_icmp_ge (tgt := 142) hx hb d_Heads_readWhere_56 (by decide) (fun c7 => ?_) (fun c7 => ?_)
      · replace hR := if_p c7 hR
        refine lv_aload_n hx hb d_Heads_readWhere_142 rfl (lv_at hl 0 rfl) ?_
        refine rd_Heads_15 hx hb hT hown hK hP d_Heads_readWhere_143 ?_
        refine rd_Heads_157 hx hb hT hown hK hP d_Heads_readWhere_146 ?_
        refine lv_iload_n hx hb d_Heads_readWhere_149 rfl (lv_at hl 1 rfl) ?_
        refine lv_aload_n hx hb d_Heads_readWhere_150 rfl (lv_at hl 0 rfl) ?_
        refine rd_Heads_15 hx hb hT hown hK hP d_Heads_readWhere_151 ?_
        refine rd_Heads_157 hx hb hT hown hK hP d_Heads_readWhere_154 ?_
        refine lv_iload_n hx hb d_Heads_readWhere_157 rfl (lv_at hl 1 rfl) ?_
        replace hR := gd_e hR
        obtain ⟨b8, hR⟩ := hR
        refine laH_25 hx hb hK hP b8 d_Heads_readWhere_158 ?_
        replace hR := bi_e hR
        obtain ⟨r9, l9, T9, hc9, hR⟩ := hR
        refine gcS_i (rest := [.int x1, .ref (ad 37)]) ⟨hx, hb, hml, hown, hT⟩ (h_Heads_closed _ _ _ _ _ hc9) (va_cwS 1 hT (gS ml_Heads_176 st_Heads_closed ini_Heads co_Heads_closed) rfl rfl rfl pd_Heads_closed ⟨rm_hi, rm_lo (Nat.le_of_ble_eq_true rfl)⟩) hK hP hD hS hA hnw henv rfl hl.1 rfl (Nat.le_of_ble_eq_true rfl) d_Heads_readWhere_159 ⟨Nat.le_refl _, Nat.le_refl _⟩ (fun H locs hP hD hS => ?_)
        clear hc9
        replace hR := gd_e hR
        obtain ⟨b10, hR⟩ := hR
        refine saH_25 hx hb hK hP hD hS b10 d_Heads_readWhere_162 (fun T10 eT H locs hP hD hS => ?_)
        replace hR := stK_e eT hR
        clear eT
        obtain ⟨-, -, e3⟩ := re_e hR
        subst e3
        exact W.vret hx hb hr (fun t ht hW => ⟨⟨(), rfl, trivial, by rw [ht]; exact hP, va_K.moved hW.alike hK, hD⟩, hS.F ht⟩) hS.2.2 d_Heads_readWhere_163
      · replace hR := if_n c7 hR
        refine lv_iload_n hx hb d_Heads_readWhere_59 rfl (lv_at hl 3 rfl) ?_
        refine lv_if_eq (tgt := 142) hx hb d_Heads_readWhere_60 (by decide) (fun c11 => ?_) (fun c11 => ?_)
        · replace hR := if_p c11 hR
          refine lv_aload_n hx hb d_Heads_readWhere_142 rfl (lv_at hl 0 rfl) ?_
          refine rd_Heads_15 hx hb hT hown hK hP d_Heads_readWhere_143 ?_
          refine rd_Heads_157 hx hb hT hown hK hP d_Heads_readWhere_146 ?_
          refine lv_iload_n hx hb d_Heads_readWhere_149 rfl (lv_at hl 1 rfl) ?_
          refine lv_aload_n hx hb d_Heads_readWhere_150 rfl (lv_at hl 0 rfl) ?_
          refine rd_Heads_15 hx hb hT hown hK hP d_Heads_readWhere_151 ?_
          refine rd_Heads_157 hx hb hT hown hK hP d_Heads_readWhere_154 ?_
          refine lv_iload_n hx hb d_Heads_readWhere_157 rfl (lv_at hl 1 rfl) ?_
          replace hR := gd_e hR
          obtain ⟨b12, hR⟩ := hR
          refine laH_25 hx hb hK hP b12 d_Heads_readWhere_158 ?_
          replace hR := bi_e hR
          obtain ⟨r13, l13, T13, hc13, hR⟩ := hR
          refine gcS_i (rest := [.int x1, .ref (ad 37)]) ⟨hx, hb, hml, hown, hT⟩ (h_Heads_closed _ _ _ _ _ hc13) (va_cwS 1 hT (gS ml_Heads_176 st_Heads_closed ini_Heads co_Heads_closed) rfl rfl rfl pd_Heads_closed ⟨rm_hi, rm_lo (Nat.le_of_ble_eq_true rfl)⟩) hK hP hD hS hA hnw henv rfl hl.1 rfl (Nat.le_of_ble_eq_true rfl) d_Heads_readWhere_159 ⟨Nat.le_refl _, Nat.le_refl _⟩ (fun H locs hP hD hS => ?_)
          clear hc13
          replace hR := gd_e hR
          obtain ⟨b14, hR⟩ := hR
          refine saH_25 hx hb hK hP hD hS b14 d_Heads_readWhere_162 (fun T14 eT H locs hP hD hS => ?_)
          replace hR := stK_e eT hR
          clear eT
          obtain ⟨-, -, e3⟩ := re_e hR
          subst e3
          exact W.vret hx hb hr (fun t ht hW => ⟨⟨(), rfl, trivial, by rw [ht]; exact hP, va_K.moved hW.alike hK, hD⟩, hS.F ht⟩) hS.2.2 d_Heads_readWhere_163
        · replace hR := if_n c11 hR
          refine lv_aload_n hx hb d_Heads_readWhere_63 rfl (lv_at hl 0 rfl) ?_
          refine lv_iload_n hx hb d_Heads_readWhere_64 rfl (lv_at hl 2 rfl) ?_
          replace hR := bi_e hR
          obtain ⟨r15, l15, T15, hc15, hR⟩ := hR
          refine gcV_i (rest := []) ⟨hx, hb, hml, hown, hT⟩ (h_Heads_ownRegion _ _ _ _ _ hc15) (cwV 1 hT (gV ml_Heads_154 im_Heads_ownRegion se_Heads_ownRegion ini_Heads co_Heads_ownRegion) rfl rfl rfl pd_Heads_ownRegion ⟨rm_hi, rm_lo (Nat.le_of_ble_eq_true rfl)⟩) hK hP hD hS hA hnw henv (Nat.le_of_ble_eq_true rfl) rfl rfl hl.1 rfl (Nat.le_of_ble_eq_true rfl) d_Heads_readWhere_65 ⟨Nat.le_refl _, Nat.le_refl _⟩ (fun H locs hP hD hS => ?_)
          clear hc15
          refine lv_istore (lv' := [(5, .int r15), (0, .ref (ad 7)), (1, .int x1), (2, .int x2), (3, .int x3), (4, .int x4)]) hx hb d_Heads_readWhere_68 hl (by decide) rfl (fun ls hl => ?_)
          refine lv_aload_n hx hb d_Heads_readWhere_70 rfl (lv_at hl 1 rfl) ?_
          refine lv_iload_n hx hb d_Heads_readWhere_71 rfl (lv_at hl 3 rfl) ?_
          refine lv_iconst (v := 2) hx hb d_Heads_readWhere_72 (by decide) ?_
          refine lv_iadd hx hb d_Heads_readWhere_73 ?_
          replace hR := bi_e hR
          obtain ⟨r16, l16, T16, hc16, hR⟩ := hR
          refine gcV_i (rest := []) ⟨hx, hb, hml, hown, hT⟩ (h_Heads_ownRegion _ _ _ _ _ hc16) (cwV 1 hT (gV ml_Heads_154 im_Heads_ownRegion se_Heads_ownRegion ini_Heads co_Heads_ownRegion) rfl rfl rfl pd_Heads_ownRegion ⟨rm_hi, rm_lo (Nat.le_of_ble_eq_true rfl)⟩) hK hP hD hS hA hnw henv (Nat.le_of_ble_eq_true rfl) rfl rfl hl.1 rfl (Nat.le_of_ble_eq_true rfl) d_Heads_readWhere_74 ⟨Nat.le_refl _, Nat.le_refl _⟩ (fun H locs hP hD hS => ?_)
          clear hc16
          refine lv_istore (lv' := [(6, .int r16), (5, .int r15), (0, .ref (ad 7)), (1, .int x1), (2, .int x2), (3, .int x3), (4, .int x4)]) hx hb d_Heads_readWhere_77 hl (by decide) rfl (fun ls hl => ?_)
          refine lv_aload_n hx hb d_Heads_readWhere_79 rfl (lv_at hl 2 rfl) ?_
          refine rd_Heads_15 hx hb hT hown hK hP d_Heads_readWhere_80 ?_
          refine rd_Heads_157 hx hb hT hown hK hP d_Heads_readWhere_83 ?_
          refine lv_iload_n hx hb d_Heads_readWhere_86 rfl (lv_at hl 3 rfl) ?_
          refine lv_dup2_11 hx hb d_Heads_readWhere_87 rfl rfl ?_
          replace hR := gd_e hR
          obtain ⟨b17, hR⟩ := hR
          refine laH_25 hx hb hK hP b17 d_Heads_readWhere_88 ?_
          refine lv_iconst (v := 1) hx hb d_Heads_readWhere_89 (by decide) ?_
          refine lv_iload hx hb d_Heads_readWhere_90 (lv_at hl 1 rfl) ?_
          refine lv_iload hx hb d_Heads_readWhere_92 (lv_at hl 0 rfl) ?_
          replace hR := bi_e hR
          obtain ⟨r18, l18, T18, hc18, hR⟩ := hR
          refine gcS_i (rest := [.int (1 : Int32), .int (T16.1 40 x1.toNatClampNeg), .int x1, .ref (ad 37)]) ⟨hx, hb, hml, hown, hT⟩ (h_Scope_aboveBit _ _ _ _ _ _ hc18) (va_cwS 2 hT (gS ml_Heads_166 st_Scope_aboveBit ini_Scope co_Scope_aboveBit) rfl rfl rfl pd_Scope_aboveBit ⟨rm_hi, rm_lo (Nat.le_of_ble_eq_true rfl)⟩) hK hP hD hS hA hnw henv rfl hl.1 rfl (Nat.le_of_ble_eq_true rfl) d_Heads_readWhere_94 ⟨Nat.le_refl _, Nat.le_refl _⟩ (fun H locs hP hD hS => ?_)
          clear hc18
          refine lv_ishl hx hb d_Heads_readWhere_97 ?_
          refine lv_ior hx hb d_Heads_readWhere_98 ?_
          replace hR := gd_e hR
          obtain ⟨b19, hR⟩ := hR
          refine saH_25 hx hb hK hP hD hS b19 d_Heads_readWhere_99 (fun T19 eT H locs hP hD hS => ?_)
          replace hR := stK_e eT hR
          clear eT
          refine lv_aload_n hx hb d_Heads_readWhere_100 rfl (lv_at hl 2 rfl) ?_
          refine rd_Heads_15 hx hb hT hown hK hP d_Heads_readWhere_101 ?_
          refine lv_iload_n hx hb d_Heads_readWhere_104 rfl (lv_at hl 3 rfl) ?_
          refine lv_iload hx hb d_Heads_readWhere_105 (lv_at hl 1 rfl) ?_
          refine lv_iload hx hb d_Heads_readWhere_107 (lv_at hl 0 rfl) ?_
          replace hR := bi_e hR
          obtain ⟨r20, l20, T20, hc20, hR⟩ := hR
          refine gcV_v (rest := []) ⟨hx, hb, hml, hown, hT⟩ (h_Items_addPair _ _ _ _ _ _ _ hc20) (cwV 3 hT (gV ml_Heads_169 im_Items_addPair se_Items_addPair ini_Items co_Items_addPair) rfl rfl rfl pd_Items_addPair ⟨rm_hi, rm_lo (Nat.le_of_ble_eq_true rfl)⟩) hK hP hD hS hA hnw henv (Nat.le_of_ble_eq_true rfl) rfl rfl hl.1 rfl (Nat.le_of_ble_eq_true rfl) d_Heads_readWhere_109 ⟨Nat.le_refl _, Nat.le_refl _⟩ (fun H locs hP hD hS => ?_)
          clear hc20
          refine lv_aload_n hx hb d_Heads_readWhere_112 rfl (lv_at hl 2 rfl) ?_
          refine rd_Heads_9 hx hb hT hown hK hP d_Heads_readWhere_113 ?_
          refine lv_iload_n hx hb d_Heads_readWhere_116 rfl (lv_at hl 4 rfl) ?_
          refine lv_iconst (v := 3) hx hb d_Heads_readWhere_117 (by decide) ?_
          refine lv_iadd hx hb d_Heads_readWhere_118 ?_
          replace hR := bi_e hR
          obtain ⟨r21, l21, T21, hc21, hR⟩ := hR
          refine gcV_i (rest := []) ⟨hx, hb, hml, hown, hT⟩ (h_Source_kindAt _ _ _ _ _ hc21) (cwV 1 hT (gV ml_Heads_173 im_Source_kindAt se_Source_kindAt ini_Source co_Source_kindAt) rfl rfl rfl pd_Source_kindAt ⟨rm_hi, rm_lo (Nat.le_of_ble_eq_true rfl)⟩) hK hP hD hS hA hnw henv (Nat.le_of_ble_eq_true rfl) rfl rfl hl.1 rfl (Nat.le_of_ble_eq_true rfl) d_Heads_readWhere_119 ⟨Nat.le_refl _, Nat.le_refl _⟩ (fun H locs hP hD hS => ?_)
          clear hc21
          refine lv_bipush (v := 47) hx hb d_Heads_readWhere_122 (by decide) ?_
          refine lv_icmp_ne (tgt := 131) hx hb d_Heads_readWhere_124 (by decide) (fun c22 => ?_) (fun c22 => ?_)
          · replace hR := if_n c22 hR
            refine lv_iconst (v := 0) hx hb d_Heads_readWhere_131 (by decide) ?_
            refine lv_istore_n (lv' := [(3, .int (0 : Int32)), (6, .int r16), (5, .int r15), (0, .ref (ad 7)), (1, .int x1), (2, .int x2), (4, .int x4)]) hx hb d_Heads_readWhere_132 rfl hl (by decide) rfl (fun ls hl => ?_)
            obtain ⟨z23, e23⟩ : ∃ y : Int32, y = x2 + (4 : Int32) := ⟨_, rfl⟩
            replace hR := vK_e e23 hR
            refine lv_iinc (v := z23) (lv' := [(2, .int z23), (3, .int (0 : Int32)), (6, .int r16), (5, .int r15), (0, .ref (ad 7)), (1, .int x1), (4, .int x4)]) hx hb d_Heads_readWhere_133 hl (k := 5) rfl (by rw [e23]; rfl) (by decide) rfl (fun ls hl => ?_)
            obtain ⟨z24, e24⟩ : ∃ y : Int32, y = x4 + (1 : Int32) := ⟨_, rfl⟩
            replace hR := vK_e e24 hR
            refine lv_iinc (v := z24) (lv' := [(4, .int z24), (2, .int z23), (3, .int (0 : Int32)), (6, .int r16), (5, .int r15), (0, .ref (ad 7)), (1, .int x1)]) hx hb d_Heads_readWhere_136 hl (k := 6) rfl (by rw [e24]; rfl) (by decide) rfl (fun ls hl => ?_)
            refine lv_goto (tgt := 53) hx hb d_Heads_readWhere_139 (by decide) ?_
            have g := ih T21 x1 z23 (0 : Int32) z24 hR
            rw [hG] at g
            exact g _ _ hP hD hS _ (lv_sub hl [5, 6, 1, 2, 0] rfl)
          · replace hR := if_p c22 hR
            refine lv_iconst (v := 1) hx hb d_Heads_readWhere_127 (by decide) ?_
            refine lv_goto (tgt := 132) hx hb d_Heads_readWhere_128 (by decide) ?_
            refine lv_istore_n (lv' := [(3, .int (1 : Int32)), (6, .int r16), (5, .int r15), (0, .ref (ad 7)), (1, .int x1), (2, .int x2), (4, .int x4)]) hx hb d_Heads_readWhere_132 rfl hl (by decide) rfl (fun ls hl => ?_)
            obtain ⟨z25, e25⟩ : ∃ y : Int32, y = x2 + (4 : Int32) := ⟨_, rfl⟩
            replace hR := vK_e e25 hR
            refine lv_iinc (v := z25) (lv' := [(2, .int z25), (3, .int (1 : Int32)), (6, .int r16), (5, .int r15), (0, .ref (ad 7)), (1, .int x1), (4, .int x4)]) hx hb d_Heads_readWhere_133 hl (k := 5) rfl (by rw [e25]; rfl) (by decide) rfl (fun ls hl => ?_)
            obtain ⟨z26, e26⟩ : ∃ y : Int32, y = x4 + (1 : Int32) := ⟨_, rfl⟩
            replace hR := vK_e e26 hR
            refine lv_iinc (v := z26) (lv' := [(4, .int z26), (2, .int z25), (3, .int (1 : Int32)), (6, .int r16), (5, .int r15), (0, .ref (ad 7)), (1, .int x1)]) hx hb d_Heads_readWhere_136 hl (k := 6) rfl (by rw [e26]; rfl) (by decide) rfl (fun ls hl => ?_)
            refine lv_goto (tgt := 53) hx hb d_Heads_readWhere_139 (by decide) ?_
            have g := ih T21 x1 z25 (1 : Int32) z26 hR
            rw [hG] at g
            exact g _ _ hP hD hS _ (lv_sub hl [5, 6, 1, 2, 0] rfl)
  unfold rb_Heads_readWhere at hR
  refine lv_aload_n hx hb d_Heads_readWhere_0 rfl (lv_at hl 0 rfl) ?_
  refine rd_Heads_15 hx hb hT hown hK hP d_Heads_readWhere_1 ?_
  refine rd_Heads_157 hx hb hT hown hK hP d_Heads_readWhere_4 ?_
  refine lv_iload_n hx hb d_Heads_readWhere_7 rfl (lv_at hl 1 rfl) ?_
  refine lv_iconst (v := 0) hx hb d_Heads_readWhere_8 (by decide) ?_
  replace hR := gd_e hR
  obtain ⟨b1, hR⟩ := hR
  refine saH_25 hx hb hK hP hD hS b1 d_Heads_readWhere_9 (fun T1 eT H locs hP hD hS => ?_)
  replace hR := stK_e eT hR
  clear eT
  refine lv_aload_n hx hb d_Heads_readWhere_10 rfl (lv_at hl 0 rfl) ?_
  refine rd_Heads_15 hx hb hT hown hK hP d_Heads_readWhere_11 ?_
  refine rd_Heads_160 hx hb hT hown hK hP hnw d_Heads_readWhere_14 ?_
  refine lv_iload_n hx hb d_Heads_readWhere_17 rfl (lv_at hl 1 rfl) ?_
  refine lv_iconst (v := 0) hx hb d_Heads_readWhere_18 (by decide) ?_
  replace hR := gd_e hR
  obtain ⟨b2, hR⟩ := hR
  refine saH_31 hx hb hK hP hD hS b2 d_Heads_readWhere_19 (fun T2 eT H locs hP hD hS => ?_)
  replace hR := stK_e eT hR
  clear eT
  refine lv_aload_n hx hb d_Heads_readWhere_20 rfl (lv_at hl 0 rfl) ?_
  refine rd_Heads_15 hx hb hT hown hK hP d_Heads_readWhere_21 ?_
  refine rd_Heads_163 hx hb hT hown hK hP d_Heads_readWhere_24 ?_
  refine lv_iload_n hx hb d_Heads_readWhere_27 rfl (lv_at hl 1 rfl) ?_
  replace hR := gd_e hR
  obtain ⟨b3, hR⟩ := hR
  refine laH_20 hx hb hK hP b3 d_Heads_readWhere_28 ?_
  refine lv_iconst (v := 1) hx hb d_Heads_readWhere_29 (by decide) ?_
  refine lv_iadd hx hb d_Heads_readWhere_30 ?_
  refine lv_topi (fun z4 e4 => ?_)
  replace hR := vK_e e4 hR
  refine lv_istore_n (lv' := [(2, .int z4), (0, .ref (ad 7)), (1, .int p1)]) hx hb d_Heads_readWhere_31 rfl hl (by decide) rfl (fun ls hl => ?_)
  refine lv_aload_n hx hb d_Heads_readWhere_32 rfl (lv_at hl 1 rfl) ?_
  refine rd_Heads_15 hx hb hT hown hK hP d_Heads_readWhere_33 ?_
  refine rd_Heads_163 hx hb hT hown hK hP d_Heads_readWhere_36 ?_
  refine lv_iload_n hx hb d_Heads_readWhere_39 rfl (lv_at hl 2 rfl) ?_
  replace hR := gd_e hR
  obtain ⟨b5, hR⟩ := hR
  refine laH_20 hx hb hK hP b5 d_Heads_readWhere_40 ?_
  refine lv_if_eq (tgt := 48) hx hb d_Heads_readWhere_41 (by decide) (fun c6 => ?_) (fun c6 => ?_)
  · replace hR := if_p c6 hR
    refine lv_iconst (v := 0) hx hb d_Heads_readWhere_48 (by decide) ?_
    refine lv_istore_n (lv' := [(3, .int (0 : Int32)), (2, .int z4), (0, .ref (ad 7)), (1, .int p1)]) hx hb d_Heads_readWhere_49 rfl hl (by decide) rfl (fun ls hl => ?_)
    refine lv_iconst (v := 0) hx hb d_Heads_readWhere_50 (by decide) ?_
    refine lv_istore (lv' := [(4, .int (0 : Int32)), (3, .int (0 : Int32)), (2, .int z4), (0, .ref (ad 7)), (1, .int p1)]) hx hb d_Heads_readWhere_51 hl (by decide) rfl (fun ls hl => ?_)
    have g := lb_53 nf T2 p1 z4 (0 : Int32) (0 : Int32) hR
    rw [hG] at g
    exact g _ _ hP hD hS _ (lv_sub hl [3, 4, 2, 1, 0] rfl)
  · replace hR := if_n c6 hR
    refine lv_iconst (v := 1) hx hb d_Heads_readWhere_44 (by decide) ?_
    refine lv_goto (tgt := 49) hx hb d_Heads_readWhere_45 (by decide) ?_
    refine lv_istore_n (lv' := [(3, .int (1 : Int32)), (2, .int z4), (0, .ref (ad 7)), (1, .int p1)]) hx hb d_Heads_readWhere_49 rfl hl (by decide) rfl (fun ls hl => ?_)
    refine lv_iconst (v := 0) hx hb d_Heads_readWhere_50 (by decide) ?_
    refine lv_istore (lv' := [(4, .int (0 : Int32)), (3, .int (1 : Int32)), (2, .int z4), (0, .ref (ad 7)), (1, .int p1)]) hx hb d_Heads_readWhere_51 hl (by decide) rfl (fun ls hl => ?_)
    have g := lb_53 nf T2 p1 z4 (1 : Int32) (0 : Int32) hR
    rw [hG] at g
    exact g _ _ hP hD hS _ (lv_sub hl [3, 4, 2, 1, 0] rfl)
set_option maxHeartbeats 4000000 in
set_option maxRecDepth 100000 in
theorem sp_Heads_closed (l : Launch) (dC : Nat → ClassId) (dI : Nat → Nat → Nat) (ea ev ad : Nat → Nat) (km : Nat → ClassId) (F : gF) (nf d : Nat) (h_Scope_aboveBit : mt_Scope_aboveBit l dC dI ea ev ad km F d) (T0 : gSt) (p1 : Int32) (r0 : Int32) (rl0 : Int64) (T9 : gSt) (hR : rb_Heads_closed F nf T0 p1 = some (r0, rl0, T9)) : GMi l dC dI LH ad km ea ev y_Heads_closed w_Heads_closed (rmD (d + 1)) [.int p1] T0 r0 T9 := by
  intro sz
  refine Met.ofW (cc := b_Heads_closed) (maxL := 6) (ret := (some .int)) (by decide) rfl ?_
  intro p e s m args below meth c s₁ B hml hv
  obtain ⟨rfl, hsz, hP, hK, hD0, hnw, henv⟩ := hv
  have hx := B.exec
  have hb := B.bytes
  have hr := B.returns
  have hT : ∀ w ∈ lw_good, w.before _ s = true := fun w h => atoms_spec (ws := w_Heads_closed) B.pre w (List.mem_cons_of_mem _ h)
  have hown : s.vm.findClass R_Heads = some m.cls := findClass_of_methodNamed B.named
  subst hsz
  have hD := hD0.self (sz := s.heap.size)
  clear hD0
  generalize hAe : va_A (gW LH ad km T0) s.heap.size = A at hD henv ⊢
  have hA : ∀ q : Nat, s.heap.size ≤ q → A q := fun q h => by rw [← hAe]; exact Or.inr h
  have hS : va_S A s.heap s.heap [] := va_S.rf
  have hl := lv_entry ([.int p1]) (n := 6) (Nat.le_of_ble_eq_true rfl)
  rw [lg_entry_eq]
  generalize (lg_sl ([.int p1]) ++ List.replicate (6 - (lg_sl ([.int p1])).length) Slot.unset).toArray = ls at hl ⊢
  have hl : lv_has ls 6 [(0, .int p1)] := hl
  obtain ⟨G, hG⟩ : ∃ G : Nat → List (Nat × Value) → List Value → gSt → Prop, G = (fun pc lv stk T => ∀ (H : Heap) (locs : List Loc), va_P (dC, dI) cls_all (gW LH ad km T) H → va_D A (gW LH ad km T) → va_S A s.heap H locs → ∀ (ls : Array Slot), lv_has ls 6 lv → W p l e (headSpec w_Heads_closed (rmD (d + 1))).room s m ([.int p1] : List Value).toArray below meth c H locs 0 0 (MQ below (va_Qi (fun (z : Int32) (_ : Unit) => z = r0) (fun _ t => gPost dC dI LH ad km T9 A t) A) ([.int p1] : List Value).toArray s 0 0 A) (F0 m pc ls stk)) := ⟨_, rfl⟩
  have lb_51 : ∀ (rec_4 : gSt → Int32 → Int32 → gR) (hrec_4 : ∀ (T : gSt) (x1 : Int32) (x2 : Int32), rec_4 T x1 x2 = some (r0, rl0, T9) → G 4 [(1, .int x1), (2, .int x2)] [] T) (rec_11 : gSt → Int32 → Int32 → Int32 → gR) (hrec_11 : ∀ (T : gSt) (x1 : Int32) (x2 : Int32) (x3 : Int32), rec_11 T x1 x2 x3 = some (r0, rl0, T9) → G 11 [(1, .int x1), (2, .int x2), (3, .int x3)] [] T) (rec_19 : gSt → Int32 → Int32 → Int32 → Int32 → gR) (hrec_19 : ∀ (T : gSt) (x1 : Int32) (x2 : Int32) (x3 : Int32) (x4 : Int32), rec_19 T x1 x2 x3 x4 = some (r0, rl0, T9) → G 19 [(1, .int x1), (2, .int x2), (3, .int x3), (4, .int x4)] [] T) (T : gSt) (x1 : Int32) (x2 : Int32) (x3 : Int32) (x4 : Int32) (y0 : Int32), rj_Heads_closed_51 F nf rec_4 rec_11 rec_19 T x1 x2 x3 x4 y0 = some (r0, rl0, T9) → G 51 [(1, .int x1), (2, .int x2), (3, .int x3), (4, .int x4)] [.int y0] T := by
    intro rec_4 hrec_4 rec_11 hrec_11 rec_19 hrec_19 T x1 x2 x3 x4 y0 hR; unfold rj_Heads_closed_51 at hR; rw [hG]; intro H locs hP hD hS ls hl
    refine lv_istore (lv' := [(5, .int y0), (1, .int x1), (2, .int x2), (3, .int x3), (4, .int x4)]) hx hb d_Heads_closed_51 hl (by decide) rfl (fun ls hl => ?_)
    refine lv_iload_n hx hb d_Heads_closed_53 rfl (lv_at hl 1 rfl) ?_
    refine lv_iload hx hb d_Heads_closed_54 (lv_at hl 0 rfl) ?_
    refine lv_if_eq (tgt := 70) hx hb d_Heads_closed_56 (by decide) (fun c10 => ?_) (fun c10 => ?_)
    · replace hR := if_p c10 hR
      refine lv_iconst (v := 0) hx hb d_Heads_closed_70 (by decide) ?_
      refine lv_ior hx hb d_Heads_closed_71 ?_
      refine lv_topi (fun z11 e11 => ?_)
      replace hR := vK_e e11 hR
      refine lv_istore_n (lv' := [(1, .int z11), (5, .int y0), (2, .int x2), (3, .int x3), (4, .int x4)]) hx hb d_Heads_closed_72 rfl hl (by decide) rfl (fun ls hl => ?_)
      obtain ⟨z12, e12⟩ : ∃ y : Int32, y = x4 + (1 : Int32) := ⟨_, rfl⟩
      replace hR := vK_e e12 hR
      refine lv_iinc (v := z12) (lv' := [(4, .int z12), (1, .int z11), (5, .int y0), (2, .int x2), (3, .int x3)]) hx hb d_Heads_closed_73 hl (k := 4) rfl (by rw [e12]; rfl) (by decide) rfl (fun ls hl => ?_)
      refine lv_goto (tgt := 19) hx hb d_Heads_closed_76 (by decide) ?_
      have g := hrec_19 T z11 x2 x3 z12 hR
      rw [hG] at g
      exact g _ _ hP hD hS _ (lv_sub hl [1, 3, 4, 0] rfl)
    · replace hR := if_n c10 hR
      refine lv_iconst (v := 1) hx hb d_Heads_closed_59 (by decide) ?_
      refine lv_iload_n hx hb d_Heads_closed_60 rfl (lv_at hl 3 rfl) ?_
      refine lv_iload hx hb d_Heads_closed_61 (lv_at hl 4 rfl) ?_
      replace hR := bi_e hR
      obtain ⟨r13, l13, T13, hc13, hR⟩ := hR
      refine gcS_i (rest := [.int (1 : Int32), .int x1]) ⟨hx, hb, hml, hown, hT⟩ (h_Scope_aboveBit _ _ _ _ _ _ hc13) (va_cwS 2 hT (gS ml_Heads_166 st_Scope_aboveBit ini_Scope co_Scope_aboveBit) rfl rfl rfl pd_Scope_aboveBit ⟨rm_hi, rm_lo (Nat.le_of_ble_eq_true rfl)⟩) hK hP hD hS hA hnw henv rfl hl.1 rfl (Nat.le_of_ble_eq_true rfl) d_Heads_closed_63 ⟨Nat.le_refl _, Nat.le_refl _⟩ (fun H locs hP hD hS => ?_)
      clear hc13
      refine lv_ishl hx hb d_Heads_closed_66 ?_
      refine lv_goto (tgt := 71) hx hb d_Heads_closed_67 (by decide) ?_
      refine lv_ior hx hb d_Heads_closed_71 ?_
      refine lv_topi (fun z14 e14 => ?_)
      replace hR := vK_e e14 hR
      refine lv_istore_n (lv' := [(1, .int z14), (5, .int y0), (2, .int x2), (3, .int x3), (4, .int x4)]) hx hb d_Heads_closed_72 rfl hl (by decide) rfl (fun ls hl => ?_)
      obtain ⟨z15, e15⟩ : ∃ y : Int32, y = x4 + (1 : Int32) := ⟨_, rfl⟩
      replace hR := vK_e e15 hR
      refine lv_iinc (v := z15) (lv' := [(4, .int z15), (1, .int z14), (5, .int y0), (2, .int x2), (3, .int x3)]) hx hb d_Heads_closed_73 hl (k := 4) rfl (by rw [e15]; rfl) (by decide) rfl (fun ls hl => ?_)
      refine lv_goto (tgt := 19) hx hb d_Heads_closed_76 (by decide) ?_
      have g := hrec_19 T13 z14 x2 x3 z15 hR
      rw [hG] at g
      exact g _ _ hP hD hS _ (lv_sub hl [1, 3, 4, 0] rfl)
  have lb_19 : ∀ (rec_4 : gSt → Int32 → Int32 → gR) (hrec_4 : ∀ (T : gSt) (x1 : Int32) (x2 : Int32), rec_4 T x1 x2 = some (r0, rl0, T9) → G 4 [(1, .int x1), (2, .int x2)] [] T) (rec_11 : gSt → Int32 → Int32 → Int32 → gR) (hrec_11 : ∀ (T : gSt) (x1 : Int32) (x2 : Int32) (x3 : Int32), rec_11 T x1 x2 x3 = some (r0, rl0, T9) → G 11 [(1, .int x1), (2, .int x2), (3, .int x3)] [] T) (n : Nat) (T : gSt) (x1 : Int32) (x2 : Int32) (x3 : Int32) (x4 : Int32), rl_Heads_closed_19 F nf rec_4 rec_11 n T x1 x2 x3 x4 = some (r0, rl0, T9) → G 19 [(1, .int x1), (2, .int x2), (3, .int x3), (4, .int x4)] [] T := by
    intro rec_4 hrec_4 rec_11 hrec_11 n
    induction n with
    | zero => intro T x1 x2 x3 x4 hR; rw [rl_Heads_closed_19] at hR; cases hR
    | succ n ih =>
      intro T x1 x2 x3 x4 hR; rw [rl_Heads_closed_19] at hR; rw [hG]; intro H locs hP hD hS ls hl
      refine lv_iload hx hb d_Heads_closed_19 (lv_at hl 3 rfl) ?_
      refine lv_iconst (v := 3) hx hb d_Heads_closed_21 (by decide) ?_
      refine lv_icmp_gt (tgt := 79) hx hb d_Heads_closed_22 (by decide) (fun c5 => ?_) (fun c5 => ?_)
      · replace hR := if_p c5 hR
        obtain ⟨z6, e6⟩ : ∃ y : Int32, y = x3 + (1 : Int32) := ⟨_, rfl⟩
        replace hR := vK_e e6 hR
        refine lv_iinc (v := z6) (lv' := [(3, .int z6), (1, .int x1), (2, .int x2), (4, .int x4)]) hx hb d_Heads_closed_79 hl (k := 2) rfl (by rw [e6]; rfl) (by decide) rfl (fun ls hl => ?_)
        refine lv_goto (tgt := 11) hx hb d_Heads_closed_82 (by decide) ?_
        have g := hrec_11 T x1 x2 z6 hR
        rw [hG] at g
        exact g _ _ hP hD hS _ (lv_sub hl [1, 2, 0] rfl)
      · replace hR := if_n c5 hR
        refine lv_iload_n hx hb d_Heads_closed_25 rfl (lv_at hl 0 rfl) ?_
        refine lv_iload_n hx hb d_Heads_closed_26 rfl (lv_at hl 2 rfl) ?_
        refine lv_iload_n hx hb d_Heads_closed_27 rfl (lv_at hl 1 rfl) ?_
        replace hR := bi_e hR
        obtain ⟨r7, l7, T7, hc7, hR⟩ := hR
        refine gcS_i (rest := [.int x1]) ⟨hx, hb, hml, hown, hT⟩ (h_Scope_aboveBit _ _ _ _ _ _ hc7) (va_cwS 2 hT (gS ml_Heads_166 st_Scope_aboveBit ini_Scope co_Scope_aboveBit) rfl rfl rfl pd_Scope_aboveBit ⟨rm_hi, rm_lo (Nat.le_of_ble_eq_true rfl)⟩) hK hP hD hS hA hnw henv rfl hl.1 rfl (Nat.le_of_ble_eq_true rfl) d_Heads_closed_28 ⟨Nat.le_refl _, Nat.le_refl _⟩ (fun H locs hP hD hS => ?_)
        clear hc7
        refine lv_ishr hx hb d_Heads_closed_31 ?_
        refine lv_iload_n hx hb d_Heads_closed_32 rfl (lv_at hl 0 rfl) ?_
        refine lv_iload_n hx hb d_Heads_closed_33 rfl (lv_at hl 1 rfl) ?_
        refine lv_iload hx hb d_Heads_closed_34 (lv_at hl 3 rfl) ?_
        replace hR := bi_e hR
        obtain ⟨r8, l8, T8, hc8, hR⟩ := hR
        refine gcS_i (rest := [.int x1, .int (x1 >>> (r7 &&& 31))]) ⟨hx, hb, hml, hown, hT⟩ (h_Scope_aboveBit _ _ _ _ _ _ hc8) (va_cwS 2 hT (gS ml_Heads_166 st_Scope_aboveBit ini_Scope co_Scope_aboveBit) rfl rfl rfl pd_Scope_aboveBit ⟨rm_hi, rm_lo (Nat.le_of_ble_eq_true rfl)⟩) hK hP hD hS hA hnw henv rfl hl.1 rfl (Nat.le_of_ble_eq_true rfl) d_Heads_closed_36 ⟨Nat.le_refl _, Nat.le_refl _⟩ (fun H locs hP hD hS => ?_)
        clear hc8
        refine lv_ishr hx hb d_Heads_closed_39 ?_
        refine lv_iand hx hb d_Heads_closed_40 ?_
        refine lv_iconst (v := 1) hx hb d_Heads_closed_41 (by decide) ?_
        refine lv_iand hx hb d_Heads_closed_42 ?_
        refine lv_if_eq (tgt := 50) hx hb d_Heads_closed_43 (by decide) (fun c9 => ?_) (fun c9 => ?_)
        · replace hR := if_p c9 hR
          refine lv_iconst (v := 0) hx hb d_Heads_closed_50 (by decide) ?_
          have g := lb_51 rec_4 hrec_4 rec_11 hrec_11 (rl_Heads_closed_19 F nf rec_4 rec_11 n) ih T8 x1 x2 x3 x4 (0 : Int32) hR
          rw [hG] at g
          exact g _ _ hP hD hS _ (lv_sub hl [0, 1, 2, 3] rfl)
        · replace hR := if_n c9 hR
          refine lv_iconst (v := 1) hx hb d_Heads_closed_46 (by decide) ?_
          refine lv_goto (tgt := 51) hx hb d_Heads_closed_47 (by decide) ?_
          have g := lb_51 rec_4 hrec_4 rec_11 hrec_11 (rl_Heads_closed_19 F nf rec_4 rec_11 n) ih T8 x1 x2 x3 x4 (1 : Int32) hR
          rw [hG] at g
          exact g _ _ hP hD hS _ (lv_sub hl [0, 1, 2, 3] rfl)
  have lb_11 : ∀ (rec_4 : gSt → Int32 → Int32 → gR) (hrec_4 : ∀ (T : gSt) (x1 : Int32) (x2 : Int32), rec_4 T x1 x2 = some (r0, rl0, T9) → G 4 [(1, .int x1), (2, .int x2)] [] T) (n : Nat) (T : gSt) (x1 : Int32) (x2 : Int32) (x3 : Int32), rl_Heads_closed_11 F nf rec_4 n T x1 x2 x3 = some (r0, rl0, T9) → G 11 [(1, .int x1), (2, .int x2), (3, .int x3)] [] T := by
    intro rec_4 hrec_4 n
    induction n with
    | zero => intro T x1 x2 x3 hR; rw [rl_Heads_closed_11] at hR; cases hR
    | succ n ih =>
      intro T x1 x2 x3 hR; rw [rl_Heads_closed_11] at hR; rw [hG]; intro H locs hP hD hS ls hl
      refine lv_iload_n hx hb d_Heads_closed_11 rfl (lv_at hl 2 rfl) ?_
      refine lv_iconst (v := 3) hx hb d_Heads_closed_12 (by decide) ?_
      refine lv_icmp_gt (tgt := 85) hx hb d_Heads_closed_13 (by decide) (fun c3 => ?_) (fun c3 => ?_)
      · replace hR := if_p c3 hR
        obtain ⟨z4, e4⟩ : ∃ y : Int32, y = x2 + (1 : Int32) := ⟨_, rfl⟩
        replace hR := vK_e e4 hR
        refine lv_iinc (v := z4) (lv' := [(2, .int z4), (1, .int x1), (3, .int x3)]) hx hb d_Heads_closed_85 hl (k := 1) rfl (by rw [e4]; rfl) (by decide) rfl (fun ls hl => ?_)
        refine lv_goto (tgt := 4) hx hb d_Heads_closed_88 (by decide) ?_
        have g := hrec_4 T x1 z4 hR
        rw [hG] at g
        exact g _ _ hP hD hS _ (lv_sub hl [1, 0] rfl)
      · replace hR := if_n c3 hR
        refine lv_iconst (v := 1) hx hb d_Heads_closed_16 (by decide) ?_
        refine lv_istore (lv' := [(4, .int (1 : Int32)), (1, .int x1), (2, .int x2), (3, .int x3)]) hx hb d_Heads_closed_17 hl (by decide) rfl (fun ls hl => ?_)
        have g := lb_19 rec_4 hrec_4 (rl_Heads_closed_11 F nf rec_4 n) ih nf T x1 x2 x3 (1 : Int32) hR
        rw [hG] at g
        exact g _ _ hP hD hS _ (lv_sub hl [1, 2, 3, 0] rfl)
  have lb_4 : ∀ (n : Nat) (T : gSt) (x1 : Int32) (x2 : Int32), rl_Heads_closed_4 F nf n T x1 x2 = some (r0, rl0, T9) → G 4 [(1, .int x1), (2, .int x2)] [] T := by
    intro n
    induction n with
    | zero => intro T x1 x2 hR; rw [rl_Heads_closed_4] at hR; cases hR
    | succ n ih =>
      intro T x1 x2 hR; rw [rl_Heads_closed_4] at hR; rw [hG]; intro H locs hP hD hS ls hl
      refine lv_iload_n hx hb d_Heads_closed_4 rfl (lv_at hl 1 rfl) ?_
      refine lv_iconst (v := 3) hx hb d_Heads_closed_5 (by decide) ?_
      refine lv_icmp_gt (tgt := 91) hx hb d_Heads_closed_6 (by decide) (fun c1 => ?_) (fun c1 => ?_)
      · replace hR := if_p c1 hR
        refine lv_iload_n hx hb d_Heads_closed_91 rfl (lv_at hl 0 rfl) ?_
        obtain ⟨e1, -, e3⟩ := re_e hR
        subst e1; subst e3
        exact W.iret (v := x1) hx hb hr (fun t ht hW => ⟨⟨x1, (), rfl, rfl, by rw [ht]; exact hP, va_K.moved hW.alike hK, hD⟩, hS.F ht⟩) hS.2.2 d_Heads_closed_92
      · replace hR := if_n c1 hR
        refine lv_iconst (v := 1) hx hb d_Heads_closed_9 (by decide) ?_
        refine lv_istore_n (lv' := [(3, .int (1 : Int32)), (1, .int x1), (2, .int x2)]) hx hb d_Heads_closed_10 rfl hl (by decide) rfl (fun ls hl => ?_)
        have g := lb_11 (rl_Heads_closed_4 F nf n) ih nf T x1 x2 (1 : Int32) hR
        rw [hG] at g
        exact g _ _ hP hD hS _ (lv_sub hl [1, 2, 0] rfl)
  unfold rb_Heads_closed at hR
  refine lv_iload_n hx hb d_Heads_closed_0 rfl (lv_at hl 0 rfl) ?_
  refine lv_istore_n (lv' := [(1, .int p1), (0, .int p1)]) hx hb d_Heads_closed_1 rfl hl (by decide) rfl (fun ls hl => ?_)
  refine lv_iconst (v := 1) hx hb d_Heads_closed_2 (by decide) ?_
  refine lv_istore_n (lv' := [(2, .int (1 : Int32)), (1, .int p1), (0, .int p1)]) hx hb d_Heads_closed_3 rfl hl (by decide) rfl (fun ls hl => ?_)
  have g := lb_4 nf T0 p1 (1 : Int32) hR
  rw [hG] at g
  exact g _ _ hP hD hS _ (lv_sub hl [1, 0] rfl)
set_option maxHeartbeats 4000000 in
set_option maxRecDepth 100000 in
theorem sp_Heads_ownRegion (l : Launch) (dC : Nat → ClassId) (dI : Nat → Nat → Nat) (ea ev ad : Nat → Nat) (km : Nat → ClassId) (F : gF) (nf d : Nat) (h_Source_nameAt : mt_Source_nameAt l dC dI ea ev ad km F d) (h_Scope_findRegion : mt_Scope_findRegion l dC dI ea ev ad km F d) (h_Source_startOf : mt_Source_startOf l dC dI ea ev ad km F d) (h_Code_note : mt_Code_note l dC dI ea ev ad km F d) (T0 : gSt) (p1 : Int32) (r0 : Int32) (rl0 : Int64) (T9 : gSt) (hR : rb_Heads_ownRegion F nf T0 p1 = some (r0, rl0, T9)) : GMi l dC dI LH ad km ea ev y_Heads_ownRegion w_Heads_ownRegion (rmD (d + 1)) [.ref (ad 7), .int p1] T0 r0 T9 := by
  intro sz
  refine Met.ofW (cc := b_Heads_ownRegion) (maxL := 3) (ret := (some .int)) (by decide) rfl ?_
  intro p e s m args below meth c s₁ B hml hv
  obtain ⟨rfl, hsz, hP, hK, hD0, hnw, henv⟩ := hv
  have hx := B.exec
  have hb := B.bytes
  have hr := B.returns
  have hT : ∀ w ∈ lw_good, w.before _ s = true := fun w h => atoms_spec (ws := w_Heads_ownRegion) B.pre w (List.mem_cons_of_mem _ h)
  have hown : s.vm.findClass R_Heads = some m.cls := findClass_of_methodNamed B.named
  subst hsz
  have hD := hD0.self (sz := s.heap.size)
  clear hD0
  generalize hAe : va_A (gW LH ad km T0) s.heap.size = A at hD henv ⊢
  have hA : ∀ q : Nat, s.heap.size ≤ q → A q := fun q h => by rw [← hAe]; exact Or.inr h
  have hS : va_S A s.heap s.heap [] := va_S.rf
  have hl := lv_entry ([.ref (ad 7), .int p1]) (n := 3) (Nat.le_of_ble_eq_true rfl)
  rw [lg_entry_eq]
  generalize (lg_sl ([.ref (ad 7), .int p1]) ++ List.replicate (3 - (lg_sl ([.ref (ad 7), .int p1])).length) Slot.unset).toArray = ls at hl ⊢
  have hl : lv_has ls 3 [(0, .ref (ad 7)), (1, .int p1)] := hl
  unfold rb_Heads_ownRegion at hR
  refine lv_aload_n hx hb d_Heads_ownRegion_0 rfl (lv_at hl 0 rfl) ?_
  refine rd_Heads_23 hx hb hT hown hK hP d_Heads_ownRegion_1 ?_
  refine lv_aload_n hx hb d_Heads_ownRegion_4 rfl (lv_at hl 0 rfl) ?_
  refine rd_Heads_9 hx hb hT hown hK hP d_Heads_ownRegion_5 ?_
  refine lv_iload_n hx hb d_Heads_ownRegion_8 rfl (lv_at hl 1 rfl) ?_
  replace hR := bi_e hR
  obtain ⟨r1, l1, T1, hc1, hR⟩ := hR
  refine gcV_l (rest := [.ref (ad 6)]) ⟨hx, hb, hml, hown, hT⟩ (h_Source_nameAt _ _ _ _ _ hc1) (cwV 1 hT (gV ml_Heads_99 im_Source_nameAt se_Source_nameAt ini_Source co_Source_nameAt) rfl rfl rfl pd_Source_nameAt ⟨rm_hi, rm_lo (Nat.le_of_ble_eq_true rfl)⟩) hK hP hD hS hA hnw henv (Nat.le_of_ble_eq_true rfl) rfl rfl hl.1 rfl (Nat.le_of_ble_eq_true rfl) d_Heads_ownRegion_9 ⟨Nat.le_refl _, Nat.le_refl _⟩ (fun H locs hP hD hS => ?_)
  clear hc1
  replace hR := bi_e hR
  obtain ⟨r2, l2, T2, hc2, hR⟩ := hR
  refine gcV_i (rest := []) ⟨hx, hb, hml, hown, hT⟩ (h_Scope_findRegion _ _ _ _ _ hc2) (cwV 1 hT (gV ml_Heads_103 im_Scope_findRegion se_Scope_findRegion ini_Scope co_Scope_findRegion) rfl rfl rfl pd_Scope_findRegion ⟨rm_hi, rm_lo (Nat.le_of_ble_eq_true rfl)⟩) hK hP hD hS hA hnw henv (Nat.le_of_ble_eq_true rfl) rfl rfl hl.1 rfl (Nat.le_of_ble_eq_true rfl) d_Heads_ownRegion_12 ⟨Nat.le_refl _, Nat.le_refl _⟩ (fun H locs hP hD hS => ?_)
  clear hc2
  refine lv_istore_n (lv' := [(2, .int r2), (0, .ref (ad 7)), (1, .int p1)]) hx hb d_Heads_ownRegion_15 rfl hl (by decide) rfl (fun ls hl => ?_)
  refine lv_iload_n hx hb d_Heads_ownRegion_16 rfl (lv_at hl 0 rfl) ?_
  refine lv_iconst (v := 1) hx hb d_Heads_ownRegion_17 (by decide) ?_
  refine lv_icmp_ge (tgt := 39) hx hb d_Heads_ownRegion_18 (by decide) (fun c3 => ?_) (fun c3 => ?_)
  · replace hR := if_p c3 hR
    refine lv_iload_n hx hb d_Heads_ownRegion_39 rfl (lv_at hl 0 rfl) ?_
    obtain ⟨e1, -, e3⟩ := re_e hR
    subst e1; subst e3
    exact W.iret (v := r2) hx hb hr (fun t ht hW => ⟨⟨r2, (), rfl, rfl, by rw [ht]; exact hP, va_K.moved hW.alike hK, hD⟩, hS.F ht⟩) hS.2.2 d_Heads_ownRegion_40
  · replace hR := if_n c3 hR
    refine lv_aload_n hx hb d_Heads_ownRegion_21 rfl (lv_at hl 1 rfl) ?_
    refine rd_Heads_27 hx hb hT hown hK hP d_Heads_ownRegion_22 ?_
    refine lv_iconst (v := 3) hx hb d_Heads_ownRegion_25 (by decide) ?_
    refine lv_aload_n hx hb d_Heads_ownRegion_26 rfl (lv_at hl 1 rfl) ?_
    refine rd_Heads_9 hx hb hT hown hK hP d_Heads_ownRegion_27 ?_
    refine lv_iload_n hx hb d_Heads_ownRegion_30 rfl (lv_at hl 2 rfl) ?_
    replace hR := bi_e hR
    obtain ⟨r5, l5, T5, hc5, hR⟩ := hR
    refine gcV_i (rest := [.int (3 : Int32), .ref (ad 3)]) ⟨hx, hb, hml, hown, hT⟩ (h_Source_startOf _ _ _ _ _ hc5) (cwV 1 hT (gV ml_Heads_90 im_Source_startOf se_Source_startOf ini_Source co_Source_startOf) rfl rfl rfl pd_Source_startOf ⟨rm_hi, rm_lo (Nat.le_of_ble_eq_true rfl)⟩) hK hP hD hS hA hnw henv (Nat.le_of_ble_eq_true rfl) rfl rfl hl.1 rfl (Nat.le_of_ble_eq_true rfl) d_Heads_ownRegion_31 ⟨Nat.le_refl _, Nat.le_refl _⟩ (fun H locs hP hD hS => ?_)
    clear hc5
    replace hR := bi_e hR
    obtain ⟨r6, l6, T6, hc6, hR⟩ := hR
    refine gcV_v (rest := []) ⟨hx, hb, hml, hown, hT⟩ (h_Code_note _ _ _ _ _ _ hc6) (cwV 2 hT (gV ml_Heads_77 im_Code_note se_Code_note ini_Code co_Code_note) rfl rfl rfl pd_Code_note ⟨rm_hi, rm_lo (Nat.le_of_ble_eq_true rfl)⟩) hK hP hD hS hA hnw henv (Nat.le_of_ble_eq_true rfl) rfl rfl hl.1 rfl (Nat.le_of_ble_eq_true rfl) d_Heads_ownRegion_34 ⟨Nat.le_refl _, Nat.le_refl _⟩ (fun H locs hP hD hS => ?_)
    clear hc6
    refine lv_iconst (v := 1) hx hb d_Heads_ownRegion_37 (by decide) ?_
    obtain ⟨e1, -, e3⟩ := re_e hR
    subst e1; subst e3
    exact W.iret (v := (1 : Int32)) hx hb hr (fun t ht hW => ⟨⟨(1 : Int32), (), rfl, rfl, by rw [ht]; exact hP, va_K.moved hW.alike hK, hD⟩, hS.F ht⟩) hS.2.2 d_Heads_ownRegion_38
set_option maxHeartbeats 4000000 in
set_option maxRecDepth 100000 in
theorem sp_Heads_readRegion (l : Launch) (dC : Nat → ClassId) (dI : Nat → Nat → Nat) (ea ev ad : Nat → Nat) (km : Nat → ClassId) (F : gF) (nf d : Nat) (h_Source_nameAt : mt_Source_nameAt l dC dI ea ev ad km F d) (h_Scope_findRegion : mt_Scope_findRegion l dC dI ea ev ad km F d) (h_Source_startOf : mt_Source_startOf l dC dI ea ev ad km F d) (h_Code_note : mt_Code_note l dC dI ea ev ad km F d) (T0 : gSt) (p1 : Int32) (r0 : Int32) (rl0 : Int64) (T9 : gSt) (hR : rb_Heads_readRegion F nf T0 p1 = some (r0, rl0, T9)) : GMi l dC dI LH ad km ea ev y_Heads_readRegion w_Heads_readRegion (rmD (d + 1)) [.ref (ad 7), .int p1] T0 r0 T9 := by
  intro sz
  refine Met.ofW (cc := b_Heads_readRegion) (maxL := 3) (ret := (some .int)) (by decide) rfl ?_
  intro p e s m args below meth c s₁ B hml hv
  obtain ⟨rfl, hsz, hP, hK, hD0, hnw, henv⟩ := hv
  have hx := B.exec
  have hb := B.bytes
  have hr := B.returns
  have hT : ∀ w ∈ lw_good, w.before _ s = true := fun w h => atoms_spec (ws := w_Heads_readRegion) B.pre w (List.mem_cons_of_mem _ h)
  have hown : s.vm.findClass R_Heads = some m.cls := findClass_of_methodNamed B.named
  subst hsz
  have hD := hD0.self (sz := s.heap.size)
  clear hD0
  generalize hAe : va_A (gW LH ad km T0) s.heap.size = A at hD henv ⊢
  have hA : ∀ q : Nat, s.heap.size ≤ q → A q := fun q h => by rw [← hAe]; exact Or.inr h
  have hS : va_S A s.heap s.heap [] := va_S.rf
  have hl := lv_entry ([.ref (ad 7), .int p1]) (n := 3) (Nat.le_of_ble_eq_true rfl)
  rw [lg_entry_eq]
  generalize (lg_sl ([.ref (ad 7), .int p1]) ++ List.replicate (3 - (lg_sl ([.ref (ad 7), .int p1])).length) Slot.unset).toArray = ls at hl ⊢
  have hl : lv_has ls 3 [(0, .ref (ad 7)), (1, .int p1)] := hl
  unfold rb_Heads_readRegion at hR
  refine lv_aload_n hx hb d_Heads_readRegion_0 rfl (lv_at hl 0 rfl) ?_
  refine rd_Heads_23 hx hb hT hown hK hP d_Heads_readRegion_1 ?_
  refine lv_aload_n hx hb d_Heads_readRegion_4 rfl (lv_at hl 0 rfl) ?_
  refine rd_Heads_9 hx hb hT hown hK hP d_Heads_readRegion_5 ?_
  refine lv_iload_n hx hb d_Heads_readRegion_8 rfl (lv_at hl 1 rfl) ?_
  replace hR := bi_e hR
  obtain ⟨r1, l1, T1, hc1, hR⟩ := hR
  refine gcV_l (rest := [.ref (ad 6)]) ⟨hx, hb, hml, hown, hT⟩ (h_Source_nameAt _ _ _ _ _ hc1) (cwV 1 hT (gV ml_Heads_99 im_Source_nameAt se_Source_nameAt ini_Source co_Source_nameAt) rfl rfl rfl pd_Source_nameAt ⟨rm_hi, rm_lo (Nat.le_of_ble_eq_true rfl)⟩) hK hP hD hS hA hnw henv (Nat.le_of_ble_eq_true rfl) rfl rfl hl.1 rfl (Nat.le_of_ble_eq_true rfl) d_Heads_readRegion_9 ⟨Nat.le_refl _, Nat.le_refl _⟩ (fun H locs hP hD hS => ?_)
  clear hc1
  replace hR := bi_e hR
  obtain ⟨r2, l2, T2, hc2, hR⟩ := hR
  refine gcV_i (rest := []) ⟨hx, hb, hml, hown, hT⟩ (h_Scope_findRegion _ _ _ _ _ hc2) (cwV 1 hT (gV ml_Heads_103 im_Scope_findRegion se_Scope_findRegion ini_Scope co_Scope_findRegion) rfl rfl rfl pd_Scope_findRegion ⟨rm_hi, rm_lo (Nat.le_of_ble_eq_true rfl)⟩) hK hP hD hS hA hnw henv (Nat.le_of_ble_eq_true rfl) rfl rfl hl.1 rfl (Nat.le_of_ble_eq_true rfl) d_Heads_readRegion_12 ⟨Nat.le_refl _, Nat.le_refl _⟩ (fun H locs hP hD hS => ?_)
  clear hc2
  refine lv_istore_n (lv' := [(2, .int r2), (0, .ref (ad 7)), (1, .int p1)]) hx hb d_Heads_readRegion_15 rfl hl (by decide) rfl (fun ls hl => ?_)
  refine lv_iload_n hx hb d_Heads_readRegion_16 rfl (lv_at hl 0 rfl) ?_
  refine lv_iconst (v := (-1)) hx hb d_Heads_readRegion_17 (by decide) ?_
  refine lv_icmp_ne (tgt := 39) hx hb d_Heads_readRegion_18 (by decide) (fun c3 => ?_) (fun c3 => ?_)
  · replace hR := if_n c3 hR
    refine lv_iload_n hx hb d_Heads_readRegion_39 rfl (lv_at hl 0 rfl) ?_
    obtain ⟨e1, -, e3⟩ := re_e hR
    subst e1; subst e3
    exact W.iret (v := r2) hx hb hr (fun t ht hW => ⟨⟨r2, (), rfl, rfl, by rw [ht]; exact hP, va_K.moved hW.alike hK, hD⟩, hS.F ht⟩) hS.2.2 d_Heads_readRegion_40
  · replace hR := if_p c3 hR
    refine lv_aload_n hx hb d_Heads_readRegion_21 rfl (lv_at hl 1 rfl) ?_
    refine rd_Heads_27 hx hb hT hown hK hP d_Heads_readRegion_22 ?_
    refine lv_iconst (v := 3) hx hb d_Heads_readRegion_25 (by decide) ?_
    refine lv_aload_n hx hb d_Heads_readRegion_26 rfl (lv_at hl 1 rfl) ?_
    refine rd_Heads_9 hx hb hT hown hK hP d_Heads_readRegion_27 ?_
    refine lv_iload_n hx hb d_Heads_readRegion_30 rfl (lv_at hl 2 rfl) ?_
    replace hR := bi_e hR
    obtain ⟨r5, l5, T5, hc5, hR⟩ := hR
    refine gcV_i (rest := [.int (3 : Int32), .ref (ad 3)]) ⟨hx, hb, hml, hown, hT⟩ (h_Source_startOf _ _ _ _ _ hc5) (cwV 1 hT (gV ml_Heads_90 im_Source_startOf se_Source_startOf ini_Source co_Source_startOf) rfl rfl rfl pd_Source_startOf ⟨rm_hi, rm_lo (Nat.le_of_ble_eq_true rfl)⟩) hK hP hD hS hA hnw henv (Nat.le_of_ble_eq_true rfl) rfl rfl hl.1 rfl (Nat.le_of_ble_eq_true rfl) d_Heads_readRegion_31 ⟨Nat.le_refl _, Nat.le_refl _⟩ (fun H locs hP hD hS => ?_)
    clear hc5
    replace hR := bi_e hR
    obtain ⟨r6, l6, T6, hc6, hR⟩ := hR
    refine gcV_v (rest := []) ⟨hx, hb, hml, hown, hT⟩ (h_Code_note _ _ _ _ _ _ hc6) (cwV 2 hT (gV ml_Heads_77 im_Code_note se_Code_note ini_Code co_Code_note) rfl rfl rfl pd_Code_note ⟨rm_hi, rm_lo (Nat.le_of_ble_eq_true rfl)⟩) hK hP hD hS hA hnw henv (Nat.le_of_ble_eq_true rfl) rfl rfl hl.1 rfl (Nat.le_of_ble_eq_true rfl) d_Heads_readRegion_34 ⟨Nat.le_refl _, Nat.le_refl _⟩ (fun H locs hP hD hS => ?_)
    clear hc6
    refine lv_iconst (v := 0) hx hb d_Heads_readRegion_37 (by decide) ?_
    obtain ⟨e1, -, e3⟩ := re_e hR
    subst e1; subst e3
    exact W.iret (v := (0 : Int32)) hx hb hr (fun t ht hW => ⟨⟨(0 : Int32), (), rfl, rfl, by rw [ht]; exact hP, va_K.moved hW.alike hK, hD⟩, hS.F ht⟩) hS.2.2 d_Heads_readRegion_38
set_option maxHeartbeats 4000000 in
set_option maxRecDepth 100000 in
theorem sp_Heads_readRegions (l : Launch) (dC : Nat → ClassId) (dI : Nat → Nat → Nat) (ea ev ad : Nat → Nat) (km : Nat → ClassId) (F : gF) (nf d : Nat) (h_Heads_readRegion : mt_Heads_readRegion l dC dI ea ev ad km F d) (T0 : gSt) (p1 : Int32) (p2 : Int32) (r0 : Int32) (rl0 : Int64) (T9 : gSt) (hR : rb_Heads_readRegions F nf T0 p1 p2 = some (r0, rl0, T9)) : GMi l dC dI LH ad km ea ev y_Heads_readRegions w_Heads_readRegions (rmD (d + 1)) [.ref (ad 7), .int p1, .int p2] T0 r0 T9 := by
  intro sz
  refine Met.ofW (cc := b_Heads_readRegions) (maxL := 5) (ret := (some .int)) (by decide) rfl ?_
  intro p e s m args below meth c s₁ B hml hv
  obtain ⟨rfl, hsz, hP, hK, hD0, hnw, henv⟩ := hv
  have hx := B.exec
  have hb := B.bytes
  have hr := B.returns
  have hT : ∀ w ∈ lw_good, w.before _ s = true := fun w h => atoms_spec (ws := w_Heads_readRegions) B.pre w (List.mem_cons_of_mem _ h)
  have hown : s.vm.findClass R_Heads = some m.cls := findClass_of_methodNamed B.named
  subst hsz
  have hD := hD0.self (sz := s.heap.size)
  clear hD0
  generalize hAe : va_A (gW LH ad km T0) s.heap.size = A at hD henv ⊢
  have hA : ∀ q : Nat, s.heap.size ≤ q → A q := fun q h => by rw [← hAe]; exact Or.inr h
  have hS : va_S A s.heap s.heap [] := va_S.rf
  have hl := lv_entry ([.ref (ad 7), .int p1, .int p2]) (n := 5) (Nat.le_of_ble_eq_true rfl)
  rw [lg_entry_eq]
  generalize (lg_sl ([.ref (ad 7), .int p1, .int p2]) ++ List.replicate (5 - (lg_sl ([.ref (ad 7), .int p1, .int p2])).length) Slot.unset).toArray = ls at hl ⊢
  have hl : lv_has ls 5 [(0, .ref (ad 7)), (1, .int p1), (2, .int p2)] := hl
  obtain ⟨G, hG⟩ : ∃ G : Nat → List (Nat × Value) → List Value → gSt → Prop, G = (fun pc lv stk T => ∀ (H : Heap) (locs : List Loc), va_P (dC, dI) cls_all (gW LH ad km T) H → va_D A (gW LH ad km T) → va_S A s.heap H locs → ∀ (ls : Array Slot), lv_has ls 5 lv → W p l e (headSpec w_Heads_readRegions (rmD (d + 1))).room s m ([.ref (ad 7), .int p1, .int p2] : List Value).toArray below meth c H locs 0 0 (MQ below (va_Qi (fun (z : Int32) (_ : Unit) => z = r0) (fun _ t => gPost dC dI LH ad km T9 A t) A) ([.ref (ad 7), .int p1, .int p2] : List Value).toArray s 0 0 A) (F0 m pc ls stk)) := ⟨_, rfl⟩
  have lb_5 : ∀ (n : Nat) (T : gSt) (x1 : Int32) (x2 : Int32) (x3 : Int32) (x4 : Int32), rl_Heads_readRegions_5 F nf n T x1 x2 x3 x4 = some (r0, rl0, T9) → G 5 [(0, .ref (ad 7)), (1, .int x1), (2, .int x2), (3, .int x3), (4, .int x4)] [] T := by
    intro n
    induction n with
    | zero => intro T x1 x2 x3 x4 hR; rw [rl_Heads_readRegions_5] at hR; cases hR
    | succ n ih =>
      intro T x1 x2 x3 x4 hR; rw [rl_Heads_readRegions_5] at hR; rw [hG]; intro H locs hP hD hS ls hl
      refine lv_iload hx hb d_Heads_readRegions_5 (lv_at hl 4 rfl) ?_
      refine lv_iload_n hx hb d_Heads_readRegions_7 rfl (lv_at hl 2 rfl) ?_
      refine lv_icmp_ge (tgt := 39) hx hb d_Heads_readRegions_8 (by decide) (fun c1 => ?_) (fun c1 => ?_)
      · replace hR := if_p c1 hR
        refine lv_iload_n hx hb d_Heads_readRegions_39 rfl (lv_at hl 3 rfl) ?_
        obtain ⟨e1, -, e3⟩ := re_e hR
        subst e1; subst e3
        exact W.iret (v := x3) hx hb hr (fun t ht hW => ⟨⟨x3, (), rfl, rfl, by rw [ht]; exact hP, va_K.moved hW.alike hK, hD⟩, hS.F ht⟩) hS.2.2 d_Heads_readRegions_40
      · replace hR := if_n c1 hR
        refine lv_iload hx hb d_Heads_readRegions_11 (lv_at hl 4 rfl) ?_
        refine lv_iconst (v := 3) hx hb d_Heads_readRegions_13 (by decide) ?_
        refine lv_icmp_ge (tgt := 39) hx hb d_Heads_readRegions_14 (by decide) (fun c3 => ?_) (fun c3 => ?_)
        · replace hR := if_p c3 hR
          refine lv_iload_n hx hb d_Heads_readRegions_39 rfl (lv_at hl 3 rfl) ?_
          obtain ⟨e1, -, e3⟩ := re_e hR
          subst e1; subst e3
          exact W.iret (v := x3) hx hb hr (fun t ht hW => ⟨⟨x3, (), rfl, rfl, by rw [ht]; exact hP, va_K.moved hW.alike hK, hD⟩, hS.F ht⟩) hS.2.2 d_Heads_readRegions_40
        · replace hR := if_n c3 hR
          refine lv_iload_n hx hb d_Heads_readRegions_17 rfl (lv_at hl 3 rfl) ?_
          refine lv_aload_n hx hb d_Heads_readRegions_18 rfl (lv_at hl 0 rfl) ?_
          refine lv_iload_n hx hb d_Heads_readRegions_19 rfl (lv_at hl 1 rfl) ?_
          refine lv_iload hx hb d_Heads_readRegions_20 (lv_at hl 4 rfl) ?_
          refine lv_iadd hx hb d_Heads_readRegions_22 ?_
          replace hR := bi_e hR
          obtain ⟨r5, l5, T5, hc5, hR⟩ := hR
          refine gcV_i (rest := [.int x3]) ⟨hx, hb, hml, hown, hT⟩ (h_Heads_readRegion _ _ _ _ _ hc5) (cwV 1 hT (gV ml_Heads_179 im_Heads_readRegion se_Heads_readRegion ini_Heads co_Heads_readRegion) rfl rfl rfl pd_Heads_readRegion ⟨rm_hi, rm_lo (Nat.le_of_ble_eq_true rfl)⟩) hK hP hD hS hA hnw henv (Nat.le_of_ble_eq_true rfl) rfl rfl hl.1 rfl (Nat.le_of_ble_eq_true rfl) d_Heads_readRegions_23 ⟨Nat.le_refl _, Nat.le_refl _⟩ (fun H locs hP hD hS => ?_)
          clear hc5
          refine lv_iconst (v := 4) hx hb d_Heads_readRegions_26 (by decide) ?_
          refine lv_iload hx hb d_Heads_readRegions_27 (lv_at hl 4 rfl) ?_
          refine lv_imul hx hb d_Heads_readRegions_29 ?_
          refine lv_ishl hx hb d_Heads_readRegions_30 ?_
          refine lv_ior hx hb d_Heads_readRegions_31 ?_
          refine lv_topi (fun z6 e6 => ?_)
          replace hR := vK_e e6 hR
          refine lv_istore_n (lv' := [(3, .int z6), (0, .ref (ad 7)), (1, .int x1), (2, .int x2), (4, .int x4)]) hx hb d_Heads_readRegions_32 rfl hl (by decide) rfl (fun ls hl => ?_)
          obtain ⟨z7, e7⟩ : ∃ y : Int32, y = x4 + (1 : Int32) := ⟨_, rfl⟩
          replace hR := vK_e e7 hR
          refine lv_iinc (v := z7) (lv' := [(4, .int z7), (3, .int z6), (0, .ref (ad 7)), (1, .int x1), (2, .int x2)]) hx hb d_Heads_readRegions_33 hl (k := 4) rfl (by rw [e7]; rfl) (by decide) rfl (fun ls hl => ?_)
          refine lv_goto (tgt := 5) hx hb d_Heads_readRegions_36 (by decide) ?_
          have g := ih T5 x1 x2 z6 z7 hR
          rw [hG] at g
          exact g _ _ hP hD hS _ (lv_sub hl [2, 3, 4, 1, 0] rfl)
  unfold rb_Heads_readRegions at hR
  refine lv_iconst (v := 0) hx hb d_Heads_readRegions_0 (by decide) ?_
  refine lv_istore_n (lv' := [(3, .int (0 : Int32)), (0, .ref (ad 7)), (1, .int p1), (2, .int p2)]) hx hb d_Heads_readRegions_1 rfl hl (by decide) rfl (fun ls hl => ?_)
  refine lv_iconst (v := 0) hx hb d_Heads_readRegions_2 (by decide) ?_
  refine lv_istore (lv' := [(4, .int (0 : Int32)), (3, .int (0 : Int32)), (0, .ref (ad 7)), (1, .int p1), (2, .int p2)]) hx hb d_Heads_readRegions_3 hl (by decide) rfl (fun ls hl => ?_)
  have g := lb_5 nf T0 p1 p2 (0 : Int32) (0 : Int32) hR
  rw [hG] at g
  exact g _ _ hP hD hS _ (lv_sub hl [2, 3, 4, 1, 0] rfl)
set_option maxHeartbeats 4000000 in
set_option maxRecDepth 100000 in
theorem sp_Heads_readType (l : Launch) (dC : Nat → ClassId) (dI : Nat → Nat → Nat) (ea ev ad : Nat → Nat) (km : Nat → ClassId) (F : gF) (nf d : Nat) (h_Source_kindAt : mt_Source_kindAt l dC dI ea ev ad km F d) (h_Heads_readRegion : mt_Heads_readRegion l dC dI ea ev ad km F d) (h_Heads_readType : mt_Heads_readType l dC dI ea ev ad km F d) (h_Types_pointer : mt_Types_pointer l dC dI ea ev ad km F d) (h_Heads_readTitle : mt_Heads_readTitle l dC dI ea ev ad km F d) (T0 : gSt) (p1 : Int32) (p2 : Int32) (r0 : Int32) (rl0 : Int64) (T9 : gSt) (hR : rb_Heads_readType F nf T0 p1 p2 = some (r0, rl0, T9)) : GMi l dC dI LH ad km ea ev y_Heads_readType w_Heads_readType (rmD (d + 1)) [.ref (ad 7), .int p1, .int p2] T0 r0 T9 := by
  intro sz
  refine Met.ofW (cc := b_Heads_readType) (maxL := 6) (ret := (some .int)) (by decide) rfl ?_
  intro p e s m args below meth c s₁ B hml hv
  obtain ⟨rfl, hsz, hP, hK, hD0, hnw, henv⟩ := hv
  have hx := B.exec
  have hb := B.bytes
  have hr := B.returns
  have hT : ∀ w ∈ lw_good, w.before _ s = true := fun w h => atoms_spec (ws := w_Heads_readType) B.pre w (List.mem_cons_of_mem _ h)
  have hown : s.vm.findClass R_Heads = some m.cls := findClass_of_methodNamed B.named
  subst hsz
  have hD := hD0.self (sz := s.heap.size)
  clear hD0
  generalize hAe : va_A (gW LH ad km T0) s.heap.size = A at hD henv ⊢
  have hA : ∀ q : Nat, s.heap.size ≤ q → A q := fun q h => by rw [← hAe]; exact Or.inr h
  have hS : va_S A s.heap s.heap [] := va_S.rf
  have hl := lv_entry ([.ref (ad 7), .int p1, .int p2]) (n := 6) (Nat.le_of_ble_eq_true rfl)
  rw [lg_entry_eq]
  generalize (lg_sl ([.ref (ad 7), .int p1, .int p2]) ++ List.replicate (6 - (lg_sl ([.ref (ad 7), .int p1, .int p2])).length) Slot.unset).toArray = ls at hl ⊢
  have hl : lv_has ls 6 [(0, .ref (ad 7)), (1, .int p1), (2, .int p2)] := hl
  unfold rb_Heads_readType at hR
  refine lv_aload_n hx hb d_Heads_readType_0 rfl (lv_at hl 0 rfl) ?_
  refine rd_Heads_9 hx hb hT hown hK hP d_Heads_readType_1 ?_
  refine lv_iload_n hx hb d_Heads_readType_4 rfl (lv_at hl 1 rfl) ?_
  replace hR := bi_e hR
  obtain ⟨r1, l1, T1, hc1, hR⟩ := hR
  refine gcV_i (rest := []) ⟨hx, hb, hml, hown, hT⟩ (h_Source_kindAt _ _ _ _ _ hc1) (cwV 1 hT (gV ml_Heads_173 im_Source_kindAt se_Source_kindAt ini_Source co_Source_kindAt) rfl rfl rfl pd_Source_kindAt ⟨rm_hi, rm_lo (Nat.le_of_ble_eq_true rfl)⟩) hK hP hD hS hA hnw henv (Nat.le_of_ble_eq_true rfl) rfl rfl hl.1 rfl (Nat.le_of_ble_eq_true rfl) d_Heads_readType_5 ⟨Nat.le_refl _, Nat.le_refl _⟩ (fun H locs hP hD hS => ?_)
  clear hc1
  refine lv_istore_n (lv' := [(3, .int r1), (0, .ref (ad 7)), (1, .int p1), (2, .int p2)]) hx hb d_Heads_readType_8 rfl hl (by decide) rfl (fun ls hl => ?_)
  refine lv_iload_n hx hb d_Heads_readType_9 rfl (lv_at hl 0 rfl) ?_
  refine lv_bipush (v := 26) hx hb d_Heads_readType_10 (by decide) ?_
  refine lv_icmp_eq (tgt := 21) hx hb d_Heads_readType_12 (by decide) (fun c2 => ?_) (fun c2 => ?_)
  · replace hR := if_p c2 hR
    refine lv_iconst (v := 1) hx hb d_Heads_readType_21 (by decide) ?_
    obtain ⟨e1, -, e3⟩ := re_e hR
    subst e1; subst e3
    exact W.iret (v := (1 : Int32)) hx hb hr (fun t ht hW => ⟨⟨(1 : Int32), (), rfl, rfl, by rw [ht]; exact hP, va_K.moved hW.alike hK, hD⟩, hS.F ht⟩) hS.2.2 d_Heads_readType_22
  · replace hR := if_n c2 hR
    refine lv_iload_n hx hb d_Heads_readType_15 rfl (lv_at hl 3 rfl) ?_
    refine lv_bipush (v := 6) hx hb d_Heads_readType_16 (by decide) ?_
    refine lv_icmp_le (tgt := 23) hx hb d_Heads_readType_18 (by decide) (fun c4 => ?_) (fun c4 => ?_)
    · replace hR := if_p c4 hR
      refine lv_iload_n hx hb d_Heads_readType_23 rfl (lv_at hl 0 rfl) ?_
      refine lv_iconst (v := 3) hx hb d_Heads_readType_24 (by decide) ?_
      refine lv_icmp_ne (tgt := 34) hx hb d_Heads_readType_25 (by decide) (fun c5 => ?_) (fun c5 => ?_)
      · replace hR := if_n c5 hR
        refine lv_aload_n hx hb d_Heads_readType_34 rfl (lv_at hl 1 rfl) ?_
        refine lv_iload_n hx hb d_Heads_readType_35 rfl (lv_at hl 2 rfl) ?_
        refine lv_iconst (v := 1) hx hb d_Heads_readType_36 (by decide) ?_
        refine lv_iadd hx hb d_Heads_readType_37 ?_
        replace hR := bi_e hR
        obtain ⟨r6, l6, T6, hc6, hR⟩ := hR
        refine gcV_i (rest := []) ⟨hx, hb, hml, hown, hT⟩ (h_Heads_readRegion _ _ _ _ _ hc6) (cwV 1 hT (gV ml_Heads_179 im_Heads_readRegion se_Heads_readRegion ini_Heads co_Heads_readRegion) rfl rfl rfl pd_Heads_readRegion ⟨rm_hi, rm_lo (Nat.le_of_ble_eq_true rfl)⟩) hK hP hD hS hA hnw henv (Nat.le_of_ble_eq_true rfl) rfl rfl hl.1 rfl (Nat.le_of_ble_eq_true rfl) d_Heads_readType_38 ⟨Nat.le_refl _, Nat.le_refl _⟩ (fun H locs hP hD hS => ?_)
        clear hc6
        refine lv_istore (lv' := [(4, .int r6), (3, .int r1), (0, .ref (ad 7)), (1, .int p1), (2, .int p2)]) hx hb d_Heads_readType_41 hl (by decide) rfl (fun ls hl => ?_)
        refine lv_aload_n hx hb d_Heads_readType_43 rfl (lv_at hl 2 rfl) ?_
        refine lv_iload_n hx hb d_Heads_readType_44 rfl (lv_at hl 3 rfl) ?_
        refine lv_iconst (v := 2) hx hb d_Heads_readType_45 (by decide) ?_
        refine lv_iadd hx hb d_Heads_readType_46 ?_
        refine lv_iload_n hx hb d_Heads_readType_47 rfl (lv_at hl 4 rfl) ?_
        refine lv_iconst (v := 1) hx hb d_Heads_readType_48 (by decide) ?_
        refine lv_iadd hx hb d_Heads_readType_49 ?_
        replace hR := bi_e hR
        obtain ⟨r7, l7, T7, hc7, hR⟩ := hR
        refine gcV_i (rest := []) ⟨hx, hb, hml, hown, hT⟩ (h_Heads_readType _ _ _ _ _ _ hc7) (cwV 2 hT (gV ml_Heads_113 im_Heads_readType se_Heads_readType ini_Heads co_Heads_readType) rfl rfl rfl pd_Heads_readType ⟨rm_hi, rm_lo (Nat.le_of_ble_eq_true rfl)⟩) hK hP hD hS hA hnw henv (Nat.le_of_ble_eq_true rfl) rfl rfl hl.1 rfl (Nat.le_of_ble_eq_true rfl) d_Heads_readType_50 ⟨Nat.le_refl _, Nat.le_refl _⟩ (fun H locs hP hD hS => ?_)
        clear hc7
        refine lv_istore (lv' := [(5, .int r7), (4, .int r6), (3, .int r1), (0, .ref (ad 7)), (1, .int p1), (2, .int p2)]) hx hb d_Heads_readType_53 hl (by decide) rfl (fun ls hl => ?_)
        refine lv_aload_n hx hb d_Heads_readType_55 rfl (lv_at hl 3 rfl) ?_
        refine rd_Heads_19 hx hb hT hown hK hP d_Heads_readType_56 ?_
        refine lv_iload_n hx hb d_Heads_readType_59 rfl (lv_at hl 2 rfl) ?_
        refine lv_bipush (v := 59) hx hb d_Heads_readType_60 (by decide) ?_
        refine lv_icmp_ne (tgt := 69) hx hb d_Heads_readType_62 (by decide) (fun c8 => ?_) (fun c8 => ?_)
        · replace hR := if_n c8 hR
          refine lv_iload_n hx hb d_Heads_readType_69 rfl (lv_at hl 2 rfl) ?_
          refine lv_bipush (v := 55) hx hb d_Heads_readType_70 (by decide) ?_
          refine lv_icmp_ne (tgt := 79) hx hb d_Heads_readType_72 (by decide) (fun c9 => ?_) (fun c9 => ?_)
          · replace hR := if_n c9 hR
            refine lv_iconst (v := 5) hx hb d_Heads_readType_79 (by decide) ?_
            refine lv_iload hx hb d_Heads_readType_80 (lv_at hl 1 rfl) ?_
            refine lv_iload hx hb d_Heads_readType_82 (lv_at hl 0 rfl) ?_
            replace hR := bi_e hR
            obtain ⟨r10, l10, T10, hc10, hR⟩ := hR
            refine gcV_i (rest := []) ⟨hx, hb, hml, hown, hT⟩ (h_Types_pointer _ _ _ _ _ _ _ hc10) (cwV 3 hT (gV ml_Heads_185 im_Types_pointer se_Types_pointer ini_Types co_Types_pointer) rfl rfl rfl pd_Types_pointer ⟨rm_hi, rm_lo (Nat.le_of_ble_eq_true rfl)⟩) hK hP hD hS hA hnw henv (Nat.le_of_ble_eq_true rfl) rfl rfl hl.1 rfl (Nat.le_of_ble_eq_true rfl) d_Heads_readType_84 ⟨Nat.le_refl _, Nat.le_refl _⟩ (fun H locs hP hD hS => ?_)
            clear hc10
            obtain ⟨e1, -, e3⟩ := re_e hR
            subst e1; subst e3
            exact W.iret (v := r10) hx hb hr (fun t ht hW => ⟨⟨r10, (), rfl, rfl, by rw [ht]; exact hP, va_K.moved hW.alike hK, hD⟩, hS.F ht⟩) hS.2.2 d_Heads_readType_87
          · replace hR := if_p c9 hR
            refine lv_iconst (v := 4) hx hb d_Heads_readType_75 (by decide) ?_
            refine lv_goto (tgt := 80) hx hb d_Heads_readType_76 (by decide) ?_
            refine lv_iload hx hb d_Heads_readType_80 (lv_at hl 1 rfl) ?_
            refine lv_iload hx hb d_Heads_readType_82 (lv_at hl 0 rfl) ?_
            replace hR := bi_e hR
            obtain ⟨r12, l12, T12, hc12, hR⟩ := hR
            refine gcV_i (rest := []) ⟨hx, hb, hml, hown, hT⟩ (h_Types_pointer _ _ _ _ _ _ _ hc12) (cwV 3 hT (gV ml_Heads_185 im_Types_pointer se_Types_pointer ini_Types co_Types_pointer) rfl rfl rfl pd_Types_pointer ⟨rm_hi, rm_lo (Nat.le_of_ble_eq_true rfl)⟩) hK hP hD hS hA hnw henv (Nat.le_of_ble_eq_true rfl) rfl rfl hl.1 rfl (Nat.le_of_ble_eq_true rfl) d_Heads_readType_84 ⟨Nat.le_refl _, Nat.le_refl _⟩ (fun H locs hP hD hS => ?_)
            clear hc12
            obtain ⟨e1, -, e3⟩ := re_e hR
            subst e1; subst e3
            exact W.iret (v := r12) hx hb hr (fun t ht hW => ⟨⟨r12, (), rfl, rfl, by rw [ht]; exact hP, va_K.moved hW.alike hK, hD⟩, hS.F ht⟩) hS.2.2 d_Heads_readType_87
        · replace hR := if_p c8 hR
          refine lv_iconst (v := 3) hx hb d_Heads_readType_65 (by decide) ?_
          refine lv_goto (tgt := 80) hx hb d_Heads_readType_66 (by decide) ?_
          refine lv_iload hx hb d_Heads_readType_80 (lv_at hl 1 rfl) ?_
          refine lv_iload hx hb d_Heads_readType_82 (lv_at hl 0 rfl) ?_
          replace hR := bi_e hR
          obtain ⟨r14, l14, T14, hc14, hR⟩ := hR
          refine gcV_i (rest := []) ⟨hx, hb, hml, hown, hT⟩ (h_Types_pointer _ _ _ _ _ _ _ hc14) (cwV 3 hT (gV ml_Heads_185 im_Types_pointer se_Types_pointer ini_Types co_Types_pointer) rfl rfl rfl pd_Types_pointer ⟨rm_hi, rm_lo (Nat.le_of_ble_eq_true rfl)⟩) hK hP hD hS hA hnw henv (Nat.le_of_ble_eq_true rfl) rfl rfl hl.1 rfl (Nat.le_of_ble_eq_true rfl) d_Heads_readType_84 ⟨Nat.le_refl _, Nat.le_refl _⟩ (fun H locs hP hD hS => ?_)
          clear hc14
          obtain ⟨e1, -, e3⟩ := re_e hR
          subst e1; subst e3
          exact W.iret (v := r14) hx hb hr (fun t ht hW => ⟨⟨r14, (), rfl, rfl, by rw [ht]; exact hP, va_K.moved hW.alike hK, hD⟩, hS.F ht⟩) hS.2.2 d_Heads_readType_87
      · replace hR := if_p c5 hR
        refine lv_aload_n hx hb d_Heads_readType_28 rfl (lv_at hl 1 rfl) ?_
        refine lv_iload_n hx hb d_Heads_readType_29 rfl (lv_at hl 2 rfl) ?_
        replace hR := bi_e hR
        obtain ⟨r16, l16, T16, hc16, hR⟩ := hR
        refine gcV_i (rest := []) ⟨hx, hb, hml, hown, hT⟩ (h_Heads_readTitle _ _ _ _ _ hc16) (cwV 1 hT (gV ml_Heads_182 im_Heads_readTitle se_Heads_readTitle ini_Heads co_Heads_readTitle) rfl rfl rfl pd_Heads_readTitle ⟨rm_hi, rm_lo (Nat.le_of_ble_eq_true rfl)⟩) hK hP hD hS hA hnw henv (Nat.le_of_ble_eq_true rfl) rfl rfl hl.1 rfl (Nat.le_of_ble_eq_true rfl) d_Heads_readType_30 ⟨Nat.le_refl _, Nat.le_refl _⟩ (fun H locs hP hD hS => ?_)
        clear hc16
        obtain ⟨e1, -, e3⟩ := re_e hR
        subst e1; subst e3
        exact W.iret (v := r16) hx hb hr (fun t ht hW => ⟨⟨r16, (), rfl, rfl, by rw [ht]; exact hP, va_K.moved hW.alike hK, hD⟩, hS.F ht⟩) hS.2.2 d_Heads_readType_33
    · replace hR := if_n c4 hR
      refine lv_iconst (v := 1) hx hb d_Heads_readType_21 (by decide) ?_
      obtain ⟨e1, -, e3⟩ := re_e hR
      subst e1; subst e3
      exact W.iret (v := (1 : Int32)) hx hb hr (fun t ht hW => ⟨⟨(1 : Int32), (), rfl, rfl, by rw [ht]; exact hP, va_K.moved hW.alike hK, hD⟩, hS.F ht⟩) hS.2.2 d_Heads_readType_22
set_option maxHeartbeats 4000000 in
set_option maxRecDepth 100000 in
theorem sp_Heads_readTitle (l : Launch) (dC : Nat → ClassId) (dI : Nat → Nat → Nat) (ea ev ad : Nat → Nat) (km : Nat → ClassId) (F : gF) (nf d : Nat) (h_Source_countRegions : mt_Source_countRegions l dC dI ea ev ad km F d) (h_Source_nameAt : mt_Source_nameAt l dC dI ea ev ad km F d) (h_Items_find : mt_Items_find l dC dI ea ev ad km F d) (h_Heads_readRegions : mt_Heads_readRegions l dC dI ea ev ad km F d) (h_Types_thing : mt_Types_thing l dC dI ea ev ad km F d) (h_Source_startOf : mt_Source_startOf l dC dI ea ev ad km F d) (h_Code_note : mt_Code_note l dC dI ea ev ad km F d) (T0 : gSt) (p1 : Int32) (r0 : Int32) (rl0 : Int64) (T9 : gSt) (hR : rb_Heads_readTitle F nf T0 p1 = some (r0, rl0, T9)) : GMi l dC dI LH ad km ea ev y_Heads_readTitle w_Heads_readTitle (rmD (d + 1)) [.ref (ad 7), .int p1] T0 r0 T9 := by
  intro sz
  refine Met.ofW (cc := b_Heads_readTitle) (maxL := 4) (ret := (some .int)) (by decide) rfl ?_
  intro p e s m args below meth c s₁ B hml hv
  obtain ⟨rfl, hsz, hP, hK, hD0, hnw, henv⟩ := hv
  have hx := B.exec
  have hb := B.bytes
  have hr := B.returns
  have hT : ∀ w ∈ lw_good, w.before _ s = true := fun w h => atoms_spec (ws := w_Heads_readTitle) B.pre w (List.mem_cons_of_mem _ h)
  have hown : s.vm.findClass R_Heads = some m.cls := findClass_of_methodNamed B.named
  subst hsz
  have hD := hD0.self (sz := s.heap.size)
  clear hD0
  generalize hAe : va_A (gW LH ad km T0) s.heap.size = A at hD henv ⊢
  have hA : ∀ q : Nat, s.heap.size ≤ q → A q := fun q h => by rw [← hAe]; exact Or.inr h
  have hS : va_S A s.heap s.heap [] := va_S.rf
  have hl := lv_entry ([.ref (ad 7), .int p1]) (n := 4) (Nat.le_of_ble_eq_true rfl)
  rw [lg_entry_eq]
  generalize (lg_sl ([.ref (ad 7), .int p1]) ++ List.replicate (4 - (lg_sl ([.ref (ad 7), .int p1])).length) Slot.unset).toArray = ls at hl ⊢
  have hl : lv_has ls 4 [(0, .ref (ad 7)), (1, .int p1)] := hl
  unfold rb_Heads_readTitle at hR
  refine lv_aload_n hx hb d_Heads_readTitle_0 rfl (lv_at hl 0 rfl) ?_
  refine rd_Heads_9 hx hb hT hown hK hP d_Heads_readTitle_1 ?_
  refine lv_iload_n hx hb d_Heads_readTitle_4 rfl (lv_at hl 1 rfl) ?_
  refine lv_iconst (v := 1) hx hb d_Heads_readTitle_5 (by decide) ?_
  refine lv_iadd hx hb d_Heads_readTitle_6 ?_
  replace hR := bi_e hR
  obtain ⟨r1, l1, T1, hc1, hR⟩ := hR
  refine gcV_i (rest := []) ⟨hx, hb, hml, hown, hT⟩ (h_Source_countRegions _ _ _ _ _ hc1) (cwV 1 hT (gV ml_Heads_148 im_Source_countRegions se_Source_countRegions ini_Source co_Source_countRegions) rfl rfl rfl pd_Source_countRegions ⟨rm_hi, rm_lo (Nat.le_of_ble_eq_true rfl)⟩) hK hP hD hS hA hnw henv (Nat.le_of_ble_eq_true rfl) rfl rfl hl.1 rfl (Nat.le_of_ble_eq_true rfl) d_Heads_readTitle_7 ⟨Nat.le_refl _, Nat.le_refl _⟩ (fun H locs hP hD hS => ?_)
  clear hc1
  refine lv_istore_n (lv' := [(2, .int r1), (0, .ref (ad 7)), (1, .int p1)]) hx hb d_Heads_readTitle_10 rfl hl (by decide) rfl (fun ls hl => ?_)
  refine lv_aload_n hx hb d_Heads_readTitle_11 rfl (lv_at hl 1 rfl) ?_
  refine rd_Heads_15 hx hb hT hown hK hP d_Heads_readTitle_12 ?_
  refine lv_aload_n hx hb d_Heads_readTitle_15 rfl (lv_at hl 1 rfl) ?_
  refine rd_Heads_9 hx hb hT hown hK hP d_Heads_readTitle_16 ?_
  refine lv_iload_n hx hb d_Heads_readTitle_19 rfl (lv_at hl 2 rfl) ?_
  replace hR := bi_e hR
  obtain ⟨r2, l2, T2, hc2, hR⟩ := hR
  refine gcV_l (rest := [.ref (ad 2)]) ⟨hx, hb, hml, hown, hT⟩ (h_Source_nameAt _ _ _ _ _ hc2) (cwV 1 hT (gV ml_Heads_99 im_Source_nameAt se_Source_nameAt ini_Source co_Source_nameAt) rfl rfl rfl pd_Source_nameAt ⟨rm_hi, rm_lo (Nat.le_of_ble_eq_true rfl)⟩) hK hP hD hS hA hnw henv (Nat.le_of_ble_eq_true rfl) rfl rfl hl.1 rfl (Nat.le_of_ble_eq_true rfl) d_Heads_readTitle_20 ⟨Nat.le_refl _, Nat.le_refl _⟩ (fun H locs hP hD hS => ?_)
  clear hc2
  refine lv_iconst (v := 0) hx hb d_Heads_readTitle_23 (by decide) ?_
  replace hR := bi_e hR
  obtain ⟨r3, l3, T3, hc3, hR⟩ := hR
  refine gcV_i (rest := []) ⟨hx, hb, hml, hown, hT⟩ (h_Items_find _ _ _ _ _ _ hc3) (cwV 2 hT (gV ml_Heads_59 im_Items_find se_Items_find ini_Items co_Items_find) rfl rfl rfl pd_Items_find ⟨rm_hi, rm_lo (Nat.le_of_ble_eq_true rfl)⟩) hK hP hD hS hA hnw henv (Nat.le_of_ble_eq_true rfl) rfl rfl hl.1 rfl (Nat.le_of_ble_eq_true rfl) d_Heads_readTitle_24 ⟨Nat.le_refl _, Nat.le_refl _⟩ (fun H locs hP hD hS => ?_)
  clear hc3
  refine lv_istore_n (lv' := [(3, .int r3), (2, .int r1), (0, .ref (ad 7)), (1, .int p1)]) hx hb d_Heads_readTitle_27 rfl hl (by decide) rfl (fun ls hl => ?_)
  refine lv_iload_n hx hb d_Heads_readTitle_28 rfl (lv_at hl 0 rfl) ?_
  refine lv_iconst (v := (-1)) hx hb d_Heads_readTitle_29 (by decide) ?_
  refine lv_icmp_ne (tgt := 51) hx hb d_Heads_readTitle_30 (by decide) (fun c4 => ?_) (fun c4 => ?_)
  · replace hR := if_n c4 hR
    refine lv_aload_n hx hb d_Heads_readTitle_51 rfl (lv_at hl 2 rfl) ?_
    refine rd_Heads_15 hx hb hT hown hK hP d_Heads_readTitle_52 ?_
    refine rd_Heads_63 hx hb hT hown hK hP d_Heads_readTitle_55 ?_
    refine lv_iload_n hx hb d_Heads_readTitle_58 rfl (lv_at hl 0 rfl) ?_
    replace hR := gd_e hR
    obtain ⟨b5, hR⟩ := hR
    refine laH_16 hx hb hK hP b5 d_Heads_readTitle_59 ?_
    refine lv_iload_n hx hb d_Heads_readTitle_60 rfl (lv_at hl 1 rfl) ?_
    refine lv_icmp_eq (tgt := 83) hx hb d_Heads_readTitle_61 (by decide) (fun c6 => ?_) (fun c6 => ?_)
    · replace hR := if_p c6 hR
      refine lv_aload_n hx hb d_Heads_readTitle_83 rfl (lv_at hl 2 rfl) ?_
      refine rd_Heads_19 hx hb hT hown hK hP d_Heads_readTitle_84 ?_
      refine lv_iload_n hx hb d_Heads_readTitle_87 rfl (lv_at hl 0 rfl) ?_
      refine lv_aload_n hx hb d_Heads_readTitle_88 rfl (lv_at hl 2 rfl) ?_
      refine lv_iload_n hx hb d_Heads_readTitle_89 rfl (lv_at hl 3 rfl) ?_
      refine lv_iconst (v := 1) hx hb d_Heads_readTitle_90 (by decide) ?_
      refine lv_iadd hx hb d_Heads_readTitle_91 ?_
      refine lv_iload_n hx hb d_Heads_readTitle_92 rfl (lv_at hl 1 rfl) ?_
      replace hR := bi_e hR
      obtain ⟨r7, l7, T7, hc7, hR⟩ := hR
      refine gcV_i (rest := [.int r3, .ref (ad 5)]) ⟨hx, hb, hml, hown, hT⟩ (h_Heads_readRegions _ _ _ _ _ _ hc7) (cwV 2 hT (gV ml_Heads_189 im_Heads_readRegions se_Heads_readRegions ini_Heads co_Heads_readRegions) rfl rfl rfl pd_Heads_readRegions ⟨rm_hi, rm_lo (Nat.le_of_ble_eq_true rfl)⟩) hK hP hD hS hA hnw henv (Nat.le_of_ble_eq_true rfl) rfl rfl hl.1 rfl (Nat.le_of_ble_eq_true rfl) d_Heads_readTitle_93 ⟨Nat.le_refl _, Nat.le_refl _⟩ (fun H locs hP hD hS => ?_)
      clear hc7
      replace hR := bi_e hR
      obtain ⟨r8, l8, T8, hc8, hR⟩ := hR
      refine gcV_i (rest := []) ⟨hx, hb, hml, hown, hT⟩ (h_Types_thing _ _ _ _ _ _ hc8) (cwV 2 hT (gV ml_Heads_192 im_Types_thing se_Types_thing ini_Types co_Types_thing) rfl rfl rfl pd_Types_thing ⟨rm_hi, rm_lo (Nat.le_of_ble_eq_true rfl)⟩) hK hP hD hS hA hnw henv (Nat.le_of_ble_eq_true rfl) rfl rfl hl.1 rfl (Nat.le_of_ble_eq_true rfl) d_Heads_readTitle_96 ⟨Nat.le_refl _, Nat.le_refl _⟩ (fun H locs hP hD hS => ?_)
      clear hc8
      obtain ⟨e1, -, e3⟩ := re_e hR
      subst e1; subst e3
      exact W.iret (v := r8) hx hb hr (fun t ht hW => ⟨⟨r8, (), rfl, rfl, by rw [ht]; exact hP, va_K.moved hW.alike hK, hD⟩, hS.F ht⟩) hS.2.2 d_Heads_readTitle_99
    · replace hR := if_n c6 hR
      refine lv_aload_n hx hb d_Heads_readTitle_64 rfl (lv_at hl 2 rfl) ?_
      refine rd_Heads_27 hx hb hT hown hK hP d_Heads_readTitle_65 ?_
      refine lv_bipush (v := 7) hx hb d_Heads_readTitle_68 (by decide) ?_
      refine lv_aload_n hx hb d_Heads_readTitle_70 rfl (lv_at hl 2 rfl) ?_
      refine rd_Heads_9 hx hb hT hown hK hP d_Heads_readTitle_71 ?_
      refine lv_iload_n hx hb d_Heads_readTitle_74 rfl (lv_at hl 3 rfl) ?_
      replace hR := bi_e hR
      obtain ⟨r10, l10, T10, hc10, hR⟩ := hR
      refine gcV_i (rest := [.int (7 : Int32), .ref (ad 3)]) ⟨hx, hb, hml, hown, hT⟩ (h_Source_startOf _ _ _ _ _ hc10) (cwV 1 hT (gV ml_Heads_90 im_Source_startOf se_Source_startOf ini_Source co_Source_startOf) rfl rfl rfl pd_Source_startOf ⟨rm_hi, rm_lo (Nat.le_of_ble_eq_true rfl)⟩) hK hP hD hS hA hnw henv (Nat.le_of_ble_eq_true rfl) rfl rfl hl.1 rfl (Nat.le_of_ble_eq_true rfl) d_Heads_readTitle_75 ⟨Nat.le_refl _, Nat.le_refl _⟩ (fun H locs hP hD hS => ?_)
      clear hc10
      replace hR := bi_e hR
      obtain ⟨r11, l11, T11, hc11, hR⟩ := hR
      refine gcV_v (rest := []) ⟨hx, hb, hml, hown, hT⟩ (h_Code_note _ _ _ _ _ _ hc11) (cwV 2 hT (gV ml_Heads_77 im_Code_note se_Code_note ini_Code co_Code_note) rfl rfl rfl pd_Code_note ⟨rm_hi, rm_lo (Nat.le_of_ble_eq_true rfl)⟩) hK hP hD hS hA hnw henv (Nat.le_of_ble_eq_true rfl) rfl rfl hl.1 rfl (Nat.le_of_ble_eq_true rfl) d_Heads_readTitle_78 ⟨Nat.le_refl _, Nat.le_refl _⟩ (fun H locs hP hD hS => ?_)
      clear hc11
      refine lv_iconst (v := 1) hx hb d_Heads_readTitle_81 (by decide) ?_
      obtain ⟨e1, -, e3⟩ := re_e hR
      subst e1; subst e3
      exact W.iret (v := (1 : Int32)) hx hb hr (fun t ht hW => ⟨⟨(1 : Int32), (), rfl, rfl, by rw [ht]; exact hP, va_K.moved hW.alike hK, hD⟩, hS.F ht⟩) hS.2.2 d_Heads_readTitle_82
  · replace hR := if_p c4 hR
    refine lv_aload_n hx hb d_Heads_readTitle_33 rfl (lv_at hl 2 rfl) ?_
    refine rd_Heads_27 hx hb hT hown hK hP d_Heads_readTitle_34 ?_
    refine lv_iconst (v := 3) hx hb d_Heads_readTitle_37 (by decide) ?_
    refine lv_aload_n hx hb d_Heads_readTitle_38 rfl (lv_at hl 2 rfl) ?_
    refine rd_Heads_9 hx hb hT hown hK hP d_Heads_readTitle_39 ?_
    refine lv_iload_n hx hb d_Heads_readTitle_42 rfl (lv_at hl 3 rfl) ?_
    replace hR := bi_e hR
    obtain ⟨r13, l13, T13, hc13, hR⟩ := hR
    refine gcV_i (rest := [.int (3 : Int32), .ref (ad 3)]) ⟨hx, hb, hml, hown, hT⟩ (h_Source_startOf _ _ _ _ _ hc13) (cwV 1 hT (gV ml_Heads_90 im_Source_startOf se_Source_startOf ini_Source co_Source_startOf) rfl rfl rfl pd_Source_startOf ⟨rm_hi, rm_lo (Nat.le_of_ble_eq_true rfl)⟩) hK hP hD hS hA hnw henv (Nat.le_of_ble_eq_true rfl) rfl rfl hl.1 rfl (Nat.le_of_ble_eq_true rfl) d_Heads_readTitle_43 ⟨Nat.le_refl _, Nat.le_refl _⟩ (fun H locs hP hD hS => ?_)
    clear hc13
    replace hR := bi_e hR
    obtain ⟨r14, l14, T14, hc14, hR⟩ := hR
    refine gcV_v (rest := []) ⟨hx, hb, hml, hown, hT⟩ (h_Code_note _ _ _ _ _ _ hc14) (cwV 2 hT (gV ml_Heads_77 im_Code_note se_Code_note ini_Code co_Code_note) rfl rfl rfl pd_Code_note ⟨rm_hi, rm_lo (Nat.le_of_ble_eq_true rfl)⟩) hK hP hD hS hA hnw henv (Nat.le_of_ble_eq_true rfl) rfl rfl hl.1 rfl (Nat.le_of_ble_eq_true rfl) d_Heads_readTitle_46 ⟨Nat.le_refl _, Nat.le_refl _⟩ (fun H locs hP hD hS => ?_)
    clear hc14
    refine lv_iconst (v := 1) hx hb d_Heads_readTitle_49 (by decide) ?_
    obtain ⟨e1, -, e3⟩ := re_e hR
    subst e1; subst e3
    exact W.iret (v := (1 : Int32)) hx hb hr (fun t ht hW => ⟨⟨(1 : Int32), (), rfl, rfl, by rw [ht]; exact hP, va_K.moved hW.alike hK, hD⟩, hS.F ht⟩) hS.2.2 d_Heads_readTitle_50
set_option maxHeartbeats 4000000 in
set_option maxRecDepth 100000 in
theorem sp_Exprs_check (l : Launch) (dC : Nat → ClassId) (dI : Nat → Nat → Nat) (ea ev ad : Nat → Nat) (km : Nat → ClassId) (F : gF) (nf d : Nat) (h_Exprs_checkTerm : mt_Exprs_checkTerm l dC dI ea ev ad km F d) (h_Exprs_checkOperator : mt_Exprs_checkOperator l dC dI ea ev ad km F d) (T0 : gSt) (p1 : Int32) (p2 : Int32) (r0 : Int32) (rl0 : Int64) (T9 : gSt) (hR : rb_Exprs_check F nf T0 p1 p2 = some (r0, rl0, T9)) : GMi l dC dI LH ad km ea ev y_Exprs_check w_Exprs_check (rmD (d + 1)) [.ref (ad 8), .int p1, .int p2] T0 r0 T9 := by
  intro sz
  refine Met.ofW (cc := b_Exprs_check) (maxL := 7) (ret := (some .int)) (by decide) rfl ?_
  intro p e s m args below meth c s₁ B hml hv
  obtain ⟨rfl, hsz, hP, hK, hD0, hnw, henv⟩ := hv
  have hx := B.exec
  have hb := B.bytes
  have hr := B.returns
  have hT : ∀ w ∈ lw_good, w.before _ s = true := fun w h => atoms_spec (ws := w_Exprs_check) B.pre w (List.mem_cons_of_mem _ h)
  have hown : s.vm.findClass R_Exprs = some m.cls := findClass_of_methodNamed B.named
  subst hsz
  have hD := hD0.self (sz := s.heap.size)
  clear hD0
  generalize hAe : va_A (gW LH ad km T0) s.heap.size = A at hD henv ⊢
  have hA : ∀ q : Nat, s.heap.size ≤ q → A q := fun q h => by rw [← hAe]; exact Or.inr h
  have hS : va_S A s.heap s.heap [] := va_S.rf
  have hl := lv_entry ([.ref (ad 8), .int p1, .int p2]) (n := 7) (Nat.le_of_ble_eq_true rfl)
  rw [lg_entry_eq]
  generalize (lg_sl ([.ref (ad 8), .int p1, .int p2]) ++ List.replicate (7 - (lg_sl ([.ref (ad 8), .int p1, .int p2])).length) Slot.unset).toArray = ls at hl ⊢
  have hl : lv_has ls 7 [(0, .ref (ad 8)), (1, .int p1), (2, .int p2)] := hl
  obtain ⟨G, hG⟩ : ∃ G : Nat → List (Nat × Value) → List Value → gSt → Prop, G = (fun pc lv stk T => ∀ (H : Heap) (locs : List Loc), va_P (dC, dI) cls_all (gW LH ad km T) H → va_D A (gW LH ad km T) → va_S A s.heap H locs → ∀ (ls : Array Slot), lv_has ls 7 lv → W p l e (headSpec w_Exprs_check (rmD (d + 1))).room s m ([.ref (ad 8), .int p1, .int p2] : List Value).toArray below meth c H locs 0 0 (MQ below (va_Qi (fun (z : Int32) (_ : Unit) => z = r0) (fun _ t => gPost dC dI LH ad km T9 A t) A) ([.ref (ad 8), .int p1, .int p2] : List Value).toArray s 0 0 A) (F0 m pc ls stk)) := ⟨_, rfl⟩
  have lb_22 : ∀ (n : Nat) (T : gSt) (x1 : Int32) (x2 : Int32) (x3 : Int32) (x4 : Int32) (x5 : Int32), rl_Exprs_check_22 F nf n T x1 x2 x3 x4 x5 = some (r0, rl0, T9) → G 22 [(0, .ref (ad 8)), (1, .int x1), (2, .int x2), (3, .int x3), (4, .int x4), (5, .int x5)] [] T := by
    intro n
    induction n with
    | zero => intro T x1 x2 x3 x4 x5 hR; rw [rl_Exprs_check_22] at hR; cases hR
    | succ n ih =>
      intro T x1 x2 x3 x4 x5 hR; rw [rl_Exprs_check_22] at hR; rw [hG]; intro H locs hP hD hS ls hl
      refine lv_iload hx hb d_Exprs_check_22 (lv_at hl 4 rfl) ?_
      refine lv_if_eq (tgt := 74) hx hb d_Exprs_check_24 (by decide) (fun c4 => ?_) (fun c4 => ?_)
      · replace hR := if_p c4 hR
        refine lv_iload_n hx hb d_Exprs_check_74 rfl (lv_at hl 3 rfl) ?_
        obtain ⟨e1, -, e3⟩ := re_e hR
        subst e1; subst e3
        exact W.iret (v := x3) hx hb hr (fun t ht hW => ⟨⟨x3, (), rfl, rfl, by rw [ht]; exact hP, va_K.moved hW.alike hK, hD⟩, hS.F ht⟩) hS.2.2 d_Exprs_check_75
      · replace hR := if_n c4 hR
        refine lv_iload hx hb d_Exprs_check_27 (lv_at hl 5 rfl) ?_
        refine lv_sipush (v := 4000) hx hb d_Exprs_check_29 (by decide) ?_
        refine lv_icmp_ge (tgt := 74) hx hb d_Exprs_check_32 (by decide) (fun c6 => ?_) (fun c6 => ?_)
        · replace hR := if_p c6 hR
          refine lv_iload_n hx hb d_Exprs_check_74 rfl (lv_at hl 3 rfl) ?_
          obtain ⟨e1, -, e3⟩ := re_e hR
          subst e1; subst e3
          exact W.iret (v := x3) hx hb hr (fun t ht hW => ⟨⟨x3, (), rfl, rfl, by rw [ht]; exact hP, va_K.moved hW.alike hK, hD⟩, hS.F ht⟩) hS.2.2 d_Exprs_check_75
        · replace hR := if_n c6 hR
          refine lv_aload_n hx hb d_Exprs_check_35 rfl (lv_at hl 0 rfl) ?_
          refine lv_iload hx hb d_Exprs_check_36 (lv_at hl 4 rfl) ?_
          refine lv_iconst (v := 0) hx hb d_Exprs_check_38 (by decide) ?_
          refine lv_iload_n hx hb d_Exprs_check_39 rfl (lv_at hl 2 rfl) ?_
          replace hR := bi_e hR
          obtain ⟨r8, l8, T8, hc8, hR⟩ := hR
          refine gcV_i (rest := []) ⟨hx, hb, hml, hown, hT⟩ (h_Exprs_checkTerm _ _ _ _ _ _ _ hc8) (cwV 3 hT (gV ml_Exprs_39 im_Exprs_checkTerm se_Exprs_checkTerm ini_Exprs co_Exprs_checkTerm) rfl rfl rfl pd_Exprs_checkTerm ⟨rm_hi, rm_lo (Nat.le_of_ble_eq_true rfl)⟩) hK hP hD hS hA hnw henv (Nat.le_of_ble_eq_true rfl) rfl rfl hl.1 rfl (Nat.le_of_ble_eq_true rfl) d_Exprs_check_40 ⟨Nat.le_refl _, Nat.le_refl _⟩ (fun H locs hP hD hS => ?_)
          clear hc8
          refine lv_istore (lv' := [(6, .int r8), (0, .ref (ad 8)), (1, .int x1), (2, .int x2), (3, .int x3), (4, .int x4), (5, .int x5)]) hx hb d_Exprs_check_43 hl (by decide) rfl (fun ls hl => ?_)
          refine lv_aload_n hx hb d_Exprs_check_45 rfl (lv_at hl 1 rfl) ?_
          refine lv_iload_n hx hb d_Exprs_check_46 rfl (lv_at hl 2 rfl) ?_
          refine lv_iload hx hb d_Exprs_check_47 (lv_at hl 5 rfl) ?_
          refine lv_iload_n hx hb d_Exprs_check_49 rfl (lv_at hl 4 rfl) ?_
          refine lv_iload hx hb d_Exprs_check_50 (lv_at hl 0 rfl) ?_
          replace hR := bi_e hR
          obtain ⟨r9, l9, T9, hc9, hR⟩ := hR
          refine gcV_i (rest := []) ⟨hx, hb, hml, hown, hT⟩ (h_Exprs_checkOperator _ _ _ _ _ _ _ _ hc9) (cwV 4 hT (gV ml_Exprs_49 im_Exprs_checkOperator se_Exprs_checkOperator ini_Exprs co_Exprs_checkOperator) rfl rfl rfl pd_Exprs_checkOperator ⟨rm_hi, rm_lo (Nat.le_of_ble_eq_true rfl)⟩) hK hP hD hS hA hnw henv (Nat.le_of_ble_eq_true rfl) rfl rfl hl.1 rfl (Nat.le_of_ble_eq_true rfl) d_Exprs_check_52 ⟨Nat.le_refl _, Nat.le_refl _⟩ (fun H locs hP hD hS => ?_)
          clear hc9
          refine lv_istore_n (lv' := [(3, .int r9), (6, .int r8), (0, .ref (ad 8)), (1, .int x1), (2, .int x2), (4, .int x4), (5, .int x5)]) hx hb d_Exprs_check_55 rfl hl (by decide) rfl (fun ls hl => ?_)
          refine lv_aload_n hx hb d_Exprs_check_56 rfl (lv_at hl 2 rfl) ?_
          refine rd_Exprs_9 hx hb hT hown hK hP d_Exprs_check_57 ?_
          refine rd_Exprs_43 hx hb hT hown hK hP d_Exprs_check_60 ?_
          refine lv_iload hx hb d_Exprs_check_63 (lv_at hl 5 rfl) ?_
          replace hR := gd_e hR
          obtain ⟨b10, hR⟩ := hR
          refine laH_3 hx hb hK hP b10 d_Exprs_check_65 ?_
          refine lv_topi (fun z11 e11 => ?_)
          replace hR := vK_e e11 hR
          refine lv_istore (lv' := [(4, .int z11), (3, .int r9), (6, .int r8), (0, .ref (ad 8)), (1, .int x1), (2, .int x2), (5, .int x5)]) hx hb d_Exprs_check_66 hl (by decide) rfl (fun ls hl => ?_)
          obtain ⟨z12, e12⟩ : ∃ y : Int32, y = x5 + (1 : Int32) := ⟨_, rfl⟩
          replace hR := vK_e e12 hR
          refine lv_iinc (v := z12) (lv' := [(5, .int z12), (4, .int z11), (3, .int r9), (6, .int r8), (0, .ref (ad 8)), (1, .int x1), (2, .int x2)]) hx hb d_Exprs_check_68 hl (k := 6) rfl (by rw [e12]; rfl) (by decide) rfl (fun ls hl => ?_)
          refine lv_goto (tgt := 22) hx hb d_Exprs_check_71 (by decide) ?_
          have g := ih T9 x1 x2 r9 z11 z12 hR
          rw [hG] at g
          exact g _ _ hP hD hS _ (lv_sub hl [4, 5, 6, 2, 1, 0] rfl)
  unfold rb_Exprs_check at hR
  refine lv_aload_n hx hb d_Exprs_check_0 rfl (lv_at hl 0 rfl) ?_
  refine lv_iload_n hx hb d_Exprs_check_1 rfl (lv_at hl 1 rfl) ?_
  refine lv_iconst (v := 0) hx hb d_Exprs_check_2 (by decide) ?_
  refine lv_iload_n hx hb d_Exprs_check_3 rfl (lv_at hl 2 rfl) ?_
  replace hR := bi_e hR
  obtain ⟨r1, l1, T1, hc1, hR⟩ := hR
  refine gcV_i (rest := []) ⟨hx, hb, hml, hown, hT⟩ (h_Exprs_checkTerm _ _ _ _ _ _ _ hc1) (cwV 3 hT (gV ml_Exprs_39 im_Exprs_checkTerm se_Exprs_checkTerm ini_Exprs co_Exprs_checkTerm) rfl rfl rfl pd_Exprs_checkTerm ⟨rm_hi, rm_lo (Nat.le_of_ble_eq_true rfl)⟩) hK hP hD hS hA hnw henv (Nat.le_of_ble_eq_true rfl) rfl rfl hl.1 rfl (Nat.le_of_ble_eq_true rfl) d_Exprs_check_4 ⟨Nat.le_refl _, Nat.le_refl _⟩ (fun H locs hP hD hS => ?_)
  clear hc1
  refine lv_istore_n (lv' := [(3, .int r1), (0, .ref (ad 8)), (1, .int p1), (2, .int p2)]) hx hb d_Exprs_check_7 rfl hl (by decide) rfl (fun ls hl => ?_)
  refine lv_aload_n hx hb d_Exprs_check_8 rfl (lv_at hl 1 rfl) ?_
  refine rd_Exprs_9 hx hb hT hown hK hP d_Exprs_check_9 ?_
  refine rd_Exprs_43 hx hb hT hown hK hP d_Exprs_check_12 ?_
  refine lv_iload_n hx hb d_Exprs_check_15 rfl (lv_at hl 2 rfl) ?_
  replace hR := gd_e hR
  obtain ⟨b2, hR⟩ := hR
  refine laH_3 hx hb hK hP b2 d_Exprs_check_16 ?_
  refine lv_topi (fun z3 e3 => ?_)
  replace hR := vK_e e3 hR
  refine lv_istore (lv' := [(4, .int z3), (3, .int r1), (0, .ref (ad 8)), (1, .int p1), (2, .int p2)]) hx hb d_Exprs_check_17 hl (by decide) rfl (fun ls hl => ?_)
  refine lv_iconst (v := 0) hx hb d_Exprs_check_19 (by decide) ?_
  refine lv_istore (lv' := [(5, .int (0 : Int32)), (4, .int z3), (3, .int r1), (0, .ref (ad 8)), (1, .int p1), (2, .int p2)]) hx hb d_Exprs_check_20 hl (by decide) rfl (fun ls hl => ?_)
  have g := lb_22 nf T1 p1 p2 r1 z3 (0 : Int32) hR
  rw [hG] at g
  exact g _ _ hP hD hS _ (lv_sub hl [3, 4, 5, 2, 1, 0] rfl)
set_option maxHeartbeats 4000000 in
set_option maxRecDepth 100000 in
theorem sp_Exprs_checkFits (l : Launch) (dC : Nat → ClassId) (dI : Nat → Nat → Nat) (ea ev ad : Nat → Nat) (km : Nat → ClassId) (F : gF) (nf d : Nat) (h_Exprs_check : mt_Exprs_check l dC dI ea ev ad km F d) (h_Exprs_demandFit : mt_Exprs_demandFit l dC dI ea ev ad km F d) (T0 : gSt) (p1 : Int32) (p2 : Int32) (p3 : Int32) (r0 : Int32) (rl0 : Int64) (T9 : gSt) (hR : rb_Exprs_checkFits F nf T0 p1 p2 p3 = some (r0, rl0, T9)) : GMv l dC dI LH ad km ea ev y_Exprs_checkFits w_Exprs_checkFits (rmD (d + 1)) [.ref (ad 8), .int p1, .int p2, .int p3] T0 T9 := by
  intro sz
  refine Met.ofW (cc := b_Exprs_checkFits) (maxL := 4) (ret := none) (by decide) rfl ?_
  intro p e s m args below meth c s₁ B hml hv
  obtain ⟨rfl, hsz, hP, hK, hD0, hnw, henv⟩ := hv
  have hx := B.exec
  have hb := B.bytes
  have hr := B.returns
  have hT : ∀ w ∈ lw_good, w.before _ s = true := fun w h => atoms_spec (ws := w_Exprs_checkFits) B.pre w (List.mem_cons_of_mem _ h)
  have hown : s.vm.findClass R_Exprs = some m.cls := findClass_of_methodNamed B.named
  subst hsz
  have hD := hD0.self (sz := s.heap.size)
  clear hD0
  generalize hAe : va_A (gW LH ad km T0) s.heap.size = A at hD henv ⊢
  have hA : ∀ q : Nat, s.heap.size ≤ q → A q := fun q h => by rw [← hAe]; exact Or.inr h
  have hS : va_S A s.heap s.heap [] := va_S.rf
  have hl := lv_entry ([.ref (ad 8), .int p1, .int p2, .int p3]) (n := 4) (Nat.le_of_ble_eq_true rfl)
  rw [lg_entry_eq]
  generalize (lg_sl ([.ref (ad 8), .int p1, .int p2, .int p3]) ++ List.replicate (4 - (lg_sl ([.ref (ad 8), .int p1, .int p2, .int p3])).length) Slot.unset).toArray = ls at hl ⊢
  have hl : lv_has ls 4 [(0, .ref (ad 8)), (1, .int p1), (2, .int p2), (3, .int p3)] := hl
  unfold rb_Exprs_checkFits at hR
  refine lv_aload_n hx hb d_Exprs_checkFits_0 rfl (lv_at hl 0 rfl) ?_
  refine lv_aload_n hx hb d_Exprs_checkFits_1 rfl (lv_at hl 0 rfl) ?_
  refine lv_iload_n hx hb d_Exprs_checkFits_2 rfl (lv_at hl 1 rfl) ?_
  refine lv_iload_n hx hb d_Exprs_checkFits_3 rfl (lv_at hl 3 rfl) ?_
  replace hR := bi_e hR
  obtain ⟨r1, l1, T1, hc1, hR⟩ := hR
  refine gcV_i (rest := [.ref (ad 8)]) ⟨hx, hb, hml, hown, hT⟩ (h_Exprs_check _ _ _ _ _ _ hc1) (cwV 2 hT (gV ml_Exprs_53 im_Exprs_check se_Exprs_check ini_Exprs co_Exprs_check) rfl rfl rfl pd_Exprs_check ⟨rm_hi, rm_lo (Nat.le_of_ble_eq_true rfl)⟩) hK hP hD hS hA hnw henv (Nat.le_of_ble_eq_true rfl) rfl rfl hl.1 rfl (Nat.le_of_ble_eq_true rfl) d_Exprs_checkFits_4 ⟨Nat.le_refl _, Nat.le_refl _⟩ (fun H locs hP hD hS => ?_)
  clear hc1
  refine lv_iload_n hx hb d_Exprs_checkFits_7 rfl (lv_at hl 2 rfl) ?_
  refine lv_iload_n hx hb d_Exprs_checkFits_8 rfl (lv_at hl 1 rfl) ?_
  replace hR := bi_e hR
  obtain ⟨r2, l2, T2, hc2, hR⟩ := hR
  refine gcV_v (rest := []) ⟨hx, hb, hml, hown, hT⟩ (h_Exprs_demandFit _ _ _ _ _ _ _ hc2) (cwV 3 hT (gV ml_Exprs_57 im_Exprs_demandFit se_Exprs_demandFit ini_Exprs co_Exprs_demandFit) rfl rfl rfl pd_Exprs_demandFit ⟨rm_hi, rm_lo (Nat.le_of_ble_eq_true rfl)⟩) hK hP hD hS hA hnw henv (Nat.le_of_ble_eq_true rfl) rfl rfl hl.1 rfl (Nat.le_of_ble_eq_true rfl) d_Exprs_checkFits_9 ⟨Nat.le_refl _, Nat.le_refl _⟩ (fun H locs hP hD hS => ?_)
  clear hc2
  obtain ⟨-, -, e3⟩ := re_e hR
  subst e3
  exact W.vret hx hb hr (fun t ht hW => ⟨⟨(), rfl, trivial, by rw [ht]; exact hP, va_K.moved hW.alike hK, hD⟩, hS.F ht⟩) hS.2.2 d_Exprs_checkFits_12
set_option maxHeartbeats 4000000 in
set_option maxRecDepth 100000 in
theorem sp_Exprs_demandFit (l : Launch) (dC : Nat → ClassId) (dI : Nat → Nat → Nat) (ea ev ad : Nat → Nat) (km : Nat → ClassId) (F : gF) (nf d : Nat) (h_Exprs_lackOf : mt_Exprs_lackOf l dC dI ea ev ad km F d) (h_Source_beginOf : mt_Source_beginOf l dC dI ea ev ad km F d) (h_Code_note : mt_Code_note l dC dI ea ev ad km F d) (T0 : gSt) (p1 : Int32) (p2 : Int32) (p3 : Int32) (r0 : Int32) (rl0 : Int64) (T9 : gSt) (hR : rb_Exprs_demandFit F nf T0 p1 p2 p3 = some (r0, rl0, T9)) : GMv l dC dI LH ad km ea ev y_Exprs_demandFit w_Exprs_demandFit (rmD (d + 1)) [.ref (ad 8), .int p1, .int p2, .int p3] T0 T9 := by
  intro sz
  refine Met.ofW (cc := b_Exprs_demandFit) (maxL := 5) (ret := none) (by decide) rfl ?_
  intro p e s m args below meth c s₁ B hml hv
  obtain ⟨rfl, hsz, hP, hK, hD0, hnw, henv⟩ := hv
  have hx := B.exec
  have hb := B.bytes
  have hr := B.returns
  have hT : ∀ w ∈ lw_good, w.before _ s = true := fun w h => atoms_spec (ws := w_Exprs_demandFit) B.pre w (List.mem_cons_of_mem _ h)
  have hown : s.vm.findClass R_Exprs = some m.cls := findClass_of_methodNamed B.named
  subst hsz
  have hD := hD0.self (sz := s.heap.size)
  clear hD0
  generalize hAe : va_A (gW LH ad km T0) s.heap.size = A at hD henv ⊢
  have hA : ∀ q : Nat, s.heap.size ≤ q → A q := fun q h => by rw [← hAe]; exact Or.inr h
  have hS : va_S A s.heap s.heap [] := va_S.rf
  have hl := lv_entry ([.ref (ad 8), .int p1, .int p2, .int p3]) (n := 5) (Nat.le_of_ble_eq_true rfl)
  rw [lg_entry_eq]
  generalize (lg_sl ([.ref (ad 8), .int p1, .int p2, .int p3]) ++ List.replicate (5 - (lg_sl ([.ref (ad 8), .int p1, .int p2, .int p3])).length) Slot.unset).toArray = ls at hl ⊢
  have hl : lv_has ls 5 [(0, .ref (ad 8)), (1, .int p1), (2, .int p2), (3, .int p3)] := hl
  unfold rb_Exprs_demandFit at hR
  refine lv_aload_n hx hb d_Exprs_demandFit_0 rfl (lv_at hl 0 rfl) ?_
  refine lv_iload_n hx hb d_Exprs_demandFit_1 rfl (lv_at hl 1 rfl) ?_
  refine lv_iload_n hx hb d_Exprs_demandFit_2 rfl (lv_at hl 2 rfl) ?_
  replace hR := bi_e hR
  obtain ⟨r1, l1, T1, hc1, hR⟩ := hR
  refine gcV_i (rest := []) ⟨hx, hb, hml, hown, hT⟩ (h_Exprs_lackOf _ _ _ _ _ _ hc1) (cwV 2 hT (gV ml_Exprs_61 im_Exprs_lackOf se_Exprs_lackOf ini_Exprs co_Exprs_lackOf) rfl rfl rfl pd_Exprs_lackOf ⟨rm_hi, rm_lo (Nat.le_of_ble_eq_true rfl)⟩) hK hP hD hS hA hnw henv (Nat.le_of_ble_eq_true rfl) rfl rfl hl.1 rfl (Nat.le_of_ble_eq_true rfl) d_Exprs_demandFit_3 ⟨Nat.le_refl _, Nat.le_refl _⟩ (fun H locs hP hD hS => ?_)
  clear hc1
  refine lv_istore (lv' := [(4, .int r1), (0, .ref (ad 8)), (1, .int p1), (2, .int p2), (3, .int p3)]) hx hb d_Exprs_demandFit_6 hl (by decide) rfl (fun ls hl => ?_)
  refine lv_iload hx hb d_Exprs_demandFit_8 (lv_at hl 0 rfl) ?_
  refine lv_if_eq (tgt := 30) hx hb d_Exprs_demandFit_10 (by decide) (fun c2 => ?_) (fun c2 => ?_)
  · replace hR := if_p c2 hR
    obtain ⟨-, -, e3⟩ := re_e hR
    subst e3
    exact W.vret hx hb hr (fun t ht hW => ⟨⟨(), rfl, trivial, by rw [ht]; exact hP, va_K.moved hW.alike hK, hD⟩, hS.F ht⟩) hS.2.2 d_Exprs_demandFit_30
  · replace hR := if_n c2 hR
    refine lv_aload_n hx hb d_Exprs_demandFit_13 rfl (lv_at hl 1 rfl) ?_
    refine rd_Exprs_35 hx hb hT hown hK hP d_Exprs_demandFit_14 ?_
    refine lv_iload hx hb d_Exprs_demandFit_17 (lv_at hl 0 rfl) ?_
    refine lv_aload_n hx hb d_Exprs_demandFit_19 rfl (lv_at hl 1 rfl) ?_
    refine rd_Exprs_9 hx hb hT hown hK hP d_Exprs_demandFit_20 ?_
    refine lv_iload_n hx hb d_Exprs_demandFit_23 rfl (lv_at hl 4 rfl) ?_
    replace hR := bi_e hR
    obtain ⟨r3, l3, T3, hc3, hR⟩ := hR
    refine gcV_i (rest := [.int r1, .ref (ad 3)]) ⟨hx, hb, hml, hown, hT⟩ (h_Source_beginOf _ _ _ _ _ hc3) (cwV 1 hT (gV ml_Exprs_64 im_Source_beginOf se_Source_beginOf ini_Source co_Source_beginOf) rfl rfl rfl pd_Source_beginOf ⟨rm_hi, rm_lo (Nat.le_of_ble_eq_true rfl)⟩) hK hP hD hS hA hnw henv (Nat.le_of_ble_eq_true rfl) rfl rfl hl.1 rfl (Nat.le_of_ble_eq_true rfl) d_Exprs_demandFit_24 ⟨Nat.le_refl _, Nat.le_refl _⟩ (fun H locs hP hD hS => ?_)
    clear hc3
    replace hR := bi_e hR
    obtain ⟨r4, l4, T4, hc4, hR⟩ := hR
    refine gcV_v (rest := []) ⟨hx, hb, hml, hown, hT⟩ (h_Code_note _ _ _ _ _ _ hc4) (cwV 2 hT (gV ml_Exprs_68 im_Code_note se_Code_note ini_Code co_Code_note) rfl rfl rfl pd_Code_note ⟨rm_hi, rm_lo (Nat.le_of_ble_eq_true rfl)⟩) hK hP hD hS hA hnw henv (Nat.le_of_ble_eq_true rfl) rfl rfl hl.1 rfl (Nat.le_of_ble_eq_true rfl) d_Exprs_demandFit_27 ⟨Nat.le_refl _, Nat.le_refl _⟩ (fun H locs hP hD hS => ?_)
    clear hc4
    obtain ⟨-, -, e3⟩ := re_e hR
    subst e3
    exact W.vret hx hb hr (fun t ht hW => ⟨⟨(), rfl, trivial, by rw [ht]; exact hP, va_K.moved hW.alike hK, hD⟩, hS.F ht⟩) hS.2.2 d_Exprs_demandFit_30
set_option maxHeartbeats 4000000 in
set_option maxRecDepth 100000 in
theorem sp_Exprs_demand (l : Launch) (dC : Nat → ClassId) (dI : Nat → Nat → Nat) (ea ev ad : Nat → Nat) (km : Nat → ClassId) (F : gF) (nf d : Nat) (h_Code_note : mt_Code_note l dC dI ea ev ad km F d) (T0 : gSt) (p1 : Int32) (p2 : Int32) (p3 : Int32) (r0 : Int32) (rl0 : Int64) (T9 : gSt) (hR : rb_Exprs_demand F nf T0 p1 p2 p3 = some (r0, rl0, T9)) : GMv l dC dI LH ad km ea ev y_Exprs_demand w_Exprs_demand (rmD (d + 1)) [.ref (ad 8), .int p1, .int p2, .int p3] T0 T9 := by
  intro sz
  refine Met.ofW (cc := b_Exprs_demand) (maxL := 4) (ret := none) (by decide) rfl ?_
  intro p e s m args below meth c s₁ B hml hv
  obtain ⟨rfl, hsz, hP, hK, hD0, hnw, henv⟩ := hv
  have hx := B.exec
  have hb := B.bytes
  have hr := B.returns
  have hT : ∀ w ∈ lw_good, w.before _ s = true := fun w h => atoms_spec (ws := w_Exprs_demand) B.pre w (List.mem_cons_of_mem _ h)
  have hown : s.vm.findClass R_Exprs = some m.cls := findClass_of_methodNamed B.named
  subst hsz
  have hD := hD0.self (sz := s.heap.size)
  clear hD0
  generalize hAe : va_A (gW LH ad km T0) s.heap.size = A at hD henv ⊢
  have hA : ∀ q : Nat, s.heap.size ≤ q → A q := fun q h => by rw [← hAe]; exact Or.inr h
  have hS : va_S A s.heap s.heap [] := va_S.rf
  have hl := lv_entry ([.ref (ad 8), .int p1, .int p2, .int p3]) (n := 4) (Nat.le_of_ble_eq_true rfl)
  rw [lg_entry_eq]
  generalize (lg_sl ([.ref (ad 8), .int p1, .int p2, .int p3]) ++ List.replicate (4 - (lg_sl ([.ref (ad 8), .int p1, .int p2, .int p3])).length) Slot.unset).toArray = ls at hl ⊢
  have hl : lv_has ls 4 [(0, .ref (ad 8)), (1, .int p1), (2, .int p2), (3, .int p3)] := hl
  unfold rb_Exprs_demand at hR
  refine lv_iload_n hx hb d_Exprs_demand_0 rfl (lv_at hl 1 rfl) ?_
  refine lv_if_ne (tgt := 13) hx hb d_Exprs_demand_1 (by decide) (fun c1 => ?_) (fun c1 => ?_)
  · replace hR := if_n c1 hR
    obtain ⟨-, -, e3⟩ := re_e hR
    subst e3
    exact W.vret hx hb hr (fun t ht hW => ⟨⟨(), rfl, trivial, by rw [ht]; exact hP, va_K.moved hW.alike hK, hD⟩, hS.F ht⟩) hS.2.2 d_Exprs_demand_13
  · replace hR := if_p c1 hR
    refine lv_aload_n hx hb d_Exprs_demand_4 rfl (lv_at hl 0 rfl) ?_
    refine rd_Exprs_35 hx hb hT hown hK hP d_Exprs_demand_5 ?_
    refine lv_iload_n hx hb d_Exprs_demand_8 rfl (lv_at hl 2 rfl) ?_
    refine lv_iload_n hx hb d_Exprs_demand_9 rfl (lv_at hl 3 rfl) ?_
    replace hR := bi_e hR
    obtain ⟨r2, l2, T2, hc2, hR⟩ := hR
    refine gcV_v (rest := []) ⟨hx, hb, hml, hown, hT⟩ (h_Code_note _ _ _ _ _ _ hc2) (cwV 2 hT (gV ml_Exprs_68 im_Code_note se_Code_note ini_Code co_Code_note) rfl rfl rfl pd_Code_note ⟨rm_hi, rm_lo (Nat.le_of_ble_eq_true rfl)⟩) hK hP hD hS hA hnw henv (Nat.le_of_ble_eq_true rfl) rfl rfl hl.1 rfl (Nat.le_of_ble_eq_true rfl) d_Exprs_demand_10 ⟨Nat.le_refl _, Nat.le_refl _⟩ (fun H locs hP hD hS => ?_)
    clear hc2
    obtain ⟨-, -, e3⟩ := re_e hR
    subst e3
    exact W.vret hx hb hr (fun t ht hW => ⟨⟨(), rfl, trivial, by rw [ht]; exact hP, va_K.moved hW.alike hK, hD⟩, hS.F ht⟩) hS.2.2 d_Exprs_demand_13
set_option maxHeartbeats 4000000 in
set_option maxRecDepth 100000 in
theorem sp_Exprs_lackOf (l : Launch) (dC : Nat → ClassId) (dI : Nat → Nat → Nat) (ea ev ad : Nat → Nat) (km : Nat → ClassId) (F : gF) (nf d : Nat) (h_Types_kindOf : mt_Types_kindOf l dC dI ea ev ad km F d) (h_Types_behind : mt_Types_behind l dC dI ea ev ad km F d) (h_Types_regionOf : mt_Types_regionOf l dC dI ea ev ad km F d) (h_Scope_outlives : mt_Scope_outlives l dC dI ea ev ad km F d) (T0 : gSt) (p1 : Int32) (p2 : Int32) (r0 : Int32) (rl0 : Int64) (T9 : gSt) (hR : rb_Exprs_lackOf F nf T0 p1 p2 = some (r0, rl0, T9)) : GMi l dC dI LH ad km ea ev y_Exprs_lackOf w_Exprs_lackOf (rmD (d + 1)) [.ref (ad 8), .int p1, .int p2] T0 r0 T9 := by
  intro sz
  refine Met.ofW (cc := b_Exprs_lackOf) (maxL := 6) (ret := (some .int)) (by decide) rfl ?_
  intro p e s m args below meth c s₁ B hml hv
  obtain ⟨rfl, hsz, hP, hK, hD0, hnw, henv⟩ := hv
  have hx := B.exec
  have hb := B.bytes
  have hr := B.returns
  have hT : ∀ w ∈ lw_good, w.before _ s = true := fun w h => atoms_spec (ws := w_Exprs_lackOf) B.pre w (List.mem_cons_of_mem _ h)
  have hown : s.vm.findClass R_Exprs = some m.cls := findClass_of_methodNamed B.named
  subst hsz
  have hD := hD0.self (sz := s.heap.size)
  clear hD0
  generalize hAe : va_A (gW LH ad km T0) s.heap.size = A at hD henv ⊢
  have hA : ∀ q : Nat, s.heap.size ≤ q → A q := fun q h => by rw [← hAe]; exact Or.inr h
  have hS : va_S A s.heap s.heap [] := va_S.rf
  have hl := lv_entry ([.ref (ad 8), .int p1, .int p2]) (n := 6) (Nat.le_of_ble_eq_true rfl)
  rw [lg_entry_eq]
  generalize (lg_sl ([.ref (ad 8), .int p1, .int p2]) ++ List.replicate (6 - (lg_sl ([.ref (ad 8), .int p1, .int p2])).length) Slot.unset).toArray = ls at hl ⊢
  have hl : lv_has ls 6 [(0, .ref (ad 8)), (1, .int p1), (2, .int p2)] := hl
  obtain ⟨G, hG⟩ : ∃ G : Nat → List (Nat × Value) → List Value → gSt → Prop, G = (fun pc lv stk T => ∀ (H : Heap) (locs : List Loc), va_P (dC, dI) cls_all (gW LH ad km T) H → va_D A (gW LH ad km T) → va_S A s.heap H locs → ∀ (ls : Array Slot), lv_has ls 6 lv → W p l e (headSpec w_Exprs_lackOf (rmD (d + 1))).room s m ([.ref (ad 8), .int p1, .int p2] : List Value).toArray below meth c H locs 0 0 (MQ below (va_Qi (fun (z : Int32) (_ : Unit) => z = r0) (fun _ t => gPost dC dI LH ad km T9 A t) A) ([.ref (ad 8), .int p1, .int p2] : List Value).toArray s 0 0 A) (F0 m pc ls stk)) := ⟨_, rfl⟩
  have lb_86 : ∀ (T : gSt) (x1 : Int32) (x2 : Int32) (y0 : Int32), rj_Exprs_lackOf_86 F nf T x1 x2 y0 = some (r0, rl0, T9) → G 86 [(0, .ref (ad 8)), (1, .int x1), (2, .int x2)] [.int y0] T := by
    intro T x1 x2 y0 hR; unfold rj_Exprs_lackOf_86 at hR; rw [hG]; intro H locs hP hD hS ls hl
    refine lv_istore (lv' := [(5, .int y0), (0, .ref (ad 8)), (1, .int x1), (2, .int x2)]) hx hb d_Exprs_lackOf_86 hl (by decide) rfl (fun ls hl => ?_)
    refine lv_iload hx hb d_Exprs_lackOf_88 (lv_at hl 0 rfl) ?_
    refine lv_if_eq (tgt := 112) hx hb d_Exprs_lackOf_90 (by decide) (fun c22 => ?_) (fun c22 => ?_)
    · replace hR := if_p c22 hR
      refine lv_iconst (v := 4) hx hb d_Exprs_lackOf_112 (by decide) ?_
      obtain ⟨e1, -, e3⟩ := re_e hR
      subst e1; subst e3
      exact W.iret (v := (4 : Int32)) hx hb hr (fun t ht hW => ⟨⟨(4 : Int32), (), rfl, rfl, by rw [ht]; exact hP, va_K.moved hW.alike hK, hD⟩, hS.F ht⟩) hS.2.2 d_Exprs_lackOf_113
    · replace hR := if_n c22 hR
      refine lv_aload_n hx hb d_Exprs_lackOf_93 rfl (lv_at hl 1 rfl) ?_
      refine rd_Exprs_29 hx hb hT hown hK hP d_Exprs_lackOf_94 ?_
      refine lv_iload_n hx hb d_Exprs_lackOf_97 rfl (lv_at hl 2 rfl) ?_
      replace hR := bi_e hR
      obtain ⟨r24, l24, T24, hc24, hR⟩ := hR
      refine gcV_i (rest := []) ⟨hx, hb, hml, hown, hT⟩ (h_Types_behind _ _ _ _ _ hc24) (cwV 1 hT (gV ml_Exprs_79 im_Types_behind se_Types_behind ini_Types co_Types_behind) rfl rfl rfl pd_Types_behind ⟨rm_hi, rm_lo (Nat.le_of_ble_eq_true rfl)⟩) hK hP hD hS hA hnw henv (Nat.le_of_ble_eq_true rfl) rfl rfl hl.1 rfl (Nat.le_of_ble_eq_true rfl) d_Exprs_lackOf_98 ⟨Nat.le_refl _, Nat.le_refl _⟩ (fun H locs hP hD hS => ?_)
      clear hc24
      refine lv_aload_n hx hb d_Exprs_lackOf_101 rfl (lv_at hl 1 rfl) ?_
      refine rd_Exprs_29 hx hb hT hown hK hP d_Exprs_lackOf_102 ?_
      refine lv_iload_n hx hb d_Exprs_lackOf_105 rfl (lv_at hl 3 rfl) ?_
      replace hR := bi_e hR
      obtain ⟨r25, l25, T25, hc25, hR⟩ := hR
      refine gcV_i (rest := [.int r24]) ⟨hx, hb, hml, hown, hT⟩ (h_Types_behind _ _ _ _ _ hc25) (cwV 1 hT (gV ml_Exprs_79 im_Types_behind se_Types_behind ini_Types co_Types_behind) rfl rfl rfl pd_Types_behind ⟨rm_hi, rm_lo (Nat.le_of_ble_eq_true rfl)⟩) hK hP hD hS hA hnw henv (Nat.le_of_ble_eq_true rfl) rfl rfl hl.1 rfl (Nat.le_of_ble_eq_true rfl) d_Exprs_lackOf_106 ⟨Nat.le_refl _, Nat.le_refl _⟩ (fun H locs hP hD hS => ?_)
      clear hc25
      refine lv_icmp_eq (tgt := 114) hx hb d_Exprs_lackOf_109 (by decide) (fun c26 => ?_) (fun c26 => ?_)
      · replace hR := if_p c26 hR
        refine lv_aload_n hx hb d_Exprs_lackOf_114 rfl (lv_at hl 1 rfl) ?_
        refine rd_Exprs_34 hx hb hT hown hK hP d_Exprs_lackOf_115 ?_
        refine lv_aload_n hx hb d_Exprs_lackOf_118 rfl (lv_at hl 1 rfl) ?_
        refine rd_Exprs_29 hx hb hT hown hK hP d_Exprs_lackOf_119 ?_
        refine lv_iload_n hx hb d_Exprs_lackOf_122 rfl (lv_at hl 2 rfl) ?_
        replace hR := bi_e hR
        obtain ⟨r27, l27, T27, hc27, hR⟩ := hR
        refine gcV_i (rest := [.ref (ad 6)]) ⟨hx, hb, hml, hown, hT⟩ (h_Types_regionOf _ _ _ _ _ hc27) (cwV 1 hT (gV ml_Exprs_82 im_Types_regionOf se_Types_regionOf ini_Types co_Types_regionOf) rfl rfl rfl pd_Types_regionOf ⟨rm_hi, rm_lo (Nat.le_of_ble_eq_true rfl)⟩) hK hP hD hS hA hnw henv (Nat.le_of_ble_eq_true rfl) rfl rfl hl.1 rfl (Nat.le_of_ble_eq_true rfl) d_Exprs_lackOf_123 ⟨Nat.le_refl _, Nat.le_refl _⟩ (fun H locs hP hD hS => ?_)
        clear hc27
        refine lv_aload_n hx hb d_Exprs_lackOf_126 rfl (lv_at hl 1 rfl) ?_
        refine rd_Exprs_29 hx hb hT hown hK hP d_Exprs_lackOf_127 ?_
        refine lv_iload_n hx hb d_Exprs_lackOf_130 rfl (lv_at hl 3 rfl) ?_
        replace hR := bi_e hR
        obtain ⟨r28, l28, T28, hc28, hR⟩ := hR
        refine gcV_i (rest := [.int r27, .ref (ad 6)]) ⟨hx, hb, hml, hown, hT⟩ (h_Types_regionOf _ _ _ _ _ hc28) (cwV 1 hT (gV ml_Exprs_82 im_Types_regionOf se_Types_regionOf ini_Types co_Types_regionOf) rfl rfl rfl pd_Types_regionOf ⟨rm_hi, rm_lo (Nat.le_of_ble_eq_true rfl)⟩) hK hP hD hS hA hnw henv (Nat.le_of_ble_eq_true rfl) rfl rfl hl.1 rfl (Nat.le_of_ble_eq_true rfl) d_Exprs_lackOf_131 ⟨Nat.le_refl _, Nat.le_refl _⟩ (fun H locs hP hD hS => ?_)
        clear hc28
        replace hR := bi_e hR
        obtain ⟨r29, l29, T29, hc29, hR⟩ := hR
        refine gcV_i (rest := []) ⟨hx, hb, hml, hown, hT⟩ (h_Scope_outlives _ _ _ _ _ _ hc29) (cwV 2 hT (gV ml_Exprs_85 im_Scope_outlives se_Scope_outlives ini_Scope co_Scope_outlives) rfl rfl rfl pd_Scope_outlives ⟨rm_hi, rm_lo (Nat.le_of_ble_eq_true rfl)⟩) hK hP hD hS hA hnw henv (Nat.le_of_ble_eq_true rfl) rfl rfl hl.1 rfl (Nat.le_of_ble_eq_true rfl) d_Exprs_lackOf_134 ⟨Nat.le_refl _, Nat.le_refl _⟩ (fun H locs hP hD hS => ?_)
        clear hc29
        refine lv_if_eq (tgt := 144) hx hb d_Exprs_lackOf_137 (by decide) (fun c30 => ?_) (fun c30 => ?_)
        · replace hR := if_p c30 hR
          refine lv_iconst (v := 5) hx hb d_Exprs_lackOf_144 (by decide) ?_
          obtain ⟨e1, -, e3⟩ := re_e hR
          subst e1; subst e3
          exact W.iret (v := (5 : Int32)) hx hb hr (fun t ht hW => ⟨⟨(5 : Int32), (), rfl, rfl, by rw [ht]; exact hP, va_K.moved hW.alike hK, hD⟩, hS.F ht⟩) hS.2.2 d_Exprs_lackOf_145
        · replace hR := if_n c30 hR
          refine lv_iconst (v := 0) hx hb d_Exprs_lackOf_140 (by decide) ?_
          refine lv_goto (tgt := 145) hx hb d_Exprs_lackOf_141 (by decide) ?_
          obtain ⟨e1, -, e3⟩ := re_e hR
          subst e1; subst e3
          exact W.iret (v := (0 : Int32)) hx hb hr (fun t ht hW => ⟨⟨(0 : Int32), (), rfl, rfl, by rw [ht]; exact hP, va_K.moved hW.alike hK, hD⟩, hS.F ht⟩) hS.2.2 d_Exprs_lackOf_145
      · replace hR := if_n c26 hR
        refine lv_iconst (v := 4) hx hb d_Exprs_lackOf_112 (by decide) ?_
        obtain ⟨e1, -, e3⟩ := re_e hR
        subst e1; subst e3
        exact W.iret (v := (4 : Int32)) hx hb hr (fun t ht hW => ⟨⟨(4 : Int32), (), rfl, rfl, by rw [ht]; exact hP, va_K.moved hW.alike hK, hD⟩, hS.F ht⟩) hS.2.2 d_Exprs_lackOf_113
  unfold rb_Exprs_lackOf at hR
  refine lv_aload_n hx hb d_Exprs_lackOf_0 rfl (lv_at hl 0 rfl) ?_
  refine rd_Exprs_29 hx hb hT hown hK hP d_Exprs_lackOf_1 ?_
  refine lv_iload_n hx hb d_Exprs_lackOf_4 rfl (lv_at hl 1 rfl) ?_
  replace hR := bi_e hR
  obtain ⟨r1, l1, T1, hc1, hR⟩ := hR
  refine gcV_i (rest := []) ⟨hx, hb, hml, hown, hT⟩ (h_Types_kindOf _ _ _ _ _ hc1) (cwV 1 hT (gV ml_Exprs_74 im_Types_kindOf se_Types_kindOf ini_Types co_Types_kindOf) rfl rfl rfl pd_Types_kindOf ⟨rm_hi, rm_lo (Nat.le_of_ble_eq_true rfl)⟩) hK hP hD hS hA hnw henv (Nat.le_of_ble_eq_true rfl) rfl rfl hl.1 rfl (Nat.le_of_ble_eq_true rfl) d_Exprs_lackOf_5 ⟨Nat.le_refl _, Nat.le_refl _⟩ (fun H locs hP hD hS => ?_)
  clear hc1
  refine lv_istore_n (lv' := [(3, .int r1), (0, .ref (ad 8)), (1, .int p1), (2, .int p2)]) hx hb d_Exprs_lackOf_8 rfl hl (by decide) rfl (fun ls hl => ?_)
  refine lv_aload_n hx hb d_Exprs_lackOf_9 rfl (lv_at hl 1 rfl) ?_
  refine rd_Exprs_29 hx hb hT hown hK hP d_Exprs_lackOf_10 ?_
  refine lv_iload_n hx hb d_Exprs_lackOf_13 rfl (lv_at hl 3 rfl) ?_
  replace hR := bi_e hR
  obtain ⟨r2, l2, T2, hc2, hR⟩ := hR
  refine gcV_i (rest := []) ⟨hx, hb, hml, hown, hT⟩ (h_Types_kindOf _ _ _ _ _ hc2) (cwV 1 hT (gV ml_Exprs_74 im_Types_kindOf se_Types_kindOf ini_Types co_Types_kindOf) rfl rfl rfl pd_Types_kindOf ⟨rm_hi, rm_lo (Nat.le_of_ble_eq_true rfl)⟩) hK hP hD hS hA hnw henv (Nat.le_of_ble_eq_true rfl) rfl rfl hl.1 rfl (Nat.le_of_ble_eq_true rfl) d_Exprs_lackOf_14 ⟨Nat.le_refl _, Nat.le_refl _⟩ (fun H locs hP hD hS => ?_)
  clear hc2
  refine lv_istore (lv' := [(4, .int r2), (3, .int r1), (0, .ref (ad 8)), (1, .int p1), (2, .int p2)]) hx hb d_Exprs_lackOf_17 hl (by decide) rfl (fun ls hl => ?_)
  refine lv_iload_n hx hb d_Exprs_lackOf_19 rfl (lv_at hl 1 rfl) ?_
  refine lv_iconst (v := 2) hx hb d_Exprs_lackOf_20 (by decide) ?_
  refine lv_icmp_ne (tgt := 36) hx hb d_Exprs_lackOf_21 (by decide) (fun c3 => ?_) (fun c3 => ?_)
  · replace hR := if_n c3 hR
    refine lv_iload_n hx hb d_Exprs_lackOf_36 rfl (lv_at hl 1 rfl) ?_
    refine lv_iconst (v := 3) hx hb d_Exprs_lackOf_37 (by decide) ?_
    refine lv_icmp_lt (tgt := 47) hx hb d_Exprs_lackOf_38 (by decide) (fun c4 => ?_) (fun c4 => ?_)
    · replace hR := if_p c4 hR
      refine lv_iload_n hx hb d_Exprs_lackOf_47 rfl (lv_at hl 1 rfl) ?_
      refine lv_iconst (v := 1) hx hb d_Exprs_lackOf_48 (by decide) ?_
      refine lv_icmp_ne (tgt := 62) hx hb d_Exprs_lackOf_49 (by decide) (fun c5 => ?_) (fun c5 => ?_)
      · replace hR := if_n c5 hR
        refine lv_iconst (v := 4) hx hb d_Exprs_lackOf_62 (by decide) ?_
        obtain ⟨e1, -, e3⟩ := re_e hR
        subst e1; subst e3
        exact W.iret (v := (4 : Int32)) hx hb hr (fun t ht hW => ⟨⟨(4 : Int32), (), rfl, rfl, by rw [ht]; exact hP, va_K.moved hW.alike hK, hD⟩, hS.F ht⟩) hS.2.2 d_Exprs_lackOf_63
      · replace hR := if_p c5 hR
        refine lv_iload hx hb d_Exprs_lackOf_52 (lv_at hl 0 rfl) ?_
        refine lv_iconst (v := 1) hx hb d_Exprs_lackOf_54 (by decide) ?_
        refine lv_icmp_ne (tgt := 62) hx hb d_Exprs_lackOf_55 (by decide) (fun c7 => ?_) (fun c7 => ?_)
        · replace hR := if_n c7 hR
          refine lv_iconst (v := 4) hx hb d_Exprs_lackOf_62 (by decide) ?_
          obtain ⟨e1, -, e3⟩ := re_e hR
          subst e1; subst e3
          exact W.iret (v := (4 : Int32)) hx hb hr (fun t ht hW => ⟨⟨(4 : Int32), (), rfl, rfl, by rw [ht]; exact hP, va_K.moved hW.alike hK, hD⟩, hS.F ht⟩) hS.2.2 d_Exprs_lackOf_63
        · replace hR := if_p c7 hR
          refine lv_iconst (v := 0) hx hb d_Exprs_lackOf_58 (by decide) ?_
          refine lv_goto (tgt := 63) hx hb d_Exprs_lackOf_59 (by decide) ?_
          obtain ⟨e1, -, e3⟩ := re_e hR
          subst e1; subst e3
          exact W.iret (v := (0 : Int32)) hx hb hr (fun t ht hW => ⟨⟨(0 : Int32), (), rfl, rfl, by rw [ht]; exact hP, va_K.moved hW.alike hK, hD⟩, hS.F ht⟩) hS.2.2 d_Exprs_lackOf_63
    · replace hR := if_n c4 hR
      refine lv_iload hx hb d_Exprs_lackOf_41 (lv_at hl 0 rfl) ?_
      refine lv_iconst (v := 3) hx hb d_Exprs_lackOf_43 (by decide) ?_
      refine lv_icmp_ge (tgt := 64) hx hb d_Exprs_lackOf_44 (by decide) (fun c10 => ?_) (fun c10 => ?_)
      · replace hR := if_p c10 hR
        refine lv_iload_n hx hb d_Exprs_lackOf_64 rfl (lv_at hl 1 rfl) ?_
        refine lv_iload hx hb d_Exprs_lackOf_65 (lv_at hl 0 rfl) ?_
        refine lv_icmp_eq (tgt := 81) hx hb d_Exprs_lackOf_67 (by decide) (fun c11 => ?_) (fun c11 => ?_)
        · replace hR := if_p c11 hR
          refine lv_iconst (v := 1) hx hb d_Exprs_lackOf_81 (by decide) ?_
          refine lv_goto (tgt := 86) hx hb d_Exprs_lackOf_82 (by decide) ?_
          have g := lb_86 T2 p1 p2 (1 : Int32) hR
          rw [hG] at g
          exact g _ _ hP hD hS _ (lv_sub hl [2, 3, 4] rfl)
        · replace hR := if_n c11 hR
          refine lv_iload_n hx hb d_Exprs_lackOf_70 rfl (lv_at hl 1 rfl) ?_
          refine lv_iconst (v := 3) hx hb d_Exprs_lackOf_71 (by decide) ?_
          refine lv_icmp_ne (tgt := 85) hx hb d_Exprs_lackOf_72 (by decide) (fun c12 => ?_) (fun c12 => ?_)
          · replace hR := if_n c12 hR
            refine lv_iconst (v := 0) hx hb d_Exprs_lackOf_85 (by decide) ?_
            have g := lb_86 T2 p1 p2 (0 : Int32) hR
            rw [hG] at g
            exact g _ _ hP hD hS _ (lv_sub hl [2, 3, 4] rfl)
          · replace hR := if_p c12 hR
            refine lv_iload hx hb d_Exprs_lackOf_75 (lv_at hl 0 rfl) ?_
            refine lv_iconst (v := 4) hx hb d_Exprs_lackOf_77 (by decide) ?_
            refine lv_icmp_ne (tgt := 85) hx hb d_Exprs_lackOf_78 (by decide) (fun c13 => ?_) (fun c13 => ?_)
            · replace hR := if_n c13 hR
              refine lv_iconst (v := 0) hx hb d_Exprs_lackOf_85 (by decide) ?_
              have g := lb_86 T2 p1 p2 (0 : Int32) hR
              rw [hG] at g
              exact g _ _ hP hD hS _ (lv_sub hl [2, 3, 4] rfl)
            · replace hR := if_p c13 hR
              refine lv_iconst (v := 1) hx hb d_Exprs_lackOf_81 (by decide) ?_
              refine lv_goto (tgt := 86) hx hb d_Exprs_lackOf_82 (by decide) ?_
              have g := lb_86 T2 p1 p2 (1 : Int32) hR
              rw [hG] at g
              exact g _ _ hP hD hS _ (lv_sub hl [2, 3, 4] rfl)
      · replace hR := if_n c10 hR
        refine lv_iload_n hx hb d_Exprs_lackOf_47 rfl (lv_at hl 1 rfl) ?_
        refine lv_iconst (v := 1) hx hb d_Exprs_lackOf_48 (by decide) ?_
        refine lv_icmp_ne (tgt := 62) hx hb d_Exprs_lackOf_49 (by decide) (fun c14 => ?_) (fun c14 => ?_)
        · replace hR := if_n c14 hR
          refine lv_iconst (v := 4) hx hb d_Exprs_lackOf_62 (by decide) ?_
          obtain ⟨e1, -, e3⟩ := re_e hR
          subst e1; subst e3
          exact W.iret (v := (4 : Int32)) hx hb hr (fun t ht hW => ⟨⟨(4 : Int32), (), rfl, rfl, by rw [ht]; exact hP, va_K.moved hW.alike hK, hD⟩, hS.F ht⟩) hS.2.2 d_Exprs_lackOf_63
        · replace hR := if_p c14 hR
          refine lv_iload hx hb d_Exprs_lackOf_52 (lv_at hl 0 rfl) ?_
          refine lv_iconst (v := 1) hx hb d_Exprs_lackOf_54 (by decide) ?_
          refine lv_icmp_ne (tgt := 62) hx hb d_Exprs_lackOf_55 (by decide) (fun c16 => ?_) (fun c16 => ?_)
          · replace hR := if_n c16 hR
            refine lv_iconst (v := 4) hx hb d_Exprs_lackOf_62 (by decide) ?_
            obtain ⟨e1, -, e3⟩ := re_e hR
            subst e1; subst e3
            exact W.iret (v := (4 : Int32)) hx hb hr (fun t ht hW => ⟨⟨(4 : Int32), (), rfl, rfl, by rw [ht]; exact hP, va_K.moved hW.alike hK, hD⟩, hS.F ht⟩) hS.2.2 d_Exprs_lackOf_63
          · replace hR := if_p c16 hR
            refine lv_iconst (v := 0) hx hb d_Exprs_lackOf_58 (by decide) ?_
            refine lv_goto (tgt := 63) hx hb d_Exprs_lackOf_59 (by decide) ?_
            obtain ⟨e1, -, e3⟩ := re_e hR
            subst e1; subst e3
            exact W.iret (v := (0 : Int32)) hx hb hr (fun t ht hW => ⟨⟨(0 : Int32), (), rfl, rfl, by rw [ht]; exact hP, va_K.moved hW.alike hK, hD⟩, hS.F ht⟩) hS.2.2 d_Exprs_lackOf_63
  · replace hR := if_p c3 hR
    refine lv_iload hx hb d_Exprs_lackOf_24 (lv_at hl 0 rfl) ?_
    refine lv_iconst (v := 4) hx hb d_Exprs_lackOf_26 (by decide) ?_
    refine lv_icmp_ne (tgt := 34) hx hb d_Exprs_lackOf_27 (by decide) (fun c19 => ?_) (fun c19 => ?_)
    · replace hR := if_n c19 hR
      refine lv_iconst (v := 4) hx hb d_Exprs_lackOf_34 (by decide) ?_
      obtain ⟨e1, -, e3⟩ := re_e hR
      subst e1; subst e3
      exact W.iret (v := (4 : Int32)) hx hb hr (fun t ht hW => ⟨⟨(4 : Int32), (), rfl, rfl, by rw [ht]; exact hP, va_K.moved hW.alike hK, hD⟩, hS.F ht⟩) hS.2.2 d_Exprs_lackOf_35
    · replace hR := if_p c19 hR
      refine lv_iconst (v := 0) hx hb d_Exprs_lackOf_30 (by decide) ?_
      refine lv_goto (tgt := 35) hx hb d_Exprs_lackOf_31 (by decide) ?_
      obtain ⟨e1, -, e3⟩ := re_e hR
      subst e1; subst e3
      exact W.iret (v := (0 : Int32)) hx hb hr (fun t ht hW => ⟨⟨(0 : Int32), (), rfl, rfl, by rw [ht]; exact hP, va_K.moved hW.alike hK, hD⟩, hS.F ht⟩) hS.2.2 d_Exprs_lackOf_35
set_option maxHeartbeats 4000000 in
set_option maxRecDepth 100000 in
theorem sp_Exprs_checkOperator (l : Launch) (dC : Nat → ClassId) (dI : Nat → Nat → Nat) (ea ev ad : Nat → Nat) (km : Nat → ClassId) (F : gF) (nf d : Nat) (h_Source_beginOf : mt_Source_beginOf l dC dI ea ev ad km F d) (h_Types_kindOf : mt_Types_kindOf l dC dI ea ev ad km F d) (h_Code_emit : mt_Code_emit l dC dI ea ev ad km F d) (h_Exprs_mayCompare : mt_Exprs_mayCompare l dC dI ea ev ad km F d) (h_Exprs_checkComparison : mt_Exprs_checkComparison l dC dI ea ev ad km F d) (h_Exprs_instructionOf : mt_Exprs_instructionOf l dC dI ea ev ad km F d) (h_Code_note : mt_Code_note l dC dI ea ev ad km F d) (T0 : gSt) (p1 : Int32) (p2 : Int32) (p3 : Int32) (p4 : Int32) (r0 : Int32) (rl0 : Int64) (T9 : gSt) (hR : rb_Exprs_checkOperator F nf T0 p1 p2 p3 p4 = some (r0, rl0, T9)) : GMi l dC dI LH ad km ea ev y_Exprs_checkOperator w_Exprs_checkOperator (rmD (d + 1)) [.ref (ad 8), .int p1, .int p2, .int p3, .int p4] T0 r0 T9 := by
  intro sz
  refine Met.ofW (cc := b_Exprs_checkOperator) (maxL := 7) (ret := (some .int)) (by decide) rfl ?_
  intro p e s m args below meth c s₁ B hml hv
  obtain ⟨rfl, hsz, hP, hK, hD0, hnw, henv⟩ := hv
  have hx := B.exec
  have hb := B.bytes
  have hr := B.returns
  have hT : ∀ w ∈ lw_good, w.before _ s = true := fun w h => atoms_spec (ws := w_Exprs_checkOperator) B.pre w (List.mem_cons_of_mem _ h)
  have hown : s.vm.findClass R_Exprs = some m.cls := findClass_of_methodNamed B.named
  subst hsz
  have hD := hD0.self (sz := s.heap.size)
  clear hD0
  generalize hAe : va_A (gW LH ad km T0) s.heap.size = A at hD henv ⊢
  have hA : ∀ q : Nat, s.heap.size ≤ q → A q := fun q h => by rw [← hAe]; exact Or.inr h
  have hS : va_S A s.heap s.heap [] := va_S.rf
  have hl := lv_entry ([.ref (ad 8), .int p1, .int p2, .int p3, .int p4]) (n := 7) (Nat.le_of_ble_eq_true rfl)
  rw [lg_entry_eq]
  generalize (lg_sl ([.ref (ad 8), .int p1, .int p2, .int p3, .int p4]) ++ List.replicate (7 - (lg_sl ([.ref (ad 8), .int p1, .int p2, .int p3, .int p4])).length) Slot.unset).toArray = ls at hl ⊢
  have hl : lv_has ls 7 [(0, .ref (ad 8)), (1, .int p1), (2, .int p2), (3, .int p3), (4, .int p4)] := hl
  obtain ⟨G, hG⟩ : ∃ G : Nat → List (Nat × Value) → List Value → gSt → Prop, G = (fun pc lv stk T => ∀ (H : Heap) (locs : List Loc), va_P (dC, dI) cls_all (gW LH ad km T) H → va_D A (gW LH ad km T) → va_S A s.heap H locs → ∀ (ls : Array Slot), lv_has ls 7 lv → W p l e (headSpec w_Exprs_checkOperator (rmD (d + 1))).room s m ([.ref (ad 8), .int p1, .int p2, .int p3, .int p4] : List Value).toArray below meth c H locs 0 0 (MQ below (va_Qi (fun (z : Int32) (_ : Unit) => z = r0) (fun _ t => gPost dC dI LH ad km T9 A t) A) ([.ref (ad 8), .int p1, .int p2, .int p3, .int p4] : List Value).toArray s 0 0 A) (F0 m pc ls stk)) := ⟨_, rfl⟩
  have lb_104 : ∀ (T : gSt) (x2 : Int32) (x3 : Int32) (x4 : Int32) (x5 : Int32) (x6 : Int32), rj_Exprs_checkOperator_104 F nf T x2 x3 x4 x5 x6 = some (r0, rl0, T9) → G 104 [(0, .ref (ad 8)), (2, .int x2), (3, .int x3), (4, .int x4), (5, .int x5), (6, .int x6)] [] T := by
    intro T x2 x3 x4 x5 x6 hR; unfold rj_Exprs_checkOperator_104 at hR; rw [hG]; intro H locs hP hD hS ls hl
    refine lv_iload_n hx hb d_Exprs_checkOperator_104 rfl (lv_at hl 2 rfl) ?_
    refine lv_iconst (v := 1) hx hb d_Exprs_checkOperator_105 (by decide) ?_
    refine lv_icmp_eq (tgt := 122) hx hb d_Exprs_checkOperator_106 (by decide) (fun c20 => ?_) (fun c20 => ?_)
    · replace hR := if_p c20 hR
      refine lv_iload hx hb d_Exprs_checkOperator_122 (lv_at hl 3 rfl) ?_
      refine lv_iconst (v := 1) hx hb d_Exprs_checkOperator_124 (by decide) ?_
      refine lv_icmp_eq (tgt := 144) hx hb d_Exprs_checkOperator_125 (by decide) (fun c21 => ?_) (fun c21 => ?_)
      · replace hR := if_p c21 hR
        refine lv_aload_n hx hb d_Exprs_checkOperator_144 rfl (lv_at hl 0 rfl) ?_
        refine rd_Exprs_35 hx hb hT hown hK hP d_Exprs_checkOperator_145 ?_
        refine lv_iload hx hb d_Exprs_checkOperator_148 (lv_at hl 4 rfl) ?_
        replace hR := bi_e hR
        obtain ⟨r22, l22, T22, hc22, hR⟩ := hR
        refine gcS_i (rest := [.ref (ad 3)]) ⟨hx, hb, hml, hown, hT⟩ (h_Exprs_instructionOf _ _ _ _ _ hc22) (va_cwS 1 hT (gS ml_Exprs_105 st_Exprs_instructionOf ini_Exprs co_Exprs_instructionOf) rfl rfl rfl pd_Exprs_instructionOf ⟨rm_hi, rm_lo (Nat.le_of_ble_eq_true rfl)⟩) hK hP hD hS hA hnw henv rfl hl.1 rfl (Nat.le_of_ble_eq_true rfl) d_Exprs_checkOperator_150 ⟨Nat.le_refl _, Nat.le_refl _⟩ (fun H locs hP hD hS => ?_)
        clear hc22
        refine lv_iconst (v := 0) hx hb d_Exprs_checkOperator_153 (by decide) ?_
        refine lv_iconst (v := 0) hx hb d_Exprs_checkOperator_154 (by decide) ?_
        replace hR := bi_e hR
        obtain ⟨r23, l23, T23, hc23, hR⟩ := hR
        refine gcV_i (rest := []) ⟨hx, hb, hml, hown, hT⟩ (h_Code_emit _ _ _ _ _ _ _ hc23) (cwV 3 hT (gV ml_Exprs_94 im_Code_emit se_Code_emit ini_Code co_Code_emit) rfl rfl rfl pd_Code_emit ⟨rm_hi, rm_lo (Nat.le_of_ble_eq_true rfl)⟩) hK hP hD hS hA hnw henv (Nat.le_of_ble_eq_true rfl) rfl rfl hl.1 rfl (Nat.le_of_ble_eq_true rfl) d_Exprs_checkOperator_155 ⟨Nat.le_refl _, Nat.le_refl _⟩ (fun H locs hP hD hS => ?_)
        clear hc23
        refine lv_pop hx hb d_Exprs_checkOperator_158 rfl ?_
        refine lv_iconst (v := 1) hx hb d_Exprs_checkOperator_159 (by decide) ?_
        obtain ⟨e1, -, e3⟩ := re_e hR
        subst e1; subst e3
        exact W.iret (v := (1 : Int32)) hx hb hr (fun t ht hW => ⟨⟨(1 : Int32), (), rfl, rfl, by rw [ht]; exact hP, va_K.moved hW.alike hK, hD⟩, hS.F ht⟩) hS.2.2 d_Exprs_checkOperator_160
      · replace hR := if_n c21 hR
        refine lv_aload_n hx hb d_Exprs_checkOperator_128 rfl (lv_at hl 0 rfl) ?_
        refine rd_Exprs_35 hx hb hT hown hK hP d_Exprs_checkOperator_129 ?_
        refine lv_iconst (v := 4) hx hb d_Exprs_checkOperator_132 (by decide) ?_
        refine lv_aload_n hx hb d_Exprs_checkOperator_133 rfl (lv_at hl 0 rfl) ?_
        refine rd_Exprs_9 hx hb hT hown hK hP d_Exprs_checkOperator_134 ?_
        refine lv_iload_n hx hb d_Exprs_checkOperator_137 rfl (lv_at hl 1 rfl) ?_
        replace hR := bi_e hR
        obtain ⟨r25, l25, T25, hc25, hR⟩ := hR
        refine gcV_i (rest := [.int (4 : Int32), .ref (ad 3)]) ⟨hx, hb, hml, hown, hT⟩ (h_Source_beginOf _ _ _ _ _ hc25) (cwV 1 hT (gV ml_Exprs_64 im_Source_beginOf se_Source_beginOf ini_Source co_Source_beginOf) rfl rfl rfl pd_Source_beginOf ⟨rm_hi, rm_lo (Nat.le_of_ble_eq_true rfl)⟩) hK hP hD hS hA hnw henv (Nat.le_of_ble_eq_true rfl) rfl rfl hl.1 rfl (Nat.le_of_ble_eq_true rfl) d_Exprs_checkOperator_138 ⟨Nat.le_refl _, Nat.le_refl _⟩ (fun H locs hP hD hS => ?_)
        clear hc25
        replace hR := bi_e hR
        obtain ⟨r26, l26, T26, hc26, hR⟩ := hR
        refine gcV_v (rest := []) ⟨hx, hb, hml, hown, hT⟩ (h_Code_note _ _ _ _ _ _ hc26) (cwV 2 hT (gV ml_Exprs_68 im_Code_note se_Code_note ini_Code co_Code_note) rfl rfl rfl pd_Code_note ⟨rm_hi, rm_lo (Nat.le_of_ble_eq_true rfl)⟩) hK hP hD hS hA hnw henv (Nat.le_of_ble_eq_true rfl) rfl rfl hl.1 rfl (Nat.le_of_ble_eq_true rfl) d_Exprs_checkOperator_141 ⟨Nat.le_refl _, Nat.le_refl _⟩ (fun H locs hP hD hS => ?_)
        clear hc26
        refine lv_aload_n hx hb d_Exprs_checkOperator_144 rfl (lv_at hl 0 rfl) ?_
        refine rd_Exprs_35 hx hb hT hown hK hP d_Exprs_checkOperator_145 ?_
        refine lv_iload hx hb d_Exprs_checkOperator_148 (lv_at hl 4 rfl) ?_
        replace hR := bi_e hR
        obtain ⟨r27, l27, T27, hc27, hR⟩ := hR
        refine gcS_i (rest := [.ref (ad 3)]) ⟨hx, hb, hml, hown, hT⟩ (h_Exprs_instructionOf _ _ _ _ _ hc27) (va_cwS 1 hT (gS ml_Exprs_105 st_Exprs_instructionOf ini_Exprs co_Exprs_instructionOf) rfl rfl rfl pd_Exprs_instructionOf ⟨rm_hi, rm_lo (Nat.le_of_ble_eq_true rfl)⟩) hK hP hD hS hA hnw henv rfl hl.1 rfl (Nat.le_of_ble_eq_true rfl) d_Exprs_checkOperator_150 ⟨Nat.le_refl _, Nat.le_refl _⟩ (fun H locs hP hD hS => ?_)
        clear hc27
        refine lv_iconst (v := 0) hx hb d_Exprs_checkOperator_153 (by decide) ?_
        refine lv_iconst (v := 0) hx hb d_Exprs_checkOperator_154 (by decide) ?_
        replace hR := bi_e hR
        obtain ⟨r28, l28, T28, hc28, hR⟩ := hR
        refine gcV_i (rest := []) ⟨hx, hb, hml, hown, hT⟩ (h_Code_emit _ _ _ _ _ _ _ hc28) (cwV 3 hT (gV ml_Exprs_94 im_Code_emit se_Code_emit ini_Code co_Code_emit) rfl rfl rfl pd_Code_emit ⟨rm_hi, rm_lo (Nat.le_of_ble_eq_true rfl)⟩) hK hP hD hS hA hnw henv (Nat.le_of_ble_eq_true rfl) rfl rfl hl.1 rfl (Nat.le_of_ble_eq_true rfl) d_Exprs_checkOperator_155 ⟨Nat.le_refl _, Nat.le_refl _⟩ (fun H locs hP hD hS => ?_)
        clear hc28
        refine lv_pop hx hb d_Exprs_checkOperator_158 rfl ?_
        refine lv_iconst (v := 1) hx hb d_Exprs_checkOperator_159 (by decide) ?_
        obtain ⟨e1, -, e3⟩ := re_e hR
        subst e1; subst e3
        exact W.iret (v := (1 : Int32)) hx hb hr (fun t ht hW => ⟨⟨(1 : Int32), (), rfl, rfl, by rw [ht]; exact hP, va_K.moved hW.alike hK, hD⟩, hS.F ht⟩) hS.2.2 d_Exprs_checkOperator_160
    · replace hR := if_n c20 hR
      refine lv_aload_n hx hb d_Exprs_checkOperator_109 rfl (lv_at hl 0 rfl) ?_
      refine rd_Exprs_35 hx hb hT hown hK hP d_Exprs_checkOperator_110 ?_
      refine lv_iconst (v := 4) hx hb d_Exprs_checkOperator_113 (by decide) ?_
      refine lv_iload hx hb d_Exprs_checkOperator_114 (lv_at hl 5 rfl) ?_
      replace hR := bi_e hR
      obtain ⟨r30, l30, T30, hc30, hR⟩ := hR
      refine gcV_v (rest := []) ⟨hx, hb, hml, hown, hT⟩ (h_Code_note _ _ _ _ _ _ hc30) (cwV 2 hT (gV ml_Exprs_68 im_Code_note se_Code_note ini_Code co_Code_note) rfl rfl rfl pd_Code_note ⟨rm_hi, rm_lo (Nat.le_of_ble_eq_true rfl)⟩) hK hP hD hS hA hnw henv (Nat.le_of_ble_eq_true rfl) rfl rfl hl.1 rfl (Nat.le_of_ble_eq_true rfl) d_Exprs_checkOperator_116 ⟨Nat.le_refl _, Nat.le_refl _⟩ (fun H locs hP hD hS => ?_)
      clear hc30
      refine lv_goto (tgt := 144) hx hb d_Exprs_checkOperator_119 (by decide) ?_
      refine lv_aload_n hx hb d_Exprs_checkOperator_144 rfl (lv_at hl 0 rfl) ?_
      refine rd_Exprs_35 hx hb hT hown hK hP d_Exprs_checkOperator_145 ?_
      refine lv_iload hx hb d_Exprs_checkOperator_148 (lv_at hl 4 rfl) ?_
      replace hR := bi_e hR
      obtain ⟨r31, l31, T31, hc31, hR⟩ := hR
      refine gcS_i (rest := [.ref (ad 3)]) ⟨hx, hb, hml, hown, hT⟩ (h_Exprs_instructionOf _ _ _ _ _ hc31) (va_cwS 1 hT (gS ml_Exprs_105 st_Exprs_instructionOf ini_Exprs co_Exprs_instructionOf) rfl rfl rfl pd_Exprs_instructionOf ⟨rm_hi, rm_lo (Nat.le_of_ble_eq_true rfl)⟩) hK hP hD hS hA hnw henv rfl hl.1 rfl (Nat.le_of_ble_eq_true rfl) d_Exprs_checkOperator_150 ⟨Nat.le_refl _, Nat.le_refl _⟩ (fun H locs hP hD hS => ?_)
      clear hc31
      refine lv_iconst (v := 0) hx hb d_Exprs_checkOperator_153 (by decide) ?_
      refine lv_iconst (v := 0) hx hb d_Exprs_checkOperator_154 (by decide) ?_
      replace hR := bi_e hR
      obtain ⟨r32, l32, T32, hc32, hR⟩ := hR
      refine gcV_i (rest := []) ⟨hx, hb, hml, hown, hT⟩ (h_Code_emit _ _ _ _ _ _ _ hc32) (cwV 3 hT (gV ml_Exprs_94 im_Code_emit se_Code_emit ini_Code co_Code_emit) rfl rfl rfl pd_Code_emit ⟨rm_hi, rm_lo (Nat.le_of_ble_eq_true rfl)⟩) hK hP hD hS hA hnw henv (Nat.le_of_ble_eq_true rfl) rfl rfl hl.1 rfl (Nat.le_of_ble_eq_true rfl) d_Exprs_checkOperator_155 ⟨Nat.le_refl _, Nat.le_refl _⟩ (fun H locs hP hD hS => ?_)
      clear hc32
      refine lv_pop hx hb d_Exprs_checkOperator_158 rfl ?_
      refine lv_iconst (v := 1) hx hb d_Exprs_checkOperator_159 (by decide) ?_
      obtain ⟨e1, -, e3⟩ := re_e hR
      subst e1; subst e3
      exact W.iret (v := (1 : Int32)) hx hb hr (fun t ht hW => ⟨⟨(1 : Int32), (), rfl, rfl, by rw [ht]; exact hP, va_K.moved hW.alike hK, hD⟩, hS.F ht⟩) hS.2.2 d_Exprs_checkOperator_160
  have lb_60 : ∀ (T : gSt) (x2 : Int32) (x3 : Int32) (x4 : Int32) (x5 : Int32) (x6 : Int32), rj_Exprs_checkOperator_60 F nf T x2 x3 x4 x5 x6 = some (r0, rl0, T9) → G 60 [(0, .ref (ad 8)), (2, .int x2), (3, .int x3), (4, .int x4), (5, .int x5), (6, .int x6)] [] T := by
    intro T x2 x3 x4 x5 x6 hR; unfold rj_Exprs_checkOperator_60 at hR; rw [hG]; intro H locs hP hD hS ls hl
    refine lv_iload hx hb d_Exprs_checkOperator_60 (lv_at hl 4 rfl) ?_
    refine lv_bipush (v := 62) hx hb d_Exprs_checkOperator_62 (by decide) ?_
    refine lv_icmp_ne (tgt := 104) hx hb d_Exprs_checkOperator_64 (by decide) (fun c10 => ?_) (fun c10 => ?_)
    · replace hR := if_n c10 hR
      have g := lb_104 T x2 x3 x4 x5 x6 hR
      rw [hG] at g
      exact g _ _ hP hD hS _ (lv_sub hl [0, 1, 2, 3, 4, 5] rfl)
    · replace hR := if_p c10 hR
      refine lv_aload_n hx hb d_Exprs_checkOperator_67 rfl (lv_at hl 0 rfl) ?_
      refine lv_iload_n hx hb d_Exprs_checkOperator_68 rfl (lv_at hl 2 rfl) ?_
      replace hR := bi_e hR
      obtain ⟨r11, l11, T11, hc11, hR⟩ := hR
      refine gcV_i (rest := []) ⟨hx, hb, hml, hown, hT⟩ (h_Exprs_mayCompare _ _ _ _ _ hc11) (cwV 1 hT (gV ml_Exprs_97 im_Exprs_mayCompare se_Exprs_mayCompare ini_Exprs co_Exprs_mayCompare) rfl rfl rfl pd_Exprs_mayCompare ⟨rm_hi, rm_lo (Nat.le_of_ble_eq_true rfl)⟩) hK hP hD hS hA hnw henv (Nat.le_of_ble_eq_true rfl) rfl rfl hl.1 rfl (Nat.le_of_ble_eq_true rfl) d_Exprs_checkOperator_69 ⟨Nat.le_refl _, Nat.le_refl _⟩ (fun H locs hP hD hS => ?_)
      clear hc11
      refine lv_if_eq (tgt := 104) hx hb d_Exprs_checkOperator_72 (by decide) (fun c12 => ?_) (fun c12 => ?_)
      · replace hR := if_p c12 hR
        have g := lb_104 T11 x2 x3 x4 x5 x6 hR
        rw [hG] at g
        exact g _ _ hP hD hS _ (lv_sub hl [0, 1, 2, 3, 4, 5] rfl)
      · replace hR := if_n c12 hR
        refine lv_aload_n hx hb d_Exprs_checkOperator_75 rfl (lv_at hl 0 rfl) ?_
        refine lv_iload hx hb d_Exprs_checkOperator_76 (lv_at hl 3 rfl) ?_
        replace hR := bi_e hR
        obtain ⟨r13, l13, T13, hc13, hR⟩ := hR
        refine gcV_i (rest := []) ⟨hx, hb, hml, hown, hT⟩ (h_Exprs_mayCompare _ _ _ _ _ hc13) (cwV 1 hT (gV ml_Exprs_97 im_Exprs_mayCompare se_Exprs_mayCompare ini_Exprs co_Exprs_mayCompare) rfl rfl rfl pd_Exprs_mayCompare ⟨rm_hi, rm_lo (Nat.le_of_ble_eq_true rfl)⟩) hK hP hD hS hA hnw henv (Nat.le_of_ble_eq_true rfl) rfl rfl hl.1 rfl (Nat.le_of_ble_eq_true rfl) d_Exprs_checkOperator_78 ⟨Nat.le_refl _, Nat.le_refl _⟩ (fun H locs hP hD hS => ?_)
        clear hc13
        refine lv_if_eq (tgt := 104) hx hb d_Exprs_checkOperator_81 (by decide) (fun c14 => ?_) (fun c14 => ?_)
        · replace hR := if_p c14 hR
          have g := lb_104 T13 x2 x3 x4 x5 x6 hR
          rw [hG] at g
          exact g _ _ hP hD hS _ (lv_sub hl [0, 1, 2, 3, 4, 5] rfl)
        · replace hR := if_n c14 hR
          refine lv_aload_n hx hb d_Exprs_checkOperator_84 rfl (lv_at hl 0 rfl) ?_
          refine lv_iload_n hx hb d_Exprs_checkOperator_85 rfl (lv_at hl 2 rfl) ?_
          refine lv_iload hx hb d_Exprs_checkOperator_86 (lv_at hl 3 rfl) ?_
          refine lv_iload hx hb d_Exprs_checkOperator_88 (lv_at hl 5 rfl) ?_
          refine lv_aload_n hx hb d_Exprs_checkOperator_90 rfl (lv_at hl 0 rfl) ?_
          refine rd_Exprs_9 hx hb hT hown hK hP d_Exprs_checkOperator_91 ?_
          refine lv_iload_n hx hb d_Exprs_checkOperator_94 rfl (lv_at hl 1 rfl) ?_
          replace hR := bi_e hR
          obtain ⟨r15, l15, T15, hc15, hR⟩ := hR
          refine gcV_i (rest := [.int x6, .int x4, .int x3, .ref (ad 8)]) ⟨hx, hb, hml, hown, hT⟩ (h_Source_beginOf _ _ _ _ _ hc15) (cwV 1 hT (gV ml_Exprs_64 im_Source_beginOf se_Source_beginOf ini_Source co_Source_beginOf) rfl rfl rfl pd_Source_beginOf ⟨rm_hi, rm_lo (Nat.le_of_ble_eq_true rfl)⟩) hK hP hD hS hA hnw henv (Nat.le_of_ble_eq_true rfl) rfl rfl hl.1 rfl (Nat.le_of_ble_eq_true rfl) d_Exprs_checkOperator_95 ⟨Nat.le_refl _, Nat.le_refl _⟩ (fun H locs hP hD hS => ?_)
          clear hc15
          replace hR := bi_e hR
          obtain ⟨r16, l16, T16, hc16, hR⟩ := hR
          refine gcV_v (rest := []) ⟨hx, hb, hml, hown, hT⟩ (h_Exprs_checkComparison _ _ _ _ _ _ _ _ hc16) (cwV 4 hT (gV ml_Exprs_101 im_Exprs_checkComparison se_Exprs_checkComparison ini_Exprs co_Exprs_checkComparison) rfl rfl rfl pd_Exprs_checkComparison ⟨rm_hi, rm_lo (Nat.le_of_ble_eq_true rfl)⟩) hK hP hD hS hA hnw henv (Nat.le_of_ble_eq_true rfl) rfl rfl hl.1 rfl (Nat.le_of_ble_eq_true rfl) d_Exprs_checkOperator_98 ⟨Nat.le_refl _, Nat.le_refl _⟩ (fun H locs hP hD hS => ?_)
          clear hc16
          refine lv_goto (tgt := 144) hx hb d_Exprs_checkOperator_101 (by decide) ?_
          refine lv_aload_n hx hb d_Exprs_checkOperator_144 rfl (lv_at hl 0 rfl) ?_
          refine rd_Exprs_35 hx hb hT hown hK hP d_Exprs_checkOperator_145 ?_
          refine lv_iload hx hb d_Exprs_checkOperator_148 (lv_at hl 4 rfl) ?_
          replace hR := bi_e hR
          obtain ⟨r17, l17, T17, hc17, hR⟩ := hR
          refine gcS_i (rest := [.ref (ad 3)]) ⟨hx, hb, hml, hown, hT⟩ (h_Exprs_instructionOf _ _ _ _ _ hc17) (va_cwS 1 hT (gS ml_Exprs_105 st_Exprs_instructionOf ini_Exprs co_Exprs_instructionOf) rfl rfl rfl pd_Exprs_instructionOf ⟨rm_hi, rm_lo (Nat.le_of_ble_eq_true rfl)⟩) hK hP hD hS hA hnw henv rfl hl.1 rfl (Nat.le_of_ble_eq_true rfl) d_Exprs_checkOperator_150 ⟨Nat.le_refl _, Nat.le_refl _⟩ (fun H locs hP hD hS => ?_)
          clear hc17
          refine lv_iconst (v := 0) hx hb d_Exprs_checkOperator_153 (by decide) ?_
          refine lv_iconst (v := 0) hx hb d_Exprs_checkOperator_154 (by decide) ?_
          replace hR := bi_e hR
          obtain ⟨r18, l18, T18, hc18, hR⟩ := hR
          refine gcV_i (rest := []) ⟨hx, hb, hml, hown, hT⟩ (h_Code_emit _ _ _ _ _ _ _ hc18) (cwV 3 hT (gV ml_Exprs_94 im_Code_emit se_Code_emit ini_Code co_Code_emit) rfl rfl rfl pd_Code_emit ⟨rm_hi, rm_lo (Nat.le_of_ble_eq_true rfl)⟩) hK hP hD hS hA hnw henv (Nat.le_of_ble_eq_true rfl) rfl rfl hl.1 rfl (Nat.le_of_ble_eq_true rfl) d_Exprs_checkOperator_155 ⟨Nat.le_refl _, Nat.le_refl _⟩ (fun H locs hP hD hS => ?_)
          clear hc18
          refine lv_pop hx hb d_Exprs_checkOperator_158 rfl ?_
          refine lv_iconst (v := 1) hx hb d_Exprs_checkOperator_159 (by decide) ?_
          obtain ⟨e1, -, e3⟩ := re_e hR
          subst e1; subst e3
          exact W.iret (v := (1 : Int32)) hx hb hr (fun t ht hW => ⟨⟨(1 : Int32), (), rfl, rfl, by rw [ht]; exact hP, va_K.moved hW.alike hK, hD⟩, hS.F ht⟩) hS.2.2 d_Exprs_checkOperator_160
  unfold rb_Exprs_checkOperator at hR
  refine lv_aload_n hx hb d_Exprs_checkOperator_0 rfl (lv_at hl 0 rfl) ?_
  refine rd_Exprs_9 hx hb hT hown hK hP d_Exprs_checkOperator_1 ?_
  refine rd_Exprs_91 hx hb hT hown hK hP d_Exprs_checkOperator_4 ?_
  refine lv_iload_n hx hb d_Exprs_checkOperator_7 rfl (lv_at hl 2 rfl) ?_
  replace hR := gd_e hR
  obtain ⟨b1, hR⟩ := hR
  refine laH_5 hx hb hK hP b1 d_Exprs_checkOperator_8 ?_
  refine lv_topi (fun z2 e2 => ?_)
  replace hR := vK_e e2 hR
  refine lv_istore (lv' := [(5, .int z2), (0, .ref (ad 8)), (1, .int p1), (2, .int p2), (3, .int p3), (4, .int p4)]) hx hb d_Exprs_checkOperator_9 hl (by decide) rfl (fun ls hl => ?_)
  refine lv_aload_n hx hb d_Exprs_checkOperator_11 rfl (lv_at hl 1 rfl) ?_
  refine rd_Exprs_9 hx hb hT hown hK hP d_Exprs_checkOperator_12 ?_
  refine lv_iload_n hx hb d_Exprs_checkOperator_15 rfl (lv_at hl 2 rfl) ?_
  replace hR := bi_e hR
  obtain ⟨r3, l3, T3, hc3, hR⟩ := hR
  refine gcV_i (rest := []) ⟨hx, hb, hml, hown, hT⟩ (h_Source_beginOf _ _ _ _ _ hc3) (cwV 1 hT (gV ml_Exprs_64 im_Source_beginOf se_Source_beginOf ini_Source co_Source_beginOf) rfl rfl rfl pd_Source_beginOf ⟨rm_hi, rm_lo (Nat.le_of_ble_eq_true rfl)⟩) hK hP hD hS hA hnw henv (Nat.le_of_ble_eq_true rfl) rfl rfl hl.1 rfl (Nat.le_of_ble_eq_true rfl) d_Exprs_checkOperator_16 ⟨Nat.le_refl _, Nat.le_refl _⟩ (fun H locs hP hD hS => ?_)
  clear hc3
  refine lv_istore (lv' := [(6, .int r3), (5, .int z2), (0, .ref (ad 8)), (1, .int p1), (2, .int p2), (3, .int p3), (4, .int p4)]) hx hb d_Exprs_checkOperator_19 hl (by decide) rfl (fun ls hl => ?_)
  refine lv_iload hx hb d_Exprs_checkOperator_21 (lv_at hl 1 rfl) ?_
  refine lv_bipush (v := 53) hx hb d_Exprs_checkOperator_23 (by decide) ?_
  refine lv_icmp_ne (tgt := 60) hx hb d_Exprs_checkOperator_25 (by decide) (fun c4 => ?_) (fun c4 => ?_)
  · replace hR := if_n c4 hR
    have g := lb_60 T3 p2 p3 p4 z2 r3 hR
    rw [hG] at g
    exact g _ _ hP hD hS _ (lv_sub hl [2, 4, 5, 6, 1, 0] rfl)
  · replace hR := if_p c4 hR
    refine lv_aload_n hx hb d_Exprs_checkOperator_28 rfl (lv_at hl 2 rfl) ?_
    refine rd_Exprs_29 hx hb hT hown hK hP d_Exprs_checkOperator_29 ?_
    refine lv_iload_n hx hb d_Exprs_checkOperator_32 rfl (lv_at hl 5 rfl) ?_
    replace hR := bi_e hR
    obtain ⟨r5, l5, T5, hc5, hR⟩ := hR
    refine gcV_i (rest := []) ⟨hx, hb, hml, hown, hT⟩ (h_Types_kindOf _ _ _ _ _ hc5) (cwV 1 hT (gV ml_Exprs_74 im_Types_kindOf se_Types_kindOf ini_Types co_Types_kindOf) rfl rfl rfl pd_Types_kindOf ⟨rm_hi, rm_lo (Nat.le_of_ble_eq_true rfl)⟩) hK hP hD hS hA hnw henv (Nat.le_of_ble_eq_true rfl) rfl rfl hl.1 rfl (Nat.le_of_ble_eq_true rfl) d_Exprs_checkOperator_33 ⟨Nat.le_refl _, Nat.le_refl _⟩ (fun H locs hP hD hS => ?_)
    clear hc5
    refine lv_iconst (v := 5) hx hb d_Exprs_checkOperator_36 (by decide) ?_
    refine lv_icmp_ne (tgt := 60) hx hb d_Exprs_checkOperator_37 (by decide) (fun c6 => ?_) (fun c6 => ?_)
    · replace hR := if_n c6 hR
      have g := lb_60 T5 p2 p3 p4 z2 r3 hR
      rw [hG] at g
      exact g _ _ hP hD hS _ (lv_sub hl [2, 4, 5, 6, 1, 0] rfl)
    · replace hR := if_p c6 hR
      refine lv_iload hx hb d_Exprs_checkOperator_40 (lv_at hl 6 rfl) ?_
      refine lv_iconst (v := 1) hx hb d_Exprs_checkOperator_42 (by decide) ?_
      refine lv_icmp_ne (tgt := 60) hx hb d_Exprs_checkOperator_43 (by decide) (fun c7 => ?_) (fun c7 => ?_)
      · replace hR := if_n c7 hR
        have g := lb_60 T5 p2 p3 p4 z2 r3 hR
        rw [hG] at g
        exact g _ _ hP hD hS _ (lv_sub hl [2, 4, 5, 6, 1, 0] rfl)
      · replace hR := if_p c7 hR
        refine lv_aload_n hx hb d_Exprs_checkOperator_46 rfl (lv_at hl 2 rfl) ?_
        refine rd_Exprs_35 hx hb hT hown hK hP d_Exprs_checkOperator_47 ?_
        refine lv_bipush (v := 9) hx hb d_Exprs_checkOperator_50 (by decide) ?_
        refine lv_iconst (v := 0) hx hb d_Exprs_checkOperator_52 (by decide) ?_
        refine lv_iconst (v := 0) hx hb d_Exprs_checkOperator_53 (by decide) ?_
        replace hR := bi_e hR
        obtain ⟨r8, l8, T8, hc8, hR⟩ := hR
        refine gcV_i (rest := []) ⟨hx, hb, hml, hown, hT⟩ (h_Code_emit _ _ _ _ _ _ _ hc8) (cwV 3 hT (gV ml_Exprs_94 im_Code_emit se_Code_emit ini_Code co_Code_emit) rfl rfl rfl pd_Code_emit ⟨rm_hi, rm_lo (Nat.le_of_ble_eq_true rfl)⟩) hK hP hD hS hA hnw henv (Nat.le_of_ble_eq_true rfl) rfl rfl hl.1 rfl (Nat.le_of_ble_eq_true rfl) d_Exprs_checkOperator_54 ⟨Nat.le_refl _, Nat.le_refl _⟩ (fun H locs hP hD hS => ?_)
        clear hc8
        refine lv_pop hx hb d_Exprs_checkOperator_57 rfl ?_
        refine lv_iload_n hx hb d_Exprs_checkOperator_58 rfl (lv_at hl 5 rfl) ?_
        obtain ⟨e1, -, e3⟩ := re_e hR
        subst e1; subst e3
        exact W.iret (v := p3) hx hb hr (fun t ht hW => ⟨⟨p3, (), rfl, rfl, by rw [ht]; exact hP, va_K.moved hW.alike hK, hD⟩, hS.F ht⟩) hS.2.2 d_Exprs_checkOperator_59
set_option maxHeartbeats 4000000 in
set_option maxRecDepth 100000 in
theorem sp_Exprs_mayCompare (l : Launch) (dC : Nat → ClassId) (dI : Nat → Nat → Nat) (ea ev ad : Nat → Nat) (km : Nat → ClassId) (F : gF) (nf d : Nat) (h_Types_isPointed : mt_Types_isPointed l dC dI ea ev ad km F d) (T0 : gSt) (p1 : Int32) (r0 : Int32) (rl0 : Int64) (T9 : gSt) (hR : rb_Exprs_mayCompare F nf T0 p1 = some (r0, rl0, T9)) : GMi l dC dI LH ad km ea ev y_Exprs_mayCompare w_Exprs_mayCompare (rmD (d + 1)) [.ref (ad 8), .int p1] T0 r0 T9 := by
  intro sz
  refine Met.ofW (cc := b_Exprs_mayCompare) (maxL := 2) (ret := (some .boolean)) (by decide) rfl ?_
  intro p e s m args below meth c s₁ B hml hv
  obtain ⟨rfl, hsz, hP, hK, hD0, hnw, henv⟩ := hv
  have hx := B.exec
  have hb := B.bytes
  have hr := B.returns
  have hT : ∀ w ∈ lw_good, w.before _ s = true := fun w h => atoms_spec (ws := w_Exprs_mayCompare) B.pre w (List.mem_cons_of_mem _ h)
  have hown : s.vm.findClass R_Exprs = some m.cls := findClass_of_methodNamed B.named
  subst hsz
  have hD := hD0.self (sz := s.heap.size)
  clear hD0
  generalize hAe : va_A (gW LH ad km T0) s.heap.size = A at hD henv ⊢
  have hA : ∀ q : Nat, s.heap.size ≤ q → A q := fun q h => by rw [← hAe]; exact Or.inr h
  have hS : va_S A s.heap s.heap [] := va_S.rf
  have hl := lv_entry ([.ref (ad 8), .int p1]) (n := 2) (Nat.le_of_ble_eq_true rfl)
  rw [lg_entry_eq]
  generalize (lg_sl ([.ref (ad 8), .int p1]) ++ List.replicate (2 - (lg_sl ([.ref (ad 8), .int p1])).length) Slot.unset).toArray = ls at hl ⊢
  have hl : lv_has ls 2 [(0, .ref (ad 8)), (1, .int p1)] := hl
  unfold rb_Exprs_mayCompare at hR
  refine lv_iload_n hx hb d_Exprs_mayCompare_0 rfl (lv_at hl 1 rfl) ?_
  refine lv_iconst (v := 2) hx hb d_Exprs_mayCompare_1 (by decide) ?_
  refine lv_icmp_eq (tgt := 16) hx hb d_Exprs_mayCompare_2 (by decide) (fun c1 => ?_) (fun c1 => ?_)
  · replace hR := if_p c1 hR
    refine lv_iconst (v := 1) hx hb d_Exprs_mayCompare_16 (by decide) ?_
    refine lv_goto (tgt := 21) hx hb d_Exprs_mayCompare_17 (by decide) ?_
    obtain ⟨e1, -, e3⟩ := re_e hR
    subst e1; subst e3
    exact W.zret (v := (1 : Int32)) hx hb hr (by first | rfl | decide) (fun t ht hW => ⟨⟨(1 : Int32), (), rfl, rfl, by rw [ht]; exact hP, va_K.moved hW.alike hK, hD⟩, hS.F ht⟩) hS.2.2 d_Exprs_mayCompare_21
  · replace hR := if_n c1 hR
    refine lv_aload_n hx hb d_Exprs_mayCompare_5 rfl (lv_at hl 0 rfl) ?_
    refine rd_Exprs_29 hx hb hT hown hK hP d_Exprs_mayCompare_6 ?_
    refine lv_iload_n hx hb d_Exprs_mayCompare_9 rfl (lv_at hl 1 rfl) ?_
    replace hR := bi_e hR
    obtain ⟨r3, l3, T3, hc3, hR⟩ := hR
    refine gcV_i (rest := []) ⟨hx, hb, hml, hown, hT⟩ (h_Types_isPointed _ _ _ _ _ hc3) (cwV 1 hT (gV ml_Exprs_108 im_Types_isPointed se_Types_isPointed ini_Types co_Types_isPointed) rfl rfl rfl pd_Types_isPointed ⟨rm_hi, rm_lo (Nat.le_of_ble_eq_true rfl)⟩) hK hP hD hS hA hnw henv (Nat.le_of_ble_eq_true rfl) rfl rfl hl.1 rfl (Nat.le_of_ble_eq_true rfl) d_Exprs_mayCompare_10 ⟨Nat.le_refl _, Nat.le_refl _⟩ (fun H locs hP hD hS => ?_)
    clear hc3
    refine lv_if_eq (tgt := 20) hx hb d_Exprs_mayCompare_13 (by decide) (fun c4 => ?_) (fun c4 => ?_)
    · replace hR := if_p c4 hR
      refine lv_iconst (v := 0) hx hb d_Exprs_mayCompare_20 (by decide) ?_
      obtain ⟨e1, -, e3⟩ := re_e hR
      subst e1; subst e3
      exact W.zret (v := (0 : Int32)) hx hb hr (by first | rfl | decide) (fun t ht hW => ⟨⟨(0 : Int32), (), rfl, rfl, by rw [ht]; exact hP, va_K.moved hW.alike hK, hD⟩, hS.F ht⟩) hS.2.2 d_Exprs_mayCompare_21
    · replace hR := if_n c4 hR
      refine lv_iconst (v := 1) hx hb d_Exprs_mayCompare_16 (by decide) ?_
      refine lv_goto (tgt := 21) hx hb d_Exprs_mayCompare_17 (by decide) ?_
      obtain ⟨e1, -, e3⟩ := re_e hR
      subst e1; subst e3
      exact W.zret (v := (1 : Int32)) hx hb hr (by first | rfl | decide) (fun t ht hW => ⟨⟨(1 : Int32), (), rfl, rfl, by rw [ht]; exact hP, va_K.moved hW.alike hK, hD⟩, hS.F ht⟩) hS.2.2 d_Exprs_mayCompare_21
set_option maxHeartbeats 4000000 in
set_option maxRecDepth 100000 in
theorem sp_Exprs_checkComparison (l : Launch) (dC : Nat → ClassId) (dI : Nat → Nat → Nat) (ea ev ad : Nat → Nat) (km : Nat → ClassId) (F : gF) (nf d : Nat) (h_Types_regionOf : mt_Types_regionOf l dC dI ea ev ad km F d) (h_Types_behind : mt_Types_behind l dC dI ea ev ad km F d) (h_Scope_outlives : mt_Scope_outlives l dC dI ea ev ad km F d) (h_Exprs_demand : mt_Exprs_demand l dC dI ea ev ad km F d) (h_Scope_isLive : mt_Scope_isLive l dC dI ea ev ad km F d) (T0 : gSt) (p1 : Int32) (p2 : Int32) (p3 : Int32) (p4 : Int32) (r0 : Int32) (rl0 : Int64) (T9 : gSt) (hR : rb_Exprs_checkComparison F nf T0 p1 p2 p3 p4 = some (r0, rl0, T9)) : GMv l dC dI LH ad km ea ev y_Exprs_checkComparison w_Exprs_checkComparison (rmD (d + 1)) [.ref (ad 8), .int p1, .int p2, .int p3, .int p4] T0 T9 := by
  intro sz
  refine Met.ofW (cc := b_Exprs_checkComparison) (maxL := 8) (ret := none) (by decide) rfl ?_
  intro p e s m args below meth c s₁ B hml hv
  obtain ⟨rfl, hsz, hP, hK, hD0, hnw, henv⟩ := hv
  have hx := B.exec
  have hb := B.bytes
  have hr := B.returns
  have hT : ∀ w ∈ lw_good, w.before _ s = true := fun w h => atoms_spec (ws := w_Exprs_checkComparison) B.pre w (List.mem_cons_of_mem _ h)
  have hown : s.vm.findClass R_Exprs = some m.cls := findClass_of_methodNamed B.named
  subst hsz
  have hD := hD0.self (sz := s.heap.size)
  clear hD0
  generalize hAe : va_A (gW LH ad km T0) s.heap.size = A at hD henv ⊢
  have hA : ∀ q : Nat, s.heap.size ≤ q → A q := fun q h => by rw [← hAe]; exact Or.inr h
  have hS : va_S A s.heap s.heap [] := va_S.rf
  have hl := lv_entry ([.ref (ad 8), .int p1, .int p2, .int p3, .int p4]) (n := 8) (Nat.le_of_ble_eq_true rfl)
  rw [lg_entry_eq]
  generalize (lg_sl ([.ref (ad 8), .int p1, .int p2, .int p3, .int p4]) ++ List.replicate (8 - (lg_sl ([.ref (ad 8), .int p1, .int p2, .int p3, .int p4])).length) Slot.unset).toArray = ls at hl ⊢
  have hl : lv_has ls 8 [(0, .ref (ad 8)), (1, .int p1), (2, .int p2), (3, .int p3), (4, .int p4)] := hl
  obtain ⟨G, hG⟩ : ∃ G : Nat → List (Nat × Value) → List Value → gSt → Prop, G = (fun pc lv stk T => ∀ (H : Heap) (locs : List Loc), va_P (dC, dI) cls_all (gW LH ad km T) H → va_D A (gW LH ad km T) → va_S A s.heap H locs → ∀ (ls : Array Slot), lv_has ls 8 lv → W p l e (headSpec w_Exprs_checkComparison (rmD (d + 1))).room s m ([.ref (ad 8), .int p1, .int p2, .int p3, .int p4] : List Value).toArray below meth c H locs 0 0 (MQ below (va_Qv (fun (_ : Unit) => True) (fun _ t => gPost dC dI LH ad km T9 A t) A) ([.ref (ad 8), .int p1, .int p2, .int p3, .int p4] : List Value).toArray s 0 0 A) (F0 m pc ls stk)) := ⟨_, rfl⟩
  have lb_83 : ∀ (T : gSt) (x3 : Int32) (x4 : Int32) (x5 : Int32) (x6 : Int32) (y0 : Int32), rj_Exprs_checkComparison_83 F nf T x3 x4 x5 x6 y0 = some (r0, rl0, T9) → G 83 [(0, .ref (ad 8)), (3, .int x3), (4, .int x4), (5, .int x5), (6, .int x6)] [.int y0] T := by
    intro T x3 x4 x5 x6 y0 hR; unfold rj_Exprs_checkComparison_83 at hR; rw [hG]; intro H locs hP hD hS ls hl
    refine lv_istore (lv' := [(7, .int y0), (0, .ref (ad 8)), (3, .int x3), (4, .int x4), (5, .int x5), (6, .int x6)]) hx hb d_Exprs_checkComparison_83 hl (by decide) rfl (fun ls hl => ?_)
    refine lv_aload_n hx hb d_Exprs_checkComparison_85 rfl (lv_at hl 1 rfl) ?_
    refine lv_iload hx hb d_Exprs_checkComparison_86 (lv_at hl 0 rfl) ?_
    refine lv_iconst (v := 4) hx hb d_Exprs_checkComparison_88 (by decide) ?_
    refine lv_iload hx hb d_Exprs_checkComparison_89 (lv_at hl 3 rfl) ?_
    replace hR := bi_e hR
    obtain ⟨r12, l12, T12, hc12, hR⟩ := hR
    refine gcV_v (rest := []) ⟨hx, hb, hml, hown, hT⟩ (h_Exprs_demand _ _ _ _ _ _ _ hc12) (cwV 3 hT (gV ml_Exprs_111 im_Exprs_demand se_Exprs_demand ini_Exprs co_Exprs_demand) rfl rfl rfl pd_Exprs_demand ⟨rm_hi, rm_lo (Nat.le_of_ble_eq_true rfl)⟩) hK hP hD hS hA hnw henv (Nat.le_of_ble_eq_true rfl) rfl rfl hl.1 rfl (Nat.le_of_ble_eq_true rfl) d_Exprs_checkComparison_91 ⟨Nat.le_refl _, Nat.le_refl _⟩ (fun H locs hP hD hS => ?_)
    clear hc12
    refine lv_aload_n hx hb d_Exprs_checkComparison_94 rfl (lv_at hl 1 rfl) ?_
    refine lv_aload_n hx hb d_Exprs_checkComparison_95 rfl (lv_at hl 1 rfl) ?_
    refine rd_Exprs_34 hx hb hT hown hK hP d_Exprs_checkComparison_96 ?_
    refine lv_iload hx hb d_Exprs_checkComparison_99 (lv_at hl 4 rfl) ?_
    replace hR := bi_e hR
    obtain ⟨r13, l13, T13, hc13, hR⟩ := hR
    refine gcV_i (rest := [.ref (ad 8)]) ⟨hx, hb, hml, hown, hT⟩ (h_Scope_isLive _ _ _ _ _ hc13) (cwV 1 hT (gV ml_Exprs_115 im_Scope_isLive se_Scope_isLive ini_Scope co_Scope_isLive) rfl rfl rfl pd_Scope_isLive ⟨rm_hi, rm_lo (Nat.le_of_ble_eq_true rfl)⟩) hK hP hD hS hA hnw henv (Nat.le_of_ble_eq_true rfl) rfl rfl hl.1 rfl (Nat.le_of_ble_eq_true rfl) d_Exprs_checkComparison_101 ⟨Nat.le_refl _, Nat.le_refl _⟩ (fun H locs hP hD hS => ?_)
    clear hc13
    refine lv_iconst (v := 5) hx hb d_Exprs_checkComparison_104 (by decide) ?_
    refine lv_iload_n hx hb d_Exprs_checkComparison_105 rfl (lv_at hl 2 rfl) ?_
    replace hR := bi_e hR
    obtain ⟨r14, l14, T14, hc14, hR⟩ := hR
    refine gcV_v (rest := []) ⟨hx, hb, hml, hown, hT⟩ (h_Exprs_demand _ _ _ _ _ _ _ hc14) (cwV 3 hT (gV ml_Exprs_111 im_Exprs_demand se_Exprs_demand ini_Exprs co_Exprs_demand) rfl rfl rfl pd_Exprs_demand ⟨rm_hi, rm_lo (Nat.le_of_ble_eq_true rfl)⟩) hK hP hD hS hA hnw henv (Nat.le_of_ble_eq_true rfl) rfl rfl hl.1 rfl (Nat.le_of_ble_eq_true rfl) d_Exprs_checkComparison_106 ⟨Nat.le_refl _, Nat.le_refl _⟩ (fun H locs hP hD hS => ?_)
    clear hc14
    refine lv_aload_n hx hb d_Exprs_checkComparison_109 rfl (lv_at hl 1 rfl) ?_
    refine lv_aload_n hx hb d_Exprs_checkComparison_110 rfl (lv_at hl 1 rfl) ?_
    refine rd_Exprs_34 hx hb hT hown hK hP d_Exprs_checkComparison_111 ?_
    refine lv_iload hx hb d_Exprs_checkComparison_114 (lv_at hl 5 rfl) ?_
    replace hR := bi_e hR
    obtain ⟨r15, l15, T15, hc15, hR⟩ := hR
    refine gcV_i (rest := [.ref (ad 8)]) ⟨hx, hb, hml, hown, hT⟩ (h_Scope_isLive _ _ _ _ _ hc15) (cwV 1 hT (gV ml_Exprs_115 im_Scope_isLive se_Scope_isLive ini_Scope co_Scope_isLive) rfl rfl rfl pd_Scope_isLive ⟨rm_hi, rm_lo (Nat.le_of_ble_eq_true rfl)⟩) hK hP hD hS hA hnw henv (Nat.le_of_ble_eq_true rfl) rfl rfl hl.1 rfl (Nat.le_of_ble_eq_true rfl) d_Exprs_checkComparison_116 ⟨Nat.le_refl _, Nat.le_refl _⟩ (fun H locs hP hD hS => ?_)
    clear hc15
    refine lv_iconst (v := 5) hx hb d_Exprs_checkComparison_119 (by decide) ?_
    refine lv_iload hx hb d_Exprs_checkComparison_120 (lv_at hl 3 rfl) ?_
    replace hR := bi_e hR
    obtain ⟨r16, l16, T16, hc16, hR⟩ := hR
    refine gcV_v (rest := []) ⟨hx, hb, hml, hown, hT⟩ (h_Exprs_demand _ _ _ _ _ _ _ hc16) (cwV 3 hT (gV ml_Exprs_111 im_Exprs_demand se_Exprs_demand ini_Exprs co_Exprs_demand) rfl rfl rfl pd_Exprs_demand ⟨rm_hi, rm_lo (Nat.le_of_ble_eq_true rfl)⟩) hK hP hD hS hA hnw henv (Nat.le_of_ble_eq_true rfl) rfl rfl hl.1 rfl (Nat.le_of_ble_eq_true rfl) d_Exprs_checkComparison_122 ⟨Nat.le_refl _, Nat.le_refl _⟩ (fun H locs hP hD hS => ?_)
    clear hc16
    obtain ⟨-, -, e3⟩ := re_e hR
    subst e3
    exact W.vret hx hb hr (fun t ht hW => ⟨⟨(), rfl, trivial, by rw [ht]; exact hP, va_K.moved hW.alike hK, hD⟩, hS.F ht⟩) hS.2.2 d_Exprs_checkComparison_125
  unfold rb_Exprs_checkComparison at hR
  refine lv_iload_n hx hb d_Exprs_checkComparison_0 rfl (lv_at hl 1 rfl) ?_
  refine lv_iconst (v := 2) hx hb d_Exprs_checkComparison_1 (by decide) ?_
  refine lv_icmp_eq (tgt := 10) hx hb d_Exprs_checkComparison_2 (by decide) (fun c1 => ?_) (fun c1 => ?_)
  · replace hR := if_p c1 hR
    obtain ⟨-, -, e3⟩ := re_e hR
    subst e3
    exact W.vret hx hb hr (fun t ht hW => ⟨⟨(), rfl, trivial, by rw [ht]; exact hP, va_K.moved hW.alike hK, hD⟩, hS.F ht⟩) hS.2.2 d_Exprs_checkComparison_10
  · replace hR := if_n c1 hR
    refine lv_iload_n hx hb d_Exprs_checkComparison_5 rfl (lv_at hl 2 rfl) ?_
    refine lv_iconst (v := 2) hx hb d_Exprs_checkComparison_6 (by decide) ?_
    refine lv_icmp_ne (tgt := 11) hx hb d_Exprs_checkComparison_7 (by decide) (fun c2 => ?_) (fun c2 => ?_)
    · replace hR := if_n c2 hR
      refine lv_aload_n hx hb d_Exprs_checkComparison_11 rfl (lv_at hl 0 rfl) ?_
      refine rd_Exprs_29 hx hb hT hown hK hP d_Exprs_checkComparison_12 ?_
      refine lv_iload_n hx hb d_Exprs_checkComparison_15 rfl (lv_at hl 1 rfl) ?_
      replace hR := bi_e hR
      obtain ⟨r3, l3, T3, hc3, hR⟩ := hR
      refine gcV_i (rest := []) ⟨hx, hb, hml, hown, hT⟩ (h_Types_regionOf _ _ _ _ _ hc3) (cwV 1 hT (gV ml_Exprs_82 im_Types_regionOf se_Types_regionOf ini_Types co_Types_regionOf) rfl rfl rfl pd_Types_regionOf ⟨rm_hi, rm_lo (Nat.le_of_ble_eq_true rfl)⟩) hK hP hD hS hA hnw henv (Nat.le_of_ble_eq_true rfl) rfl rfl hl.1 rfl (Nat.le_of_ble_eq_true rfl) d_Exprs_checkComparison_16 ⟨Nat.le_refl _, Nat.le_refl _⟩ (fun H locs hP hD hS => ?_)
      clear hc3
      refine lv_istore (lv' := [(5, .int r3), (0, .ref (ad 8)), (1, .int p1), (2, .int p2), (3, .int p3), (4, .int p4)]) hx hb d_Exprs_checkComparison_19 hl (by decide) rfl (fun ls hl => ?_)
      refine lv_aload_n hx hb d_Exprs_checkComparison_21 rfl (lv_at hl 1 rfl) ?_
      refine rd_Exprs_29 hx hb hT hown hK hP d_Exprs_checkComparison_22 ?_
      refine lv_iload_n hx hb d_Exprs_checkComparison_25 rfl (lv_at hl 3 rfl) ?_
      replace hR := bi_e hR
      obtain ⟨r4, l4, T4, hc4, hR⟩ := hR
      refine gcV_i (rest := []) ⟨hx, hb, hml, hown, hT⟩ (h_Types_regionOf _ _ _ _ _ hc4) (cwV 1 hT (gV ml_Exprs_82 im_Types_regionOf se_Types_regionOf ini_Types co_Types_regionOf) rfl rfl rfl pd_Types_regionOf ⟨rm_hi, rm_lo (Nat.le_of_ble_eq_true rfl)⟩) hK hP hD hS hA hnw henv (Nat.le_of_ble_eq_true rfl) rfl rfl hl.1 rfl (Nat.le_of_ble_eq_true rfl) d_Exprs_checkComparison_26 ⟨Nat.le_refl _, Nat.le_refl _⟩ (fun H locs hP hD hS => ?_)
      clear hc4
      refine lv_istore (lv' := [(6, .int r4), (5, .int r3), (0, .ref (ad 8)), (1, .int p1), (2, .int p2), (3, .int p3), (4, .int p4)]) hx hb d_Exprs_checkComparison_29 hl (by decide) rfl (fun ls hl => ?_)
      refine lv_aload_n hx hb d_Exprs_checkComparison_31 rfl (lv_at hl 2 rfl) ?_
      refine rd_Exprs_29 hx hb hT hown hK hP d_Exprs_checkComparison_32 ?_
      refine lv_iload_n hx hb d_Exprs_checkComparison_35 rfl (lv_at hl 3 rfl) ?_
      replace hR := bi_e hR
      obtain ⟨r5, l5, T5, hc5, hR⟩ := hR
      refine gcV_i (rest := []) ⟨hx, hb, hml, hown, hT⟩ (h_Types_behind _ _ _ _ _ hc5) (cwV 1 hT (gV ml_Exprs_79 im_Types_behind se_Types_behind ini_Types co_Types_behind) rfl rfl rfl pd_Types_behind ⟨rm_hi, rm_lo (Nat.le_of_ble_eq_true rfl)⟩) hK hP hD hS hA hnw henv (Nat.le_of_ble_eq_true rfl) rfl rfl hl.1 rfl (Nat.le_of_ble_eq_true rfl) d_Exprs_checkComparison_36 ⟨Nat.le_refl _, Nat.le_refl _⟩ (fun H locs hP hD hS => ?_)
      clear hc5
      refine lv_aload_n hx hb d_Exprs_checkComparison_39 rfl (lv_at hl 2 rfl) ?_
      refine rd_Exprs_29 hx hb hT hown hK hP d_Exprs_checkComparison_40 ?_
      refine lv_iload_n hx hb d_Exprs_checkComparison_43 rfl (lv_at hl 4 rfl) ?_
      replace hR := bi_e hR
      obtain ⟨r6, l6, T6, hc6, hR⟩ := hR
      refine gcV_i (rest := [.int r5]) ⟨hx, hb, hml, hown, hT⟩ (h_Types_behind _ _ _ _ _ hc6) (cwV 1 hT (gV ml_Exprs_79 im_Types_behind se_Types_behind ini_Types co_Types_behind) rfl rfl rfl pd_Types_behind ⟨rm_hi, rm_lo (Nat.le_of_ble_eq_true rfl)⟩) hK hP hD hS hA hnw henv (Nat.le_of_ble_eq_true rfl) rfl rfl hl.1 rfl (Nat.le_of_ble_eq_true rfl) d_Exprs_checkComparison_44 ⟨Nat.le_refl _, Nat.le_refl _⟩ (fun H locs hP hD hS => ?_)
      clear hc6
      refine lv_icmp_ne (tgt := 82) hx hb d_Exprs_checkComparison_47 (by decide) (fun c7 => ?_) (fun c7 => ?_)
      · replace hR := if_n c7 hR
        refine lv_iconst (v := 0) hx hb d_Exprs_checkComparison_82 (by decide) ?_
        have g := lb_83 T6 p3 p4 r3 r4 (0 : Int32) hR
        rw [hG] at g
        exact g _ _ hP hD hS _ (lv_sub hl [2, 5, 6, 1, 0] rfl)
      · replace hR := if_p c7 hR
        refine lv_aload_n hx hb d_Exprs_checkComparison_50 rfl (lv_at hl 2 rfl) ?_
        refine rd_Exprs_34 hx hb hT hown hK hP d_Exprs_checkComparison_51 ?_
        refine lv_iload hx hb d_Exprs_checkComparison_54 (lv_at hl 1 rfl) ?_
        refine lv_iload hx hb d_Exprs_checkComparison_56 (lv_at hl 0 rfl) ?_
        replace hR := bi_e hR
        obtain ⟨r8, l8, T8, hc8, hR⟩ := hR
        refine gcV_i (rest := []) ⟨hx, hb, hml, hown, hT⟩ (h_Scope_outlives _ _ _ _ _ _ hc8) (cwV 2 hT (gV ml_Exprs_85 im_Scope_outlives se_Scope_outlives ini_Scope co_Scope_outlives) rfl rfl rfl pd_Scope_outlives ⟨rm_hi, rm_lo (Nat.le_of_ble_eq_true rfl)⟩) hK hP hD hS hA hnw henv (Nat.le_of_ble_eq_true rfl) rfl rfl hl.1 rfl (Nat.le_of_ble_eq_true rfl) d_Exprs_checkComparison_58 ⟨Nat.le_refl _, Nat.le_refl _⟩ (fun H locs hP hD hS => ?_)
        clear hc8
        refine lv_if_ne (tgt := 78) hx hb d_Exprs_checkComparison_61 (by decide) (fun c9 => ?_) (fun c9 => ?_)
        · replace hR := if_n c9 hR
          refine lv_iconst (v := 1) hx hb d_Exprs_checkComparison_78 (by decide) ?_
          refine lv_goto (tgt := 83) hx hb d_Exprs_checkComparison_79 (by decide) ?_
          have g := lb_83 T8 p3 p4 r3 r4 (1 : Int32) hR
          rw [hG] at g
          exact g _ _ hP hD hS _ (lv_sub hl [2, 5, 6, 1, 0] rfl)
        · replace hR := if_p c9 hR
          refine lv_aload_n hx hb d_Exprs_checkComparison_64 rfl (lv_at hl 2 rfl) ?_
          refine rd_Exprs_34 hx hb hT hown hK hP d_Exprs_checkComparison_65 ?_
          refine lv_iload hx hb d_Exprs_checkComparison_68 (lv_at hl 0 rfl) ?_
          refine lv_iload hx hb d_Exprs_checkComparison_70 (lv_at hl 1 rfl) ?_
          replace hR := bi_e hR
          obtain ⟨r10, l10, T10, hc10, hR⟩ := hR
          refine gcV_i (rest := []) ⟨hx, hb, hml, hown, hT⟩ (h_Scope_outlives _ _ _ _ _ _ hc10) (cwV 2 hT (gV ml_Exprs_85 im_Scope_outlives se_Scope_outlives ini_Scope co_Scope_outlives) rfl rfl rfl pd_Scope_outlives ⟨rm_hi, rm_lo (Nat.le_of_ble_eq_true rfl)⟩) hK hP hD hS hA hnw henv (Nat.le_of_ble_eq_true rfl) rfl rfl hl.1 rfl (Nat.le_of_ble_eq_true rfl) d_Exprs_checkComparison_72 ⟨Nat.le_refl _, Nat.le_refl _⟩ (fun H locs hP hD hS => ?_)
          clear hc10
          refine lv_if_eq (tgt := 82) hx hb d_Exprs_checkComparison_75 (by decide) (fun c11 => ?_) (fun c11 => ?_)
          · replace hR := if_p c11 hR
            refine lv_iconst (v := 0) hx hb d_Exprs_checkComparison_82 (by decide) ?_
            have g := lb_83 T10 p3 p4 r3 r4 (0 : Int32) hR
            rw [hG] at g
            exact g _ _ hP hD hS _ (lv_sub hl [2, 5, 6, 1, 0] rfl)
          · replace hR := if_n c11 hR
            refine lv_iconst (v := 1) hx hb d_Exprs_checkComparison_78 (by decide) ?_
            refine lv_goto (tgt := 83) hx hb d_Exprs_checkComparison_79 (by decide) ?_
            have g := lb_83 T10 p3 p4 r3 r4 (1 : Int32) hR
            rw [hG] at g
            exact g _ _ hP hD hS _ (lv_sub hl [2, 5, 6, 1, 0] rfl)
    · replace hR := if_p c2 hR
      obtain ⟨-, -, e3⟩ := re_e hR
      subst e3
      exact W.vret hx hb hr (fun t ht hW => ⟨⟨(), rfl, trivial, by rw [ht]; exact hP, va_K.moved hW.alike hK, hD⟩, hS.F ht⟩) hS.2.2 d_Exprs_checkComparison_10
set_option maxHeartbeats 4000000 in
set_option maxRecDepth 100000 in
theorem sp_Exprs_instructionOf (l : Launch) (dC : Nat → ClassId) (dI : Nat → Nat → Nat) (ea ev ad : Nat → Nat) (km : Nat → ClassId) (F : gF) (nf d : Nat) (T0 : gSt) (p1 : Int32) (r0 : Int32) (rl0 : Int64) (T9 : gSt) (hR : rb_Exprs_instructionOf F nf T0 p1 = some (r0, rl0, T9)) : GMi l dC dI LH ad km ea ev y_Exprs_instructionOf w_Exprs_instructionOf (rmD (d + 1)) [.int p1] T0 r0 T9 := by
  intro sz
  refine Met.ofW (cc := b_Exprs_instructionOf) (maxL := 1) (ret := (some .int)) (by decide) rfl ?_
  intro p e s m args below meth c s₁ B hml hv
  obtain ⟨rfl, hsz, hP, hK, hD0, hnw, henv⟩ := hv
  have hx := B.exec
  have hb := B.bytes
  have hr := B.returns
  have hT : ∀ w ∈ lw_good, w.before _ s = true := fun w h => atoms_spec (ws := w_Exprs_instructionOf) B.pre w (List.mem_cons_of_mem _ h)
  have hown : s.vm.findClass R_Exprs = some m.cls := findClass_of_methodNamed B.named
  subst hsz
  have hD := hD0.self (sz := s.heap.size)
  clear hD0
  generalize hAe : va_A (gW LH ad km T0) s.heap.size = A at hD henv ⊢
  have hA : ∀ q : Nat, s.heap.size ≤ q → A q := fun q h => by rw [← hAe]; exact Or.inr h
  have hS : va_S A s.heap s.heap [] := va_S.rf
  have hl := lv_entry ([.int p1]) (n := 1) (Nat.le_of_ble_eq_true rfl)
  rw [lg_entry_eq]
  generalize (lg_sl ([.int p1]) ++ List.replicate (1 - (lg_sl ([.int p1])).length) Slot.unset).toArray = ls at hl ⊢
  have hl : lv_has ls 1 [(0, .int p1)] := hl
  unfold rb_Exprs_instructionOf at hR
  refine lv_iload_n hx hb d_Exprs_instructionOf_0 rfl (lv_at hl 0 rfl) ?_
  by_cases c1 : p1 = (51 : Int32)
  · replace hR := if_p c1 hR
    refine lv_tableIn (off := 58) (tgt := 59) hx hb d_Exprs_instructionOf_1 (by rw [c1]; decide) (by rw [c1]; decide) (by rw [c1]; decide) (by decide) ?_
    refine lv_bipush (v := 16) hx hb d_Exprs_instructionOf_59 (by decide) ?_
    obtain ⟨e1, -, e3⟩ := re_e hR
    subst e1; subst e3
    exact W.iret (v := (16 : Int32)) hx hb hr (fun t ht hW => ⟨⟨(16 : Int32), (), rfl, rfl, by rw [ht]; exact hP, va_K.moved hW.alike hK, hD⟩, hS.F ht⟩) hS.2.2 d_Exprs_instructionOf_61
  replace hR := if_n c1 hR
  by_cases c3 : p1 = (52 : Int32)
  · replace hR := if_p c3 hR
    refine lv_tableIn (off := 61) (tgt := 62) hx hb d_Exprs_instructionOf_1 (by rw [c3]; decide) (by rw [c3]; decide) (by rw [c3]; decide) (by decide) ?_
    refine lv_bipush (v := 15) hx hb d_Exprs_instructionOf_62 (by decide) ?_
    obtain ⟨e1, -, e3⟩ := re_e hR
    subst e1; subst e3
    exact W.iret (v := (15 : Int32)) hx hb hr (fun t ht hW => ⟨⟨(15 : Int32), (), rfl, rfl, by rw [ht]; exact hP, va_K.moved hW.alike hK, hD⟩, hS.F ht⟩) hS.2.2 d_Exprs_instructionOf_64
  replace hR := if_n c3 hR
  by_cases c5 : p1 = (53 : Int32)
  · replace hR := if_p c5 hR
    refine lv_tableIn (off := 43) (tgt := 44) hx hb d_Exprs_instructionOf_1 (by rw [c5]; decide) (by rw [c5]; decide) (by rw [c5]; decide) (by decide) ?_
    refine lv_bipush (v := 10) hx hb d_Exprs_instructionOf_44 (by decide) ?_
    obtain ⟨e1, -, e3⟩ := re_e hR
    subst e1; subst e3
    exact W.iret (v := (10 : Int32)) hx hb hr (fun t ht hW => ⟨⟨(10 : Int32), (), rfl, rfl, by rw [ht]; exact hP, va_K.moved hW.alike hK, hD⟩, hS.F ht⟩) hS.2.2 d_Exprs_instructionOf_46
  replace hR := if_n c5 hR
  by_cases c7 : p1 = (54 : Int32)
  · replace hR := if_p c7 hR
    refine lv_tableIn (off := 46) (tgt := 47) hx hb d_Exprs_instructionOf_1 (by rw [c7]; decide) (by rw [c7]; decide) (by rw [c7]; decide) (by decide) ?_
    refine lv_bipush (v := 11) hx hb d_Exprs_instructionOf_47 (by decide) ?_
    obtain ⟨e1, -, e3⟩ := re_e hR
    subst e1; subst e3
    exact W.iret (v := (11 : Int32)) hx hb hr (fun t ht hW => ⟨⟨(11 : Int32), (), rfl, rfl, by rw [ht]; exact hP, va_K.moved hW.alike hK, hD⟩, hS.F ht⟩) hS.2.2 d_Exprs_instructionOf_49
  replace hR := if_n c7 hR
  by_cases c9 : p1 = (55 : Int32)
  · replace hR := if_p c9 hR
    refine lv_tableIn (off := 49) (tgt := 50) hx hb d_Exprs_instructionOf_1 (by rw [c9]; decide) (by rw [c9]; decide) (by rw [c9]; decide) (by decide) ?_
    refine lv_bipush (v := 12) hx hb d_Exprs_instructionOf_50 (by decide) ?_
    obtain ⟨e1, -, e3⟩ := re_e hR
    subst e1; subst e3
    exact W.iret (v := (12 : Int32)) hx hb hr (fun t ht hW => ⟨⟨(12 : Int32), (), rfl, rfl, by rw [ht]; exact hP, va_K.moved hW.alike hK, hD⟩, hS.F ht⟩) hS.2.2 d_Exprs_instructionOf_52
  replace hR := if_n c9 hR
  by_cases c11 : p1 = (56 : Int32)
  · replace hR := if_p c11 hR
    refine lv_tableIn (off := 52) (tgt := 53) hx hb d_Exprs_instructionOf_1 (by rw [c11]; decide) (by rw [c11]; decide) (by rw [c11]; decide) (by decide) ?_
    refine lv_bipush (v := 13) hx hb d_Exprs_instructionOf_53 (by decide) ?_
    obtain ⟨e1, -, e3⟩ := re_e hR
    subst e1; subst e3
    exact W.iret (v := (13 : Int32)) hx hb hr (fun t ht hW => ⟨⟨(13 : Int32), (), rfl, rfl, by rw [ht]; exact hP, va_K.moved hW.alike hK, hD⟩, hS.F ht⟩) hS.2.2 d_Exprs_instructionOf_55
  replace hR := if_n c11 hR
  by_cases c13 : p1 = (57 : Int32)
  · replace hR := if_p c13 hR
    refine lv_tableIn (off := 55) (tgt := 56) hx hb d_Exprs_instructionOf_1 (by rw [c13]; decide) (by rw [c13]; decide) (by rw [c13]; decide) (by decide) ?_
    refine lv_bipush (v := 14) hx hb d_Exprs_instructionOf_56 (by decide) ?_
    obtain ⟨e1, -, e3⟩ := re_e hR
    subst e1; subst e3
    exact W.iret (v := (14 : Int32)) hx hb hr (fun t ht hW => ⟨⟨(14 : Int32), (), rfl, rfl, by rw [ht]; exact hP, va_K.moved hW.alike hK, hD⟩, hS.F ht⟩) hS.2.2 d_Exprs_instructionOf_58
  replace hR := if_n c13 hR
  have h315 : (p1 : Int32).toInt < 51 ∨ 57 < (p1 : Int32).toInt := by
    simp only [i_eq, Int32.reduceToInt] at c1 c3 c5 c7 c9 c11 c13; omega
  refine lv_tableOut (tgt := 62) hx hb d_Exprs_instructionOf_1 h315 (by decide) ?_
  refine lv_bipush (v := 15) hx hb d_Exprs_instructionOf_62 (by decide) ?_
  obtain ⟨e1, -, e3⟩ := re_e hR
  subst e1; subst e3
  exact W.iret (v := (15 : Int32)) hx hb hr (fun t ht hW => ⟨⟨(15 : Int32), (), rfl, rfl, by rw [ht]; exact hP, va_K.moved hW.alike hK, hD⟩, hS.F ht⟩) hS.2.2 d_Exprs_instructionOf_64
set_option maxHeartbeats 4000000 in
set_option maxRecDepth 100000 in
theorem sp_Exprs_checkTerm (l : Launch) (dC : Nat → ClassId) (dI : Nat → Nat → Nat) (ea ev ad : Nat → Nat) (km : Nat → ClassId) (F : gF) (nf d : Nat) (h_Exprs_checkPrimary : mt_Exprs_checkPrimary l dC dI ea ev ad km F d) (h_Source_beginOf : mt_Source_beginOf l dC dI ea ev ad km F d) (h_Exprs_checkPlace : mt_Exprs_checkPlace l dC dI ea ev ad km F d) (h_Exprs_checkIs : mt_Exprs_checkIs l dC dI ea ev ad km F d) (T0 : gSt) (p1 : Int32) (p2 : Int32) (p3 : Int32) (r0 : Int32) (rl0 : Int64) (T9 : gSt) (hR : rb_Exprs_checkTerm F nf T0 p1 p2 p3 = some (r0, rl0, T9)) : GMi l dC dI LH ad km ea ev y_Exprs_checkTerm w_Exprs_checkTerm (rmD (d + 1)) [.ref (ad 8), .int p1, .int p2, .int p3] T0 r0 T9 := by
  intro sz
  refine Met.ofW (cc := b_Exprs_checkTerm) (maxL := 8) (ret := (some .int)) (by decide) rfl ?_
  intro p e s m args below meth c s₁ B hml hv
  obtain ⟨rfl, hsz, hP, hK, hD0, hnw, henv⟩ := hv
  have hx := B.exec
  have hb := B.bytes
  have hr := B.returns
  have hT : ∀ w ∈ lw_good, w.before _ s = true := fun w h => atoms_spec (ws := w_Exprs_checkTerm) B.pre w (List.mem_cons_of_mem _ h)
  have hown : s.vm.findClass R_Exprs = some m.cls := findClass_of_methodNamed B.named
  subst hsz
  have hD := hD0.self (sz := s.heap.size)
  clear hD0
  generalize hAe : va_A (gW LH ad km T0) s.heap.size = A at hD henv ⊢
  have hA : ∀ q : Nat, s.heap.size ≤ q → A q := fun q h => by rw [← hAe]; exact Or.inr h
  have hS : va_S A s.heap s.heap [] := va_S.rf
  have hl := lv_entry ([.ref (ad 8), .int p1, .int p2, .int p3]) (n := 8) (Nat.le_of_ble_eq_true rfl)
  rw [lg_entry_eq]
  generalize (lg_sl ([.ref (ad 8), .int p1, .int p2, .int p3]) ++ List.replicate (8 - (lg_sl ([.ref (ad 8), .int p1, .int p2, .int p3])).length) Slot.unset).toArray = ls at hl ⊢
  have hl : lv_has ls 8 [(0, .ref (ad 8)), (1, .int p1), (2, .int p2), (3, .int p3)] := hl
  obtain ⟨G, hG⟩ : ∃ G : Nat → List (Nat × Value) → List Value → gSt → Prop, G = (fun pc lv stk T => ∀ (H : Heap) (locs : List Loc), va_P (dC, dI) cls_all (gW LH ad km T) H → va_D A (gW LH ad km T) → va_S A s.heap H locs → ∀ (ls : Array Slot), lv_has ls 8 lv → W p l e (headSpec w_Exprs_checkTerm (rmD (d + 1))).room s m ([.ref (ad 8), .int p1, .int p2, .int p3] : List Value).toArray below meth c H locs 0 0 (MQ below (va_Qi (fun (z : Int32) (_ : Unit) => z = r0) (fun _ t => gPost dC dI LH ad km T9 A t) A) ([.ref (ad 8), .int p1, .int p2, .int p3] : List Value).toArray s 0 0 A) (F0 m pc ls stk)) := ⟨_, rfl⟩
  have lb_44 : ∀ (n : Nat) (T : gSt) (x2 : Int32) (x3 : Int32) (x4 : Int32) (x5 : Int32) (x6 : Int32) (x7 : Int32), rl_Exprs_checkTerm_44 F nf n T x2 x3 x4 x5 x6 x7 = some (r0, rl0, T9) → G 44 [(0, .ref (ad 8)), (2, .int x2), (3, .int x3), (4, .int x4), (5, .int x5), (6, .int x6), (7, .int x7)] [] T := by
    intro n
    induction n with
    | zero => intro T x2 x3 x4 x5 x6 x7 hR; rw [rl_Exprs_checkTerm_44] at hR; cases hR
    | succ n ih =>
      intro T x2 x3 x4 x5 x6 x7 hR; rw [rl_Exprs_checkTerm_44] at hR; rw [hG]; intro H locs hP hD hS ls hl
      refine lv_iload hx hb d_Exprs_checkTerm_44 (lv_at hl 5 rfl) ?_
      refine lv_if_eq (tgt := 123) hx hb d_Exprs_checkTerm_46 (by decide) (fun c9 => ?_) (fun c9 => ?_)
      · replace hR := if_p c9 hR
        refine lv_iload hx hb d_Exprs_checkTerm_123 (lv_at hl 3 rfl) ?_
        obtain ⟨e1, -, e3⟩ := re_e hR
        subst e1; subst e3
        exact W.iret (v := x4) hx hb hr (fun t ht hW => ⟨⟨x4, (), rfl, rfl, by rw [ht]; exact hP, va_K.moved hW.alike hK, hD⟩, hS.F ht⟩) hS.2.2 d_Exprs_checkTerm_125
      · replace hR := if_n c9 hR
        refine lv_iload hx hb d_Exprs_checkTerm_49 (lv_at hl 5 rfl) ?_
        refine lv_iload_n hx hb d_Exprs_checkTerm_51 rfl (lv_at hl 1 rfl) ?_
        refine lv_icmp_eq (tgt := 123) hx hb d_Exprs_checkTerm_52 (by decide) (fun c11 => ?_) (fun c11 => ?_)
        · replace hR := if_p c11 hR
          refine lv_iload hx hb d_Exprs_checkTerm_123 (lv_at hl 3 rfl) ?_
          obtain ⟨e1, -, e3⟩ := re_e hR
          subst e1; subst e3
          exact W.iret (v := x4) hx hb hr (fun t ht hW => ⟨⟨x4, (), rfl, rfl, by rw [ht]; exact hP, va_K.moved hW.alike hK, hD⟩, hS.F ht⟩) hS.2.2 d_Exprs_checkTerm_125
        · replace hR := if_n c11 hR
          refine lv_iload hx hb d_Exprs_checkTerm_55 (lv_at hl 6 rfl) ?_
          refine lv_sipush (v := 4000) hx hb d_Exprs_checkTerm_57 (by decide) ?_
          refine lv_icmp_ge (tgt := 123) hx hb d_Exprs_checkTerm_60 (by decide) (fun c13 => ?_) (fun c13 => ?_)
          · replace hR := if_p c13 hR
            refine lv_iload hx hb d_Exprs_checkTerm_123 (lv_at hl 3 rfl) ?_
            obtain ⟨e1, -, e3⟩ := re_e hR
            subst e1; subst e3
            exact W.iret (v := x4) hx hb hr (fun t ht hW => ⟨⟨x4, (), rfl, rfl, by rw [ht]; exact hP, va_K.moved hW.alike hK, hD⟩, hS.F ht⟩) hS.2.2 d_Exprs_checkTerm_125
          · replace hR := if_n c13 hR
            refine lv_aload_n hx hb d_Exprs_checkTerm_63 rfl (lv_at hl 0 rfl) ?_
            refine rd_Exprs_9 hx hb hT hown hK hP d_Exprs_checkTerm_64 ?_
            refine rd_Exprs_124 hx hb hT hown hK hP d_Exprs_checkTerm_67 ?_
            refine lv_iload hx hb d_Exprs_checkTerm_70 (lv_at hl 5 rfl) ?_
            replace hR := gd_e hR
            obtain ⟨b15, hR⟩ := hR
            refine laH_1 hx hb hK hP b15 d_Exprs_checkTerm_72 ?_
            refine lv_bipush (v := 33) hx hb d_Exprs_checkTerm_73 (by decide) ?_
            refine lv_icmp_ne (tgt := 91) hx hb d_Exprs_checkTerm_75 (by decide) (fun c16 => ?_) (fun c16 => ?_)
            · replace hR := if_n c16 hR
              refine lv_aload_n hx hb d_Exprs_checkTerm_91 rfl (lv_at hl 0 rfl) ?_
              refine lv_iload hx hb d_Exprs_checkTerm_92 (lv_at hl 5 rfl) ?_
              refine lv_iload hx hb d_Exprs_checkTerm_94 (lv_at hl 3 rfl) ?_
              refine lv_iload hx hb d_Exprs_checkTerm_96 (lv_at hl 4 rfl) ?_
              refine lv_iconst (v := 0) hx hb d_Exprs_checkTerm_98 (by decide) ?_
              refine lv_iload_n hx hb d_Exprs_checkTerm_99 rfl (lv_at hl 2 rfl) ?_
              replace hR := bi_e hR
              obtain ⟨r17, l17, T17, hc17, hR⟩ := hR
              refine gcV_i (rest := []) ⟨hx, hb, hml, hown, hT⟩ (h_Exprs_checkPlace _ _ _ _ _ _ _ _ _ hc17) (cwV 5 hT (gV ml_Exprs_130 im_Exprs_checkPlace se_Exprs_checkPlace ini_Exprs co_Exprs_checkPlace) rfl rfl rfl pd_Exprs_checkPlace ⟨rm_hi, rm_lo (Nat.le_of_ble_eq_true rfl)⟩) hK hP hD hS hA hnw henv (Nat.le_of_ble_eq_true rfl) rfl rfl hl.1 rfl (Nat.le_of_ble_eq_true rfl) d_Exprs_checkTerm_100 ⟨Nat.le_refl _, Nat.le_refl _⟩ (fun H locs hP hD hS => ?_)
              clear hc17
              refine lv_istore (lv' := [(4, .int r17), (0, .ref (ad 8)), (2, .int x2), (3, .int x3), (5, .int x5), (6, .int x6), (7, .int x7)]) hx hb d_Exprs_checkTerm_103 hl (by decide) rfl (fun ls hl => ?_)
              refine lv_aload_n hx hb d_Exprs_checkTerm_105 rfl (lv_at hl 1 rfl) ?_
              refine rd_Exprs_9 hx hb hT hown hK hP d_Exprs_checkTerm_106 ?_
              refine rd_Exprs_43 hx hb hT hown hK hP d_Exprs_checkTerm_109 ?_
              refine lv_iload hx hb d_Exprs_checkTerm_112 (lv_at hl 5 rfl) ?_
              replace hR := gd_e hR
              obtain ⟨b18, hR⟩ := hR
              refine laH_3 hx hb hK hP b18 d_Exprs_checkTerm_114 ?_
              refine lv_topi (fun z19 e19 => ?_)
              replace hR := vK_e e19 hR
              refine lv_istore (lv' := [(6, .int z19), (4, .int r17), (0, .ref (ad 8)), (2, .int x2), (3, .int x3), (5, .int x5), (7, .int x7)]) hx hb d_Exprs_checkTerm_115 hl (by decide) rfl (fun ls hl => ?_)
              obtain ⟨z20, e20⟩ : ∃ y : Int32, y = x7 + (1 : Int32) := ⟨_, rfl⟩
              replace hR := vK_e e20 hR
              refine lv_iinc (v := z20) (lv' := [(7, .int z20), (6, .int z19), (4, .int r17), (0, .ref (ad 8)), (2, .int x2), (3, .int x3), (5, .int x5)]) hx hb d_Exprs_checkTerm_117 hl (k := 6) rfl (by rw [e20]; rfl) (by decide) rfl (fun ls hl => ?_)
              refine lv_goto (tgt := 44) hx hb d_Exprs_checkTerm_120 (by decide) ?_
              have g := ih T17 x2 x3 r17 x5 z19 z20 hR
              rw [hG] at g
              exact g _ _ hP hD hS _ (lv_sub hl [3, 4, 5, 2, 6, 1, 0] rfl)
            · replace hR := if_p c16 hR
              refine lv_aload_n hx hb d_Exprs_checkTerm_78 rfl (lv_at hl 0 rfl) ?_
              refine lv_iload hx hb d_Exprs_checkTerm_79 (lv_at hl 5 rfl) ?_
              refine lv_iload hx hb d_Exprs_checkTerm_81 (lv_at hl 3 rfl) ?_
              refine lv_iload hx hb d_Exprs_checkTerm_83 (lv_at hl 4 rfl) ?_
              replace hR := bi_e hR
              obtain ⟨r21, l21, T21, hc21, hR⟩ := hR
              refine gcV_i (rest := []) ⟨hx, hb, hml, hown, hT⟩ (h_Exprs_checkIs _ _ _ _ _ _ _ hc21) (cwV 3 hT (gV ml_Exprs_127 im_Exprs_checkIs se_Exprs_checkIs ini_Exprs co_Exprs_checkIs) rfl rfl rfl pd_Exprs_checkIs ⟨rm_hi, rm_lo (Nat.le_of_ble_eq_true rfl)⟩) hK hP hD hS hA hnw henv (Nat.le_of_ble_eq_true rfl) rfl rfl hl.1 rfl (Nat.le_of_ble_eq_true rfl) d_Exprs_checkTerm_85 ⟨Nat.le_refl _, Nat.le_refl _⟩ (fun H locs hP hD hS => ?_)
              clear hc21
              refine lv_goto (tgt := 103) hx hb d_Exprs_checkTerm_88 (by decide) ?_
              refine lv_istore (lv' := [(4, .int r21), (0, .ref (ad 8)), (2, .int x2), (3, .int x3), (5, .int x5), (6, .int x6), (7, .int x7)]) hx hb d_Exprs_checkTerm_103 hl (by decide) rfl (fun ls hl => ?_)
              refine lv_aload_n hx hb d_Exprs_checkTerm_105 rfl (lv_at hl 1 rfl) ?_
              refine rd_Exprs_9 hx hb hT hown hK hP d_Exprs_checkTerm_106 ?_
              refine rd_Exprs_43 hx hb hT hown hK hP d_Exprs_checkTerm_109 ?_
              refine lv_iload hx hb d_Exprs_checkTerm_112 (lv_at hl 5 rfl) ?_
              replace hR := gd_e hR
              obtain ⟨b22, hR⟩ := hR
              refine laH_3 hx hb hK hP b22 d_Exprs_checkTerm_114 ?_
              refine lv_topi (fun z23 e23 => ?_)
              replace hR := vK_e e23 hR
              refine lv_istore (lv' := [(6, .int z23), (4, .int r21), (0, .ref (ad 8)), (2, .int x2), (3, .int x3), (5, .int x5), (7, .int x7)]) hx hb d_Exprs_checkTerm_115 hl (by decide) rfl (fun ls hl => ?_)
              obtain ⟨z24, e24⟩ : ∃ y : Int32, y = x7 + (1 : Int32) := ⟨_, rfl⟩
              replace hR := vK_e e24 hR
              refine lv_iinc (v := z24) (lv' := [(7, .int z24), (6, .int z23), (4, .int r21), (0, .ref (ad 8)), (2, .int x2), (3, .int x3), (5, .int x5)]) hx hb d_Exprs_checkTerm_117 hl (k := 6) rfl (by rw [e24]; rfl) (by decide) rfl (fun ls hl => ?_)
              refine lv_goto (tgt := 44) hx hb d_Exprs_checkTerm_120 (by decide) ?_
              have g := ih T21 x2 x3 r21 x5 z23 z24 hR
              rw [hG] at g
              exact g _ _ hP hD hS _ (lv_sub hl [3, 4, 5, 2, 6, 1, 0] rfl)
  unfold rb_Exprs_checkTerm at hR
  refine lv_iload_n hx hb d_Exprs_checkTerm_0 rfl (lv_at hl 1 rfl) ?_
  refine lv_if_eq (tgt := 10) hx hb d_Exprs_checkTerm_1 (by decide) (fun c1 => ?_) (fun c1 => ?_)
  · replace hR := if_p c1 hR
    refine lv_iconst (v := 0) hx hb d_Exprs_checkTerm_10 (by decide) ?_
    obtain ⟨e1, -, e3⟩ := re_e hR
    subst e1; subst e3
    exact W.iret (v := (0 : Int32)) hx hb hr (fun t ht hW => ⟨⟨(0 : Int32), (), rfl, rfl, by rw [ht]; exact hP, va_K.moved hW.alike hK, hD⟩, hS.F ht⟩) hS.2.2 d_Exprs_checkTerm_11
  · replace hR := if_n c1 hR
    refine lv_iload_n hx hb d_Exprs_checkTerm_4 rfl (lv_at hl 3 rfl) ?_
    refine lv_bipush (v := 20) hx hb d_Exprs_checkTerm_5 (by decide) ?_
    refine lv_icmp_le (tgt := 12) hx hb d_Exprs_checkTerm_7 (by decide) (fun c3 => ?_) (fun c3 => ?_)
    · replace hR := if_p c3 hR
      refine lv_aload_n hx hb d_Exprs_checkTerm_12 rfl (lv_at hl 0 rfl) ?_
      refine lv_iload_n hx hb d_Exprs_checkTerm_13 rfl (lv_at hl 1 rfl) ?_
      refine lv_iload_n hx hb d_Exprs_checkTerm_14 rfl (lv_at hl 3 rfl) ?_
      replace hR := bi_e hR
      obtain ⟨r4, l4, T4, hc4, hR⟩ := hR
      refine gcV_i (rest := []) ⟨hx, hb, hml, hown, hT⟩ (h_Exprs_checkPrimary _ _ _ _ _ _ hc4) (cwV 2 hT (gV ml_Exprs_118 im_Exprs_checkPrimary se_Exprs_checkPrimary ini_Exprs co_Exprs_checkPrimary) rfl rfl rfl pd_Exprs_checkPrimary ⟨rm_hi, rm_lo (Nat.le_of_ble_eq_true rfl)⟩) hK hP hD hS hA hnw henv (Nat.le_of_ble_eq_true rfl) rfl rfl hl.1 rfl (Nat.le_of_ble_eq_true rfl) d_Exprs_checkTerm_15 ⟨Nat.le_refl _, Nat.le_refl _⟩ (fun H locs hP hD hS => ?_)
      clear hc4
      refine lv_istore (lv' := [(4, .int r4), (0, .ref (ad 8)), (1, .int p1), (2, .int p2), (3, .int p3)]) hx hb d_Exprs_checkTerm_18 hl (by decide) rfl (fun ls hl => ?_)
      refine lv_aload_n hx hb d_Exprs_checkTerm_20 rfl (lv_at hl 1 rfl) ?_
      refine rd_Exprs_9 hx hb hT hown hK hP d_Exprs_checkTerm_21 ?_
      refine lv_iload_n hx hb d_Exprs_checkTerm_24 rfl (lv_at hl 2 rfl) ?_
      replace hR := bi_e hR
      obtain ⟨r5, l5, T5, hc5, hR⟩ := hR
      refine gcV_i (rest := []) ⟨hx, hb, hml, hown, hT⟩ (h_Source_beginOf _ _ _ _ _ hc5) (cwV 1 hT (gV ml_Exprs_64 im_Source_beginOf se_Source_beginOf ini_Source co_Source_beginOf) rfl rfl rfl pd_Source_beginOf ⟨rm_hi, rm_lo (Nat.le_of_ble_eq_true rfl)⟩) hK hP hD hS hA hnw henv (Nat.le_of_ble_eq_true rfl) rfl rfl hl.1 rfl (Nat.le_of_ble_eq_true rfl) d_Exprs_checkTerm_25 ⟨Nat.le_refl _, Nat.le_refl _⟩ (fun H locs hP hD hS => ?_)
      clear hc5
      refine lv_istore (lv' := [(5, .int r5), (4, .int r4), (0, .ref (ad 8)), (1, .int p1), (2, .int p2), (3, .int p3)]) hx hb d_Exprs_checkTerm_28 hl (by decide) rfl (fun ls hl => ?_)
      refine lv_aload_n hx hb d_Exprs_checkTerm_30 rfl (lv_at hl 2 rfl) ?_
      refine rd_Exprs_9 hx hb hT hown hK hP d_Exprs_checkTerm_31 ?_
      refine rd_Exprs_121 hx hb hT hown hK hP d_Exprs_checkTerm_34 ?_
      refine lv_iload_n hx hb d_Exprs_checkTerm_37 rfl (lv_at hl 3 rfl) ?_
      replace hR := gd_e hR
      obtain ⟨b6, hR⟩ := hR
      refine laH_8 hx hb hK hP b6 d_Exprs_checkTerm_38 ?_
      refine lv_topi (fun z7 e7 => ?_)
      replace hR := vK_e e7 hR
      refine lv_istore (lv' := [(6, .int z7), (5, .int r5), (4, .int r4), (0, .ref (ad 8)), (1, .int p1), (2, .int p2), (3, .int p3)]) hx hb d_Exprs_checkTerm_39 hl (by decide) rfl (fun ls hl => ?_)
      refine lv_iconst (v := 0) hx hb d_Exprs_checkTerm_41 (by decide) ?_
      refine lv_istore (lv' := [(7, .int (0 : Int32)), (6, .int z7), (5, .int r5), (4, .int r4), (0, .ref (ad 8)), (1, .int p1), (2, .int p2), (3, .int p3)]) hx hb d_Exprs_checkTerm_42 hl (by decide) rfl (fun ls hl => ?_)
      have g := lb_44 nf T5 p2 p3 r4 r5 z7 (0 : Int32) hR
      rw [hG] at g
      exact g _ _ hP hD hS _ (lv_sub hl [4, 6, 7, 3, 2, 1, 0] rfl)
    · replace hR := if_n c3 hR
      refine lv_iconst (v := 0) hx hb d_Exprs_checkTerm_10 (by decide) ?_
      obtain ⟨e1, -, e3⟩ := re_e hR
      subst e1; subst e3
      exact W.iret (v := (0 : Int32)) hx hb hr (fun t ht hW => ⟨⟨(0 : Int32), (), rfl, rfl, by rw [ht]; exact hP, va_K.moved hW.alike hK, hD⟩, hS.F ht⟩) hS.2.2 d_Exprs_checkTerm_11
set_option maxHeartbeats 4000000 in
set_option maxRecDepth 100000 in
theorem sp_Exprs_checkPlace (l : Launch) (dC : Nat → ClassId) (dI : Nat → Nat → Nat) (ea ev ad : Nat → Nat) (km : Nat → ClassId) (F : gF) (nf d : Nat) (h_Exprs_checkIndex : mt_Exprs_checkIndex l dC dI ea ev ad km F d) (h_Exprs_checkField : mt_Exprs_checkField l dC dI ea ev ad km F d) (h_Exprs_checkCell : mt_Exprs_checkCell l dC dI ea ev ad km F d) (T0 : gSt) (p1 : Int32) (p2 : Int32) (p3 : Int32) (p4 : Int32) (p5 : Int32) (r0 : Int32) (rl0 : Int64) (T9 : gSt) (hR : rb_Exprs_checkPlace F nf T0 p1 p2 p3 p4 p5 = some (r0, rl0, T9)) : GMi l dC dI LH ad km ea ev y_Exprs_checkPlace w_Exprs_checkPlace (rmD (d + 1)) [.ref (ad 8), .int p1, .int p2, .int p3, .int p4, .int p5] T0 r0 T9 := by
  intro sz
  refine Met.ofW (cc := b_Exprs_checkPlace) (maxL := 6) (ret := (some .int)) (by decide) rfl ?_
  intro p e s m args below meth c s₁ B hml hv
  obtain ⟨rfl, hsz, hP, hK, hD0, hnw, henv⟩ := hv
  have hx := B.exec
  have hb := B.bytes
  have hr := B.returns
  have hT : ∀ w ∈ lw_good, w.before _ s = true := fun w h => atoms_spec (ws := w_Exprs_checkPlace) B.pre w (List.mem_cons_of_mem _ h)
  have hown : s.vm.findClass R_Exprs = some m.cls := findClass_of_methodNamed B.named
  subst hsz
  have hD := hD0.self (sz := s.heap.size)
  clear hD0
  generalize hAe : va_A (gW LH ad km T0) s.heap.size = A at hD henv ⊢
  have hA : ∀ q : Nat, s.heap.size ≤ q → A q := fun q h => by rw [← hAe]; exact Or.inr h
  have hS : va_S A s.heap s.heap [] := va_S.rf
  have hl := lv_entry ([.ref (ad 8), .int p1, .int p2, .int p3, .int p4, .int p5]) (n := 6) (Nat.le_of_ble_eq_true rfl)
  rw [lg_entry_eq]
  generalize (lg_sl ([.ref (ad 8), .int p1, .int p2, .int p3, .int p4, .int p5]) ++ List.replicate (6 - (lg_sl ([.ref (ad 8), .int p1, .int p2, .int p3, .int p4, .int p5])).length) Slot.unset).toArray = ls at hl ⊢
  have hl : lv_has ls 6 [(0, .ref (ad 8)), (1, .int p1), (2, .int p2), (3, .int p3), (4, .int p4), (5, .int p5)] := hl
  unfold rb_Exprs_checkPlace at hR
  refine lv_aload_n hx hb d_Exprs_checkPlace_0 rfl (lv_at hl 0 rfl) ?_
  refine rd_Exprs_9 hx hb hT hown hK hP d_Exprs_checkPlace_1 ?_
  refine rd_Exprs_124 hx hb hT hown hK hP d_Exprs_checkPlace_4 ?_
  refine lv_iload_n hx hb d_Exprs_checkPlace_7 rfl (lv_at hl 1 rfl) ?_
  replace hR := gd_e hR
  obtain ⟨b1, hR⟩ := hR
  refine laH_1 hx hb hK hP b1 d_Exprs_checkPlace_8 ?_
  by_cases c2 : T0.1 11 p1.toNatClampNeg = (44 : Int32)
  · replace hR := if_p c2 hR
    refine lv_lookup (off := 37) (tgt := 46) hx hb d_Exprs_checkPlace_9 (by decide) (by rw [c2]; decide) (by decide) ?_
    refine lv_aload_n hx hb d_Exprs_checkPlace_46 rfl (lv_at hl 0 rfl) ?_
    refine lv_iload_n hx hb d_Exprs_checkPlace_47 rfl (lv_at hl 1 rfl) ?_
    refine lv_iload_n hx hb d_Exprs_checkPlace_48 rfl (lv_at hl 2 rfl) ?_
    refine lv_iload_n hx hb d_Exprs_checkPlace_49 rfl (lv_at hl 3 rfl) ?_
    refine lv_iload hx hb d_Exprs_checkPlace_50 (lv_at hl 4 rfl) ?_
    refine lv_iload hx hb d_Exprs_checkPlace_52 (lv_at hl 5 rfl) ?_
    replace hR := bi_e hR
    obtain ⟨r3, l3, T3, hc3, hR⟩ := hR
    refine gcV_i (rest := []) ⟨hx, hb, hml, hown, hT⟩ (h_Exprs_checkIndex _ _ _ _ _ _ _ _ _ hc3) (cwV 5 hT (gV ml_Exprs_137 im_Exprs_checkIndex se_Exprs_checkIndex ini_Exprs co_Exprs_checkIndex) rfl rfl rfl pd_Exprs_checkIndex ⟨rm_hi, rm_lo (Nat.le_of_ble_eq_true rfl)⟩) hK hP hD hS hA hnw henv (Nat.le_of_ble_eq_true rfl) rfl rfl hl.1 rfl (Nat.le_of_ble_eq_true rfl) d_Exprs_checkPlace_54 ⟨Nat.le_refl _, Nat.le_refl _⟩ (fun H locs hP hD hS => ?_)
    clear hc3
    obtain ⟨e1, -, e3⟩ := re_e hR
    subst e1; subst e3
    exact W.iret (v := r3) hx hb hr (fun t ht hW => ⟨⟨r3, (), rfl, rfl, by rw [ht]; exact hP, va_K.moved hW.alike hK, hD⟩, hS.F ht⟩) hS.2.2 d_Exprs_checkPlace_57
  replace hR := if_n c2 hR
  by_cases c5 : T0.1 11 p1.toNatClampNeg = (49 : Int32)
  · replace hR := if_p c5 hR
    refine lv_lookup (off := 27) (tgt := 36) hx hb d_Exprs_checkPlace_9 (by decide) (by rw [c5]; decide) (by decide) ?_
    refine lv_aload_n hx hb d_Exprs_checkPlace_36 rfl (lv_at hl 0 rfl) ?_
    refine lv_iload_n hx hb d_Exprs_checkPlace_37 rfl (lv_at hl 1 rfl) ?_
    refine lv_iload_n hx hb d_Exprs_checkPlace_38 rfl (lv_at hl 2 rfl) ?_
    refine lv_iload_n hx hb d_Exprs_checkPlace_39 rfl (lv_at hl 3 rfl) ?_
    refine lv_iload hx hb d_Exprs_checkPlace_40 (lv_at hl 4 rfl) ?_
    replace hR := bi_e hR
    obtain ⟨r6, l6, T6, hc6, hR⟩ := hR
    refine gcV_i (rest := []) ⟨hx, hb, hml, hown, hT⟩ (h_Exprs_checkField _ _ _ _ _ _ _ _ hc6) (cwV 4 hT (gV ml_Exprs_134 im_Exprs_checkField se_Exprs_checkField ini_Exprs co_Exprs_checkField) rfl rfl rfl pd_Exprs_checkField ⟨rm_hi, rm_lo (Nat.le_of_ble_eq_true rfl)⟩) hK hP hD hS hA hnw henv (Nat.le_of_ble_eq_true rfl) rfl rfl hl.1 rfl (Nat.le_of_ble_eq_true rfl) d_Exprs_checkPlace_42 ⟨Nat.le_refl _, Nat.le_refl _⟩ (fun H locs hP hD hS => ?_)
    clear hc6
    obtain ⟨e1, -, e3⟩ := re_e hR
    subst e1; subst e3
    exact W.iret (v := r6) hx hb hr (fun t ht hW => ⟨⟨r6, (), rfl, rfl, by rw [ht]; exact hP, va_K.moved hW.alike hK, hD⟩, hS.F ht⟩) hS.2.2 d_Exprs_checkPlace_45
  replace hR := if_n c5 hR
  refine lv_lookup (off := 49) (tgt := 58) hx hb d_Exprs_checkPlace_9 (by decide) ((lv_osw c2 rfl).trans ((lv_osw c5 rfl).trans rfl)) (by decide) ?_
  refine lv_aload_n hx hb d_Exprs_checkPlace_58 rfl (lv_at hl 0 rfl) ?_
  refine lv_iload_n hx hb d_Exprs_checkPlace_59 rfl (lv_at hl 2 rfl) ?_
  refine lv_iload_n hx hb d_Exprs_checkPlace_60 rfl (lv_at hl 3 rfl) ?_
  refine lv_iload hx hb d_Exprs_checkPlace_61 (lv_at hl 4 rfl) ?_
  replace hR := bi_e hR
  obtain ⟨r9, l9, T9, hc9, hR⟩ := hR
  refine gcV_i (rest := []) ⟨hx, hb, hml, hown, hT⟩ (h_Exprs_checkCell _ _ _ _ _ _ _ hc9) (cwV 3 hT (gV ml_Exprs_140 im_Exprs_checkCell se_Exprs_checkCell ini_Exprs co_Exprs_checkCell) rfl rfl rfl pd_Exprs_checkCell ⟨rm_hi, rm_lo (Nat.le_of_ble_eq_true rfl)⟩) hK hP hD hS hA hnw henv (Nat.le_of_ble_eq_true rfl) rfl rfl hl.1 rfl (Nat.le_of_ble_eq_true rfl) d_Exprs_checkPlace_63 ⟨Nat.le_refl _, Nat.le_refl _⟩ (fun H locs hP hD hS => ?_)
  clear hc9
  obtain ⟨e1, -, e3⟩ := re_e hR
  subst e1; subst e3
  exact W.iret (v := r9) hx hb hr (fun t ht hW => ⟨⟨r9, (), rfl, rfl, by rw [ht]; exact hP, va_K.moved hW.alike hK, hD⟩, hS.F ht⟩) hS.2.2 d_Exprs_checkPlace_66
set_option maxHeartbeats 4000000 in
set_option maxRecDepth 100000 in
theorem sp_Exprs_checkField (l : Launch) (dC : Nat → ClassId) (dI : Nat → Nat → Nat) (ea ev ad : Nat → Nat) (km : Nat → ClassId) (F : gF) (nf d : Nat) (h_Types_titleBehind : mt_Types_titleBehind l dC dI ea ev ad km F d) (h_Types_regionOf : mt_Types_regionOf l dC dI ea ev ad km F d) (h_Scope_isLive : mt_Scope_isLive l dC dI ea ev ad km F d) (h_Exprs_demand : mt_Exprs_demand l dC dI ea ev ad km F d) (h_Source_nameAt : mt_Source_nameAt l dC dI ea ev ad km F d) (h_Heads_findPart : mt_Heads_findPart l dC dI ea ev ad km F d) (h_Exprs_countNull : mt_Exprs_countNull l dC dI ea ev ad km F d) (h_Items_typeOfPart : mt_Items_typeOfPart l dC dI ea ev ad km F d) (h_Types_regionsBehind : mt_Types_regionsBehind l dC dI ea ev ad km F d) (h_Types_told : mt_Types_told l dC dI ea ev ad km F d) (h_Items_placeOfPart : mt_Items_placeOfPart l dC dI ea ev ad km F d) (h_Exprs_emitPointed : mt_Exprs_emitPointed l dC dI ea ev ad km F d) (h_Code_tally : mt_Code_tally l dC dI ea ev ad km F d) (h_Source_startOf : mt_Source_startOf l dC dI ea ev ad km F d) (h_Code_note : mt_Code_note l dC dI ea ev ad km F d) (h_Types_wordsOf : mt_Types_wordsOf l dC dI ea ev ad km F d) (h_Code_emit : mt_Code_emit l dC dI ea ev ad km F d) (T0 : gSt) (p1 : Int32) (p2 : Int32) (p3 : Int32) (p4 : Int32) (r0 : Int32) (rl0 : Int64) (T9 : gSt) (hR : rb_Exprs_checkField F nf T0 p1 p2 p3 p4 = some (r0, rl0, T9)) : GMi l dC dI LH ad km ea ev y_Exprs_checkField w_Exprs_checkField (rmD (d + 1)) [.ref (ad 8), .int p1, .int p2, .int p3, .int p4] T0 r0 T9 := by
  intro sz
  refine Met.ofW (cc := b_Exprs_checkField) (maxL := 8) (ret := (some .int)) (by decide) rfl ?_
  intro p e s m args below meth c s₁ B hml hv
  obtain ⟨rfl, hsz, hP, hK, hD0, hnw, henv⟩ := hv
  have hx := B.exec
  have hb := B.bytes
  have hr := B.returns
  have hT : ∀ w ∈ lw_good, w.before _ s = true := fun w h => atoms_spec (ws := w_Exprs_checkField) B.pre w (List.mem_cons_of_mem _ h)
  have hown : s.vm.findClass R_Exprs = some m.cls := findClass_of_methodNamed B.named
  subst hsz
  have hD := hD0.self (sz := s.heap.size)
  clear hD0
  generalize hAe : va_A (gW LH ad km T0) s.heap.size = A at hD henv ⊢
  have hA : ∀ q : Nat, s.heap.size ≤ q → A q := fun q h => by rw [← hAe]; exact Or.inr h
  have hS : va_S A s.heap s.heap [] := va_S.rf
  have hl := lv_entry ([.ref (ad 8), .int p1, .int p2, .int p3, .int p4]) (n := 8) (Nat.le_of_ble_eq_true rfl)
  rw [lg_entry_eq]
  generalize (lg_sl ([.ref (ad 8), .int p1, .int p2, .int p3, .int p4]) ++ List.replicate (8 - (lg_sl ([.ref (ad 8), .int p1, .int p2, .int p3, .int p4])).length) Slot.unset).toArray = ls at hl ⊢
  have hl : lv_has ls 8 [(0, .ref (ad 8)), (1, .int p1), (2, .int p2), (3, .int p3), (4, .int p4)] := hl
  obtain ⟨G, hG⟩ : ∃ G : Nat → List (Nat × Value) → List Value → gSt → Prop, G = (fun pc lv stk T => ∀ (H : Heap) (locs : List Loc), va_P (dC, dI) cls_all (gW LH ad km T) H → va_D A (gW LH ad km T) → va_S A s.heap H locs → ∀ (ls : Array Slot), lv_has ls 8 lv → W p l e (headSpec w_Exprs_checkField (rmD (d + 1))).room s m ([.ref (ad 8), .int p1, .int p2, .int p3, .int p4] : List Value).toArray below meth c H locs 0 0 (MQ below (va_Qi (fun (z : Int32) (_ : Unit) => z = r0) (fun _ t => gPost dC dI LH ad km T9 A t) A) ([.ref (ad 8), .int p1, .int p2, .int p3, .int p4] : List Value).toArray s 0 0 A) (F0 m pc ls stk)) := ⟨_, rfl⟩
  have lb_190 : ∀ (T : gSt) (x4 : Int32) (x6 : Int32) (x7 : Int32), rj_Exprs_checkField_190 F nf T x4 x6 x7 = some (r0, rl0, T9) → G 190 [(0, .ref (ad 8)), (4, .int x4), (6, .int x6), (7, .int x7)] [] T := by
    intro T x4 x6 x7 hR; unfold rj_Exprs_checkField_190 at hR; rw [hG]; intro H locs hP hD hS ls hl
    refine lv_aload_n hx hb d_Exprs_checkField_190 rfl (lv_at hl 0 rfl) ?_
    refine rd_Exprs_35 hx hb hT hown hK hP d_Exprs_checkField_191 ?_
    refine lv_iload hx hb d_Exprs_checkField_194 (lv_at hl 1 rfl) ?_
    refine lv_if_ne (tgt := 204) hx hb d_Exprs_checkField_196 (by decide) (fun c32 => ?_) (fun c32 => ?_)
    · replace hR := if_n c32 hR
      refine lv_bipush (v := 26) hx hb d_Exprs_checkField_204 (by decide) ?_
      refine lv_iload hx hb d_Exprs_checkField_206 (lv_at hl 2 rfl) ?_
      refine lv_iconst (v := 1) hx hb d_Exprs_checkField_208 (by decide) ?_
      refine lv_iadd hx hb d_Exprs_checkField_209 ?_
      refine lv_aload_n hx hb d_Exprs_checkField_210 rfl (lv_at hl 0 rfl) ?_
      refine rd_Exprs_29 hx hb hT hown hK hP d_Exprs_checkField_211 ?_
      refine lv_iload hx hb d_Exprs_checkField_214 (lv_at hl 3 rfl) ?_
      replace hR := bi_e hR
      obtain ⟨r33, l33, T33, hc33, hR⟩ := hR
      refine gcV_i (rest := [.int (x6 + (1 : Int32)), .int (26 : Int32), .ref (ad 3)]) ⟨hx, hb, hml, hown, hT⟩ (h_Types_wordsOf _ _ _ _ _ hc33) (cwV 1 hT (gV ml_Exprs_179 im_Types_wordsOf se_Types_wordsOf ini_Types co_Types_wordsOf) rfl rfl rfl pd_Types_wordsOf ⟨rm_hi, rm_lo (Nat.le_of_ble_eq_true rfl)⟩) hK hP hD hS hA hnw henv (Nat.le_of_ble_eq_true rfl) rfl rfl hl.1 rfl (Nat.le_of_ble_eq_true rfl) d_Exprs_checkField_216 ⟨Nat.le_refl _, Nat.le_refl _⟩ (fun H locs hP hD hS => ?_)
      clear hc33
      replace hR := bi_e hR
      obtain ⟨r34, l34, T34, hc34, hR⟩ := hR
      refine gcV_i (rest := []) ⟨hx, hb, hml, hown, hT⟩ (h_Code_emit _ _ _ _ _ _ _ hc34) (cwV 3 hT (gV ml_Exprs_94 im_Code_emit se_Code_emit ini_Code co_Code_emit) rfl rfl rfl pd_Code_emit ⟨rm_hi, rm_lo (Nat.le_of_ble_eq_true rfl)⟩) hK hP hD hS hA hnw henv (Nat.le_of_ble_eq_true rfl) rfl rfl hl.1 rfl (Nat.le_of_ble_eq_true rfl) d_Exprs_checkField_219 ⟨Nat.le_refl _, Nat.le_refl _⟩ (fun H locs hP hD hS => ?_)
      clear hc34
      refine lv_pop hx hb d_Exprs_checkField_222 rfl ?_
      refine lv_goto (tgt := 245) hx hb d_Exprs_checkField_223 (by decide) ?_
      refine lv_iload hx hb d_Exprs_checkField_245 (lv_at hl 3 rfl) ?_
      obtain ⟨e1, -, e3⟩ := re_e hR
      subst e1; subst e3
      exact W.iret (v := x7) hx hb hr (fun t ht hW => ⟨⟨x7, (), rfl, rfl, by rw [ht]; exact hP, va_K.moved hW.alike hK, hD⟩, hS.F ht⟩) hS.2.2 d_Exprs_checkField_247
    · replace hR := if_p c32 hR
      refine lv_bipush (v := 21) hx hb d_Exprs_checkField_199 (by decide) ?_
      refine lv_goto (tgt := 206) hx hb d_Exprs_checkField_201 (by decide) ?_
      refine lv_iload hx hb d_Exprs_checkField_206 (lv_at hl 2 rfl) ?_
      refine lv_iconst (v := 1) hx hb d_Exprs_checkField_208 (by decide) ?_
      refine lv_iadd hx hb d_Exprs_checkField_209 ?_
      refine lv_aload_n hx hb d_Exprs_checkField_210 rfl (lv_at hl 0 rfl) ?_
      refine rd_Exprs_29 hx hb hT hown hK hP d_Exprs_checkField_211 ?_
      refine lv_iload hx hb d_Exprs_checkField_214 (lv_at hl 3 rfl) ?_
      replace hR := bi_e hR
      obtain ⟨r36, l36, T36, hc36, hR⟩ := hR
      refine gcV_i (rest := [.int (x6 + (1 : Int32)), .int (21 : Int32), .ref (ad 3)]) ⟨hx, hb, hml, hown, hT⟩ (h_Types_wordsOf _ _ _ _ _ hc36) (cwV 1 hT (gV ml_Exprs_179 im_Types_wordsOf se_Types_wordsOf ini_Types co_Types_wordsOf) rfl rfl rfl pd_Types_wordsOf ⟨rm_hi, rm_lo (Nat.le_of_ble_eq_true rfl)⟩) hK hP hD hS hA hnw henv (Nat.le_of_ble_eq_true rfl) rfl rfl hl.1 rfl (Nat.le_of_ble_eq_true rfl) d_Exprs_checkField_216 ⟨Nat.le_refl _, Nat.le_refl _⟩ (fun H locs hP hD hS => ?_)
      clear hc36
      replace hR := bi_e hR
      obtain ⟨r37, l37, T37, hc37, hR⟩ := hR
      refine gcV_i (rest := []) ⟨hx, hb, hml, hown, hT⟩ (h_Code_emit _ _ _ _ _ _ _ hc37) (cwV 3 hT (gV ml_Exprs_94 im_Code_emit se_Code_emit ini_Code co_Code_emit) rfl rfl rfl pd_Code_emit ⟨rm_hi, rm_lo (Nat.le_of_ble_eq_true rfl)⟩) hK hP hD hS hA hnw henv (Nat.le_of_ble_eq_true rfl) rfl rfl hl.1 rfl (Nat.le_of_ble_eq_true rfl) d_Exprs_checkField_219 ⟨Nat.le_refl _, Nat.le_refl _⟩ (fun H locs hP hD hS => ?_)
      clear hc37
      refine lv_pop hx hb d_Exprs_checkField_222 rfl ?_
      refine lv_goto (tgt := 245) hx hb d_Exprs_checkField_223 (by decide) ?_
      refine lv_iload hx hb d_Exprs_checkField_245 (lv_at hl 3 rfl) ?_
      obtain ⟨e1, -, e3⟩ := re_e hR
      subst e1; subst e3
      exact W.iret (v := x7) hx hb hr (fun t ht hW => ⟨⟨x7, (), rfl, rfl, by rw [ht]; exact hP, va_K.moved hW.alike hK, hD⟩, hS.F ht⟩) hS.2.2 d_Exprs_checkField_247
  unfold rb_Exprs_checkField at hR
  refine lv_aload_n hx hb d_Exprs_checkField_0 rfl (lv_at hl 0 rfl) ?_
  refine rd_Exprs_29 hx hb hT hown hK hP d_Exprs_checkField_1 ?_
  refine lv_iload_n hx hb d_Exprs_checkField_4 rfl (lv_at hl 2 rfl) ?_
  replace hR := bi_e hR
  obtain ⟨r1, l1, T1, hc1, hR⟩ := hR
  refine gcV_i (rest := []) ⟨hx, hb, hml, hown, hT⟩ (h_Types_titleBehind _ _ _ _ _ hc1) (cwV 1 hT (gV ml_Exprs_143 im_Types_titleBehind se_Types_titleBehind ini_Types co_Types_titleBehind) rfl rfl rfl pd_Types_titleBehind ⟨rm_hi, rm_lo (Nat.le_of_ble_eq_true rfl)⟩) hK hP hD hS hA hnw henv (Nat.le_of_ble_eq_true rfl) rfl rfl hl.1 rfl (Nat.le_of_ble_eq_true rfl) d_Exprs_checkField_5 ⟨Nat.le_refl _, Nat.le_refl _⟩ (fun H locs hP hD hS => ?_)
  clear hc1
  refine lv_istore (lv' := [(5, .int r1), (0, .ref (ad 8)), (1, .int p1), (2, .int p2), (3, .int p3), (4, .int p4)]) hx hb d_Exprs_checkField_8 hl (by decide) rfl (fun ls hl => ?_)
  refine lv_iload hx hb d_Exprs_checkField_10 (lv_at hl 0 rfl) ?_
  refine lv_iconst (v := (-1)) hx hb d_Exprs_checkField_12 (by decide) ?_
  refine lv_icmp_ne (tgt := 27) hx hb d_Exprs_checkField_13 (by decide) (fun c2 => ?_) (fun c2 => ?_)
  · replace hR := if_n c2 hR
    refine lv_aload_n hx hb d_Exprs_checkField_27 rfl (lv_at hl 1 rfl) ?_
    refine lv_aload_n hx hb d_Exprs_checkField_28 rfl (lv_at hl 1 rfl) ?_
    refine rd_Exprs_34 hx hb hT hown hK hP d_Exprs_checkField_29 ?_
    refine lv_aload_n hx hb d_Exprs_checkField_32 rfl (lv_at hl 1 rfl) ?_
    refine rd_Exprs_29 hx hb hT hown hK hP d_Exprs_checkField_33 ?_
    refine lv_iload_n hx hb d_Exprs_checkField_36 rfl (lv_at hl 3 rfl) ?_
    replace hR := bi_e hR
    obtain ⟨r3, l3, T3, hc3, hR⟩ := hR
    refine gcV_i (rest := [.ref (ad 6), .ref (ad 8)]) ⟨hx, hb, hml, hown, hT⟩ (h_Types_regionOf _ _ _ _ _ hc3) (cwV 1 hT (gV ml_Exprs_82 im_Types_regionOf se_Types_regionOf ini_Types co_Types_regionOf) rfl rfl rfl pd_Types_regionOf ⟨rm_hi, rm_lo (Nat.le_of_ble_eq_true rfl)⟩) hK hP hD hS hA hnw henv (Nat.le_of_ble_eq_true rfl) rfl rfl hl.1 rfl (Nat.le_of_ble_eq_true rfl) d_Exprs_checkField_37 ⟨Nat.le_refl _, Nat.le_refl _⟩ (fun H locs hP hD hS => ?_)
    clear hc3
    replace hR := bi_e hR
    obtain ⟨r4, l4, T4, hc4, hR⟩ := hR
    refine gcV_i (rest := [.ref (ad 8)]) ⟨hx, hb, hml, hown, hT⟩ (h_Scope_isLive _ _ _ _ _ hc4) (cwV 1 hT (gV ml_Exprs_115 im_Scope_isLive se_Scope_isLive ini_Scope co_Scope_isLive) rfl rfl rfl pd_Scope_isLive ⟨rm_hi, rm_lo (Nat.le_of_ble_eq_true rfl)⟩) hK hP hD hS hA hnw henv (Nat.le_of_ble_eq_true rfl) rfl rfl hl.1 rfl (Nat.le_of_ble_eq_true rfl) d_Exprs_checkField_40 ⟨Nat.le_refl _, Nat.le_refl _⟩ (fun H locs hP hD hS => ?_)
    clear hc4
    refine lv_iconst (v := 5) hx hb d_Exprs_checkField_43 (by decide) ?_
    refine lv_iload_n hx hb d_Exprs_checkField_44 rfl (lv_at hl 4 rfl) ?_
    replace hR := bi_e hR
    obtain ⟨r5, l5, T5, hc5, hR⟩ := hR
    refine gcV_v (rest := []) ⟨hx, hb, hml, hown, hT⟩ (h_Exprs_demand _ _ _ _ _ _ _ hc5) (cwV 3 hT (gV ml_Exprs_111 im_Exprs_demand se_Exprs_demand ini_Exprs co_Exprs_demand) rfl rfl rfl pd_Exprs_demand ⟨rm_hi, rm_lo (Nat.le_of_ble_eq_true rfl)⟩) hK hP hD hS hA hnw henv (Nat.le_of_ble_eq_true rfl) rfl rfl hl.1 rfl (Nat.le_of_ble_eq_true rfl) d_Exprs_checkField_45 ⟨Nat.le_refl _, Nat.le_refl _⟩ (fun H locs hP hD hS => ?_)
    clear hc5
    refine lv_aload_n hx hb d_Exprs_checkField_48 rfl (lv_at hl 1 rfl) ?_
    refine rd_Exprs_19 hx hb hT hown hK hP d_Exprs_checkField_49 ?_
    refine lv_iload hx hb d_Exprs_checkField_52 (lv_at hl 0 rfl) ?_
    refine lv_aload_n hx hb d_Exprs_checkField_54 rfl (lv_at hl 1 rfl) ?_
    refine rd_Exprs_9 hx hb hT hown hK hP d_Exprs_checkField_55 ?_
    refine lv_aload_n hx hb d_Exprs_checkField_58 rfl (lv_at hl 1 rfl) ?_
    refine rd_Exprs_9 hx hb hT hown hK hP d_Exprs_checkField_59 ?_
    refine rd_Exprs_146 hx hb hT hown hK hP d_Exprs_checkField_62 ?_
    refine lv_iload_n hx hb d_Exprs_checkField_65 rfl (lv_at hl 2 rfl) ?_
    replace hR := gd_e hR
    obtain ⟨b6, hR⟩ := hR
    refine laH_2 hx hb hK hP b6 d_Exprs_checkField_66 ?_
    refine lv_iconst (v := 1) hx hb d_Exprs_checkField_67 (by decide) ?_
    refine lv_iadd hx hb d_Exprs_checkField_68 ?_
    replace hR := bi_e hR
    obtain ⟨r7, l7, T7, hc7, hR⟩ := hR
    refine gcV_l (rest := [.int r1, .ref (ad 7)]) ⟨hx, hb, hml, hown, hT⟩ (h_Source_nameAt _ _ _ _ _ hc7) (cwV 1 hT (gV ml_Exprs_149 im_Source_nameAt se_Source_nameAt ini_Source co_Source_nameAt) rfl rfl rfl pd_Source_nameAt ⟨rm_hi, rm_lo (Nat.le_of_ble_eq_true rfl)⟩) hK hP hD hS hA hnw henv (Nat.le_of_ble_eq_true rfl) rfl rfl hl.1 rfl (Nat.le_of_ble_eq_true rfl) d_Exprs_checkField_69 ⟨Nat.le_refl _, Nat.le_refl _⟩ (fun H locs hP hD hS => ?_)
    clear hc7
    replace hR := bi_e hR
    obtain ⟨r8, l8, T8, hc8, hR⟩ := hR
    refine gcV_i (rest := []) ⟨hx, hb, hml, hown, hT⟩ (h_Heads_findPart _ _ _ _ _ _ hc8) (cwV 2 hT (gV ml_Exprs_153 im_Heads_findPart se_Heads_findPart ini_Heads co_Heads_findPart) rfl rfl rfl pd_Heads_findPart ⟨rm_hi, rm_lo (Nat.le_of_ble_eq_true rfl)⟩) hK hP hD hS hA hnw henv (Nat.le_of_ble_eq_true rfl) rfl rfl hl.1 rfl (Nat.le_of_ble_eq_true rfl) d_Exprs_checkField_72 ⟨Nat.le_refl _, Nat.le_refl _⟩ (fun H locs hP hD hS => ?_)
    clear hc8
    refine lv_istore (lv' := [(6, .int r8), (5, .int r1), (0, .ref (ad 8)), (1, .int p1), (2, .int p2), (3, .int p3), (4, .int p4)]) hx hb d_Exprs_checkField_75 hl (by decide) rfl (fun ls hl => ?_)
    refine lv_iload hx hb d_Exprs_checkField_77 (lv_at hl 0 rfl) ?_
    refine lv_iconst (v := (-1)) hx hb d_Exprs_checkField_79 (by decide) ?_
    refine lv_icmp_ne (tgt := 111) hx hb d_Exprs_checkField_80 (by decide) (fun c9 => ?_) (fun c9 => ?_)
    · replace hR := if_n c9 hR
      refine lv_aload_n hx hb d_Exprs_checkField_111 rfl (lv_at hl 2 rfl) ?_
      refine lv_iload_n hx hb d_Exprs_checkField_112 rfl (lv_at hl 4 rfl) ?_
      replace hR := bi_e hR
      obtain ⟨r10, l10, T10, hc10, hR⟩ := hR
      refine gcV_v (rest := []) ⟨hx, hb, hml, hown, hT⟩ (h_Exprs_countNull _ _ _ _ _ hc10) (cwV 1 hT (gV ml_Exprs_160 im_Exprs_countNull se_Exprs_countNull ini_Exprs co_Exprs_countNull) rfl rfl rfl pd_Exprs_countNull ⟨rm_hi, rm_lo (Nat.le_of_ble_eq_true rfl)⟩) hK hP hD hS hA hnw henv (Nat.le_of_ble_eq_true rfl) rfl rfl hl.1 rfl (Nat.le_of_ble_eq_true rfl) d_Exprs_checkField_113 ⟨Nat.le_refl _, Nat.le_refl _⟩ (fun H locs hP hD hS => ?_)
      clear hc10
      refine lv_aload_n hx hb d_Exprs_checkField_116 rfl (lv_at hl 2 rfl) ?_
      refine rd_Exprs_29 hx hb hT hown hK hP d_Exprs_checkField_117 ?_
      refine lv_aload_n hx hb d_Exprs_checkField_120 rfl (lv_at hl 2 rfl) ?_
      refine rd_Exprs_15 hx hb hT hown hK hP d_Exprs_checkField_121 ?_
      refine lv_iload hx hb d_Exprs_checkField_124 (lv_at hl 1 rfl) ?_
      refine lv_iload hx hb d_Exprs_checkField_126 (lv_at hl 0 rfl) ?_
      replace hR := bi_e hR
      obtain ⟨r11, l11, T11, hc11, hR⟩ := hR
      refine gcV_i (rest := [.ref (ad 5)]) ⟨hx, hb, hml, hown, hT⟩ (h_Items_typeOfPart _ _ _ _ _ _ hc11) (cwV 2 hT (gV ml_Exprs_164 im_Items_typeOfPart se_Items_typeOfPart ini_Items co_Items_typeOfPart) rfl rfl rfl pd_Items_typeOfPart ⟨rm_hi, rm_lo (Nat.le_of_ble_eq_true rfl)⟩) hK hP hD hS hA hnw henv (Nat.le_of_ble_eq_true rfl) rfl rfl hl.1 rfl (Nat.le_of_ble_eq_true rfl) d_Exprs_checkField_128 ⟨Nat.le_refl _, Nat.le_refl _⟩ (fun H locs hP hD hS => ?_)
      clear hc11
      refine lv_aload_n hx hb d_Exprs_checkField_131 rfl (lv_at hl 2 rfl) ?_
      refine rd_Exprs_29 hx hb hT hown hK hP d_Exprs_checkField_132 ?_
      refine lv_iload_n hx hb d_Exprs_checkField_135 rfl (lv_at hl 4 rfl) ?_
      replace hR := bi_e hR
      obtain ⟨r12, l12, T12, hc12, hR⟩ := hR
      refine gcV_i (rest := [.int r11, .ref (ad 5)]) ⟨hx, hb, hml, hown, hT⟩ (h_Types_regionsBehind _ _ _ _ _ hc12) (cwV 1 hT (gV ml_Exprs_169 im_Types_regionsBehind se_Types_regionsBehind ini_Types co_Types_regionsBehind) rfl rfl rfl pd_Types_regionsBehind ⟨rm_hi, rm_lo (Nat.le_of_ble_eq_true rfl)⟩) hK hP hD hS hA hnw henv (Nat.le_of_ble_eq_true rfl) rfl rfl hl.1 rfl (Nat.le_of_ble_eq_true rfl) d_Exprs_checkField_136 ⟨Nat.le_refl _, Nat.le_refl _⟩ (fun H locs hP hD hS => ?_)
      clear hc12
      refine lv_iconst (v := 1) hx hb d_Exprs_checkField_139 (by decide) ?_
      replace hR := bi_e hR
      obtain ⟨r13, l13, T13, hc13, hR⟩ := hR
      refine gcV_i (rest := []) ⟨hx, hb, hml, hown, hT⟩ (h_Types_told _ _ _ _ _ _ _ hc13) (cwV 3 hT (gV ml_Exprs_172 im_Types_told se_Types_told ini_Types co_Types_told) rfl rfl rfl pd_Types_told ⟨rm_hi, rm_lo (Nat.le_of_ble_eq_true rfl)⟩) hK hP hD hS hA hnw henv (Nat.le_of_ble_eq_true rfl) rfl rfl hl.1 rfl (Nat.le_of_ble_eq_true rfl) d_Exprs_checkField_140 ⟨Nat.le_refl _, Nat.le_refl _⟩ (fun H locs hP hD hS => ?_)
      clear hc13
      refine lv_istore (lv' := [(7, .int r13), (6, .int r8), (5, .int r1), (0, .ref (ad 8)), (1, .int p1), (2, .int p2), (3, .int p3), (4, .int p4)]) hx hb d_Exprs_checkField_143 hl (by decide) rfl (fun ls hl => ?_)
      refine lv_aload_n hx hb d_Exprs_checkField_145 rfl (lv_at hl 3 rfl) ?_
      refine rd_Exprs_15 hx hb hT hown hK hP d_Exprs_checkField_146 ?_
      refine rd_Exprs_175 hx hb hT hown hK hP d_Exprs_checkField_149 ?_
      refine lv_iload hx hb d_Exprs_checkField_152 (lv_at hl 2 rfl) ?_
      replace hR := gd_e hR
      obtain ⟨b14, hR⟩ := hR
      refine laH_13 hx hb hK hP b14 d_Exprs_checkField_154 ?_
      refine lv_bipush (v := 11) hx hb d_Exprs_checkField_155 (by decide) ?_
      refine lv_icmp_ne (tgt := 226) hx hb d_Exprs_checkField_157 (by decide) (fun c15 => ?_) (fun c15 => ?_)
      · replace hR := if_n c15 hR
        refine lv_aload_n hx hb d_Exprs_checkField_226 rfl (lv_at hl 3 rfl) ?_
        refine lv_iload hx hb d_Exprs_checkField_227 (lv_at hl 7 rfl) ?_
        refine lv_aload_n hx hb d_Exprs_checkField_229 rfl (lv_at hl 3 rfl) ?_
        refine rd_Exprs_15 hx hb hT hown hK hP d_Exprs_checkField_230 ?_
        refine lv_iload hx hb d_Exprs_checkField_233 (lv_at hl 2 rfl) ?_
        refine lv_iload hx hb d_Exprs_checkField_235 (lv_at hl 1 rfl) ?_
        replace hR := bi_e hR
        obtain ⟨r16, l16, T16, hc16, hR⟩ := hR
        refine gcV_i (rest := [.int p4, .ref (ad 8)]) ⟨hx, hb, hml, hown, hT⟩ (h_Items_placeOfPart _ _ _ _ _ _ hc16) (cwV 2 hT (gV ml_Exprs_182 im_Items_placeOfPart se_Items_placeOfPart ini_Items co_Items_placeOfPart) rfl rfl rfl pd_Items_placeOfPart ⟨rm_hi, rm_lo (Nat.le_of_ble_eq_true rfl)⟩) hK hP hD hS hA hnw henv (Nat.le_of_ble_eq_true rfl) rfl rfl hl.1 rfl (Nat.le_of_ble_eq_true rfl) d_Exprs_checkField_237 ⟨Nat.le_refl _, Nat.le_refl _⟩ (fun H locs hP hD hS => ?_)
        clear hc16
        refine lv_iload hx hb d_Exprs_checkField_240 (lv_at hl 0 rfl) ?_
        replace hR := bi_e hR
        obtain ⟨r17, l17, T17, hc17, hR⟩ := hR
        refine gcV_v (rest := []) ⟨hx, hb, hml, hown, hT⟩ (h_Exprs_emitPointed _ _ _ _ _ _ _ hc17) (cwV 3 hT (gV ml_Exprs_185 im_Exprs_emitPointed se_Exprs_emitPointed ini_Exprs co_Exprs_emitPointed) rfl rfl rfl pd_Exprs_emitPointed ⟨rm_hi, rm_lo (Nat.le_of_ble_eq_true rfl)⟩) hK hP hD hS hA hnw henv (Nat.le_of_ble_eq_true rfl) rfl rfl hl.1 rfl (Nat.le_of_ble_eq_true rfl) d_Exprs_checkField_242 ⟨Nat.le_refl _, Nat.le_refl _⟩ (fun H locs hP hD hS => ?_)
        clear hc17
        refine lv_iload hx hb d_Exprs_checkField_245 (lv_at hl 0 rfl) ?_
        obtain ⟨e1, -, e3⟩ := re_e hR
        subst e1; subst e3
        exact W.iret (v := r13) hx hb hr (fun t ht hW => ⟨⟨r13, (), rfl, rfl, by rw [ht]; exact hP, va_K.moved hW.alike hK, hD⟩, hS.F ht⟩) hS.2.2 d_Exprs_checkField_247
      · replace hR := if_p c15 hR
        refine lv_aload_n hx hb d_Exprs_checkField_160 rfl (lv_at hl 3 rfl) ?_
        refine lv_iload hx hb d_Exprs_checkField_161 (lv_at hl 7 rfl) ?_
        refine lv_iconst (v := 1) hx hb d_Exprs_checkField_163 (by decide) ?_
        refine lv_icmp_eq (tgt := 171) hx hb d_Exprs_checkField_164 (by decide) (fun c19 => ?_) (fun c19 => ?_)
        · replace hR := if_p c19 hR
          refine lv_iconst (v := 0) hx hb d_Exprs_checkField_171 (by decide) ?_
          refine lv_iconst (v := 4) hx hb d_Exprs_checkField_172 (by decide) ?_
          refine lv_iload_n hx hb d_Exprs_checkField_173 rfl (lv_at hl 6 rfl) ?_
          replace hR := bi_e hR
          obtain ⟨r20, l20, T20, hc20, hR⟩ := hR
          refine gcV_v (rest := []) ⟨hx, hb, hml, hown, hT⟩ (h_Exprs_demand _ _ _ _ _ _ _ hc20) (cwV 3 hT (gV ml_Exprs_111 im_Exprs_demand se_Exprs_demand ini_Exprs co_Exprs_demand) rfl rfl rfl pd_Exprs_demand ⟨rm_hi, rm_lo (Nat.le_of_ble_eq_true rfl)⟩) hK hP hD hS hA hnw henv (Nat.le_of_ble_eq_true rfl) rfl rfl hl.1 rfl (Nat.le_of_ble_eq_true rfl) d_Exprs_checkField_174 ⟨Nat.le_refl _, Nat.le_refl _⟩ (fun H locs hP hD hS => ?_)
          clear hc20
          refine lv_iload hx hb d_Exprs_checkField_177 (lv_at hl 7 rfl) ?_
          refine lv_if_ne (tgt := 190) hx hb d_Exprs_checkField_179 (by decide) (fun c21 => ?_) (fun c21 => ?_)
          · replace hR := if_n c21 hR
            have g := lb_190 T20 p4 r8 r13 hR
            rw [hG] at g
            exact g _ _ hP hD hS _ (lv_sub hl [3, 7, 1, 0] rfl)
          · replace hR := if_p c21 hR
            refine lv_aload_n hx hb d_Exprs_checkField_182 rfl (lv_at hl 3 rfl) ?_
            refine rd_Exprs_35 hx hb hT hown hK hP d_Exprs_checkField_183 ?_
            refine lv_iconst (v := 5) hx hb d_Exprs_checkField_186 (by decide) ?_
            replace hR := bi_e hR
            obtain ⟨r22, l22, T22, hc22, hR⟩ := hR
            refine gcV_v (rest := []) ⟨hx, hb, hml, hown, hT⟩ (h_Code_tally _ _ _ _ _ hc22) (cwV 1 hT (gV ml_Exprs_176 im_Code_tally se_Code_tally ini_Code co_Code_tally) rfl rfl rfl pd_Code_tally ⟨rm_hi, rm_lo (Nat.le_of_ble_eq_true rfl)⟩) hK hP hD hS hA hnw henv (Nat.le_of_ble_eq_true rfl) rfl rfl hl.1 rfl (Nat.le_of_ble_eq_true rfl) d_Exprs_checkField_187 ⟨Nat.le_refl _, Nat.le_refl _⟩ (fun H locs hP hD hS => ?_)
            clear hc22
            have g := lb_190 T22 p4 r8 r13 hR
            rw [hG] at g
            exact g _ _ hP hD hS _ (lv_sub hl [3, 7, 1, 0] rfl)
        · replace hR := if_n c19 hR
          refine lv_iconst (v := 1) hx hb d_Exprs_checkField_167 (by decide) ?_
          refine lv_goto (tgt := 172) hx hb d_Exprs_checkField_168 (by decide) ?_
          refine lv_iconst (v := 4) hx hb d_Exprs_checkField_172 (by decide) ?_
          refine lv_iload_n hx hb d_Exprs_checkField_173 rfl (lv_at hl 6 rfl) ?_
          replace hR := bi_e hR
          obtain ⟨r23, l23, T23, hc23, hR⟩ := hR
          refine gcV_v (rest := []) ⟨hx, hb, hml, hown, hT⟩ (h_Exprs_demand _ _ _ _ _ _ _ hc23) (cwV 3 hT (gV ml_Exprs_111 im_Exprs_demand se_Exprs_demand ini_Exprs co_Exprs_demand) rfl rfl rfl pd_Exprs_demand ⟨rm_hi, rm_lo (Nat.le_of_ble_eq_true rfl)⟩) hK hP hD hS hA hnw henv (Nat.le_of_ble_eq_true rfl) rfl rfl hl.1 rfl (Nat.le_of_ble_eq_true rfl) d_Exprs_checkField_174 ⟨Nat.le_refl _, Nat.le_refl _⟩ (fun H locs hP hD hS => ?_)
          clear hc23
          refine lv_iload hx hb d_Exprs_checkField_177 (lv_at hl 7 rfl) ?_
          refine lv_if_ne (tgt := 190) hx hb d_Exprs_checkField_179 (by decide) (fun c24 => ?_) (fun c24 => ?_)
          · replace hR := if_n c24 hR
            have g := lb_190 T23 p4 r8 r13 hR
            rw [hG] at g
            exact g _ _ hP hD hS _ (lv_sub hl [3, 7, 1, 0] rfl)
          · replace hR := if_p c24 hR
            refine lv_aload_n hx hb d_Exprs_checkField_182 rfl (lv_at hl 3 rfl) ?_
            refine rd_Exprs_35 hx hb hT hown hK hP d_Exprs_checkField_183 ?_
            refine lv_iconst (v := 5) hx hb d_Exprs_checkField_186 (by decide) ?_
            replace hR := bi_e hR
            obtain ⟨r25, l25, T25, hc25, hR⟩ := hR
            refine gcV_v (rest := []) ⟨hx, hb, hml, hown, hT⟩ (h_Code_tally _ _ _ _ _ hc25) (cwV 1 hT (gV ml_Exprs_176 im_Code_tally se_Code_tally ini_Code co_Code_tally) rfl rfl rfl pd_Code_tally ⟨rm_hi, rm_lo (Nat.le_of_ble_eq_true rfl)⟩) hK hP hD hS hA hnw henv (Nat.le_of_ble_eq_true rfl) rfl rfl hl.1 rfl (Nat.le_of_ble_eq_true rfl) d_Exprs_checkField_187 ⟨Nat.le_refl _, Nat.le_refl _⟩ (fun H locs hP hD hS => ?_)
            clear hc25
            have g := lb_190 T25 p4 r8 r13 hR
            rw [hG] at g
            exact g _ _ hP hD hS _ (lv_sub hl [3, 7, 1, 0] rfl)
    · replace hR := if_p c9 hR
      refine lv_aload_n hx hb d_Exprs_checkField_83 rfl (lv_at hl 2 rfl) ?_
      refine rd_Exprs_35 hx hb hT hown hK hP d_Exprs_checkField_84 ?_
      refine lv_iconst (v := 3) hx hb d_Exprs_checkField_87 (by decide) ?_
      refine lv_aload_n hx hb d_Exprs_checkField_88 rfl (lv_at hl 2 rfl) ?_
      refine rd_Exprs_9 hx hb hT hown hK hP d_Exprs_checkField_89 ?_
      refine lv_aload_n hx hb d_Exprs_checkField_92 rfl (lv_at hl 2 rfl) ?_
      refine rd_Exprs_9 hx hb hT hown hK hP d_Exprs_checkField_93 ?_
      refine rd_Exprs_146 hx hb hT hown hK hP d_Exprs_checkField_96 ?_
      refine lv_iload_n hx hb d_Exprs_checkField_99 rfl (lv_at hl 3 rfl) ?_
      replace hR := gd_e hR
      obtain ⟨b26, hR⟩ := hR
      refine laH_2 hx hb hK hP b26 d_Exprs_checkField_100 ?_
      refine lv_iconst (v := 1) hx hb d_Exprs_checkField_101 (by decide) ?_
      refine lv_iadd hx hb d_Exprs_checkField_102 ?_
      replace hR := bi_e hR
      obtain ⟨r27, l27, T27, hc27, hR⟩ := hR
      refine gcV_i (rest := [.int (3 : Int32), .ref (ad 3)]) ⟨hx, hb, hml, hown, hT⟩ (h_Source_startOf _ _ _ _ _ hc27) (cwV 1 hT (gV ml_Exprs_157 im_Source_startOf se_Source_startOf ini_Source co_Source_startOf) rfl rfl rfl pd_Source_startOf ⟨rm_hi, rm_lo (Nat.le_of_ble_eq_true rfl)⟩) hK hP hD hS hA hnw henv (Nat.le_of_ble_eq_true rfl) rfl rfl hl.1 rfl (Nat.le_of_ble_eq_true rfl) d_Exprs_checkField_103 ⟨Nat.le_refl _, Nat.le_refl _⟩ (fun H locs hP hD hS => ?_)
      clear hc27
      replace hR := bi_e hR
      obtain ⟨r28, l28, T28, hc28, hR⟩ := hR
      refine gcV_v (rest := []) ⟨hx, hb, hml, hown, hT⟩ (h_Code_note _ _ _ _ _ _ hc28) (cwV 2 hT (gV ml_Exprs_68 im_Code_note se_Code_note ini_Code co_Code_note) rfl rfl rfl pd_Code_note ⟨rm_hi, rm_lo (Nat.le_of_ble_eq_true rfl)⟩) hK hP hD hS hA hnw henv (Nat.le_of_ble_eq_true rfl) rfl rfl hl.1 rfl (Nat.le_of_ble_eq_true rfl) d_Exprs_checkField_106 ⟨Nat.le_refl _, Nat.le_refl _⟩ (fun H locs hP hD hS => ?_)
      clear hc28
      refine lv_iconst (v := 1) hx hb d_Exprs_checkField_109 (by decide) ?_
      obtain ⟨e1, -, e3⟩ := re_e hR
      subst e1; subst e3
      exact W.iret (v := (1 : Int32)) hx hb hr (fun t ht hW => ⟨⟨(1 : Int32), (), rfl, rfl, by rw [ht]; exact hP, va_K.moved hW.alike hK, hD⟩, hS.F ht⟩) hS.2.2 d_Exprs_checkField_110
  · replace hR := if_p c2 hR
    refine lv_aload_n hx hb d_Exprs_checkField_16 rfl (lv_at hl 1 rfl) ?_
    refine rd_Exprs_35 hx hb hT hown hK hP d_Exprs_checkField_17 ?_
    refine lv_iconst (v := 4) hx hb d_Exprs_checkField_20 (by decide) ?_
    refine lv_iload_n hx hb d_Exprs_checkField_21 rfl (lv_at hl 4 rfl) ?_
    replace hR := bi_e hR
    obtain ⟨r30, l30, T30, hc30, hR⟩ := hR
    refine gcV_v (rest := []) ⟨hx, hb, hml, hown, hT⟩ (h_Code_note _ _ _ _ _ _ hc30) (cwV 2 hT (gV ml_Exprs_68 im_Code_note se_Code_note ini_Code co_Code_note) rfl rfl rfl pd_Code_note ⟨rm_hi, rm_lo (Nat.le_of_ble_eq_true rfl)⟩) hK hP hD hS hA hnw henv (Nat.le_of_ble_eq_true rfl) rfl rfl hl.1 rfl (Nat.le_of_ble_eq_true rfl) d_Exprs_checkField_22 ⟨Nat.le_refl _, Nat.le_refl _⟩ (fun H locs hP hD hS => ?_)
    clear hc30
    refine lv_iconst (v := 1) hx hb d_Exprs_checkField_25 (by decide) ?_
    obtain ⟨e1, -, e3⟩ := re_e hR
    subst e1; subst e3
    exact W.iret (v := (1 : Int32)) hx hb hr (fun t ht hW => ⟨⟨(1 : Int32), (), rfl, rfl, by rw [ht]; exact hP, va_K.moved hW.alike hK, hD⟩, hS.F ht⟩) hS.2.2 d_Exprs_checkField_26
set_option maxHeartbeats 4000000 in
set_option maxRecDepth 100000 in
theorem sp_Exprs_emitPointed (l : Launch) (dC : Nat → ClassId) (dI : Nat → Nat → Nat) (ea ev ad : Nat → Nat) (km : Nat → ClassId) (F : gF) (nf d : Nat) (h_Types_wordsOf : mt_Types_wordsOf l dC dI ea ev ad km F d) (h_Code_emit : mt_Code_emit l dC dI ea ev ad km F d) (T0 : gSt) (p1 : Int32) (p2 : Int32) (p3 : Int32) (r0 : Int32) (rl0 : Int64) (T9 : gSt) (hR : rb_Exprs_emitPointed F nf T0 p1 p2 p3 = some (r0, rl0, T9)) : GMv l dC dI LH ad km ea ev y_Exprs_emitPointed w_Exprs_emitPointed (rmD (d + 1)) [.ref (ad 8), .int p1, .int p2, .int p3] T0 T9 := by
  intro sz
  refine Met.ofW (cc := b_Exprs_emitPointed) (maxL := 4) (ret := none) (by decide) rfl ?_
  intro p e s m args below meth c s₁ B hml hv
  obtain ⟨rfl, hsz, hP, hK, hD0, hnw, henv⟩ := hv
  have hx := B.exec
  have hb := B.bytes
  have hr := B.returns
  have hT : ∀ w ∈ lw_good, w.before _ s = true := fun w h => atoms_spec (ws := w_Exprs_emitPointed) B.pre w (List.mem_cons_of_mem _ h)
  have hown : s.vm.findClass R_Exprs = some m.cls := findClass_of_methodNamed B.named
  subst hsz
  have hD := hD0.self (sz := s.heap.size)
  clear hD0
  generalize hAe : va_A (gW LH ad km T0) s.heap.size = A at hD henv ⊢
  have hA : ∀ q : Nat, s.heap.size ≤ q → A q := fun q h => by rw [← hAe]; exact Or.inr h
  have hS : va_S A s.heap s.heap [] := va_S.rf
  have hl := lv_entry ([.ref (ad 8), .int p1, .int p2, .int p3]) (n := 4) (Nat.le_of_ble_eq_true rfl)
  rw [lg_entry_eq]
  generalize (lg_sl ([.ref (ad 8), .int p1, .int p2, .int p3]) ++ List.replicate (4 - (lg_sl ([.ref (ad 8), .int p1, .int p2, .int p3])).length) Slot.unset).toArray = ls at hl ⊢
  have hl : lv_has ls 4 [(0, .ref (ad 8)), (1, .int p1), (2, .int p2), (3, .int p3)] := hl
  unfold rb_Exprs_emitPointed at hR
  refine lv_aload_n hx hb d_Exprs_emitPointed_0 rfl (lv_at hl 0 rfl) ?_
  refine rd_Exprs_35 hx hb hT hown hK hP d_Exprs_emitPointed_1 ?_
  refine lv_iload_n hx hb d_Exprs_emitPointed_4 rfl (lv_at hl 1 rfl) ?_
  refine lv_if_ne (tgt := 13) hx hb d_Exprs_emitPointed_5 (by decide) (fun c1 => ?_) (fun c1 => ?_)
  · replace hR := if_n c1 hR
    refine lv_iload_n hx hb d_Exprs_emitPointed_13 rfl (lv_at hl 1 rfl) ?_
    refine lv_iconst (v := 1) hx hb d_Exprs_emitPointed_14 (by decide) ?_
    refine lv_icmp_ne (tgt := 23) hx hb d_Exprs_emitPointed_15 (by decide) (fun c2 => ?_) (fun c2 => ?_)
    · replace hR := if_n c2 hR
      refine lv_bipush (v := 25) hx hb d_Exprs_emitPointed_23 (by decide) ?_
      refine lv_iload_n hx hb d_Exprs_emitPointed_25 rfl (lv_at hl 2 rfl) ?_
      refine lv_aload_n hx hb d_Exprs_emitPointed_26 rfl (lv_at hl 0 rfl) ?_
      refine rd_Exprs_29 hx hb hT hown hK hP d_Exprs_emitPointed_27 ?_
      refine lv_iload_n hx hb d_Exprs_emitPointed_30 rfl (lv_at hl 3 rfl) ?_
      replace hR := bi_e hR
      obtain ⟨r3, l3, T3, hc3, hR⟩ := hR
      refine gcV_i (rest := [.int p2, .int (25 : Int32), .ref (ad 3)]) ⟨hx, hb, hml, hown, hT⟩ (h_Types_wordsOf _ _ _ _ _ hc3) (cwV 1 hT (gV ml_Exprs_179 im_Types_wordsOf se_Types_wordsOf ini_Types co_Types_wordsOf) rfl rfl rfl pd_Types_wordsOf ⟨rm_hi, rm_lo (Nat.le_of_ble_eq_true rfl)⟩) hK hP hD hS hA hnw henv (Nat.le_of_ble_eq_true rfl) rfl rfl hl.1 rfl (Nat.le_of_ble_eq_true rfl) d_Exprs_emitPointed_31 ⟨Nat.le_refl _, Nat.le_refl _⟩ (fun H locs hP hD hS => ?_)
      clear hc3
      replace hR := bi_e hR
      obtain ⟨r4, l4, T4, hc4, hR⟩ := hR
      refine gcV_i (rest := []) ⟨hx, hb, hml, hown, hT⟩ (h_Code_emit _ _ _ _ _ _ _ hc4) (cwV 3 hT (gV ml_Exprs_94 im_Code_emit se_Code_emit ini_Code co_Code_emit) rfl rfl rfl pd_Code_emit ⟨rm_hi, rm_lo (Nat.le_of_ble_eq_true rfl)⟩) hK hP hD hS hA hnw henv (Nat.le_of_ble_eq_true rfl) rfl rfl hl.1 rfl (Nat.le_of_ble_eq_true rfl) d_Exprs_emitPointed_34 ⟨Nat.le_refl _, Nat.le_refl _⟩ (fun H locs hP hD hS => ?_)
      clear hc4
      refine lv_pop hx hb d_Exprs_emitPointed_37 rfl ?_
      obtain ⟨-, -, e3⟩ := re_e hR
      subst e3
      exact W.vret hx hb hr (fun t ht hW => ⟨⟨(), rfl, trivial, by rw [ht]; exact hP, va_K.moved hW.alike hK, hD⟩, hS.F ht⟩) hS.2.2 d_Exprs_emitPointed_38
    · replace hR := if_p c2 hR
      refine lv_bipush (v := 24) hx hb d_Exprs_emitPointed_18 (by decide) ?_
      refine lv_goto (tgt := 25) hx hb d_Exprs_emitPointed_20 (by decide) ?_
      refine lv_iload_n hx hb d_Exprs_emitPointed_25 rfl (lv_at hl 2 rfl) ?_
      refine lv_aload_n hx hb d_Exprs_emitPointed_26 rfl (lv_at hl 0 rfl) ?_
      refine rd_Exprs_29 hx hb hT hown hK hP d_Exprs_emitPointed_27 ?_
      refine lv_iload_n hx hb d_Exprs_emitPointed_30 rfl (lv_at hl 3 rfl) ?_
      replace hR := bi_e hR
      obtain ⟨r5, l5, T5, hc5, hR⟩ := hR
      refine gcV_i (rest := [.int p2, .int (24 : Int32), .ref (ad 3)]) ⟨hx, hb, hml, hown, hT⟩ (h_Types_wordsOf _ _ _ _ _ hc5) (cwV 1 hT (gV ml_Exprs_179 im_Types_wordsOf se_Types_wordsOf ini_Types co_Types_wordsOf) rfl rfl rfl pd_Types_wordsOf ⟨rm_hi, rm_lo (Nat.le_of_ble_eq_true rfl)⟩) hK hP hD hS hA hnw henv (Nat.le_of_ble_eq_true rfl) rfl rfl hl.1 rfl (Nat.le_of_ble_eq_true rfl) d_Exprs_emitPointed_31 ⟨Nat.le_refl _, Nat.le_refl _⟩ (fun H locs hP hD hS => ?_)
      clear hc5
      replace hR := bi_e hR
      obtain ⟨r6, l6, T6, hc6, hR⟩ := hR
      refine gcV_i (rest := []) ⟨hx, hb, hml, hown, hT⟩ (h_Code_emit _ _ _ _ _ _ _ hc6) (cwV 3 hT (gV ml_Exprs_94 im_Code_emit se_Code_emit ini_Code co_Code_emit) rfl rfl rfl pd_Code_emit ⟨rm_hi, rm_lo (Nat.le_of_ble_eq_true rfl)⟩) hK hP hD hS hA hnw henv (Nat.le_of_ble_eq_true rfl) rfl rfl hl.1 rfl (Nat.le_of_ble_eq_true rfl) d_Exprs_emitPointed_34 ⟨Nat.le_refl _, Nat.le_refl _⟩ (fun H locs hP hD hS => ?_)
      clear hc6
      refine lv_pop hx hb d_Exprs_emitPointed_37 rfl ?_
      obtain ⟨-, -, e3⟩ := re_e hR
      subst e3
      exact W.vret hx hb hr (fun t ht hW => ⟨⟨(), rfl, trivial, by rw [ht]; exact hP, va_K.moved hW.alike hK, hD⟩, hS.F ht⟩) hS.2.2 d_Exprs_emitPointed_38
  · replace hR := if_p c1 hR
    refine lv_bipush (v := 20) hx hb d_Exprs_emitPointed_8 (by decide) ?_
    refine lv_goto (tgt := 25) hx hb d_Exprs_emitPointed_10 (by decide) ?_
    refine lv_iload_n hx hb d_Exprs_emitPointed_25 rfl (lv_at hl 2 rfl) ?_
    refine lv_aload_n hx hb d_Exprs_emitPointed_26 rfl (lv_at hl 0 rfl) ?_
    refine rd_Exprs_29 hx hb hT hown hK hP d_Exprs_emitPointed_27 ?_
    refine lv_iload_n hx hb d_Exprs_emitPointed_30 rfl (lv_at hl 3 rfl) ?_
    replace hR := bi_e hR
    obtain ⟨r7, l7, T7, hc7, hR⟩ := hR
    refine gcV_i (rest := [.int p2, .int (20 : Int32), .ref (ad 3)]) ⟨hx, hb, hml, hown, hT⟩ (h_Types_wordsOf _ _ _ _ _ hc7) (cwV 1 hT (gV ml_Exprs_179 im_Types_wordsOf se_Types_wordsOf ini_Types co_Types_wordsOf) rfl rfl rfl pd_Types_wordsOf ⟨rm_hi, rm_lo (Nat.le_of_ble_eq_true rfl)⟩) hK hP hD hS hA hnw henv (Nat.le_of_ble_eq_true rfl) rfl rfl hl.1 rfl (Nat.le_of_ble_eq_true rfl) d_Exprs_emitPointed_31 ⟨Nat.le_refl _, Nat.le_refl _⟩ (fun H locs hP hD hS => ?_)
    clear hc7
    replace hR := bi_e hR
    obtain ⟨r8, l8, T8, hc8, hR⟩ := hR
    refine gcV_i (rest := []) ⟨hx, hb, hml, hown, hT⟩ (h_Code_emit _ _ _ _ _ _ _ hc8) (cwV 3 hT (gV ml_Exprs_94 im_Code_emit se_Code_emit ini_Code co_Code_emit) rfl rfl rfl pd_Code_emit ⟨rm_hi, rm_lo (Nat.le_of_ble_eq_true rfl)⟩) hK hP hD hS hA hnw henv (Nat.le_of_ble_eq_true rfl) rfl rfl hl.1 rfl (Nat.le_of_ble_eq_true rfl) d_Exprs_emitPointed_34 ⟨Nat.le_refl _, Nat.le_refl _⟩ (fun H locs hP hD hS => ?_)
    clear hc8
    refine lv_pop hx hb d_Exprs_emitPointed_37 rfl ?_
    obtain ⟨-, -, e3⟩ := re_e hR
    subst e3
    exact W.vret hx hb hr (fun t ht hW => ⟨⟨(), rfl, trivial, by rw [ht]; exact hP, va_K.moved hW.alike hK, hD⟩, hS.F ht⟩) hS.2.2 d_Exprs_emitPointed_38
set_option maxHeartbeats 4000000 in
set_option maxRecDepth 100000 in
theorem sp_Exprs_countNull (l : Launch) (dC : Nat → ClassId) (dI : Nat → Nat → Nat) (ea ev ad : Nat → Nat) (km : Nat → ClassId) (F : gF) (nf d : Nat) (h_Types_kindOf : mt_Types_kindOf l dC dI ea ev ad km F d) (h_Code_tally : mt_Code_tally l dC dI ea ev ad km F d) (T0 : gSt) (p1 : Int32) (r0 : Int32) (rl0 : Int64) (T9 : gSt) (hR : rb_Exprs_countNull F nf T0 p1 = some (r0, rl0, T9)) : GMv l dC dI LH ad km ea ev y_Exprs_countNull w_Exprs_countNull (rmD (d + 1)) [.ref (ad 8), .int p1] T0 T9 := by
  intro sz
  refine Met.ofW (cc := b_Exprs_countNull) (maxL := 2) (ret := none) (by decide) rfl ?_
  intro p e s m args below meth c s₁ B hml hv
  obtain ⟨rfl, hsz, hP, hK, hD0, hnw, henv⟩ := hv
  have hx := B.exec
  have hb := B.bytes
  have hr := B.returns
  have hT : ∀ w ∈ lw_good, w.before _ s = true := fun w h => atoms_spec (ws := w_Exprs_countNull) B.pre w (List.mem_cons_of_mem _ h)
  have hown : s.vm.findClass R_Exprs = some m.cls := findClass_of_methodNamed B.named
  subst hsz
  have hD := hD0.self (sz := s.heap.size)
  clear hD0
  generalize hAe : va_A (gW LH ad km T0) s.heap.size = A at hD henv ⊢
  have hA : ∀ q : Nat, s.heap.size ≤ q → A q := fun q h => by rw [← hAe]; exact Or.inr h
  have hS : va_S A s.heap s.heap [] := va_S.rf
  have hl := lv_entry ([.ref (ad 8), .int p1]) (n := 2) (Nat.le_of_ble_eq_true rfl)
  rw [lg_entry_eq]
  generalize (lg_sl ([.ref (ad 8), .int p1]) ++ List.replicate (2 - (lg_sl ([.ref (ad 8), .int p1])).length) Slot.unset).toArray = ls at hl ⊢
  have hl : lv_has ls 2 [(0, .ref (ad 8)), (1, .int p1)] := hl
  unfold rb_Exprs_countNull at hR
  refine lv_aload_n hx hb d_Exprs_countNull_0 rfl (lv_at hl 0 rfl) ?_
  refine rd_Exprs_29 hx hb hT hown hK hP d_Exprs_countNull_1 ?_
  refine lv_iload_n hx hb d_Exprs_countNull_4 rfl (lv_at hl 1 rfl) ?_
  replace hR := bi_e hR
  obtain ⟨r1, l1, T1, hc1, hR⟩ := hR
  refine gcV_i (rest := []) ⟨hx, hb, hml, hown, hT⟩ (h_Types_kindOf _ _ _ _ _ hc1) (cwV 1 hT (gV ml_Exprs_74 im_Types_kindOf se_Types_kindOf ini_Types co_Types_kindOf) rfl rfl rfl pd_Types_kindOf ⟨rm_hi, rm_lo (Nat.le_of_ble_eq_true rfl)⟩) hK hP hD hS hA hnw henv (Nat.le_of_ble_eq_true rfl) rfl rfl hl.1 rfl (Nat.le_of_ble_eq_true rfl) d_Exprs_countNull_5 ⟨Nat.le_refl _, Nat.le_refl _⟩ (fun H locs hP hD hS => ?_)
  clear hc1
  refine lv_iconst (v := 4) hx hb d_Exprs_countNull_8 (by decide) ?_
  refine lv_icmp_ne (tgt := 20) hx hb d_Exprs_countNull_9 (by decide) (fun c2 => ?_) (fun c2 => ?_)
  · replace hR := if_n c2 hR
    obtain ⟨-, -, e3⟩ := re_e hR
    subst e3
    exact W.vret hx hb hr (fun t ht hW => ⟨⟨(), rfl, trivial, by rw [ht]; exact hP, va_K.moved hW.alike hK, hD⟩, hS.F ht⟩) hS.2.2 d_Exprs_countNull_20
  · replace hR := if_p c2 hR
    refine lv_aload_n hx hb d_Exprs_countNull_12 rfl (lv_at hl 0 rfl) ?_
    refine rd_Exprs_35 hx hb hT hown hK hP d_Exprs_countNull_13 ?_
    refine lv_iconst (v := 3) hx hb d_Exprs_countNull_16 (by decide) ?_
    replace hR := bi_e hR
    obtain ⟨r3, l3, T3, hc3, hR⟩ := hR
    refine gcV_v (rest := []) ⟨hx, hb, hml, hown, hT⟩ (h_Code_tally _ _ _ _ _ hc3) (cwV 1 hT (gV ml_Exprs_176 im_Code_tally se_Code_tally ini_Code co_Code_tally) rfl rfl rfl pd_Code_tally ⟨rm_hi, rm_lo (Nat.le_of_ble_eq_true rfl)⟩) hK hP hD hS hA hnw henv (Nat.le_of_ble_eq_true rfl) rfl rfl hl.1 rfl (Nat.le_of_ble_eq_true rfl) d_Exprs_countNull_17 ⟨Nat.le_refl _, Nat.le_refl _⟩ (fun H locs hP hD hS => ?_)
    clear hc3
    obtain ⟨-, -, e3⟩ := re_e hR
    subst e3
    exact W.vret hx hb hr (fun t ht hW => ⟨⟨(), rfl, trivial, by rw [ht]; exact hP, va_K.moved hW.alike hK, hD⟩, hS.F ht⟩) hS.2.2 d_Exprs_countNull_20
set_option maxHeartbeats 4000000 in
set_option maxRecDepth 100000 in
theorem sp_Exprs_checkIndex (l : Launch) (dC : Nat → ClassId) (dI : Nat → Nat → Nat) (ea ev ad : Nat → Nat) (km : Nat → ClassId) (F : gF) (nf d : Nat) (h_Exprs_check : mt_Exprs_check l dC dI ea ev ad km F d) (h_Types_kindOf : mt_Types_kindOf l dC dI ea ev ad km F d) (h_Types_regionOf : mt_Types_regionOf l dC dI ea ev ad km F d) (h_Scope_isLive : mt_Scope_isLive l dC dI ea ev ad km F d) (h_Exprs_demand : mt_Exprs_demand l dC dI ea ev ad km F d) (h_Code_note : mt_Code_note l dC dI ea ev ad km F d) (h_Source_beginOf : mt_Source_beginOf l dC dI ea ev ad km F d) (h_Code_tally : mt_Code_tally l dC dI ea ev ad km F d) (h_Types_behind : mt_Types_behind l dC dI ea ev ad km F d) (h_Types_wordsOf : mt_Types_wordsOf l dC dI ea ev ad km F d) (h_Code_emit : mt_Code_emit l dC dI ea ev ad km F d) (T0 : gSt) (p1 : Int32) (p2 : Int32) (p3 : Int32) (p4 : Int32) (p5 : Int32) (r0 : Int32) (rl0 : Int64) (T9 : gSt) (hR : rb_Exprs_checkIndex F nf T0 p1 p2 p3 p4 p5 = some (r0, rl0, T9)) : GMi l dC dI LH ad km ea ev y_Exprs_checkIndex w_Exprs_checkIndex (rmD (d + 1)) [.ref (ad 8), .int p1, .int p2, .int p3, .int p4, .int p5] T0 r0 T9 := by
  intro sz
  refine Met.ofW (cc := b_Exprs_checkIndex) (maxL := 10) (ret := (some .int)) (by decide) rfl ?_
  intro p e s m args below meth c s₁ B hml hv
  obtain ⟨rfl, hsz, hP, hK, hD0, hnw, henv⟩ := hv
  have hx := B.exec
  have hb := B.bytes
  have hr := B.returns
  have hT : ∀ w ∈ lw_good, w.before _ s = true := fun w h => atoms_spec (ws := w_Exprs_checkIndex) B.pre w (List.mem_cons_of_mem _ h)
  have hown : s.vm.findClass R_Exprs = some m.cls := findClass_of_methodNamed B.named
  subst hsz
  have hD := hD0.self (sz := s.heap.size)
  clear hD0
  generalize hAe : va_A (gW LH ad km T0) s.heap.size = A at hD henv ⊢
  have hA : ∀ q : Nat, s.heap.size ≤ q → A q := fun q h => by rw [← hAe]; exact Or.inr h
  have hS : va_S A s.heap s.heap [] := va_S.rf
  have hl := lv_entry ([.ref (ad 8), .int p1, .int p2, .int p3, .int p4, .int p5]) (n := 10) (Nat.le_of_ble_eq_true rfl)
  rw [lg_entry_eq]
  generalize (lg_sl ([.ref (ad 8), .int p1, .int p2, .int p3, .int p4, .int p5]) ++ List.replicate (10 - (lg_sl ([.ref (ad 8), .int p1, .int p2, .int p3, .int p4, .int p5])).length) Slot.unset).toArray = ls at hl ⊢
  have hl : lv_has ls 10 [(0, .ref (ad 8)), (1, .int p1), (2, .int p2), (3, .int p3), (4, .int p4), (5, .int p5)] := hl
  obtain ⟨G, hG⟩ : ∃ G : Nat → List (Nat × Value) → List Value → gSt → Prop, G = (fun pc lv stk T => ∀ (H : Heap) (locs : List Loc), va_P (dC, dI) cls_all (gW LH ad km T) H → va_D A (gW LH ad km T) → va_S A s.heap H locs → ∀ (ls : Array Slot), lv_has ls 10 lv → W p l e (headSpec w_Exprs_checkIndex (rmD (d + 1))).room s m ([.ref (ad 8), .int p1, .int p2, .int p3, .int p4, .int p5] : List Value).toArray below meth c H locs 0 0 (MQ below (va_Qi (fun (z : Int32) (_ : Unit) => z = r0) (fun _ t => gPost dC dI LH ad km T9 A t) A) ([.ref (ad 8), .int p1, .int p2, .int p3, .int p4, .int p5] : List Value).toArray s 0 0 A) (F0 m pc ls stk)) := ⟨_, rfl⟩
  have lb_133 : ∀ (T : gSt) (x8 : Int32) (y0 : Int32), rj_Exprs_checkIndex_133 F nf T x8 y0 = some (r0, rl0, T9) → G 133 [(0, .ref (ad 8)), (8, .int x8)] [.int y0] T := by
    intro T x8 y0 hR; unfold rj_Exprs_checkIndex_133 at hR; rw [hG]; intro H locs hP hD hS ls hl
    refine lv_istore (lv' := [(9, .int y0), (0, .ref (ad 8)), (8, .int x8)]) hx hb d_Exprs_checkIndex_133 hl (by decide) rfl (fun ls hl => ?_)
    refine lv_aload_n hx hb d_Exprs_checkIndex_135 rfl (lv_at hl 1 rfl) ?_
    refine rd_Exprs_35 hx hb hT hown hK hP d_Exprs_checkIndex_136 ?_
    refine lv_iload hx hb d_Exprs_checkIndex_139 (lv_at hl 0 rfl) ?_
    refine lv_iconst (v := 0) hx hb d_Exprs_checkIndex_141 (by decide) ?_
    refine lv_aload_n hx hb d_Exprs_checkIndex_142 rfl (lv_at hl 1 rfl) ?_
    refine rd_Exprs_29 hx hb hT hown hK hP d_Exprs_checkIndex_143 ?_
    refine lv_iload hx hb d_Exprs_checkIndex_146 (lv_at hl 2 rfl) ?_
    replace hR := bi_e hR
    obtain ⟨r18, l18, T18, hc18, hR⟩ := hR
    refine gcV_i (rest := [.int (0 : Int32), .int y0, .ref (ad 3)]) ⟨hx, hb, hml, hown, hT⟩ (h_Types_wordsOf _ _ _ _ _ hc18) (cwV 1 hT (gV ml_Exprs_179 im_Types_wordsOf se_Types_wordsOf ini_Types co_Types_wordsOf) rfl rfl rfl pd_Types_wordsOf ⟨rm_hi, rm_lo (Nat.le_of_ble_eq_true rfl)⟩) hK hP hD hS hA hnw henv (Nat.le_of_ble_eq_true rfl) rfl rfl hl.1 rfl (Nat.le_of_ble_eq_true rfl) d_Exprs_checkIndex_148 ⟨Nat.le_refl _, Nat.le_refl _⟩ (fun H locs hP hD hS => ?_)
    clear hc18
    replace hR := bi_e hR
    obtain ⟨r19, l19, T19, hc19, hR⟩ := hR
    refine gcV_i (rest := []) ⟨hx, hb, hml, hown, hT⟩ (h_Code_emit _ _ _ _ _ _ _ hc19) (cwV 3 hT (gV ml_Exprs_94 im_Code_emit se_Code_emit ini_Code co_Code_emit) rfl rfl rfl pd_Code_emit ⟨rm_hi, rm_lo (Nat.le_of_ble_eq_true rfl)⟩) hK hP hD hS hA hnw henv (Nat.le_of_ble_eq_true rfl) rfl rfl hl.1 rfl (Nat.le_of_ble_eq_true rfl) d_Exprs_checkIndex_151 ⟨Nat.le_refl _, Nat.le_refl _⟩ (fun H locs hP hD hS => ?_)
    clear hc19
    refine lv_pop hx hb d_Exprs_checkIndex_154 rfl ?_
    refine lv_iload hx hb d_Exprs_checkIndex_155 (lv_at hl 2 rfl) ?_
    obtain ⟨e1, -, e3⟩ := re_e hR
    subst e1; subst e3
    exact W.iret (v := x8) hx hb hr (fun t ht hW => ⟨⟨x8, (), rfl, rfl, by rw [ht]; exact hP, va_K.moved hW.alike hK, hD⟩, hS.F ht⟩) hS.2.2 d_Exprs_checkIndex_157
  have lb_79 : ∀ (T : gSt) (x2 : Int32) (x4 : Int32) (x6 : Int32) (y0 : Int32), rj_Exprs_checkIndex_79 F nf T x2 x4 x6 y0 = some (r0, rl0, T9) → G 79 [(0, .ref (ad 8)), (2, .int x2), (4, .int x4), (6, .int x6)] [.int y0, .ref (ad 8)] T := by
    intro T x2 x4 x6 y0 hR; unfold rj_Exprs_checkIndex_79 at hR; rw [hG]; intro H locs hP hD hS ls hl
    refine lv_iconst (v := 4) hx hb d_Exprs_checkIndex_79 (by decide) ?_
    refine lv_aload_n hx hb d_Exprs_checkIndex_80 rfl (lv_at hl 0 rfl) ?_
    refine rd_Exprs_9 hx hb hT hown hK hP d_Exprs_checkIndex_81 ?_
    refine lv_iload hx hb d_Exprs_checkIndex_84 (lv_at hl 3 rfl) ?_
    replace hR := bi_e hR
    obtain ⟨r12, l12, T12, hc12, hR⟩ := hR
    refine gcV_i (rest := [.int (4 : Int32), .int y0, .ref (ad 8)]) ⟨hx, hb, hml, hown, hT⟩ (h_Source_beginOf _ _ _ _ _ hc12) (cwV 1 hT (gV ml_Exprs_64 im_Source_beginOf se_Source_beginOf ini_Source co_Source_beginOf) rfl rfl rfl pd_Source_beginOf ⟨rm_hi, rm_lo (Nat.le_of_ble_eq_true rfl)⟩) hK hP hD hS hA hnw henv (Nat.le_of_ble_eq_true rfl) rfl rfl hl.1 rfl (Nat.le_of_ble_eq_true rfl) d_Exprs_checkIndex_86 ⟨Nat.le_refl _, Nat.le_refl _⟩ (fun H locs hP hD hS => ?_)
    clear hc12
    replace hR := bi_e hR
    obtain ⟨r13, l13, T13, hc13, hR⟩ := hR
    refine gcV_v (rest := []) ⟨hx, hb, hml, hown, hT⟩ (h_Exprs_demand _ _ _ _ _ _ _ hc13) (cwV 3 hT (gV ml_Exprs_111 im_Exprs_demand se_Exprs_demand ini_Exprs co_Exprs_demand) rfl rfl rfl pd_Exprs_demand ⟨rm_hi, rm_lo (Nat.le_of_ble_eq_true rfl)⟩) hK hP hD hS hA hnw henv (Nat.le_of_ble_eq_true rfl) rfl rfl hl.1 rfl (Nat.le_of_ble_eq_true rfl) d_Exprs_checkIndex_89 ⟨Nat.le_refl _, Nat.le_refl _⟩ (fun H locs hP hD hS => ?_)
    clear hc13
    refine lv_aload_n hx hb d_Exprs_checkIndex_92 rfl (lv_at hl 0 rfl) ?_
    refine rd_Exprs_35 hx hb hT hown hK hP d_Exprs_checkIndex_93 ?_
    refine lv_iconst (v := 4) hx hb d_Exprs_checkIndex_96 (by decide) ?_
    replace hR := bi_e hR
    obtain ⟨r14, l14, T14, hc14, hR⟩ := hR
    refine gcV_v (rest := []) ⟨hx, hb, hml, hown, hT⟩ (h_Code_tally _ _ _ _ _ hc14) (cwV 1 hT (gV ml_Exprs_176 im_Code_tally se_Code_tally ini_Code co_Code_tally) rfl rfl rfl pd_Code_tally ⟨rm_hi, rm_lo (Nat.le_of_ble_eq_true rfl)⟩) hK hP hD hS hA hnw henv (Nat.le_of_ble_eq_true rfl) rfl rfl hl.1 rfl (Nat.le_of_ble_eq_true rfl) d_Exprs_checkIndex_97 ⟨Nat.le_refl _, Nat.le_refl _⟩ (fun H locs hP hD hS => ?_)
    clear hc14
    refine lv_aload_n hx hb d_Exprs_checkIndex_100 rfl (lv_at hl 0 rfl) ?_
    refine rd_Exprs_29 hx hb hT hown hK hP d_Exprs_checkIndex_101 ?_
    refine lv_iload_n hx hb d_Exprs_checkIndex_104 rfl (lv_at hl 1 rfl) ?_
    replace hR := bi_e hR
    obtain ⟨r15, l15, T15, hc15, hR⟩ := hR
    refine gcV_i (rest := []) ⟨hx, hb, hml, hown, hT⟩ (h_Types_behind _ _ _ _ _ hc15) (cwV 1 hT (gV ml_Exprs_79 im_Types_behind se_Types_behind ini_Types co_Types_behind) rfl rfl rfl pd_Types_behind ⟨rm_hi, rm_lo (Nat.le_of_ble_eq_true rfl)⟩) hK hP hD hS hA hnw henv (Nat.le_of_ble_eq_true rfl) rfl rfl hl.1 rfl (Nat.le_of_ble_eq_true rfl) d_Exprs_checkIndex_105 ⟨Nat.le_refl _, Nat.le_refl _⟩ (fun H locs hP hD hS => ?_)
    clear hc15
    refine lv_istore (lv' := [(8, .int r15), (0, .ref (ad 8)), (2, .int x2), (4, .int x4), (6, .int x6)]) hx hb d_Exprs_checkIndex_108 hl (by decide) rfl (fun ls hl => ?_)
    refine lv_iload hx hb d_Exprs_checkIndex_110 (lv_at hl 3 rfl) ?_
    refine lv_if_ne (tgt := 120) hx hb d_Exprs_checkIndex_112 (by decide) (fun c16 => ?_) (fun c16 => ?_)
    · replace hR := if_n c16 hR
      refine lv_iload hx hb d_Exprs_checkIndex_120 (lv_at hl 3 rfl) ?_
      refine lv_iconst (v := 1) hx hb d_Exprs_checkIndex_122 (by decide) ?_
      refine lv_icmp_ne (tgt := 131) hx hb d_Exprs_checkIndex_123 (by decide) (fun c17 => ?_) (fun c17 => ?_)
      · replace hR := if_n c17 hR
        refine lv_bipush (v := 32) hx hb d_Exprs_checkIndex_131 (by decide) ?_
        have g := lb_133 T15 r15 (32 : Int32) hR
        rw [hG] at g
        exact g _ _ hP hD hS _ (lv_sub hl [1, 0] rfl)
      · replace hR := if_p c17 hR
        refine lv_bipush (v := 31) hx hb d_Exprs_checkIndex_126 (by decide) ?_
        refine lv_goto (tgt := 133) hx hb d_Exprs_checkIndex_128 (by decide) ?_
        have g := lb_133 T15 r15 (31 : Int32) hR
        rw [hG] at g
        exact g _ _ hP hD hS _ (lv_sub hl [1, 0] rfl)
    · replace hR := if_p c16 hR
      refine lv_bipush (v := 30) hx hb d_Exprs_checkIndex_115 (by decide) ?_
      refine lv_goto (tgt := 133) hx hb d_Exprs_checkIndex_117 (by decide) ?_
      have g := lb_133 T15 r15 (30 : Int32) hR
      rw [hG] at g
      exact g _ _ hP hD hS _ (lv_sub hl [1, 0] rfl)
  unfold rb_Exprs_checkIndex at hR
  refine lv_aload_n hx hb d_Exprs_checkIndex_0 rfl (lv_at hl 0 rfl) ?_
  refine rd_Exprs_9 hx hb hT hown hK hP d_Exprs_checkIndex_1 ?_
  refine rd_Exprs_188 hx hb hT hown hK hP d_Exprs_checkIndex_4 ?_
  refine lv_iload_n hx hb d_Exprs_checkIndex_7 rfl (lv_at hl 1 rfl) ?_
  replace hR := gd_e hR
  obtain ⟨b1, hR⟩ := hR
  refine laH_7 hx hb hK hP b1 d_Exprs_checkIndex_8 ?_
  refine lv_topi (fun z2 e2 => ?_)
  replace hR := vK_e e2 hR
  refine lv_istore (lv' := [(6, .int z2), (0, .ref (ad 8)), (1, .int p1), (2, .int p2), (3, .int p3), (4, .int p4), (5, .int p5)]) hx hb d_Exprs_checkIndex_9 hl (by decide) rfl (fun ls hl => ?_)
  refine lv_aload_n hx hb d_Exprs_checkIndex_11 rfl (lv_at hl 1 rfl) ?_
  refine lv_iload hx hb d_Exprs_checkIndex_12 (lv_at hl 0 rfl) ?_
  refine lv_iload hx hb d_Exprs_checkIndex_14 (lv_at hl 6 rfl) ?_
  refine lv_iconst (v := 1) hx hb d_Exprs_checkIndex_16 (by decide) ?_
  refine lv_iadd hx hb d_Exprs_checkIndex_17 ?_
  replace hR := bi_e hR
  obtain ⟨r3, l3, T3, hc3, hR⟩ := hR
  refine gcV_i (rest := []) ⟨hx, hb, hml, hown, hT⟩ (h_Exprs_check _ _ _ _ _ _ hc3) (cwV 2 hT (gV ml_Exprs_53 im_Exprs_check se_Exprs_check ini_Exprs co_Exprs_check) rfl rfl rfl pd_Exprs_check ⟨rm_hi, rm_lo (Nat.le_of_ble_eq_true rfl)⟩) hK hP hD hS hA hnw henv (Nat.le_of_ble_eq_true rfl) rfl rfl hl.1 rfl (Nat.le_of_ble_eq_true rfl) d_Exprs_checkIndex_18 ⟨Nat.le_refl _, Nat.le_refl _⟩ (fun H locs hP hD hS => ?_)
  clear hc3
  refine lv_istore (lv' := [(7, .int r3), (6, .int z2), (0, .ref (ad 8)), (1, .int p1), (2, .int p2), (3, .int p3), (4, .int p4), (5, .int p5)]) hx hb d_Exprs_checkIndex_21 hl (by decide) rfl (fun ls hl => ?_)
  refine lv_aload_n hx hb d_Exprs_checkIndex_23 rfl (lv_at hl 2 rfl) ?_
  refine rd_Exprs_29 hx hb hT hown hK hP d_Exprs_checkIndex_24 ?_
  refine lv_iload_n hx hb d_Exprs_checkIndex_27 rfl (lv_at hl 4 rfl) ?_
  replace hR := bi_e hR
  obtain ⟨r4, l4, T4, hc4, hR⟩ := hR
  refine gcV_i (rest := []) ⟨hx, hb, hml, hown, hT⟩ (h_Types_kindOf _ _ _ _ _ hc4) (cwV 1 hT (gV ml_Exprs_74 im_Types_kindOf se_Types_kindOf ini_Types co_Types_kindOf) rfl rfl rfl pd_Types_kindOf ⟨rm_hi, rm_lo (Nat.le_of_ble_eq_true rfl)⟩) hK hP hD hS hA hnw henv (Nat.le_of_ble_eq_true rfl) rfl rfl hl.1 rfl (Nat.le_of_ble_eq_true rfl) d_Exprs_checkIndex_28 ⟨Nat.le_refl _, Nat.le_refl _⟩ (fun H locs hP hD hS => ?_)
  clear hc4
  refine lv_iconst (v := 5) hx hb d_Exprs_checkIndex_31 (by decide) ?_
  refine lv_icmp_eq (tgt := 46) hx hb d_Exprs_checkIndex_32 (by decide) (fun c5 => ?_) (fun c5 => ?_)
  · replace hR := if_p c5 hR
    refine lv_aload_n hx hb d_Exprs_checkIndex_46 rfl (lv_at hl 2 rfl) ?_
    refine lv_aload_n hx hb d_Exprs_checkIndex_47 rfl (lv_at hl 2 rfl) ?_
    refine rd_Exprs_34 hx hb hT hown hK hP d_Exprs_checkIndex_48 ?_
    refine lv_aload_n hx hb d_Exprs_checkIndex_51 rfl (lv_at hl 2 rfl) ?_
    refine rd_Exprs_29 hx hb hT hown hK hP d_Exprs_checkIndex_52 ?_
    refine lv_iload_n hx hb d_Exprs_checkIndex_55 rfl (lv_at hl 4 rfl) ?_
    replace hR := bi_e hR
    obtain ⟨r6, l6, T6, hc6, hR⟩ := hR
    refine gcV_i (rest := [.ref (ad 6), .ref (ad 8)]) ⟨hx, hb, hml, hown, hT⟩ (h_Types_regionOf _ _ _ _ _ hc6) (cwV 1 hT (gV ml_Exprs_82 im_Types_regionOf se_Types_regionOf ini_Types co_Types_regionOf) rfl rfl rfl pd_Types_regionOf ⟨rm_hi, rm_lo (Nat.le_of_ble_eq_true rfl)⟩) hK hP hD hS hA hnw henv (Nat.le_of_ble_eq_true rfl) rfl rfl hl.1 rfl (Nat.le_of_ble_eq_true rfl) d_Exprs_checkIndex_56 ⟨Nat.le_refl _, Nat.le_refl _⟩ (fun H locs hP hD hS => ?_)
    clear hc6
    replace hR := bi_e hR
    obtain ⟨r7, l7, T7, hc7, hR⟩ := hR
    refine gcV_i (rest := [.ref (ad 8)]) ⟨hx, hb, hml, hown, hT⟩ (h_Scope_isLive _ _ _ _ _ hc7) (cwV 1 hT (gV ml_Exprs_115 im_Scope_isLive se_Scope_isLive ini_Scope co_Scope_isLive) rfl rfl rfl pd_Scope_isLive ⟨rm_hi, rm_lo (Nat.le_of_ble_eq_true rfl)⟩) hK hP hD hS hA hnw henv (Nat.le_of_ble_eq_true rfl) rfl rfl hl.1 rfl (Nat.le_of_ble_eq_true rfl) d_Exprs_checkIndex_59 ⟨Nat.le_refl _, Nat.le_refl _⟩ (fun H locs hP hD hS => ?_)
    clear hc7
    refine lv_iconst (v := 5) hx hb d_Exprs_checkIndex_62 (by decide) ?_
    refine lv_iload_n hx hb d_Exprs_checkIndex_63 rfl (lv_at hl 5 rfl) ?_
    replace hR := bi_e hR
    obtain ⟨r8, l8, T8, hc8, hR⟩ := hR
    refine gcV_v (rest := []) ⟨hx, hb, hml, hown, hT⟩ (h_Exprs_demand _ _ _ _ _ _ _ hc8) (cwV 3 hT (gV ml_Exprs_111 im_Exprs_demand se_Exprs_demand ini_Exprs co_Exprs_demand) rfl rfl rfl pd_Exprs_demand ⟨rm_hi, rm_lo (Nat.le_of_ble_eq_true rfl)⟩) hK hP hD hS hA hnw henv (Nat.le_of_ble_eq_true rfl) rfl rfl hl.1 rfl (Nat.le_of_ble_eq_true rfl) d_Exprs_checkIndex_64 ⟨Nat.le_refl _, Nat.le_refl _⟩ (fun H locs hP hD hS => ?_)
    clear hc8
    refine lv_aload_n hx hb d_Exprs_checkIndex_67 rfl (lv_at hl 2 rfl) ?_
    refine lv_iload hx hb d_Exprs_checkIndex_68 (lv_at hl 0 rfl) ?_
    refine lv_iconst (v := 1) hx hb d_Exprs_checkIndex_70 (by decide) ?_
    refine lv_icmp_ne (tgt := 78) hx hb d_Exprs_checkIndex_71 (by decide) (fun c9 => ?_) (fun c9 => ?_)
    · replace hR := if_n c9 hR
      refine lv_iconst (v := 0) hx hb d_Exprs_checkIndex_78 (by decide) ?_
      have g := lb_79 T8 p2 p4 z2 (0 : Int32) hR
      rw [hG] at g
      exact g _ _ hP hD hS _ (lv_sub hl [2, 4, 6, 1] rfl)
    · replace hR := if_p c9 hR
      refine lv_iconst (v := 1) hx hb d_Exprs_checkIndex_74 (by decide) ?_
      refine lv_goto (tgt := 79) hx hb d_Exprs_checkIndex_75 (by decide) ?_
      have g := lb_79 T8 p2 p4 z2 (1 : Int32) hR
      rw [hG] at g
      exact g _ _ hP hD hS _ (lv_sub hl [2, 4, 6, 1] rfl)
  · replace hR := if_n c5 hR
    refine lv_aload_n hx hb d_Exprs_checkIndex_35 rfl (lv_at hl 2 rfl) ?_
    refine rd_Exprs_35 hx hb hT hown hK hP d_Exprs_checkIndex_36 ?_
    refine lv_iconst (v := 4) hx hb d_Exprs_checkIndex_39 (by decide) ?_
    refine lv_iload_n hx hb d_Exprs_checkIndex_40 rfl (lv_at hl 5 rfl) ?_
    replace hR := bi_e hR
    obtain ⟨r10, l10, T10, hc10, hR⟩ := hR
    refine gcV_v (rest := []) ⟨hx, hb, hml, hown, hT⟩ (h_Code_note _ _ _ _ _ _ hc10) (cwV 2 hT (gV ml_Exprs_68 im_Code_note se_Code_note ini_Code co_Code_note) rfl rfl rfl pd_Code_note ⟨rm_hi, rm_lo (Nat.le_of_ble_eq_true rfl)⟩) hK hP hD hS hA hnw henv (Nat.le_of_ble_eq_true rfl) rfl rfl hl.1 rfl (Nat.le_of_ble_eq_true rfl) d_Exprs_checkIndex_41 ⟨Nat.le_refl _, Nat.le_refl _⟩ (fun H locs hP hD hS => ?_)
    clear hc10
    refine lv_iconst (v := 1) hx hb d_Exprs_checkIndex_44 (by decide) ?_
    obtain ⟨e1, -, e3⟩ := re_e hR
    subst e1; subst e3
    exact W.iret (v := (1 : Int32)) hx hb hr (fun t ht hW => ⟨⟨(1 : Int32), (), rfl, rfl, by rw [ht]; exact hP, va_K.moved hW.alike hK, hD⟩, hS.F ht⟩) hS.2.2 d_Exprs_checkIndex_45
set_option maxHeartbeats 4000000 in
set_option maxRecDepth 100000 in
theorem sp_Exprs_checkCell (l : Launch) (dC : Nat → ClassId) (dI : Nat → Nat → Nat) (ea ev ad : Nat → Nat) (km : Nat → ClassId) (F : gF) (nf d : Nat) (h_Types_isPointed : mt_Types_isPointed l dC dI ea ev ad km F d) (h_Code_note : mt_Code_note l dC dI ea ev ad km F d) (h_Types_titleBehind : mt_Types_titleBehind l dC dI ea ev ad km F d) (h_Types_regionOf : mt_Types_regionOf l dC dI ea ev ad km F d) (h_Scope_isLive : mt_Scope_isLive l dC dI ea ev ad km F d) (h_Exprs_demand : mt_Exprs_demand l dC dI ea ev ad km F d) (h_Exprs_countNull : mt_Exprs_countNull l dC dI ea ev ad km F d) (h_Types_behind : mt_Types_behind l dC dI ea ev ad km F d) (h_Exprs_emitPointed : mt_Exprs_emitPointed l dC dI ea ev ad km F d) (T0 : gSt) (p1 : Int32) (p2 : Int32) (p3 : Int32) (r0 : Int32) (rl0 : Int64) (T9 : gSt) (hR : rb_Exprs_checkCell F nf T0 p1 p2 p3 = some (r0, rl0, T9)) : GMi l dC dI LH ad km ea ev y_Exprs_checkCell w_Exprs_checkCell (rmD (d + 1)) [.ref (ad 8), .int p1, .int p2, .int p3] T0 r0 T9 := by
  intro sz
  refine Met.ofW (cc := b_Exprs_checkCell) (maxL := 5) (ret := (some .int)) (by decide) rfl ?_
  intro p e s m args below meth c s₁ B hml hv
  obtain ⟨rfl, hsz, hP, hK, hD0, hnw, henv⟩ := hv
  have hx := B.exec
  have hb := B.bytes
  have hr := B.returns
  have hT : ∀ w ∈ lw_good, w.before _ s = true := fun w h => atoms_spec (ws := w_Exprs_checkCell) B.pre w (List.mem_cons_of_mem _ h)
  have hown : s.vm.findClass R_Exprs = some m.cls := findClass_of_methodNamed B.named
  subst hsz
  have hD := hD0.self (sz := s.heap.size)
  clear hD0
  generalize hAe : va_A (gW LH ad km T0) s.heap.size = A at hD henv ⊢
  have hA : ∀ q : Nat, s.heap.size ≤ q → A q := fun q h => by rw [← hAe]; exact Or.inr h
  have hS : va_S A s.heap s.heap [] := va_S.rf
  have hl := lv_entry ([.ref (ad 8), .int p1, .int p2, .int p3]) (n := 5) (Nat.le_of_ble_eq_true rfl)
  rw [lg_entry_eq]
  generalize (lg_sl ([.ref (ad 8), .int p1, .int p2, .int p3]) ++ List.replicate (5 - (lg_sl ([.ref (ad 8), .int p1, .int p2, .int p3])).length) Slot.unset).toArray = ls at hl ⊢
  have hl : lv_has ls 5 [(0, .ref (ad 8)), (1, .int p1), (2, .int p2), (3, .int p3)] := hl
  unfold rb_Exprs_checkCell at hR
  refine lv_aload_n hx hb d_Exprs_checkCell_0 rfl (lv_at hl 0 rfl) ?_
  refine rd_Exprs_29 hx hb hT hown hK hP d_Exprs_checkCell_1 ?_
  refine lv_iload_n hx hb d_Exprs_checkCell_4 rfl (lv_at hl 1 rfl) ?_
  replace hR := bi_e hR
  obtain ⟨r1, l1, T1, hc1, hR⟩ := hR
  refine gcV_i (rest := []) ⟨hx, hb, hml, hown, hT⟩ (h_Types_isPointed _ _ _ _ _ hc1) (cwV 1 hT (gV ml_Exprs_108 im_Types_isPointed se_Types_isPointed ini_Types co_Types_isPointed) rfl rfl rfl pd_Types_isPointed ⟨rm_hi, rm_lo (Nat.le_of_ble_eq_true rfl)⟩) hK hP hD hS hA hnw henv (Nat.le_of_ble_eq_true rfl) rfl rfl hl.1 rfl (Nat.le_of_ble_eq_true rfl) d_Exprs_checkCell_5 ⟨Nat.le_refl _, Nat.le_refl _⟩ (fun H locs hP hD hS => ?_)
  clear hc1
  refine lv_if_eq (tgt := 23) hx hb d_Exprs_checkCell_8 (by decide) (fun c2 => ?_) (fun c2 => ?_)
  · replace hR := if_p c2 hR
    refine lv_aload_n hx hb d_Exprs_checkCell_23 rfl (lv_at hl 0 rfl) ?_
    refine rd_Exprs_35 hx hb hT hown hK hP d_Exprs_checkCell_24 ?_
    refine lv_iconst (v := 4) hx hb d_Exprs_checkCell_27 (by decide) ?_
    refine lv_iload_n hx hb d_Exprs_checkCell_28 rfl (lv_at hl 2 rfl) ?_
    replace hR := bi_e hR
    obtain ⟨r3, l3, T3, hc3, hR⟩ := hR
    refine gcV_v (rest := []) ⟨hx, hb, hml, hown, hT⟩ (h_Code_note _ _ _ _ _ _ hc3) (cwV 2 hT (gV ml_Exprs_68 im_Code_note se_Code_note ini_Code co_Code_note) rfl rfl rfl pd_Code_note ⟨rm_hi, rm_lo (Nat.le_of_ble_eq_true rfl)⟩) hK hP hD hS hA hnw henv (Nat.le_of_ble_eq_true rfl) rfl rfl hl.1 rfl (Nat.le_of_ble_eq_true rfl) d_Exprs_checkCell_29 ⟨Nat.le_refl _, Nat.le_refl _⟩ (fun H locs hP hD hS => ?_)
    clear hc3
    refine lv_iconst (v := 1) hx hb d_Exprs_checkCell_32 (by decide) ?_
    obtain ⟨e1, -, e3⟩ := re_e hR
    subst e1; subst e3
    exact W.iret (v := (1 : Int32)) hx hb hr (fun t ht hW => ⟨⟨(1 : Int32), (), rfl, rfl, by rw [ht]; exact hP, va_K.moved hW.alike hK, hD⟩, hS.F ht⟩) hS.2.2 d_Exprs_checkCell_33
  · replace hR := if_n c2 hR
    refine lv_aload_n hx hb d_Exprs_checkCell_11 rfl (lv_at hl 0 rfl) ?_
    refine rd_Exprs_29 hx hb hT hown hK hP d_Exprs_checkCell_12 ?_
    refine lv_iload_n hx hb d_Exprs_checkCell_15 rfl (lv_at hl 1 rfl) ?_
    replace hR := bi_e hR
    obtain ⟨r5, l5, T5, hc5, hR⟩ := hR
    refine gcV_i (rest := []) ⟨hx, hb, hml, hown, hT⟩ (h_Types_titleBehind _ _ _ _ _ hc5) (cwV 1 hT (gV ml_Exprs_143 im_Types_titleBehind se_Types_titleBehind ini_Types co_Types_titleBehind) rfl rfl rfl pd_Types_titleBehind ⟨rm_hi, rm_lo (Nat.le_of_ble_eq_true rfl)⟩) hK hP hD hS hA hnw henv (Nat.le_of_ble_eq_true rfl) rfl rfl hl.1 rfl (Nat.le_of_ble_eq_true rfl) d_Exprs_checkCell_16 ⟨Nat.le_refl _, Nat.le_refl _⟩ (fun H locs hP hD hS => ?_)
    clear hc5
    refine lv_iconst (v := (-1)) hx hb d_Exprs_checkCell_19 (by decide) ?_
    refine lv_icmp_eq (tgt := 34) hx hb d_Exprs_checkCell_20 (by decide) (fun c6 => ?_) (fun c6 => ?_)
    · replace hR := if_p c6 hR
      refine lv_aload_n hx hb d_Exprs_checkCell_34 rfl (lv_at hl 0 rfl) ?_
      refine lv_aload_n hx hb d_Exprs_checkCell_35 rfl (lv_at hl 0 rfl) ?_
      refine rd_Exprs_34 hx hb hT hown hK hP d_Exprs_checkCell_36 ?_
      refine lv_aload_n hx hb d_Exprs_checkCell_39 rfl (lv_at hl 0 rfl) ?_
      refine rd_Exprs_29 hx hb hT hown hK hP d_Exprs_checkCell_40 ?_
      refine lv_iload_n hx hb d_Exprs_checkCell_43 rfl (lv_at hl 1 rfl) ?_
      replace hR := bi_e hR
      obtain ⟨r7, l7, T7, hc7, hR⟩ := hR
      refine gcV_i (rest := [.ref (ad 6), .ref (ad 8)]) ⟨hx, hb, hml, hown, hT⟩ (h_Types_regionOf _ _ _ _ _ hc7) (cwV 1 hT (gV ml_Exprs_82 im_Types_regionOf se_Types_regionOf ini_Types co_Types_regionOf) rfl rfl rfl pd_Types_regionOf ⟨rm_hi, rm_lo (Nat.le_of_ble_eq_true rfl)⟩) hK hP hD hS hA hnw henv (Nat.le_of_ble_eq_true rfl) rfl rfl hl.1 rfl (Nat.le_of_ble_eq_true rfl) d_Exprs_checkCell_44 ⟨Nat.le_refl _, Nat.le_refl _⟩ (fun H locs hP hD hS => ?_)
      clear hc7
      replace hR := bi_e hR
      obtain ⟨r8, l8, T8, hc8, hR⟩ := hR
      refine gcV_i (rest := [.ref (ad 8)]) ⟨hx, hb, hml, hown, hT⟩ (h_Scope_isLive _ _ _ _ _ hc8) (cwV 1 hT (gV ml_Exprs_115 im_Scope_isLive se_Scope_isLive ini_Scope co_Scope_isLive) rfl rfl rfl pd_Scope_isLive ⟨rm_hi, rm_lo (Nat.le_of_ble_eq_true rfl)⟩) hK hP hD hS hA hnw henv (Nat.le_of_ble_eq_true rfl) rfl rfl hl.1 rfl (Nat.le_of_ble_eq_true rfl) d_Exprs_checkCell_47 ⟨Nat.le_refl _, Nat.le_refl _⟩ (fun H locs hP hD hS => ?_)
      clear hc8
      refine lv_iconst (v := 5) hx hb d_Exprs_checkCell_50 (by decide) ?_
      refine lv_iload_n hx hb d_Exprs_checkCell_51 rfl (lv_at hl 2 rfl) ?_
      replace hR := bi_e hR
      obtain ⟨r9, l9, T9, hc9, hR⟩ := hR
      refine gcV_v (rest := []) ⟨hx, hb, hml, hown, hT⟩ (h_Exprs_demand _ _ _ _ _ _ _ hc9) (cwV 3 hT (gV ml_Exprs_111 im_Exprs_demand se_Exprs_demand ini_Exprs co_Exprs_demand) rfl rfl rfl pd_Exprs_demand ⟨rm_hi, rm_lo (Nat.le_of_ble_eq_true rfl)⟩) hK hP hD hS hA hnw henv (Nat.le_of_ble_eq_true rfl) rfl rfl hl.1 rfl (Nat.le_of_ble_eq_true rfl) d_Exprs_checkCell_52 ⟨Nat.le_refl _, Nat.le_refl _⟩ (fun H locs hP hD hS => ?_)
      clear hc9
      refine lv_aload_n hx hb d_Exprs_checkCell_55 rfl (lv_at hl 0 rfl) ?_
      refine lv_iload_n hx hb d_Exprs_checkCell_56 rfl (lv_at hl 1 rfl) ?_
      replace hR := bi_e hR
      obtain ⟨r10, l10, T10, hc10, hR⟩ := hR
      refine gcV_v (rest := []) ⟨hx, hb, hml, hown, hT⟩ (h_Exprs_countNull _ _ _ _ _ hc10) (cwV 1 hT (gV ml_Exprs_160 im_Exprs_countNull se_Exprs_countNull ini_Exprs co_Exprs_countNull) rfl rfl rfl pd_Exprs_countNull ⟨rm_hi, rm_lo (Nat.le_of_ble_eq_true rfl)⟩) hK hP hD hS hA hnw henv (Nat.le_of_ble_eq_true rfl) rfl rfl hl.1 rfl (Nat.le_of_ble_eq_true rfl) d_Exprs_checkCell_57 ⟨Nat.le_refl _, Nat.le_refl _⟩ (fun H locs hP hD hS => ?_)
      clear hc10
      refine lv_aload_n hx hb d_Exprs_checkCell_60 rfl (lv_at hl 0 rfl) ?_
      refine rd_Exprs_29 hx hb hT hown hK hP d_Exprs_checkCell_61 ?_
      refine lv_iload_n hx hb d_Exprs_checkCell_64 rfl (lv_at hl 1 rfl) ?_
      replace hR := bi_e hR
      obtain ⟨r11, l11, T11, hc11, hR⟩ := hR
      refine gcV_i (rest := []) ⟨hx, hb, hml, hown, hT⟩ (h_Types_behind _ _ _ _ _ hc11) (cwV 1 hT (gV ml_Exprs_79 im_Types_behind se_Types_behind ini_Types co_Types_behind) rfl rfl rfl pd_Types_behind ⟨rm_hi, rm_lo (Nat.le_of_ble_eq_true rfl)⟩) hK hP hD hS hA hnw henv (Nat.le_of_ble_eq_true rfl) rfl rfl hl.1 rfl (Nat.le_of_ble_eq_true rfl) d_Exprs_checkCell_65 ⟨Nat.le_refl _, Nat.le_refl _⟩ (fun H locs hP hD hS => ?_)
      clear hc11
      refine lv_istore (lv' := [(4, .int r11), (0, .ref (ad 8)), (1, .int p1), (2, .int p2), (3, .int p3)]) hx hb d_Exprs_checkCell_68 hl (by decide) rfl (fun ls hl => ?_)
      refine lv_aload_n hx hb d_Exprs_checkCell_70 rfl (lv_at hl 1 rfl) ?_
      refine lv_iload_n hx hb d_Exprs_checkCell_71 rfl (lv_at hl 4 rfl) ?_
      refine lv_iconst (v := 0) hx hb d_Exprs_checkCell_72 (by decide) ?_
      refine lv_iload hx hb d_Exprs_checkCell_73 (lv_at hl 0 rfl) ?_
      replace hR := bi_e hR
      obtain ⟨r12, l12, T12, hc12, hR⟩ := hR
      refine gcV_v (rest := []) ⟨hx, hb, hml, hown, hT⟩ (h_Exprs_emitPointed _ _ _ _ _ _ _ hc12) (cwV 3 hT (gV ml_Exprs_185 im_Exprs_emitPointed se_Exprs_emitPointed ini_Exprs co_Exprs_emitPointed) rfl rfl rfl pd_Exprs_emitPointed ⟨rm_hi, rm_lo (Nat.le_of_ble_eq_true rfl)⟩) hK hP hD hS hA hnw henv (Nat.le_of_ble_eq_true rfl) rfl rfl hl.1 rfl (Nat.le_of_ble_eq_true rfl) d_Exprs_checkCell_75 ⟨Nat.le_refl _, Nat.le_refl _⟩ (fun H locs hP hD hS => ?_)
      clear hc12
      refine lv_iload hx hb d_Exprs_checkCell_78 (lv_at hl 0 rfl) ?_
      obtain ⟨e1, -, e3⟩ := re_e hR
      subst e1; subst e3
      exact W.iret (v := r11) hx hb hr (fun t ht hW => ⟨⟨r11, (), rfl, rfl, by rw [ht]; exact hP, va_K.moved hW.alike hK, hD⟩, hS.F ht⟩) hS.2.2 d_Exprs_checkCell_80
    · replace hR := if_n c6 hR
      refine lv_aload_n hx hb d_Exprs_checkCell_23 rfl (lv_at hl 0 rfl) ?_
      refine rd_Exprs_35 hx hb hT hown hK hP d_Exprs_checkCell_24 ?_
      refine lv_iconst (v := 4) hx hb d_Exprs_checkCell_27 (by decide) ?_
      refine lv_iload_n hx hb d_Exprs_checkCell_28 rfl (lv_at hl 2 rfl) ?_
      replace hR := bi_e hR
      obtain ⟨r14, l14, T14, hc14, hR⟩ := hR
      refine gcV_v (rest := []) ⟨hx, hb, hml, hown, hT⟩ (h_Code_note _ _ _ _ _ _ hc14) (cwV 2 hT (gV ml_Exprs_68 im_Code_note se_Code_note ini_Code co_Code_note) rfl rfl rfl pd_Code_note ⟨rm_hi, rm_lo (Nat.le_of_ble_eq_true rfl)⟩) hK hP hD hS hA hnw henv (Nat.le_of_ble_eq_true rfl) rfl rfl hl.1 rfl (Nat.le_of_ble_eq_true rfl) d_Exprs_checkCell_29 ⟨Nat.le_refl _, Nat.le_refl _⟩ (fun H locs hP hD hS => ?_)
      clear hc14
      refine lv_iconst (v := 1) hx hb d_Exprs_checkCell_32 (by decide) ?_
      obtain ⟨e1, -, e3⟩ := re_e hR
      subst e1; subst e3
      exact W.iret (v := (1 : Int32)) hx hb hr (fun t ht hW => ⟨⟨(1 : Int32), (), rfl, rfl, by rw [ht]; exact hP, va_K.moved hW.alike hK, hD⟩, hS.F ht⟩) hS.2.2 d_Exprs_checkCell_33
