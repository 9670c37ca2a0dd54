abbrev b_Exprs_storePlace : ByteArray := prog_3_method_35_code
abbrev y_Exprs_storePlace : MethodName := ⟨R_Exprs, "storePlace", "(IIII)V"⟩
theorem co_Exprs_storePlace : Cond.code y_Exprs_storePlace b_Exprs_storePlace 9 none ∈ lw_good := lg_in (tin_7 _ (List.mem_of_getElem? (i := 127) rfl)) rfl
abbrev w_Exprs_storePlace : List Cond := Cond.code y_Exprs_storePlace b_Exprs_storePlace 9 none :: lw_good
theorem im_Exprs_storePlace : Cond.instanceMethod y_Exprs_storePlace ∈ lw_good := lg_right (i := 1565) (by decide +kernel) rfl
theorem se_Exprs_storePlace : Cond.selects R_Exprs y_Exprs_storePlace y_Exprs_storePlace ∈ lw_good := lg_right (i := 1566) (by decide +kernel) rfl
theorem d_Exprs_storePlace_0 : decode b_Exprs_storePlace 0 = .ok (.aload_n 0, 1) := by decide +kernel
theorem d_Exprs_storePlace_1 : decode b_Exprs_storePlace 1 = .ok (.getfield 9, 3) := by decide +kernel
theorem d_Exprs_storePlace_4 : decode b_Exprs_storePlace 4 = .ok (.iload_n 1, 1) := by decide +kernel
theorem d_Exprs_storePlace_5 : decode b_Exprs_storePlace 5 = .ok (.invokevirtual 311, 3) := by decide +kernel
theorem d_Exprs_storePlace_8 : decode b_Exprs_storePlace 8 = .ok (.istore 5, 2) := by decide +kernel
theorem d_Exprs_storePlace_10 : decode b_Exprs_storePlace 10 = .ok (.aload_n 0, 1) := by decide +kernel
theorem d_Exprs_storePlace_11 : decode b_Exprs_storePlace 11 = .ok (.getfield 9, 3) := by decide +kernel
theorem d_Exprs_storePlace_14 : decode b_Exprs_storePlace 14 = .ok (.iload 5, 2) := by decide +kernel
theorem d_Exprs_storePlace_16 : decode b_Exprs_storePlace 16 = .ok (.invokevirtual 314, 3) := by decide +kernel
theorem d_Exprs_storePlace_19 : decode b_Exprs_storePlace 19 = .ok (.istore 6, 2) := by decide +kernel
theorem d_Exprs_storePlace_21 : decode b_Exprs_storePlace 21 = .ok (.aload_n 0, 1) := by decide +kernel
theorem d_Exprs_storePlace_22 : decode b_Exprs_storePlace 22 = .ok (.getfield 9, 3) := by decide +kernel
theorem d_Exprs_storePlace_25 : decode b_Exprs_storePlace 25 = .ok (.getfield 43, 3) := by decide +kernel
theorem d_Exprs_storePlace_28 : decode b_Exprs_storePlace 28 = .ok (.iload 5, 2) := by decide +kernel
theorem d_Exprs_storePlace_30 : decode b_Exprs_storePlace 30 = .ok (.iaload, 1) := by decide +kernel
theorem d_Exprs_storePlace_31 : decode b_Exprs_storePlace 31 = .ok (.ifCond .ne 23, 3) := by decide +kernel
theorem d_Exprs_storePlace_34 : decode b_Exprs_storePlace 34 = .ok (.iload 6, 2) := by decide +kernel
theorem d_Exprs_storePlace_36 : decode b_Exprs_storePlace 36 = .ok (.ifCond .eq 18, 3) := by decide +kernel
theorem d_Exprs_storePlace_39 : decode b_Exprs_storePlace 39 = .ok (.aload_n 0, 1) := by decide +kernel
theorem d_Exprs_storePlace_40 : decode b_Exprs_storePlace 40 = .ok (.getfield 9, 3) := by decide +kernel
theorem d_Exprs_storePlace_43 : decode b_Exprs_storePlace 43 = .ok (.getfield 124, 3) := by decide +kernel
theorem d_Exprs_storePlace_46 : decode b_Exprs_storePlace 46 = .ok (.iload 6, 2) := by decide +kernel
theorem d_Exprs_storePlace_48 : decode b_Exprs_storePlace 48 = .ok (.iaload, 1) := by decide +kernel
theorem d_Exprs_storePlace_49 : decode b_Exprs_storePlace 49 = .ok (.bipush 33, 2) := by decide +kernel
theorem d_Exprs_storePlace_51 : decode b_Exprs_storePlace 51 = .ok (.if_icmp .ne 21, 3) := by decide +kernel
theorem d_Exprs_storePlace_54 : decode b_Exprs_storePlace 54 = .ok (.aload_n 0, 1) := by decide +kernel
theorem d_Exprs_storePlace_55 : decode b_Exprs_storePlace 55 = .ok (.getfield 35, 3) := by decide +kernel
theorem d_Exprs_storePlace_58 : decode b_Exprs_storePlace 58 = .ok (.iconst 4, 1) := by decide +kernel
theorem d_Exprs_storePlace_59 : decode b_Exprs_storePlace 59 = .ok (.aload_n 0, 1) := by decide +kernel
theorem d_Exprs_storePlace_60 : decode b_Exprs_storePlace 60 = .ok (.getfield 9, 3) := by decide +kernel
theorem d_Exprs_storePlace_63 : decode b_Exprs_storePlace 63 = .ok (.iload 5, 2) := by decide +kernel
theorem d_Exprs_storePlace_65 : decode b_Exprs_storePlace 65 = .ok (.invokevirtual 64, 3) := by decide +kernel
theorem d_Exprs_storePlace_68 : decode b_Exprs_storePlace 68 = .ok (.invokevirtual 68, 3) := by decide +kernel
theorem d_Exprs_storePlace_71 : decode b_Exprs_storePlace 71 = .ok (.return_, 1) := by decide +kernel
theorem d_Exprs_storePlace_72 : decode b_Exprs_storePlace 72 = .ok (.aload_n 0, 1) := by decide +kernel
theorem d_Exprs_storePlace_73 : decode b_Exprs_storePlace 73 = .ok (.iload 5, 2) := by decide +kernel
theorem d_Exprs_storePlace_75 : decode b_Exprs_storePlace 75 = .ok (.iload 6, 2) := by decide +kernel
theorem d_Exprs_storePlace_77 : decode b_Exprs_storePlace 77 = .ok (.iload 4, 2) := by decide +kernel
theorem d_Exprs_storePlace_79 : decode b_Exprs_storePlace 79 = .ok (.invokevirtual 39, 3) := by decide +kernel
theorem d_Exprs_storePlace_82 : decode b_Exprs_storePlace 82 = .ok (.istore 7, 2) := by decide +kernel
theorem d_Exprs_storePlace_84 : decode b_Exprs_storePlace 84 = .ok (.aload_n 0, 1) := by decide +kernel
theorem d_Exprs_storePlace_85 : decode b_Exprs_storePlace 85 = .ok (.iload 6, 2) := by decide +kernel
theorem d_Exprs_storePlace_87 : decode b_Exprs_storePlace 87 = .ok (.iload 7, 2) := by decide +kernel
theorem d_Exprs_storePlace_89 : decode b_Exprs_storePlace 89 = .ok (.aload_n 0, 1) := by decide +kernel
theorem d_Exprs_storePlace_90 : decode b_Exprs_storePlace 90 = .ok (.getfield 9, 3) := by decide +kernel
theorem d_Exprs_storePlace_93 : decode b_Exprs_storePlace 93 = .ok (.iload 5, 2) := by decide +kernel
theorem d_Exprs_storePlace_95 : decode b_Exprs_storePlace 95 = .ok (.invokevirtual 64, 3) := by decide +kernel
theorem d_Exprs_storePlace_98 : decode b_Exprs_storePlace 98 = .ok (.iconst 2, 1) := by decide +kernel
theorem d_Exprs_storePlace_99 : decode b_Exprs_storePlace 99 = .ok (.iload 4, 2) := by decide +kernel
theorem d_Exprs_storePlace_101 : decode b_Exprs_storePlace 101 = .ok (.invokevirtual 130, 3) := by decide +kernel
theorem d_Exprs_storePlace_104 : decode b_Exprs_storePlace 104 = .ok (.istore 8, 2) := by decide +kernel
theorem d_Exprs_storePlace_106 : decode b_Exprs_storePlace 106 = .ok (.aload_n 0, 1) := by decide +kernel
theorem d_Exprs_storePlace_107 : decode b_Exprs_storePlace 107 = .ok (.iload_n 2, 1) := by decide +kernel
theorem d_Exprs_storePlace_108 : decode b_Exprs_storePlace 108 = .ok (.iload 8, 2) := by decide +kernel
theorem d_Exprs_storePlace_110 : decode b_Exprs_storePlace 110 = .ok (.iload_n 3, 1) := by decide +kernel
theorem d_Exprs_storePlace_111 : decode b_Exprs_storePlace 111 = .ok (.invokevirtual 57, 3) := by decide +kernel
theorem d_Exprs_storePlace_114 : decode b_Exprs_storePlace 114 = .ok (.return_, 1) := by decide +kernel
abbrev b_Exprs_storeVar : ByteArray := prog_3_method_36_code
abbrev y_Exprs_storeVar : MethodName := ⟨R_Exprs, "storeVar", "(III)V"⟩
theorem co_Exprs_storeVar : Cond.code y_Exprs_storeVar b_Exprs_storeVar 5 none ∈ lw_good := lg_in (tin_7 _ (List.mem_of_getElem? (i := 131) rfl)) rfl
abbrev w_Exprs_storeVar : List Cond := Cond.code y_Exprs_storeVar b_Exprs_storeVar 5 none :: lw_good
theorem im_Exprs_storeVar : Cond.instanceMethod y_Exprs_storeVar ∈ lw_good := lg_right (i := 1569) (by decide +kernel) rfl
theorem se_Exprs_storeVar : Cond.selects R_Exprs y_Exprs_storeVar y_Exprs_storeVar ∈ lw_good := lg_right (i := 1570) (by decide +kernel) rfl
theorem d_Exprs_storeVar_0 : decode b_Exprs_storeVar 0 = .ok (.aload_n 0, 1) := by decide +kernel
theorem d_Exprs_storeVar_1 : decode b_Exprs_storeVar 1 = .ok (.getfield 34, 3) := by decide +kernel
theorem d_Exprs_storeVar_4 : decode b_Exprs_storeVar 4 = .ok (.aload_n 0, 1) := by decide +kernel
theorem d_Exprs_storeVar_5 : decode b_Exprs_storeVar 5 = .ok (.getfield 9, 3) := by decide +kernel
theorem d_Exprs_storeVar_8 : decode b_Exprs_storeVar 8 = .ok (.iload_n 1, 1) := by decide +kernel
theorem d_Exprs_storeVar_9 : decode b_Exprs_storeVar 9 = .ok (.invokevirtual 149, 3) := by decide +kernel
theorem d_Exprs_storeVar_12 : decode b_Exprs_storeVar 12 = .ok (.invokevirtual 219, 3) := by decide +kernel
theorem d_Exprs_storeVar_15 : decode b_Exprs_storeVar 15 = .ok (.istore 4, 2) := by decide +kernel
theorem d_Exprs_storeVar_17 : decode b_Exprs_storeVar 17 = .ok (.iload 4, 2) := by decide +kernel
theorem d_Exprs_storeVar_19 : decode b_Exprs_storeVar 19 = .ok (.iconst (-1), 1) := by decide +kernel
theorem d_Exprs_storeVar_20 : decode b_Exprs_storeVar 20 = .ok (.if_icmp .ne 20, 3) := by decide +kernel
theorem d_Exprs_storeVar_23 : decode b_Exprs_storeVar 23 = .ok (.aload_n 0, 1) := by decide +kernel
theorem d_Exprs_storeVar_24 : decode b_Exprs_storeVar 24 = .ok (.getfield 35, 3) := by decide +kernel
theorem d_Exprs_storeVar_27 : decode b_Exprs_storeVar 27 = .ok (.iconst 3, 1) := by decide +kernel
theorem d_Exprs_storeVar_28 : decode b_Exprs_storeVar 28 = .ok (.aload_n 0, 1) := by decide +kernel
theorem d_Exprs_storeVar_29 : decode b_Exprs_storeVar 29 = .ok (.getfield 9, 3) := by decide +kernel
theorem d_Exprs_storeVar_32 : decode b_Exprs_storeVar 32 = .ok (.iload_n 1, 1) := by decide +kernel
theorem d_Exprs_storeVar_33 : decode b_Exprs_storeVar 33 = .ok (.invokevirtual 157, 3) := by decide +kernel
theorem d_Exprs_storeVar_36 : decode b_Exprs_storeVar 36 = .ok (.invokevirtual 68, 3) := by decide +kernel
theorem d_Exprs_storeVar_39 : decode b_Exprs_storeVar 39 = .ok (.return_, 1) := by decide +kernel
theorem d_Exprs_storeVar_40 : decode b_Exprs_storeVar 40 = .ok (.aload_n 0, 1) := by decide +kernel
theorem d_Exprs_storeVar_41 : decode b_Exprs_storeVar 41 = .ok (.iload_n 2, 1) := by decide +kernel
theorem d_Exprs_storeVar_42 : decode b_Exprs_storeVar 42 = .ok (.aload_n 0, 1) := by decide +kernel
theorem d_Exprs_storeVar_43 : decode b_Exprs_storeVar 43 = .ok (.getfield 34, 3) := by decide +kernel
theorem d_Exprs_storeVar_46 : decode b_Exprs_storeVar 46 = .ok (.iload 4, 2) := by decide +kernel
theorem d_Exprs_storeVar_48 : decode b_Exprs_storeVar 48 = .ok (.invokevirtual 226, 3) := by decide +kernel
theorem d_Exprs_storeVar_51 : decode b_Exprs_storeVar 51 = .ok (.iload_n 3, 1) := by decide +kernel
theorem d_Exprs_storeVar_52 : decode b_Exprs_storeVar 52 = .ok (.invokevirtual 57, 3) := by decide +kernel
theorem d_Exprs_storeVar_55 : decode b_Exprs_storeVar 55 = .ok (.aload_n 0, 1) := by decide +kernel
theorem d_Exprs_storeVar_56 : decode b_Exprs_storeVar 56 = .ok (.iload 4, 2) := by decide +kernel
theorem d_Exprs_storeVar_58 : decode b_Exprs_storeVar 58 = .ok (.iload_n 2, 1) := by decide +kernel
theorem d_Exprs_storeVar_59 : decode b_Exprs_storeVar 59 = .ok (.invokevirtual 317, 3) := by decide +kernel
theorem ml_Exprs_317 : Cond.methodLink R_Exprs 317 ⟨"PointerHouse$Exprs", "giveVar", "(II)V"⟩ ∈ lw_good := lg_right (i := 1572) (by decide +kernel) rfl
theorem d_Exprs_storeVar_62 : decode b_Exprs_storeVar 62 = .ok (.return_, 1) := by decide +kernel
abbrev b_Exprs_giveVar : ByteArray := prog_3_method_37_code
abbrev y_Exprs_giveVar : MethodName := ⟨R_Exprs, "giveVar", "(II)V"⟩
theorem co_Exprs_giveVar : Cond.code y_Exprs_giveVar b_Exprs_giveVar 5 none ∈ lw_good := lg_in (tin_7 _ (List.mem_of_getElem? (i := 19) rfl)) rfl
abbrev w_Exprs_giveVar : List Cond := Cond.code y_Exprs_giveVar b_Exprs_giveVar 5 none :: lw_good
theorem im_Exprs_giveVar : Cond.instanceMethod y_Exprs_giveVar ∈ lw_good := lg_right (i := 1457) (by decide +kernel) rfl
theorem se_Exprs_giveVar : Cond.selects R_Exprs y_Exprs_giveVar y_Exprs_giveVar ∈ lw_good := lg_right (i := 1458) (by decide +kernel) rfl
theorem d_Exprs_giveVar_0 : decode b_Exprs_giveVar 0 = .ok (.aload_n 0, 1) := by decide +kernel
theorem d_Exprs_giveVar_1 : decode b_Exprs_giveVar 1 = .ok (.getfield 34, 3) := by decide +kernel
theorem d_Exprs_giveVar_4 : decode b_Exprs_giveVar 4 = .ok (.iload_n 1, 1) := by decide +kernel
theorem d_Exprs_giveVar_5 : decode b_Exprs_giveVar 5 = .ok (.invokevirtual 226, 3) := by decide +kernel
theorem d_Exprs_giveVar_8 : decode b_Exprs_giveVar 8 = .ok (.istore_n 3, 1) := by decide +kernel
theorem d_Exprs_giveVar_9 : decode b_Exprs_giveVar 9 = .ok (.aload_n 0, 1) := by decide +kernel
theorem d_Exprs_giveVar_10 : decode b_Exprs_giveVar 10 = .ok (.getfield 29, 3) := by decide +kernel
theorem d_Exprs_giveVar_13 : decode b_Exprs_giveVar 13 = .ok (.iload_n 3, 1) := by decide +kernel
theorem d_Exprs_giveVar_14 : decode b_Exprs_giveVar 14 = .ok (.invokevirtual 74, 3) := by decide +kernel
theorem d_Exprs_giveVar_17 : decode b_Exprs_giveVar 17 = .ok (.iconst 4, 1) := by decide +kernel
theorem d_Exprs_giveVar_18 : decode b_Exprs_giveVar 18 = .ok (.if_icmp .ne 19, 3) := by decide +kernel
theorem d_Exprs_giveVar_21 : decode b_Exprs_giveVar 21 = .ok (.aload_n 0, 1) := by decide +kernel
theorem d_Exprs_giveVar_22 : decode b_Exprs_giveVar 22 = .ok (.getfield 29, 3) := by decide +kernel
theorem d_Exprs_giveVar_25 : decode b_Exprs_giveVar 25 = .ok (.iload_n 2, 1) := by decide +kernel
theorem d_Exprs_giveVar_26 : decode b_Exprs_giveVar 26 = .ok (.invokevirtual 74, 3) := by decide +kernel
theorem d_Exprs_giveVar_29 : decode b_Exprs_giveVar 29 = .ok (.iconst 3, 1) := by decide +kernel
theorem d_Exprs_giveVar_30 : decode b_Exprs_giveVar 30 = .ok (.if_icmp .ne 7, 3) := by decide +kernel
theorem d_Exprs_giveVar_33 : decode b_Exprs_giveVar 33 = .ok (.iconst 1, 1) := by decide +kernel
theorem d_Exprs_giveVar_34 : decode b_Exprs_giveVar 34 = .ok (.goto 4, 3) := by decide +kernel
theorem d_Exprs_giveVar_37 : decode b_Exprs_giveVar 37 = .ok (.iconst 0, 1) := by decide +kernel
theorem d_Exprs_giveVar_38 : decode b_Exprs_giveVar 38 = .ok (.istore 4, 2) := by decide +kernel
theorem d_Exprs_giveVar_40 : decode b_Exprs_giveVar 40 = .ok (.aload_n 0, 1) := by decide +kernel
theorem d_Exprs_giveVar_41 : decode b_Exprs_giveVar 41 = .ok (.getfield 34, 3) := by decide +kernel
theorem d_Exprs_giveVar_44 : decode b_Exprs_giveVar 44 = .ok (.iload_n 1, 1) := by decide +kernel
theorem d_Exprs_giveVar_45 : decode b_Exprs_giveVar 45 = .ok (.iload 4, 2) := by decide +kernel
theorem d_Exprs_giveVar_47 : decode b_Exprs_giveVar 47 = .ok (.invokevirtual 320, 3) := by decide +kernel
theorem ml_Exprs_320 : Cond.methodLink R_Exprs 320 ⟨"PointerHouse$Scope", "give", "(IZ)V"⟩ ∈ lw_good := lg_right (i := 1460) (by decide +kernel) rfl
theorem d_Exprs_giveVar_50 : decode b_Exprs_giveVar 50 = .ok (.aload_n 0, 1) := by decide +kernel
theorem d_Exprs_giveVar_51 : decode b_Exprs_giveVar 51 = .ok (.getfield 35, 3) := by decide +kernel
theorem d_Exprs_giveVar_54 : decode b_Exprs_giveVar 54 = .ok (.iconst 4, 1) := by decide +kernel
theorem d_Exprs_giveVar_55 : decode b_Exprs_giveVar 55 = .ok (.aload_n 0, 1) := by decide +kernel
theorem d_Exprs_giveVar_56 : decode b_Exprs_giveVar 56 = .ok (.getfield 34, 3) := by decide +kernel
theorem d_Exprs_giveVar_59 : decode b_Exprs_giveVar 59 = .ok (.iload_n 1, 1) := by decide +kernel
theorem d_Exprs_giveVar_60 : decode b_Exprs_giveVar 60 = .ok (.invokevirtual 229, 3) := by decide +kernel
theorem d_Exprs_giveVar_63 : decode b_Exprs_giveVar 63 = .ok (.aload_n 0, 1) := by decide +kernel
theorem d_Exprs_giveVar_64 : decode b_Exprs_giveVar 64 = .ok (.getfield 29, 3) := by decide +kernel
theorem d_Exprs_giveVar_67 : decode b_Exprs_giveVar 67 = .ok (.iload_n 3, 1) := by decide +kernel
theorem d_Exprs_giveVar_68 : decode b_Exprs_giveVar 68 = .ok (.invokevirtual 179, 3) := by decide +kernel
theorem d_Exprs_giveVar_71 : decode b_Exprs_giveVar 71 = .ok (.invokevirtual 94, 3) := by decide +kernel
theorem d_Exprs_giveVar_74 : decode b_Exprs_giveVar 74 = .ok (.pop, 1) := by decide +kernel
theorem d_Exprs_giveVar_75 : decode b_Exprs_giveVar 75 = .ok (.return_, 1) := by decide +kernel
abbrev b_Exprs_varAlone : ByteArray := prog_3_method_39_code
abbrev y_Exprs_varAlone : MethodName := ⟨R_Exprs, "varAlone", "(I)I"⟩
theorem co_Exprs_varAlone : Cond.code y_Exprs_varAlone b_Exprs_varAlone 3 (some .int) ∈ lw_good := lg_in (tin_7 _ (List.mem_of_getElem? (i := 34) rfl)) rfl
abbrev w_Exprs_varAlone : List Cond := Cond.code y_Exprs_varAlone b_Exprs_varAlone 3 (some .int) :: lw_good
theorem im_Exprs_varAlone : Cond.instanceMethod y_Exprs_varAlone ∈ lw_good := lg_right (i := 1472) (by decide +kernel) rfl
theorem se_Exprs_varAlone : Cond.selects R_Exprs y_Exprs_varAlone y_Exprs_varAlone ∈ lw_good := lg_right (i := 1473) (by decide +kernel) rfl
theorem d_Exprs_varAlone_0 : decode b_Exprs_varAlone 0 = .ok (.aload_n 0, 1) := by decide +kernel
theorem d_Exprs_varAlone_1 : decode b_Exprs_varAlone 1 = .ok (.iload_n 1, 1) := by decide +kernel
theorem d_Exprs_varAlone_2 : decode b_Exprs_varAlone 2 = .ok (.invokevirtual 324, 3) := by decide +kernel
theorem ml_Exprs_324 : Cond.methodLink R_Exprs 324 ⟨"PointerHouse$Exprs", "nameAlone", "(I)I"⟩ ∈ lw_good := lg_right (i := 1475) (by decide +kernel) rfl
theorem d_Exprs_varAlone_5 : decode b_Exprs_varAlone 5 = .ok (.istore_n 2, 1) := by decide +kernel
theorem d_Exprs_varAlone_6 : decode b_Exprs_varAlone 6 = .ok (.iload_n 2, 1) := by decide +kernel
theorem d_Exprs_varAlone_7 : decode b_Exprs_varAlone 7 = .ok (.iconst (-1), 1) := by decide +kernel
theorem d_Exprs_varAlone_8 : decode b_Exprs_varAlone 8 = .ok (.if_icmp .ne 7, 3) := by decide +kernel
theorem d_Exprs_varAlone_11 : decode b_Exprs_varAlone 11 = .ok (.iconst (-1), 1) := by decide +kernel
theorem d_Exprs_varAlone_12 : decode b_Exprs_varAlone 12 = .ok (.goto 18, 3) := by decide +kernel
theorem d_Exprs_varAlone_15 : decode b_Exprs_varAlone 15 = .ok (.aload_n 0, 1) := by decide +kernel
theorem d_Exprs_varAlone_16 : decode b_Exprs_varAlone 16 = .ok (.getfield 34, 3) := by decide +kernel
theorem d_Exprs_varAlone_19 : decode b_Exprs_varAlone 19 = .ok (.aload_n 0, 1) := by decide +kernel
theorem d_Exprs_varAlone_20 : decode b_Exprs_varAlone 20 = .ok (.getfield 9, 3) := by decide +kernel
theorem d_Exprs_varAlone_23 : decode b_Exprs_varAlone 23 = .ok (.iload_n 2, 1) := by decide +kernel
theorem d_Exprs_varAlone_24 : decode b_Exprs_varAlone 24 = .ok (.invokevirtual 149, 3) := by decide +kernel
theorem d_Exprs_varAlone_27 : decode b_Exprs_varAlone 27 = .ok (.invokevirtual 219, 3) := by decide +kernel
theorem d_Exprs_varAlone_30 : decode b_Exprs_varAlone 30 = .ok (.ireturn, 1) := by decide +kernel
abbrev b_Exprs_nameAlone : ByteArray := prog_3_method_38_code
abbrev y_Exprs_nameAlone : MethodName := ⟨R_Exprs, "nameAlone", "(I)I"⟩
theorem co_Exprs_nameAlone : Cond.code y_Exprs_nameAlone b_Exprs_nameAlone 4 (some .int) ∈ lw_good := lg_in (tin_7 _ (List.mem_of_getElem? (i := 38) rfl)) rfl
abbrev w_Exprs_nameAlone : List Cond := Cond.code y_Exprs_nameAlone b_Exprs_nameAlone 4 (some .int) :: lw_good
theorem im_Exprs_nameAlone : Cond.instanceMethod y_Exprs_nameAlone ∈ lw_good := lg_right (i := 1476) (by decide +kernel) rfl
theorem se_Exprs_nameAlone : Cond.selects R_Exprs y_Exprs_nameAlone y_Exprs_nameAlone ∈ lw_good := lg_right (i := 1477) (by decide +kernel) rfl
theorem d_Exprs_nameAlone_0 : decode b_Exprs_nameAlone 0 = .ok (.aload_n 0, 1) := by decide +kernel
theorem d_Exprs_nameAlone_1 : decode b_Exprs_nameAlone 1 = .ok (.getfield 9, 3) := by decide +kernel
theorem d_Exprs_nameAlone_4 : decode b_Exprs_nameAlone 4 = .ok (.iload_n 1, 1) := by decide +kernel
theorem d_Exprs_nameAlone_5 : decode b_Exprs_nameAlone 5 = .ok (.invokevirtual 311, 3) := by decide +kernel
theorem d_Exprs_nameAlone_8 : decode b_Exprs_nameAlone 8 = .ok (.istore_n 2, 1) := by decide +kernel
theorem d_Exprs_nameAlone_9 : decode b_Exprs_nameAlone 9 = .ok (.aload_n 0, 1) := by decide +kernel
theorem d_Exprs_nameAlone_10 : decode b_Exprs_nameAlone 10 = .ok (.getfield 9, 3) := by decide +kernel
theorem d_Exprs_nameAlone_13 : decode b_Exprs_nameAlone 13 = .ok (.getfield 124, 3) := by decide +kernel
theorem d_Exprs_nameAlone_16 : decode b_Exprs_nameAlone 16 = .ok (.iload_n 2, 1) := by decide +kernel
theorem d_Exprs_nameAlone_17 : decode b_Exprs_nameAlone 17 = .ok (.iaload, 1) := by decide +kernel
theorem d_Exprs_nameAlone_18 : decode b_Exprs_nameAlone 18 = .ok (.iconst 2, 1) := by decide +kernel
theorem d_Exprs_nameAlone_19 : decode b_Exprs_nameAlone 19 = .ok (.if_icmp .ne 31, 3) := by decide +kernel
theorem d_Exprs_nameAlone_22 : decode b_Exprs_nameAlone 22 = .ok (.aload_n 0, 1) := by decide +kernel
theorem d_Exprs_nameAlone_23 : decode b_Exprs_nameAlone 23 = .ok (.getfield 9, 3) := by decide +kernel
theorem d_Exprs_nameAlone_26 : decode b_Exprs_nameAlone 26 = .ok (.getfield 121, 3) := by decide +kernel
theorem d_Exprs_nameAlone_29 : decode b_Exprs_nameAlone 29 = .ok (.iload_n 2, 1) := by decide +kernel
theorem d_Exprs_nameAlone_30 : decode b_Exprs_nameAlone 30 = .ok (.iaload, 1) := by decide +kernel
theorem d_Exprs_nameAlone_31 : decode b_Exprs_nameAlone 31 = .ok (.ifCond .ne 19, 3) := by decide +kernel
theorem d_Exprs_nameAlone_34 : decode b_Exprs_nameAlone 34 = .ok (.aload_n 0, 1) := by decide +kernel
theorem d_Exprs_nameAlone_35 : decode b_Exprs_nameAlone 35 = .ok (.getfield 9, 3) := by decide +kernel
theorem d_Exprs_nameAlone_38 : decode b_Exprs_nameAlone 38 = .ok (.getfield 43, 3) := by decide +kernel
theorem d_Exprs_nameAlone_41 : decode b_Exprs_nameAlone 41 = .ok (.iload_n 2, 1) := by decide +kernel
theorem d_Exprs_nameAlone_42 : decode b_Exprs_nameAlone 42 = .ok (.iaload, 1) := by decide +kernel
theorem d_Exprs_nameAlone_43 : decode b_Exprs_nameAlone 43 = .ok (.ifCond .ne 7, 3) := by decide +kernel
theorem d_Exprs_nameAlone_46 : decode b_Exprs_nameAlone 46 = .ok (.iconst 1, 1) := by decide +kernel
theorem d_Exprs_nameAlone_47 : decode b_Exprs_nameAlone 47 = .ok (.goto 4, 3) := by decide +kernel
theorem d_Exprs_nameAlone_50 : decode b_Exprs_nameAlone 50 = .ok (.iconst 0, 1) := by decide +kernel
theorem d_Exprs_nameAlone_51 : decode b_Exprs_nameAlone 51 = .ok (.istore_n 3, 1) := by decide +kernel
theorem d_Exprs_nameAlone_52 : decode b_Exprs_nameAlone 52 = .ok (.iload_n 3, 1) := by decide +kernel
theorem d_Exprs_nameAlone_53 : decode b_Exprs_nameAlone 53 = .ok (.ifCond .eq 15, 3) := by decide +kernel
theorem d_Exprs_nameAlone_56 : decode b_Exprs_nameAlone 56 = .ok (.aload_n 0, 1) := by decide +kernel
theorem d_Exprs_nameAlone_57 : decode b_Exprs_nameAlone 57 = .ok (.getfield 9, 3) := by decide +kernel
theorem d_Exprs_nameAlone_60 : decode b_Exprs_nameAlone 60 = .ok (.getfield 146, 3) := by decide +kernel
theorem d_Exprs_nameAlone_63 : decode b_Exprs_nameAlone 63 = .ok (.iload_n 2, 1) := by decide +kernel
theorem d_Exprs_nameAlone_64 : decode b_Exprs_nameAlone 64 = .ok (.iaload, 1) := by decide +kernel
theorem d_Exprs_nameAlone_65 : decode b_Exprs_nameAlone 65 = .ok (.goto 4, 3) := by decide +kernel
theorem d_Exprs_nameAlone_68 : decode b_Exprs_nameAlone 68 = .ok (.iconst (-1), 1) := by decide +kernel
theorem d_Exprs_nameAlone_69 : decode b_Exprs_nameAlone 69 = .ok (.ireturn, 1) := by decide +kernel
abbrev b_Exprs_varAgainstNull : ByteArray := prog_3_method_40_code
abbrev y_Exprs_varAgainstNull : MethodName := ⟨R_Exprs, "varAgainstNull", "(I)I"⟩
theorem co_Exprs_varAgainstNull : Cond.code y_Exprs_varAgainstNull b_Exprs_varAgainstNull 6 (some .int) ∈ lw_good := lg_in (tin_7 _ (List.mem_of_getElem? (i := 43) rfl)) rfl
abbrev w_Exprs_varAgainstNull : List Cond := Cond.code y_Exprs_varAgainstNull b_Exprs_varAgainstNull 6 (some .int) :: lw_good
theorem im_Exprs_varAgainstNull : Cond.instanceMethod y_Exprs_varAgainstNull ∈ lw_good := lg_right (i := 1481) (by decide +kernel) rfl
theorem se_Exprs_varAgainstNull : Cond.selects R_Exprs y_Exprs_varAgainstNull y_Exprs_varAgainstNull ∈ lw_good := lg_right (i := 1482) (by decide +kernel) rfl
theorem d_Exprs_varAgainstNull_0 : decode b_Exprs_varAgainstNull 0 = .ok (.aload_n 0, 1) := by decide +kernel
theorem d_Exprs_varAgainstNull_1 : decode b_Exprs_varAgainstNull 1 = .ok (.getfield 9, 3) := by decide +kernel
theorem d_Exprs_varAgainstNull_4 : decode b_Exprs_varAgainstNull 4 = .ok (.iload_n 1, 1) := by decide +kernel
theorem d_Exprs_varAgainstNull_5 : decode b_Exprs_varAgainstNull 5 = .ok (.invokevirtual 311, 3) := by decide +kernel
theorem d_Exprs_varAgainstNull_8 : decode b_Exprs_varAgainstNull 8 = .ok (.istore_n 2, 1) := by decide +kernel
theorem d_Exprs_varAgainstNull_9 : decode b_Exprs_varAgainstNull 9 = .ok (.aload_n 0, 1) := by decide +kernel
theorem d_Exprs_varAgainstNull_10 : decode b_Exprs_varAgainstNull 10 = .ok (.getfield 9, 3) := by decide +kernel
theorem d_Exprs_varAgainstNull_13 : decode b_Exprs_varAgainstNull 13 = .ok (.getfield 43, 3) := by decide +kernel
theorem d_Exprs_varAgainstNull_16 : decode b_Exprs_varAgainstNull 16 = .ok (.iload_n 2, 1) := by decide +kernel
theorem d_Exprs_varAgainstNull_17 : decode b_Exprs_varAgainstNull 17 = .ok (.iaload, 1) := by decide +kernel
theorem d_Exprs_varAgainstNull_18 : decode b_Exprs_varAgainstNull 18 = .ok (.istore_n 3, 1) := by decide +kernel
theorem d_Exprs_varAgainstNull_19 : decode b_Exprs_varAgainstNull 19 = .ok (.iload_n 3, 1) := by decide +kernel
theorem d_Exprs_varAgainstNull_20 : decode b_Exprs_varAgainstNull 20 = .ok (.ifCond .eq 29, 3) := by decide +kernel
theorem d_Exprs_varAgainstNull_23 : decode b_Exprs_varAgainstNull 23 = .ok (.aload_n 0, 1) := by decide +kernel
theorem d_Exprs_varAgainstNull_24 : decode b_Exprs_varAgainstNull 24 = .ok (.getfield 9, 3) := by decide +kernel
theorem d_Exprs_varAgainstNull_27 : decode b_Exprs_varAgainstNull 27 = .ok (.getfield 43, 3) := by decide +kernel
theorem d_Exprs_varAgainstNull_30 : decode b_Exprs_varAgainstNull 30 = .ok (.iload_n 3, 1) := by decide +kernel
theorem d_Exprs_varAgainstNull_31 : decode b_Exprs_varAgainstNull 31 = .ok (.iaload, 1) := by decide +kernel
theorem d_Exprs_varAgainstNull_32 : decode b_Exprs_varAgainstNull 32 = .ok (.ifCond .ne 17, 3) := by decide +kernel
theorem d_Exprs_varAgainstNull_35 : decode b_Exprs_varAgainstNull 35 = .ok (.aload_n 0, 1) := by decide +kernel
theorem d_Exprs_varAgainstNull_36 : decode b_Exprs_varAgainstNull 36 = .ok (.getfield 9, 3) := by decide +kernel
theorem d_Exprs_varAgainstNull_39 : decode b_Exprs_varAgainstNull 39 = .ok (.getfield 91, 3) := by decide +kernel
theorem d_Exprs_varAgainstNull_42 : decode b_Exprs_varAgainstNull 42 = .ok (.iload_n 3, 1) := by decide +kernel
theorem d_Exprs_varAgainstNull_43 : decode b_Exprs_varAgainstNull 43 = .ok (.iaload, 1) := by decide +kernel
theorem d_Exprs_varAgainstNull_44 : decode b_Exprs_varAgainstNull 44 = .ok (.bipush 62, 2) := by decide +kernel
theorem d_Exprs_varAgainstNull_46 : decode b_Exprs_varAgainstNull 46 = .ok (.if_icmp .eq 5, 3) := by decide +kernel
theorem d_Exprs_varAgainstNull_49 : decode b_Exprs_varAgainstNull 49 = .ok (.iconst (-1), 1) := by decide +kernel
theorem d_Exprs_varAgainstNull_50 : decode b_Exprs_varAgainstNull 50 = .ok (.ireturn, 1) := by decide +kernel
theorem d_Exprs_varAgainstNull_51 : decode b_Exprs_varAgainstNull 51 = .ok (.aload_n 0, 1) := by decide +kernel
theorem d_Exprs_varAgainstNull_52 : decode b_Exprs_varAgainstNull 52 = .ok (.getfield 9, 3) := by decide +kernel
theorem d_Exprs_varAgainstNull_55 : decode b_Exprs_varAgainstNull 55 = .ok (.iload_n 3, 1) := by decide +kernel
theorem d_Exprs_varAgainstNull_56 : decode b_Exprs_varAgainstNull 56 = .ok (.invokevirtual 327, 3) := by decide +kernel
theorem ml_Exprs_327 : Cond.methodLink R_Exprs 327 ⟨"PointerHouse$Source", "bareTerm", "(I)I"⟩ ∈ lw_good := lg_right (i := 1484) (by decide +kernel) rfl
theorem d_Exprs_varAgainstNull_59 : decode b_Exprs_varAgainstNull 59 = .ok (.istore 4, 2) := by decide +kernel
theorem d_Exprs_varAgainstNull_61 : decode b_Exprs_varAgainstNull 61 = .ok (.aload_n 0, 1) := by decide +kernel
theorem d_Exprs_varAgainstNull_62 : decode b_Exprs_varAgainstNull 62 = .ok (.getfield 9, 3) := by decide +kernel
theorem d_Exprs_varAgainstNull_65 : decode b_Exprs_varAgainstNull 65 = .ok (.getfield 124, 3) := by decide +kernel
theorem d_Exprs_varAgainstNull_68 : decode b_Exprs_varAgainstNull 68 = .ok (.iload 4, 2) := by decide +kernel
theorem d_Exprs_varAgainstNull_70 : decode b_Exprs_varAgainstNull 70 = .ok (.iaload, 1) := by decide +kernel
theorem d_Exprs_varAgainstNull_71 : decode b_Exprs_varAgainstNull 71 = .ok (.bipush 27, 2) := by decide +kernel
theorem d_Exprs_varAgainstNull_73 : decode b_Exprs_varAgainstNull 73 = .ok (.if_icmp .ne 20, 3) := by decide +kernel
theorem d_Exprs_varAgainstNull_76 : decode b_Exprs_varAgainstNull 76 = .ok (.aload_n 0, 1) := by decide +kernel
theorem d_Exprs_varAgainstNull_77 : decode b_Exprs_varAgainstNull 77 = .ok (.getfield 9, 3) := by decide +kernel
theorem d_Exprs_varAgainstNull_80 : decode b_Exprs_varAgainstNull 80 = .ok (.getfield 121, 3) := by decide +kernel
theorem d_Exprs_varAgainstNull_83 : decode b_Exprs_varAgainstNull 83 = .ok (.iload 4, 2) := by decide +kernel
theorem d_Exprs_varAgainstNull_85 : decode b_Exprs_varAgainstNull 85 = .ok (.iaload, 1) := by decide +kernel
theorem d_Exprs_varAgainstNull_86 : decode b_Exprs_varAgainstNull 86 = .ok (.ifCond .ne 7, 3) := by decide +kernel
theorem d_Exprs_varAgainstNull_89 : decode b_Exprs_varAgainstNull 89 = .ok (.iconst 1, 1) := by decide +kernel
theorem d_Exprs_varAgainstNull_90 : decode b_Exprs_varAgainstNull 90 = .ok (.goto 4, 3) := by decide +kernel
theorem d_Exprs_varAgainstNull_93 : decode b_Exprs_varAgainstNull 93 = .ok (.iconst 0, 1) := by decide +kernel
theorem d_Exprs_varAgainstNull_94 : decode b_Exprs_varAgainstNull 94 = .ok (.istore 5, 2) := by decide +kernel
theorem d_Exprs_varAgainstNull_96 : decode b_Exprs_varAgainstNull 96 = .ok (.iload 5, 2) := by decide +kernel
theorem d_Exprs_varAgainstNull_98 : decode b_Exprs_varAgainstNull 98 = .ok (.ifCond .eq 11, 3) := by decide +kernel
theorem d_Exprs_varAgainstNull_101 : decode b_Exprs_varAgainstNull 101 = .ok (.aload_n 0, 1) := by decide +kernel
theorem d_Exprs_varAgainstNull_102 : decode b_Exprs_varAgainstNull 102 = .ok (.iload_n 2, 1) := by decide +kernel
theorem d_Exprs_varAgainstNull_103 : decode b_Exprs_varAgainstNull 103 = .ok (.invokevirtual 330, 3) := by decide +kernel
theorem ml_Exprs_330 : Cond.methodLink R_Exprs 330 ⟨"PointerHouse$Exprs", "varOfTerm", "(I)I"⟩ ∈ lw_good := lg_right (i := 1489) (by decide +kernel) rfl
theorem d_Exprs_varAgainstNull_106 : decode b_Exprs_varAgainstNull 106 = .ok (.goto 4, 3) := by decide +kernel
theorem d_Exprs_varAgainstNull_109 : decode b_Exprs_varAgainstNull 109 = .ok (.iconst (-1), 1) := by decide +kernel
theorem d_Exprs_varAgainstNull_110 : decode b_Exprs_varAgainstNull 110 = .ok (.ireturn, 1) := by decide +kernel
abbrev b_Exprs_varOfTerm : ByteArray := prog_3_method_41_code
abbrev y_Exprs_varOfTerm : MethodName := ⟨R_Exprs, "varOfTerm", "(I)I"⟩
theorem co_Exprs_varOfTerm : Cond.code y_Exprs_varOfTerm b_Exprs_varOfTerm 4 (some .int) ∈ lw_good := lg_in (tin_7 _ (List.mem_of_getElem? (i := 52) rfl)) rfl
abbrev w_Exprs_varOfTerm : List Cond := Cond.code y_Exprs_varOfTerm b_Exprs_varOfTerm 4 (some .int) :: lw_good
theorem im_Exprs_varOfTerm : Cond.instanceMethod y_Exprs_varOfTerm ∈ lw_good := lg_right (i := 1491) (by decide +kernel) rfl
theorem se_Exprs_varOfTerm : Cond.selects R_Exprs y_Exprs_varOfTerm y_Exprs_varOfTerm ∈ lw_good := lg_left (i := 79) (by decide +kernel) rfl
theorem d_Exprs_varOfTerm_0 : decode b_Exprs_varOfTerm 0 = .ok (.aload_n 0, 1) := by decide +kernel
theorem d_Exprs_varOfTerm_1 : decode b_Exprs_varOfTerm 1 = .ok (.getfield 9, 3) := by decide +kernel
theorem d_Exprs_varOfTerm_4 : decode b_Exprs_varOfTerm 4 = .ok (.iload_n 1, 1) := by decide +kernel
theorem d_Exprs_varOfTerm_5 : decode b_Exprs_varOfTerm 5 = .ok (.invokevirtual 327, 3) := by decide +kernel
theorem d_Exprs_varOfTerm_8 : decode b_Exprs_varOfTerm 8 = .ok (.istore_n 2, 1) := by decide +kernel
theorem d_Exprs_varOfTerm_9 : decode b_Exprs_varOfTerm 9 = .ok (.aload_n 0, 1) := by decide +kernel
theorem d_Exprs_varOfTerm_10 : decode b_Exprs_varOfTerm 10 = .ok (.getfield 9, 3) := by decide +kernel
theorem d_Exprs_varOfTerm_13 : decode b_Exprs_varOfTerm 13 = .ok (.getfield 124, 3) := by decide +kernel
theorem d_Exprs_varOfTerm_16 : decode b_Exprs_varOfTerm 16 = .ok (.iload_n 2, 1) := by decide +kernel
theorem d_Exprs_varOfTerm_17 : decode b_Exprs_varOfTerm 17 = .ok (.iaload, 1) := by decide +kernel
theorem d_Exprs_varOfTerm_18 : decode b_Exprs_varOfTerm 18 = .ok (.iconst 2, 1) := by decide +kernel
theorem d_Exprs_varOfTerm_19 : decode b_Exprs_varOfTerm 19 = .ok (.if_icmp .ne 19, 3) := by decide +kernel
theorem d_Exprs_varOfTerm_22 : decode b_Exprs_varOfTerm 22 = .ok (.aload_n 0, 1) := by decide +kernel
theorem d_Exprs_varOfTerm_23 : decode b_Exprs_varOfTerm 23 = .ok (.getfield 9, 3) := by decide +kernel
theorem d_Exprs_varOfTerm_26 : decode b_Exprs_varOfTerm 26 = .ok (.getfield 121, 3) := by decide +kernel
theorem d_Exprs_varOfTerm_29 : decode b_Exprs_varOfTerm 29 = .ok (.iload_n 2, 1) := by decide +kernel
theorem d_Exprs_varOfTerm_30 : decode b_Exprs_varOfTerm 30 = .ok (.iaload, 1) := by decide +kernel
theorem d_Exprs_varOfTerm_31 : decode b_Exprs_varOfTerm 31 = .ok (.ifCond .ne 7, 3) := by decide +kernel
theorem d_Exprs_varOfTerm_34 : decode b_Exprs_varOfTerm 34 = .ok (.iconst 1, 1) := by decide +kernel
theorem d_Exprs_varOfTerm_35 : decode b_Exprs_varOfTerm 35 = .ok (.goto 4, 3) := by decide +kernel
theorem d_Exprs_varOfTerm_38 : decode b_Exprs_varOfTerm 38 = .ok (.iconst 0, 1) := by decide +kernel
theorem d_Exprs_varOfTerm_39 : decode b_Exprs_varOfTerm 39 = .ok (.istore_n 3, 1) := by decide +kernel
theorem d_Exprs_varOfTerm_40 : decode b_Exprs_varOfTerm 40 = .ok (.iload_n 3, 1) := by decide +kernel
theorem d_Exprs_varOfTerm_41 : decode b_Exprs_varOfTerm 41 = .ok (.ifCond .eq 29, 3) := by decide +kernel
theorem d_Exprs_varOfTerm_44 : decode b_Exprs_varOfTerm 44 = .ok (.aload_n 0, 1) := by decide +kernel
theorem d_Exprs_varOfTerm_45 : decode b_Exprs_varOfTerm 45 = .ok (.getfield 34, 3) := by decide +kernel
theorem d_Exprs_varOfTerm_48 : decode b_Exprs_varOfTerm 48 = .ok (.aload_n 0, 1) := by decide +kernel
theorem d_Exprs_varOfTerm_49 : decode b_Exprs_varOfTerm 49 = .ok (.getfield 9, 3) := by decide +kernel
theorem d_Exprs_varOfTerm_52 : decode b_Exprs_varOfTerm 52 = .ok (.aload_n 0, 1) := by decide +kernel
theorem d_Exprs_varOfTerm_53 : decode b_Exprs_varOfTerm 53 = .ok (.getfield 9, 3) := by decide +kernel
theorem d_Exprs_varOfTerm_56 : decode b_Exprs_varOfTerm 56 = .ok (.getfield 146, 3) := by decide +kernel
theorem d_Exprs_varOfTerm_59 : decode b_Exprs_varOfTerm 59 = .ok (.iload_n 2, 1) := by decide +kernel
theorem d_Exprs_varOfTerm_60 : decode b_Exprs_varOfTerm 60 = .ok (.iaload, 1) := by decide +kernel
theorem d_Exprs_varOfTerm_61 : decode b_Exprs_varOfTerm 61 = .ok (.invokevirtual 149, 3) := by decide +kernel
theorem d_Exprs_varOfTerm_64 : decode b_Exprs_varOfTerm 64 = .ok (.invokevirtual 219, 3) := by decide +kernel
theorem d_Exprs_varOfTerm_67 : decode b_Exprs_varOfTerm 67 = .ok (.goto 4, 3) := by decide +kernel
theorem d_Exprs_varOfTerm_70 : decode b_Exprs_varOfTerm 70 = .ok (.iconst (-1), 1) := by decide +kernel
theorem d_Exprs_varOfTerm_71 : decode b_Exprs_varOfTerm 71 = .ok (.ireturn, 1) := by decide +kernel
abbrev b_Steps_checkFun : ByteArray := prog_11_method_3_code
abbrev y_Steps_checkFun : MethodName := ⟨R_Steps, "checkFun", "(I)V"⟩
theorem co_Steps_checkFun : Cond.code y_Steps_checkFun b_Steps_checkFun 2 none ∈ lw_good := lg_in (tin_5 _ (List.mem_of_getElem? (i := 174) rfl)) rfl
abbrev w_Steps_checkFun : List Cond := Cond.code y_Steps_checkFun b_Steps_checkFun 2 none :: lw_good
theorem im_Steps_checkFun : Cond.instanceMethod y_Steps_checkFun ∈ lw_good := lg_right (i := 1133) (by decide +kernel) rfl
theorem se_Steps_checkFun : Cond.selects R_Steps y_Steps_checkFun y_Steps_checkFun ∈ lw_good := lg_left (i := 44) (by decide +kernel) rfl
theorem d_Steps_checkFun_0 : decode b_Steps_checkFun 0 = .ok (.aload_n 0, 1) := by decide +kernel
theorem d_Steps_checkFun_1 : decode b_Steps_checkFun 1 = .ok (.getfield 34, 3) := by decide +kernel
theorem fl_Steps_34 : Cond.fieldLink R_Steps 34 "PointerHouse$Steps" "scope" "LPointerHouse$Scope;" ∈ lw_good := lg_right (i := 569) (by decide +kernel) rfl
theorem d_Steps_checkFun_4 : decode b_Steps_checkFun 4 = .ok (.iload_n 1, 1) := by decide +kernel
theorem d_Steps_checkFun_5 : decode b_Steps_checkFun 5 = .ok (.invokevirtual 57, 3) := by decide +kernel
theorem ml_Steps_57 : Cond.methodLink R_Steps 57 ⟨"PointerHouse$Scope", "enterFun", "(I)V"⟩ ∈ lw_good := lg_right (i := 1135) (by decide +kernel) rfl
theorem d_Steps_checkFun_8 : decode b_Steps_checkFun 8 = .ok (.aload_n 0, 1) := by decide +kernel
theorem d_Steps_checkFun_9 : decode b_Steps_checkFun 9 = .ok (.getfield 15, 3) := by decide +kernel
theorem d_Steps_checkFun_12 : decode b_Steps_checkFun 12 = .ok (.getfield 62, 3) := by decide +kernel
theorem fl_Steps_62 : Cond.fieldLink R_Steps 62 "PointerHouse$Items" "entry" "[I" ∈ lw_good := lg_right (i := 328) (by decide +kernel) rfl
theorem d_Steps_checkFun_15 : decode b_Steps_checkFun 15 = .ok (.iload_n 1, 1) := by decide +kernel
theorem d_Steps_checkFun_16 : decode b_Steps_checkFun 16 = .ok (.aload_n 0, 1) := by decide +kernel
theorem d_Steps_checkFun_17 : decode b_Steps_checkFun 17 = .ok (.getfield 39, 3) := by decide +kernel
theorem fl_Steps_39 : Cond.fieldLink R_Steps 39 "PointerHouse$Steps" "code" "LPointerHouse$Code;" ∈ lw_good := lg_right (i := 571) (by decide +kernel) rfl
theorem d_Steps_checkFun_20 : decode b_Steps_checkFun 20 = .ok (.invokevirtual 65, 3) := by decide +kernel
theorem ml_Steps_65 : Cond.methodLink R_Steps 65 ⟨"PointerHouse$Code", "count", "()I"⟩ ∈ lw_good := lg_right (i := 1168) (by decide +kernel) rfl
theorem d_Steps_checkFun_23 : decode b_Steps_checkFun 23 = .ok (.iastore, 1) := by decide +kernel
theorem d_Steps_checkFun_24 : decode b_Steps_checkFun 24 = .ok (.aload_n 0, 1) := by decide +kernel
theorem d_Steps_checkFun_25 : decode b_Steps_checkFun 25 = .ok (.aload_n 0, 1) := by decide +kernel
theorem d_Steps_checkFun_26 : decode b_Steps_checkFun 26 = .ok (.getfield 15, 3) := by decide +kernel
theorem d_Steps_checkFun_29 : decode b_Steps_checkFun 29 = .ok (.getfield 70, 3) := by decide +kernel
theorem fl_Steps_70 : Cond.fieldLink R_Steps 70 "PointerHouse$Items" "body" "[I" ∈ lw_good := lg_right (i := 307) (by decide +kernel) rfl
theorem d_Steps_checkFun_32 : decode b_Steps_checkFun 32 = .ok (.iload_n 1, 1) := by decide +kernel
theorem d_Steps_checkFun_33 : decode b_Steps_checkFun 33 = .ok (.iaload, 1) := by decide +kernel
theorem d_Steps_checkFun_34 : decode b_Steps_checkFun 34 = .ok (.iconst 1, 1) := by decide +kernel
theorem d_Steps_checkFun_35 : decode b_Steps_checkFun 35 = .ok (.invokevirtual 73, 3) := by decide +kernel
theorem ml_Steps_73 : Cond.methodLink R_Steps 73 ⟨"PointerHouse$Steps", "checkBlock", "(II)V"⟩ ∈ lw_good := lg_right (i := 1172) (by decide +kernel) rfl
theorem d_Steps_checkFun_38 : decode b_Steps_checkFun 38 = .ok (.aload_n 0, 1) := by decide +kernel
theorem d_Steps_checkFun_39 : decode b_Steps_checkFun 39 = .ok (.getfield 15, 3) := by decide +kernel
theorem d_Steps_checkFun_42 : decode b_Steps_checkFun 42 = .ok (.getfield 77, 3) := by decide +kernel
theorem fl_Steps_77 : Cond.fieldLink R_Steps 77 "PointerHouse$Items" "gives" "[I" ∈ lw_good := lg_right (i := 313) (by decide +kernel) rfl
theorem d_Steps_checkFun_45 : decode b_Steps_checkFun 45 = .ok (.iload_n 1, 1) := by decide +kernel
theorem d_Steps_checkFun_46 : decode b_Steps_checkFun 46 = .ok (.iaload, 1) := by decide +kernel
theorem d_Steps_checkFun_47 : decode b_Steps_checkFun 47 = .ok (.ifCond .eq 38, 3) := by decide +kernel
theorem d_Steps_checkFun_50 : decode b_Steps_checkFun 50 = .ok (.aload_n 0, 1) := by decide +kernel
theorem d_Steps_checkFun_51 : decode b_Steps_checkFun 51 = .ok (.getfield 34, 3) := by decide +kernel
theorem d_Steps_checkFun_54 : decode b_Steps_checkFun 54 = .ok (.invokevirtual 80, 3) := by decide +kernel
theorem ml_Steps_80 : Cond.methodLink R_Steps 80 ⟨"PointerHouse$Scope", "isReached", "()Z"⟩ ∈ lw_good := lg_right (i := 1518) (by decide +kernel) rfl
theorem d_Steps_checkFun_57 : decode b_Steps_checkFun 57 = .ok (.ifCond .eq 28, 3) := by decide +kernel
theorem d_Steps_checkFun_60 : decode b_Steps_checkFun 60 = .ok (.aload_n 0, 1) := by decide +kernel
theorem d_Steps_checkFun_61 : decode b_Steps_checkFun 61 = .ok (.getfield 39, 3) := by decide +kernel
theorem d_Steps_checkFun_64 : decode b_Steps_checkFun 64 = .ok (.bipush 8, 2) := by decide +kernel
theorem d_Steps_checkFun_66 : decode b_Steps_checkFun 66 = .ok (.aload_n 0, 1) := by decide +kernel
theorem d_Steps_checkFun_67 : decode b_Steps_checkFun 67 = .ok (.getfield 9, 3) := by decide +kernel
theorem fl_Steps_9 : Cond.fieldLink R_Steps 9 "PointerHouse$Steps" "source" "LPointerHouse$Source;" ∈ lw_good := lg_right (i := 565) (by decide +kernel) rfl
theorem d_Steps_checkFun_70 : decode b_Steps_checkFun 70 = .ok (.aload_n 0, 1) := by decide +kernel
theorem d_Steps_checkFun_71 : decode b_Steps_checkFun 71 = .ok (.getfield 15, 3) := by decide +kernel
theorem d_Steps_checkFun_74 : decode b_Steps_checkFun 74 = .ok (.getfield 84, 3) := by decide +kernel
theorem fl_Steps_84 : Cond.fieldLink R_Steps 84 "PointerHouse$Items" "endTok" "[I" ∈ lw_good := lg_right (i := 310) (by decide +kernel) rfl
theorem d_Steps_checkFun_77 : decode b_Steps_checkFun 77 = .ok (.iload_n 1, 1) := by decide +kernel
theorem d_Steps_checkFun_78 : decode b_Steps_checkFun 78 = .ok (.iaload, 1) := by decide +kernel
theorem d_Steps_checkFun_79 : decode b_Steps_checkFun 79 = .ok (.invokevirtual 87, 3) := by decide +kernel
theorem ml_Steps_87 : Cond.methodLink R_Steps 87 ⟨"PointerHouse$Source", "startOf", "(I)I"⟩ ∈ lw_good := lg_right (i := 1180) (by decide +kernel) rfl
theorem d_Steps_checkFun_82 : decode b_Steps_checkFun 82 = .ok (.invokevirtual 93, 3) := by decide +kernel
theorem ml_Steps_93 : Cond.methodLink R_Steps 93 ⟨"PointerHouse$Code", "note", "(II)V"⟩ ∈ lw_good := lg_right (i := 1557) (by decide +kernel) rfl
theorem d_Steps_checkFun_85 : decode b_Steps_checkFun 85 = .ok (.aload_n 0, 1) := by decide +kernel
theorem d_Steps_checkFun_86 : decode b_Steps_checkFun 86 = .ok (.getfield 39, 3) := by decide +kernel
theorem d_Steps_checkFun_89 : decode b_Steps_checkFun 89 = .ok (.bipush 58, 2) := by decide +kernel
theorem d_Steps_checkFun_91 : decode b_Steps_checkFun 91 = .ok (.iconst 0, 1) := by decide +kernel
theorem d_Steps_checkFun_92 : decode b_Steps_checkFun 92 = .ok (.iconst 0, 1) := by decide +kernel
theorem d_Steps_checkFun_93 : decode b_Steps_checkFun 93 = .ok (.invokevirtual 96, 3) := by decide +kernel
theorem ml_Steps_96 : Cond.methodLink R_Steps 96 ⟨"PointerHouse$Code", "emit", "(III)I"⟩ ∈ lw_good := lg_right (i := 1181) (by decide +kernel) rfl
theorem d_Steps_checkFun_96 : decode b_Steps_checkFun 96 = .ok (.pop, 1) := by decide +kernel
theorem d_Steps_checkFun_97 : decode b_Steps_checkFun 97 = .ok (.return_, 1) := by decide +kernel
abbrev b_Steps_checkBlock : ByteArray := prog_11_method_4_code
abbrev y_Steps_checkBlock : MethodName := ⟨R_Steps, "checkBlock", "(II)V"⟩
theorem co_Steps_checkBlock : Cond.code y_Steps_checkBlock b_Steps_checkBlock 6 none ∈ lw_good := lg_in (tin_5 _ (List.mem_of_getElem? (i := 215) rfl)) rfl
abbrev w_Steps_checkBlock : List Cond := Cond.code y_Steps_checkBlock b_Steps_checkBlock 6 none :: lw_good
theorem im_Steps_checkBlock : Cond.instanceMethod y_Steps_checkBlock ∈ lw_good := lg_right (i := 1174) (by decide +kernel) rfl
theorem se_Steps_checkBlock : Cond.selects R_Steps y_Steps_checkBlock y_Steps_checkBlock ∈ lw_good := lg_left (i := 45) (by decide +kernel) rfl
theorem d_Steps_checkBlock_0 : decode b_Steps_checkBlock 0 = .ok (.iload_n 2, 1) := by decide +kernel
theorem d_Steps_checkBlock_1 : decode b_Steps_checkBlock 1 = .ok (.bipush 20, 2) := by decide +kernel
theorem d_Steps_checkBlock_3 : decode b_Steps_checkBlock 3 = .ok (.if_icmp .le 4, 3) := by decide +kernel
theorem d_Steps_checkBlock_6 : decode b_Steps_checkBlock 6 = .ok (.return_, 1) := by decide +kernel
theorem d_Steps_checkBlock_7 : decode b_Steps_checkBlock 7 = .ok (.aload_n 0, 1) := by decide +kernel
theorem d_Steps_checkBlock_8 : decode b_Steps_checkBlock 8 = .ok (.getfield 34, 3) := by decide +kernel
theorem d_Steps_checkBlock_11 : decode b_Steps_checkBlock 11 = .ok (.invokevirtual 100, 3) := by decide +kernel
theorem ml_Steps_100 : Cond.methodLink R_Steps 100 ⟨"PointerHouse$Scope", "varsSeen", "()I"⟩ ∈ lw_good := lg_right (i := 1176) (by decide +kernel) rfl
theorem d_Steps_checkBlock_14 : decode b_Steps_checkBlock 14 = .ok (.istore_n 3, 1) := by decide +kernel
theorem d_Steps_checkBlock_15 : decode b_Steps_checkBlock 15 = .ok (.iload_n 1, 1) := by decide +kernel
theorem d_Steps_checkBlock_16 : decode b_Steps_checkBlock 16 = .ok (.istore 4, 2) := by decide +kernel
theorem d_Steps_checkBlock_18 : decode b_Steps_checkBlock 18 = .ok (.iconst 0, 1) := by decide +kernel
theorem d_Steps_checkBlock_19 : decode b_Steps_checkBlock 19 = .ok (.istore 5, 2) := by decide +kernel
theorem d_Steps_checkBlock_21 : decode b_Steps_checkBlock 21 = .ok (.iload 4, 2) := by decide +kernel
theorem d_Steps_checkBlock_23 : decode b_Steps_checkBlock 23 = .ok (.ifCond .eq 63, 3) := by decide +kernel
theorem d_Steps_checkBlock_26 : decode b_Steps_checkBlock 26 = .ok (.iload 5, 2) := by decide +kernel
theorem d_Steps_checkBlock_28 : decode b_Steps_checkBlock 28 = .ok (.sipush 4000, 3) := by decide +kernel
theorem d_Steps_checkBlock_31 : decode b_Steps_checkBlock 31 = .ok (.if_icmp .ge 55, 3) := by decide +kernel
theorem d_Steps_checkBlock_34 : decode b_Steps_checkBlock 34 = .ok (.aload_n 0, 1) := by decide +kernel
theorem d_Steps_checkBlock_35 : decode b_Steps_checkBlock 35 = .ok (.getfield 39, 3) := by decide +kernel
theorem d_Steps_checkBlock_38 : decode b_Steps_checkBlock 38 = .ok (.iconst 1, 1) := by decide +kernel
theorem d_Steps_checkBlock_39 : decode b_Steps_checkBlock 39 = .ok (.aload_n 0, 1) := by decide +kernel
theorem d_Steps_checkBlock_40 : decode b_Steps_checkBlock 40 = .ok (.getfield 9, 3) := by decide +kernel
theorem d_Steps_checkBlock_43 : decode b_Steps_checkBlock 43 = .ok (.aload_n 0, 1) := by decide +kernel
theorem d_Steps_checkBlock_44 : decode b_Steps_checkBlock 44 = .ok (.getfield 9, 3) := by decide +kernel
theorem d_Steps_checkBlock_47 : decode b_Steps_checkBlock 47 = .ok (.getfield 103, 3) := by decide +kernel
theorem fl_Steps_103 : Cond.fieldLink R_Steps 103 "PointerHouse$Source" "tok" "[I" ∈ lw_good := lg_right (i := 197) (by decide +kernel) rfl
theorem d_Steps_checkBlock_50 : decode b_Steps_checkBlock 50 = .ok (.iload 4, 2) := by decide +kernel
theorem d_Steps_checkBlock_52 : decode b_Steps_checkBlock 52 = .ok (.iaload, 1) := by decide +kernel
theorem d_Steps_checkBlock_53 : decode b_Steps_checkBlock 53 = .ok (.invokevirtual 87, 3) := by decide +kernel
theorem d_Steps_checkBlock_56 : decode b_Steps_checkBlock 56 = .ok (.iconst 0, 1) := by decide +kernel
theorem d_Steps_checkBlock_57 : decode b_Steps_checkBlock 57 = .ok (.invokevirtual 96, 3) := by decide +kernel
theorem d_Steps_checkBlock_60 : decode b_Steps_checkBlock 60 = .ok (.pop, 1) := by decide +kernel
theorem d_Steps_checkBlock_61 : decode b_Steps_checkBlock 61 = .ok (.aload_n 0, 1) := by decide +kernel
theorem d_Steps_checkBlock_62 : decode b_Steps_checkBlock 62 = .ok (.iload 4, 2) := by decide +kernel
theorem d_Steps_checkBlock_64 : decode b_Steps_checkBlock 64 = .ok (.iload_n 2, 1) := by decide +kernel
theorem d_Steps_checkBlock_65 : decode b_Steps_checkBlock 65 = .ok (.invokevirtual 106, 3) := by decide +kernel
theorem ml_Steps_106 : Cond.methodLink R_Steps 106 ⟨"PointerHouse$Steps", "checkStep", "(II)V"⟩ ∈ lw_good := lg_right (i := 1185) (by decide +kernel) rfl
theorem d_Steps_checkBlock_68 : decode b_Steps_checkBlock 68 = .ok (.aload_n 0, 1) := by decide +kernel
theorem d_Steps_checkBlock_69 : decode b_Steps_checkBlock 69 = .ok (.getfield 9, 3) := by decide +kernel
theorem d_Steps_checkBlock_72 : decode b_Steps_checkBlock 72 = .ok (.getfield 109, 3) := by decide +kernel
theorem fl_Steps_109 : Cond.fieldLink R_Steps 109 "PointerHouse$Source" "next" "[I" ∈ lw_good := lg_right (i := 201) (by decide +kernel) rfl
theorem d_Steps_checkBlock_75 : decode b_Steps_checkBlock 75 = .ok (.iload 4, 2) := by decide +kernel
theorem d_Steps_checkBlock_77 : decode b_Steps_checkBlock 77 = .ok (.iaload, 1) := by decide +kernel
theorem d_Steps_checkBlock_78 : decode b_Steps_checkBlock 78 = .ok (.istore 4, 2) := by decide +kernel
theorem d_Steps_checkBlock_80 : decode b_Steps_checkBlock 80 = .ok (.iinc 5 1, 3) := by decide +kernel
theorem d_Steps_checkBlock_83 : decode b_Steps_checkBlock 83 = .ok (.goto (-62), 3) := by decide +kernel
theorem d_Steps_checkBlock_86 : decode b_Steps_checkBlock 86 = .ok (.aload_n 0, 1) := by decide +kernel
theorem d_Steps_checkBlock_87 : decode b_Steps_checkBlock 87 = .ok (.getfield 34, 3) := by decide +kernel
theorem d_Steps_checkBlock_90 : decode b_Steps_checkBlock 90 = .ok (.iload_n 3, 1) := by decide +kernel
theorem d_Steps_checkBlock_91 : decode b_Steps_checkBlock 91 = .ok (.invokevirtual 112, 3) := by decide +kernel
theorem ml_Steps_112 : Cond.methodLink R_Steps 112 ⟨"PointerHouse$Scope", "forgetVars", "(I)V"⟩ ∈ lw_good := lg_right (i := 1573) (by decide +kernel) rfl
theorem d_Steps_checkBlock_94 : decode b_Steps_checkBlock 94 = .ok (.return_, 1) := by decide +kernel
abbrev b_Steps_checkStep : ByteArray := prog_11_method_5_code
abbrev y_Steps_checkStep : MethodName := ⟨R_Steps, "checkStep", "(II)V"⟩
theorem co_Steps_checkStep : Cond.code y_Steps_checkStep b_Steps_checkStep 6 none ∈ lw_good := lg_in (tin_5 _ (List.mem_of_getElem? (i := 228) rfl)) rfl
abbrev w_Steps_checkStep : List Cond := Cond.code y_Steps_checkStep b_Steps_checkStep 6 none :: lw_good
theorem im_Steps_checkStep : Cond.instanceMethod y_Steps_checkStep ∈ lw_good := lg_right (i := 1187) (by decide +kernel) rfl
theorem se_Steps_checkStep : Cond.selects R_Steps y_Steps_checkStep y_Steps_checkStep ∈ lw_good := lg_left (i := 46) (by decide +kernel) rfl
theorem d_Steps_checkStep_0 : decode b_Steps_checkStep 0 = .ok (.aload_n 0, 1) := by decide +kernel
theorem d_Steps_checkStep_1 : decode b_Steps_checkStep 1 = .ok (.getfield 9, 3) := by decide +kernel
theorem d_Steps_checkStep_4 : decode b_Steps_checkStep 4 = .ok (.getfield 115, 3) := by decide +kernel
theorem fl_Steps_115 : Cond.fieldLink R_Steps 115 "PointerHouse$Source" "kind" "[I" ∈ lw_good := lg_right (i := 193) (by decide +kernel) rfl
theorem d_Steps_checkStep_7 : decode b_Steps_checkStep 7 = .ok (.iload_n 1, 1) := by decide +kernel
theorem d_Steps_checkStep_8 : decode b_Steps_checkStep 8 = .ok (.iaload, 1) := by decide +kernel
theorem d_Steps_checkStep_9 : decode b_Steps_checkStep 9 = .ok (.tableswitch 373 15 50 #[159, 168, 373, 177, 186, 195, 260, 269, 277, 373, 224, 373, 373, 373, 373, 373, 373, 373, 373, 373, 373, 373, 373, 373, 373, 373, 373, 373, 373, 373, 373, 373, 373, 373, 373, 286], 159) := by decide +kernel
theorem d_Steps_checkStep_168 : decode b_Steps_checkStep 168 = .ok (.aload_n 0, 1) := by decide +kernel
theorem d_Steps_checkStep_169 : decode b_Steps_checkStep 169 = .ok (.iload_n 1, 1) := by decide +kernel
theorem d_Steps_checkStep_170 : decode b_Steps_checkStep 170 = .ok (.iload_n 2, 1) := by decide +kernel
theorem d_Steps_checkStep_171 : decode b_Steps_checkStep 171 = .ok (.invokevirtual 116, 3) := by decide +kernel
theorem ml_Steps_116 : Cond.methodLink R_Steps 116 ⟨"PointerHouse$Steps", "checkVar", "(II)V"⟩ ∈ lw_good := lg_right (i := 1189) (by decide +kernel) rfl
theorem d_Steps_checkStep_174 : decode b_Steps_checkStep 174 = .ok (.goto 244, 3) := by decide +kernel
theorem d_Steps_checkStep_177 : decode b_Steps_checkStep 177 = .ok (.aload_n 0, 1) := by decide +kernel
theorem d_Steps_checkStep_178 : decode b_Steps_checkStep 178 = .ok (.iload_n 1, 1) := by decide +kernel
theorem d_Steps_checkStep_179 : decode b_Steps_checkStep 179 = .ok (.iload_n 2, 1) := by decide +kernel
theorem d_Steps_checkStep_180 : decode b_Steps_checkStep 180 = .ok (.invokevirtual 119, 3) := by decide +kernel
theorem ml_Steps_119 : Cond.methodLink R_Steps 119 ⟨"PointerHouse$Steps", "checkIf", "(II)V"⟩ ∈ lw_good := lg_right (i := 1461) (by decide +kernel) rfl
theorem d_Steps_checkStep_183 : decode b_Steps_checkStep 183 = .ok (.goto 235, 3) := by decide +kernel
theorem d_Steps_checkStep_186 : decode b_Steps_checkStep 186 = .ok (.aload_n 0, 1) := by decide +kernel
theorem d_Steps_checkStep_187 : decode b_Steps_checkStep 187 = .ok (.iload_n 1, 1) := by decide +kernel
theorem d_Steps_checkStep_188 : decode b_Steps_checkStep 188 = .ok (.iload_n 2, 1) := by decide +kernel
theorem d_Steps_checkStep_189 : decode b_Steps_checkStep 189 = .ok (.invokevirtual 122, 3) := by decide +kernel
theorem ml_Steps_122 : Cond.methodLink R_Steps 122 ⟨"PointerHouse$Steps", "checkWhile", "(II)V"⟩ ∈ lw_good := lg_right (i := 1509) (by decide +kernel) rfl
theorem d_Steps_checkStep_192 : decode b_Steps_checkStep 192 = .ok (.goto 226, 3) := by decide +kernel
theorem d_Steps_checkStep_195 : decode b_Steps_checkStep 195 = .ok (.aload_n 0, 1) := by decide +kernel
theorem d_Steps_checkStep_196 : decode b_Steps_checkStep 196 = .ok (.iload_n 1, 1) := by decide +kernel
theorem d_Steps_checkStep_197 : decode b_Steps_checkStep 197 = .ok (.iload_n 2, 1) := by decide +kernel
theorem d_Steps_checkStep_198 : decode b_Steps_checkStep 198 = .ok (.invokevirtual 125, 3) := by decide +kernel
theorem ml_Steps_125 : Cond.methodLink R_Steps 125 ⟨"PointerHouse$Steps", "checkReturn", "(II)V"⟩ ∈ lw_good := lg_right (i := 1520) (by decide +kernel) rfl
theorem d_Steps_checkStep_201 : decode b_Steps_checkStep 201 = .ok (.goto 217, 3) := by decide +kernel
theorem d_Steps_checkStep_204 : decode b_Steps_checkStep 204 = .ok (.aload_n 0, 1) := by decide +kernel
theorem d_Steps_checkStep_205 : decode b_Steps_checkStep 205 = .ok (.aload_n 0, 1) := by decide +kernel
theorem d_Steps_checkStep_206 : decode b_Steps_checkStep 206 = .ok (.getfield 9, 3) := by decide +kernel
theorem d_Steps_checkStep_209 : decode b_Steps_checkStep 209 = .ok (.getfield 128, 3) := by decide +kernel
theorem fl_Steps_128 : Cond.fieldLink R_Steps 128 "PointerHouse$Source" "right" "[I" ∈ lw_good := lg_right (i := 214) (by decide +kernel) rfl
theorem d_Steps_checkStep_212 : decode b_Steps_checkStep 212 = .ok (.iload_n 1, 1) := by decide +kernel
theorem d_Steps_checkStep_213 : decode b_Steps_checkStep 213 = .ok (.iaload, 1) := by decide +kernel
theorem d_Steps_checkStep_214 : decode b_Steps_checkStep 214 = .ok (.iload_n 2, 1) := by decide +kernel
theorem d_Steps_checkStep_215 : decode b_Steps_checkStep 215 = .ok (.invokevirtual 131, 3) := by decide +kernel
theorem ml_Steps_131 : Cond.methodLink R_Steps 131 ⟨"PointerHouse$Steps", "checkNumber", "(II)V"⟩ ∈ lw_good := lg_right (i := 1531) (by decide +kernel) rfl
theorem d_Steps_checkStep_218 : decode b_Steps_checkStep 218 = .ok (.aload_n 0, 1) := by decide +kernel
theorem d_Steps_checkStep_219 : decode b_Steps_checkStep 219 = .ok (.getfield 39, 3) := by decide +kernel
theorem d_Steps_checkStep_222 : decode b_Steps_checkStep 222 = .ok (.bipush 7, 2) := by decide +kernel
theorem d_Steps_checkStep_224 : decode b_Steps_checkStep 224 = .ok (.iconst 0, 1) := by decide +kernel
theorem d_Steps_checkStep_225 : decode b_Steps_checkStep 225 = .ok (.iconst 0, 1) := by decide +kernel
theorem d_Steps_checkStep_226 : decode b_Steps_checkStep 226 = .ok (.invokevirtual 96, 3) := by decide +kernel
theorem d_Steps_checkStep_229 : decode b_Steps_checkStep 229 = .ok (.pop, 1) := by decide +kernel
theorem d_Steps_checkStep_230 : decode b_Steps_checkStep 230 = .ok (.goto 188, 3) := by decide +kernel
theorem d_Steps_checkStep_233 : decode b_Steps_checkStep 233 = .ok (.aload_n 0, 1) := by decide +kernel
theorem d_Steps_checkStep_234 : decode b_Steps_checkStep 234 = .ok (.aload_n 0, 1) := by decide +kernel
theorem d_Steps_checkStep_235 : decode b_Steps_checkStep 235 = .ok (.getfield 9, 3) := by decide +kernel
theorem d_Steps_checkStep_238 : decode b_Steps_checkStep 238 = .ok (.getfield 128, 3) := by decide +kernel
theorem d_Steps_checkStep_241 : decode b_Steps_checkStep 241 = .ok (.iload_n 1, 1) := by decide +kernel
theorem d_Steps_checkStep_242 : decode b_Steps_checkStep 242 = .ok (.iaload, 1) := by decide +kernel
theorem d_Steps_checkStep_243 : decode b_Steps_checkStep 243 = .ok (.iload_n 2, 1) := by decide +kernel
theorem d_Steps_checkStep_244 : decode b_Steps_checkStep 244 = .ok (.invokevirtual 131, 3) := by decide +kernel
theorem d_Steps_checkStep_247 : decode b_Steps_checkStep 247 = .ok (.aload_n 0, 1) := by decide +kernel
theorem d_Steps_checkStep_248 : decode b_Steps_checkStep 248 = .ok (.getfield 39, 3) := by decide +kernel
theorem d_Steps_checkStep_251 : decode b_Steps_checkStep 251 = .ok (.bipush 56, 2) := by decide +kernel
theorem d_Steps_checkStep_253 : decode b_Steps_checkStep 253 = .ok (.iconst 0, 1) := by decide +kernel
theorem d_Steps_checkStep_254 : decode b_Steps_checkStep 254 = .ok (.iconst 0, 1) := by decide +kernel
theorem d_Steps_checkStep_255 : decode b_Steps_checkStep 255 = .ok (.invokevirtual 96, 3) := by decide +kernel
theorem d_Steps_checkStep_258 : decode b_Steps_checkStep 258 = .ok (.pop, 1) := by decide +kernel
theorem d_Steps_checkStep_259 : decode b_Steps_checkStep 259 = .ok (.aload_n 0, 1) := by decide +kernel
theorem d_Steps_checkStep_260 : decode b_Steps_checkStep 260 = .ok (.getfield 34, 3) := by decide +kernel
theorem d_Steps_checkStep_263 : decode b_Steps_checkStep 263 = .ok (.invokevirtual 134, 3) := by decide +kernel
theorem ml_Steps_134 : Cond.methodLink R_Steps 134 ⟨"PointerHouse$Scope", "leave", "()V"⟩ ∈ lw_good := lg_right (i := 1526) (by decide +kernel) rfl
theorem d_Steps_checkStep_266 : decode b_Steps_checkStep 266 = .ok (.goto 152, 3) := by decide +kernel
theorem d_Steps_checkStep_269 : decode b_Steps_checkStep 269 = .ok (.aload_n 0, 1) := by decide +kernel
theorem d_Steps_checkStep_270 : decode b_Steps_checkStep 270 = .ok (.iload_n 1, 1) := by decide +kernel
theorem d_Steps_checkStep_271 : decode b_Steps_checkStep 271 = .ok (.iload_n 2, 1) := by decide +kernel
theorem d_Steps_checkStep_272 : decode b_Steps_checkStep 272 = .ok (.invokevirtual 137, 3) := by decide +kernel
theorem ml_Steps_137 : Cond.methodLink R_Steps 137 ⟨"PointerHouse$Steps", "checkRegion", "(II)V"⟩ ∈ lw_good := lg_right (i := 1535) (by decide +kernel) rfl
theorem d_Steps_checkStep_275 : decode b_Steps_checkStep 275 = .ok (.goto 143, 3) := by decide +kernel
theorem d_Steps_checkStep_278 : decode b_Steps_checkStep 278 = .ok (.aload_n 0, 1) := by decide +kernel
theorem d_Steps_checkStep_279 : decode b_Steps_checkStep 279 = .ok (.iload_n 1, 1) := by decide +kernel
theorem d_Steps_checkStep_280 : decode b_Steps_checkStep 280 = .ok (.invokevirtual 140, 3) := by decide +kernel
theorem ml_Steps_140 : Cond.methodLink R_Steps 140 ⟨"PointerHouse$Steps", "checkClose", "(I)V"⟩ ∈ lw_good := lg_right (i := 1549) (by decide +kernel) rfl
theorem d_Steps_checkStep_283 : decode b_Steps_checkStep 283 = .ok (.goto 135, 3) := by decide +kernel
theorem d_Steps_checkStep_286 : decode b_Steps_checkStep 286 = .ok (.aload_n 0, 1) := by decide +kernel
theorem d_Steps_checkStep_287 : decode b_Steps_checkStep 287 = .ok (.iload_n 1, 1) := by decide +kernel
theorem d_Steps_checkStep_288 : decode b_Steps_checkStep 288 = .ok (.iload_n 2, 1) := by decide +kernel
theorem d_Steps_checkStep_289 : decode b_Steps_checkStep 289 = .ok (.invokevirtual 143, 3) := by decide +kernel
theorem ml_Steps_143 : Cond.methodLink R_Steps 143 ⟨"PointerHouse$Steps", "checkTry", "(II)V"⟩ ∈ lw_good := lg_right (i := 1559) (by decide +kernel) rfl
theorem d_Steps_checkStep_292 : decode b_Steps_checkStep 292 = .ok (.goto 126, 3) := by decide +kernel
theorem d_Steps_checkStep_295 : decode b_Steps_checkStep 295 = .ok (.aload_n 0, 1) := by decide +kernel
theorem d_Steps_checkStep_296 : decode b_Steps_checkStep 296 = .ok (.getfield 9, 3) := by decide +kernel
theorem d_Steps_checkStep_299 : decode b_Steps_checkStep 299 = .ok (.getfield 128, 3) := by decide +kernel
theorem d_Steps_checkStep_302 : decode b_Steps_checkStep 302 = .ok (.iload_n 1, 1) := by decide +kernel
theorem d_Steps_checkStep_303 : decode b_Steps_checkStep 303 = .ok (.iaload, 1) := by decide +kernel
theorem d_Steps_checkStep_304 : decode b_Steps_checkStep 304 = .ok (.istore_n 3, 1) := by decide +kernel
theorem d_Steps_checkStep_305 : decode b_Steps_checkStep 305 = .ok (.aload_n 0, 1) := by decide +kernel
theorem d_Steps_checkStep_306 : decode b_Steps_checkStep 306 = .ok (.getfield 35, 3) := by decide +kernel
theorem fl_Steps_35 : Cond.fieldLink R_Steps 35 "PointerHouse$Steps" "exprs" "LPointerHouse$Exprs;" ∈ lw_good := lg_right (i := 570) (by decide +kernel) rfl
theorem d_Steps_checkStep_309 : decode b_Steps_checkStep 309 = .ok (.iload_n 3, 1) := by decide +kernel
theorem d_Steps_checkStep_310 : decode b_Steps_checkStep 310 = .ok (.iload_n 2, 1) := by decide +kernel
theorem d_Steps_checkStep_311 : decode b_Steps_checkStep 311 = .ok (.iconst 1, 1) := by decide +kernel
theorem d_Steps_checkStep_312 : decode b_Steps_checkStep 312 = .ok (.iadd, 1) := by decide +kernel
theorem d_Steps_checkStep_313 : decode b_Steps_checkStep 313 = .ok (.invokevirtual 146, 3) := by decide +kernel
theorem ml_Steps_146 : Cond.methodLink R_Steps 146 ⟨"PointerHouse$Exprs", "check", "(II)I"⟩ ∈ lw_good := lg_right (i := 1195) (by decide +kernel) rfl
theorem d_Steps_checkStep_316 : decode b_Steps_checkStep 316 = .ok (.istore 4, 2) := by decide +kernel
theorem d_Steps_checkStep_318 : decode b_Steps_checkStep 318 = .ok (.aload_n 0, 1) := by decide +kernel
theorem d_Steps_checkStep_319 : decode b_Steps_checkStep 319 = .ok (.getfield 35, 3) := by decide +kernel
theorem d_Steps_checkStep_322 : decode b_Steps_checkStep 322 = .ok (.aload_n 0, 1) := by decide +kernel
theorem d_Steps_checkStep_323 : decode b_Steps_checkStep 323 = .ok (.getfield 9, 3) := by decide +kernel
theorem d_Steps_checkStep_326 : decode b_Steps_checkStep 326 = .ok (.getfield 152, 3) := by decide +kernel
theorem fl_Steps_152 : Cond.fieldLink R_Steps 152 "PointerHouse$Source" "left" "[I" ∈ lw_good := lg_right (i := 210) (by decide +kernel) rfl
theorem d_Steps_checkStep_329 : decode b_Steps_checkStep 329 = .ok (.iload_n 1, 1) := by decide +kernel
theorem d_Steps_checkStep_330 : decode b_Steps_checkStep 330 = .ok (.iaload, 1) := by decide +kernel
theorem d_Steps_checkStep_331 : decode b_Steps_checkStep 331 = .ok (.invokevirtual 155, 3) := by decide +kernel
theorem ml_Steps_155 : Cond.methodLink R_Steps 155 ⟨"PointerHouse$Exprs", "nameAlone", "(I)I"⟩ ∈ lw_good := lg_right (i := 1563) (by decide +kernel) rfl
theorem d_Steps_checkStep_334 : decode b_Steps_checkStep 334 = .ok (.istore 5, 2) := by decide +kernel
theorem d_Steps_checkStep_336 : decode b_Steps_checkStep 336 = .ok (.iload 5, 2) := by decide +kernel
theorem d_Steps_checkStep_338 : decode b_Steps_checkStep 338 = .ok (.iconst (-1), 1) := by decide +kernel
theorem d_Steps_checkStep_339 : decode b_Steps_checkStep 339 = .ok (.if_icmp .ne 28, 3) := by decide +kernel
theorem d_Steps_checkStep_342 : decode b_Steps_checkStep 342 = .ok (.aload_n 0, 1) := by decide +kernel
theorem d_Steps_checkStep_343 : decode b_Steps_checkStep 343 = .ok (.getfield 35, 3) := by decide +kernel
theorem d_Steps_checkStep_346 : decode b_Steps_checkStep 346 = .ok (.aload_n 0, 1) := by decide +kernel
theorem d_Steps_checkStep_347 : decode b_Steps_checkStep 347 = .ok (.getfield 9, 3) := by decide +kernel
theorem d_Steps_checkStep_350 : decode b_Steps_checkStep 350 = .ok (.getfield 152, 3) := by decide +kernel
theorem d_Steps_checkStep_353 : decode b_Steps_checkStep 353 = .ok (.iload_n 1, 1) := by decide +kernel
theorem d_Steps_checkStep_354 : decode b_Steps_checkStep 354 = .ok (.iaload, 1) := by decide +kernel
theorem d_Steps_checkStep_355 : decode b_Steps_checkStep 355 = .ok (.iload 4, 2) := by decide +kernel
theorem d_Steps_checkStep_357 : decode b_Steps_checkStep 357 = .ok (.iload_n 3, 1) := by decide +kernel
theorem d_Steps_checkStep_358 : decode b_Steps_checkStep 358 = .ok (.iload_n 2, 1) := by decide +kernel
theorem d_Steps_checkStep_359 : decode b_Steps_checkStep 359 = .ok (.iconst 1, 1) := by decide +kernel
theorem d_Steps_checkStep_360 : decode b_Steps_checkStep 360 = .ok (.iadd, 1) := by decide +kernel
theorem d_Steps_checkStep_361 : decode b_Steps_checkStep 361 = .ok (.invokevirtual 158, 3) := by decide +kernel
theorem ml_Steps_158 : Cond.methodLink R_Steps 158 ⟨"PointerHouse$Exprs", "storePlace", "(IIII)V"⟩ ∈ lw_good := lg_right (i := 1564) (by decide +kernel) rfl
theorem d_Steps_checkStep_364 : decode b_Steps_checkStep 364 = .ok (.goto 54, 3) := by decide +kernel
theorem d_Steps_checkStep_367 : decode b_Steps_checkStep 367 = .ok (.aload_n 0, 1) := by decide +kernel
theorem d_Steps_checkStep_368 : decode b_Steps_checkStep 368 = .ok (.getfield 35, 3) := by decide +kernel
theorem d_Steps_checkStep_371 : decode b_Steps_checkStep 371 = .ok (.iload 5, 2) := by decide +kernel
theorem d_Steps_checkStep_373 : decode b_Steps_checkStep 373 = .ok (.iload 4, 2) := by decide +kernel
theorem d_Steps_checkStep_375 : decode b_Steps_checkStep 375 = .ok (.iload_n 3, 1) := by decide +kernel
theorem d_Steps_checkStep_376 : decode b_Steps_checkStep 376 = .ok (.invokevirtual 162, 3) := by decide +kernel
theorem ml_Steps_162 : Cond.methodLink R_Steps 162 ⟨"PointerHouse$Exprs", "storeVar", "(III)V"⟩ ∈ lw_good := lg_right (i := 1568) (by decide +kernel) rfl
theorem d_Steps_checkStep_379 : decode b_Steps_checkStep 379 = .ok (.goto 39, 3) := by decide +kernel
theorem d_Steps_checkStep_382 : decode b_Steps_checkStep 382 = .ok (.aload_n 0, 1) := by decide +kernel
theorem d_Steps_checkStep_383 : decode b_Steps_checkStep 383 = .ok (.getfield 39, 3) := by decide +kernel
theorem d_Steps_checkStep_386 : decode b_Steps_checkStep 386 = .ok (.iconst 5, 1) := by decide +kernel
theorem d_Steps_checkStep_387 : decode b_Steps_checkStep 387 = .ok (.aload_n 0, 1) := by decide +kernel
theorem d_Steps_checkStep_388 : decode b_Steps_checkStep 388 = .ok (.getfield 29, 3) := by decide +kernel
theorem fl_Steps_29 : Cond.fieldLink R_Steps 29 "PointerHouse$Steps" "types" "LPointerHouse$Types;" ∈ lw_good := lg_right (i := 568) (by decide +kernel) rfl
theorem d_Steps_checkStep_391 : decode b_Steps_checkStep 391 = .ok (.aload_n 0, 1) := by decide +kernel
theorem d_Steps_checkStep_392 : decode b_Steps_checkStep 392 = .ok (.getfield 35, 3) := by decide +kernel
theorem d_Steps_checkStep_395 : decode b_Steps_checkStep 395 = .ok (.aload_n 0, 1) := by decide +kernel
theorem d_Steps_checkStep_396 : decode b_Steps_checkStep 396 = .ok (.getfield 9, 3) := by decide +kernel
theorem d_Steps_checkStep_399 : decode b_Steps_checkStep 399 = .ok (.getfield 128, 3) := by decide +kernel
theorem d_Steps_checkStep_402 : decode b_Steps_checkStep 402 = .ok (.iload_n 1, 1) := by decide +kernel
theorem d_Steps_checkStep_403 : decode b_Steps_checkStep 403 = .ok (.iaload, 1) := by decide +kernel
theorem d_Steps_checkStep_404 : decode b_Steps_checkStep 404 = .ok (.iload_n 2, 1) := by decide +kernel
theorem d_Steps_checkStep_405 : decode b_Steps_checkStep 405 = .ok (.iconst 1, 1) := by decide +kernel
theorem d_Steps_checkStep_406 : decode b_Steps_checkStep 406 = .ok (.iadd, 1) := by decide +kernel
theorem d_Steps_checkStep_407 : decode b_Steps_checkStep 407 = .ok (.invokevirtual 146, 3) := by decide +kernel
theorem d_Steps_checkStep_410 : decode b_Steps_checkStep 410 = .ok (.invokevirtual 166, 3) := by decide +kernel
theorem ml_Steps_166 : Cond.methodLink R_Steps 166 ⟨"PointerHouse$Types", "wordsOf", "(I)I"⟩ ∈ lw_good := lg_right (i := 1525) (by decide +kernel) rfl
theorem d_Steps_checkStep_413 : decode b_Steps_checkStep 413 = .ok (.iconst 0, 1) := by decide +kernel
theorem d_Steps_checkStep_414 : decode b_Steps_checkStep 414 = .ok (.invokevirtual 96, 3) := by decide +kernel
theorem d_Steps_checkStep_417 : decode b_Steps_checkStep 417 = .ok (.pop, 1) := by decide +kernel
theorem d_Steps_checkStep_418 : decode b_Steps_checkStep 418 = .ok (.return_, 1) := by decide +kernel
abbrev b_Steps_checkVar : ByteArray := prog_11_method_7_code
abbrev y_Steps_checkVar : MethodName := ⟨R_Steps, "checkVar", "(II)V"⟩
theorem co_Steps_checkVar : Cond.code y_Steps_checkVar b_Steps_checkVar 8 none ∈ lw_good := lg_in (tin_5 _ (List.mem_of_getElem? (i := 232) rfl)) rfl
abbrev w_Steps_checkVar : List Cond := Cond.code y_Steps_checkVar b_Steps_checkVar 8 none :: lw_good
theorem im_Steps_checkVar : Cond.instanceMethod y_Steps_checkVar ∈ lw_good := lg_right (i := 1191) (by decide +kernel) rfl
theorem se_Steps_checkVar : Cond.selects R_Steps y_Steps_checkVar y_Steps_checkVar ∈ lw_good := lg_left (i := 47) (by decide +kernel) rfl
theorem d_Steps_checkVar_0 : decode b_Steps_checkVar 0 = .ok (.aload_n 0, 1) := by decide +kernel
theorem d_Steps_checkVar_1 : decode b_Steps_checkVar 1 = .ok (.getfield 9, 3) := by decide +kernel
theorem d_Steps_checkVar_4 : decode b_Steps_checkVar 4 = .ok (.getfield 103, 3) := by decide +kernel
theorem d_Steps_checkVar_7 : decode b_Steps_checkVar 7 = .ok (.iload_n 1, 1) := by decide +kernel
theorem d_Steps_checkVar_8 : decode b_Steps_checkVar 8 = .ok (.iaload, 1) := by decide +kernel
theorem d_Steps_checkVar_9 : decode b_Steps_checkVar 9 = .ok (.iconst 1, 1) := by decide +kernel
theorem d_Steps_checkVar_10 : decode b_Steps_checkVar 10 = .ok (.iadd, 1) := by decide +kernel
theorem d_Steps_checkVar_11 : decode b_Steps_checkVar 11 = .ok (.istore_n 3, 1) := by decide +kernel
theorem d_Steps_checkVar_12 : decode b_Steps_checkVar 12 = .ok (.aload_n 0, 1) := by decide +kernel
theorem d_Steps_checkVar_13 : decode b_Steps_checkVar 13 = .ok (.getfield 9, 3) := by decide +kernel
theorem d_Steps_checkVar_16 : decode b_Steps_checkVar 16 = .ok (.getfield 128, 3) := by decide +kernel
theorem d_Steps_checkVar_19 : decode b_Steps_checkVar 19 = .ok (.iload_n 1, 1) := by decide +kernel
theorem d_Steps_checkVar_20 : decode b_Steps_checkVar 20 = .ok (.iaload, 1) := by decide +kernel
theorem d_Steps_checkVar_21 : decode b_Steps_checkVar 21 = .ok (.istore 4, 2) := by decide +kernel
theorem d_Steps_checkVar_23 : decode b_Steps_checkVar 23 = .ok (.aload_n 0, 1) := by decide +kernel
theorem d_Steps_checkVar_24 : decode b_Steps_checkVar 24 = .ok (.getfield 39, 3) := by decide +kernel
theorem d_Steps_checkVar_27 : decode b_Steps_checkVar 27 = .ok (.iconst 2, 1) := by decide +kernel
theorem d_Steps_checkVar_28 : decode b_Steps_checkVar 28 = .ok (.invokevirtual 174, 3) := by decide +kernel
theorem ml_Steps_174 : Cond.methodLink R_Steps 174 ⟨"PointerHouse$Code", "tally", "(I)V"⟩ ∈ lw_good := lg_right (i := 1193) (by decide +kernel) rfl
theorem d_Steps_checkVar_31 : decode b_Steps_checkVar 31 = .ok (.aload_n 0, 1) := by decide +kernel
theorem d_Steps_checkVar_32 : decode b_Steps_checkVar 32 = .ok (.getfield 19, 3) := by decide +kernel
theorem fl_Steps_19 : Cond.fieldLink R_Steps 19 "PointerHouse$Steps" "heads" "LPointerHouse$Heads;" ∈ lw_good := lg_right (i := 567) (by decide +kernel) rfl
theorem d_Steps_checkVar_35 : decode b_Steps_checkVar 35 = .ok (.iload_n 3, 1) := by decide +kernel
theorem d_Steps_checkVar_36 : decode b_Steps_checkVar 36 = .ok (.iconst 2, 1) := by decide +kernel
theorem d_Steps_checkVar_37 : decode b_Steps_checkVar 37 = .ok (.iadd, 1) := by decide +kernel
theorem d_Steps_checkVar_38 : decode b_Steps_checkVar 38 = .ok (.iconst 1, 1) := by decide +kernel
theorem d_Steps_checkVar_39 : decode b_Steps_checkVar 39 = .ok (.invokevirtual 177, 3) := by decide +kernel
theorem ml_Steps_177 : Cond.methodLink R_Steps 177 ⟨"PointerHouse$Heads", "readType", "(II)I"⟩ ∈ lw_good := lg_right (i := 1194) (by decide +kernel) rfl
theorem d_Steps_checkVar_42 : decode b_Steps_checkVar 42 = .ok (.istore 5, 2) := by decide +kernel
theorem d_Steps_checkVar_44 : decode b_Steps_checkVar 44 = .ok (.aload_n 0, 1) := by decide +kernel
theorem d_Steps_checkVar_45 : decode b_Steps_checkVar 45 = .ok (.getfield 35, 3) := by decide +kernel
theorem d_Steps_checkVar_48 : decode b_Steps_checkVar 48 = .ok (.iload 4, 2) := by decide +kernel
theorem d_Steps_checkVar_50 : decode b_Steps_checkVar 50 = .ok (.iload_n 2, 1) := by decide +kernel
theorem d_Steps_checkVar_51 : decode b_Steps_checkVar 51 = .ok (.iconst 1, 1) := by decide +kernel
theorem d_Steps_checkVar_52 : decode b_Steps_checkVar 52 = .ok (.iadd, 1) := by decide +kernel
theorem d_Steps_checkVar_53 : decode b_Steps_checkVar 53 = .ok (.invokevirtual 146, 3) := by decide +kernel
theorem d_Steps_checkVar_56 : decode b_Steps_checkVar 56 = .ok (.istore 6, 2) := by decide +kernel
theorem d_Steps_checkVar_58 : decode b_Steps_checkVar 58 = .ok (.iload 4, 2) := by decide +kernel
theorem d_Steps_checkVar_60 : decode b_Steps_checkVar 60 = .ok (.ifCond .eq 16, 3) := by decide +kernel
theorem d_Steps_checkVar_63 : decode b_Steps_checkVar 63 = .ok (.aload_n 0, 1) := by decide +kernel
theorem d_Steps_checkVar_64 : decode b_Steps_checkVar 64 = .ok (.getfield 35, 3) := by decide +kernel
theorem d_Steps_checkVar_67 : decode b_Steps_checkVar 67 = .ok (.iload 6, 2) := by decide +kernel
theorem d_Steps_checkVar_69 : decode b_Steps_checkVar 69 = .ok (.iload 5, 2) := by decide +kernel
theorem d_Steps_checkVar_71 : decode b_Steps_checkVar 71 = .ok (.iload 4, 2) := by decide +kernel
theorem d_Steps_checkVar_73 : decode b_Steps_checkVar 73 = .ok (.invokevirtual 180, 3) := by decide +kernel
theorem ml_Steps_180 : Cond.methodLink R_Steps 180 ⟨"PointerHouse$Exprs", "demandFit", "(III)V"⟩ ∈ lw_good := lg_right (i := 1451) (by decide +kernel) rfl
theorem d_Steps_checkVar_76 : decode b_Steps_checkVar 76 = .ok (.aload_n 0, 1) := by decide +kernel
theorem d_Steps_checkVar_77 : decode b_Steps_checkVar 77 = .ok (.getfield 35, 3) := by decide +kernel
theorem d_Steps_checkVar_80 : decode b_Steps_checkVar 80 = .ok (.aload_n 0, 1) := by decide +kernel
theorem d_Steps_checkVar_81 : decode b_Steps_checkVar 81 = .ok (.getfield 34, 3) := by decide +kernel
theorem d_Steps_checkVar_84 : decode b_Steps_checkVar 84 = .ok (.aload_n 0, 1) := by decide +kernel
theorem d_Steps_checkVar_85 : decode b_Steps_checkVar 85 = .ok (.getfield 9, 3) := by decide +kernel
theorem d_Steps_checkVar_88 : decode b_Steps_checkVar 88 = .ok (.iload_n 3, 1) := by decide +kernel
theorem d_Steps_checkVar_89 : decode b_Steps_checkVar 89 = .ok (.invokevirtual 183, 3) := by decide +kernel
theorem ml_Steps_183 : Cond.methodLink R_Steps 183 ⟨"PointerHouse$Source", "nameAt", "(I)J"⟩ ∈ lw_good := lg_right (i := 1452) (by decide +kernel) rfl
theorem d_Steps_checkVar_92 : decode b_Steps_checkVar 92 = .ok (.invokevirtual 187, 3) := by decide +kernel
theorem ml_Steps_187 : Cond.methodLink R_Steps 187 ⟨"PointerHouse$Scope", "findVar", "(J)I"⟩ ∈ lw_good := lg_right (i := 1453) (by decide +kernel) rfl
theorem d_Steps_checkVar_95 : decode b_Steps_checkVar 95 = .ok (.iconst (-1), 1) := by decide +kernel
theorem d_Steps_checkVar_96 : decode b_Steps_checkVar 96 = .ok (.if_icmp .ne 7, 3) := by decide +kernel
theorem d_Steps_checkVar_99 : decode b_Steps_checkVar 99 = .ok (.iconst 1, 1) := by decide +kernel
theorem d_Steps_checkVar_100 : decode b_Steps_checkVar 100 = .ok (.goto 4, 3) := by decide +kernel
theorem d_Steps_checkVar_103 : decode b_Steps_checkVar 103 = .ok (.iconst 0, 1) := by decide +kernel
theorem d_Steps_checkVar_104 : decode b_Steps_checkVar 104 = .ok (.iconst 2, 1) := by decide +kernel
theorem d_Steps_checkVar_105 : decode b_Steps_checkVar 105 = .ok (.aload_n 0, 1) := by decide +kernel
theorem d_Steps_checkVar_106 : decode b_Steps_checkVar 106 = .ok (.getfield 9, 3) := by decide +kernel
theorem d_Steps_checkVar_109 : decode b_Steps_checkVar 109 = .ok (.iload_n 3, 1) := by decide +kernel
theorem d_Steps_checkVar_110 : decode b_Steps_checkVar 110 = .ok (.invokevirtual 87, 3) := by decide +kernel
theorem d_Steps_checkVar_113 : decode b_Steps_checkVar 113 = .ok (.invokevirtual 191, 3) := by decide +kernel
theorem ml_Steps_191 : Cond.methodLink R_Steps 191 ⟨"PointerHouse$Exprs", "demand", "(ZII)V"⟩ ∈ lw_good := lg_right (i := 1454) (by decide +kernel) rfl
theorem d_Steps_checkVar_116 : decode b_Steps_checkVar 116 = .ok (.aload_n 0, 1) := by decide +kernel
theorem d_Steps_checkVar_117 : decode b_Steps_checkVar 117 = .ok (.getfield 34, 3) := by decide +kernel
theorem d_Steps_checkVar_120 : decode b_Steps_checkVar 120 = .ok (.aload_n 0, 1) := by decide +kernel
theorem d_Steps_checkVar_121 : decode b_Steps_checkVar 121 = .ok (.getfield 9, 3) := by decide +kernel
theorem d_Steps_checkVar_124 : decode b_Steps_checkVar 124 = .ok (.iload_n 3, 1) := by decide +kernel
theorem d_Steps_checkVar_125 : decode b_Steps_checkVar 125 = .ok (.invokevirtual 183, 3) := by decide +kernel
theorem d_Steps_checkVar_128 : decode b_Steps_checkVar 128 = .ok (.iload 5, 2) := by decide +kernel
theorem d_Steps_checkVar_130 : decode b_Steps_checkVar 130 = .ok (.invokevirtual 195, 3) := by decide +kernel
theorem ml_Steps_195 : Cond.methodLink R_Steps 195 ⟨"PointerHouse$Scope", "addVar", "(JI)I"⟩ ∈ lw_good := lg_right (i := 1455) (by decide +kernel) rfl
theorem d_Steps_checkVar_133 : decode b_Steps_checkVar 133 = .ok (.istore 7, 2) := by decide +kernel
theorem d_Steps_checkVar_135 : decode b_Steps_checkVar 135 = .ok (.iload 4, 2) := by decide +kernel
theorem d_Steps_checkVar_137 : decode b_Steps_checkVar 137 = .ok (.ifCond .eq 14, 3) := by decide +kernel
theorem d_Steps_checkVar_140 : decode b_Steps_checkVar 140 = .ok (.aload_n 0, 1) := by decide +kernel
theorem d_Steps_checkVar_141 : decode b_Steps_checkVar 141 = .ok (.getfield 35, 3) := by decide +kernel
theorem d_Steps_checkVar_144 : decode b_Steps_checkVar 144 = .ok (.iload 7, 2) := by decide +kernel
theorem d_Steps_checkVar_146 : decode b_Steps_checkVar 146 = .ok (.iload 6, 2) := by decide +kernel
theorem d_Steps_checkVar_148 : decode b_Steps_checkVar 148 = .ok (.invokevirtual 199, 3) := by decide +kernel
theorem ml_Steps_199 : Cond.methodLink R_Steps 199 ⟨"PointerHouse$Exprs", "giveVar", "(II)V"⟩ ∈ lw_good := lg_right (i := 1456) (by decide +kernel) rfl
theorem d_Steps_checkVar_151 : decode b_Steps_checkVar 151 = .ok (.return_, 1) := by decide +kernel
abbrev b_Steps_checkIf : ByteArray := prog_11_method_10_code
abbrev y_Steps_checkIf : MethodName := ⟨R_Steps, "checkIf", "(II)V"⟩
theorem co_Steps_checkIf : Cond.code y_Steps_checkIf b_Steps_checkIf 10 none ∈ lw_good := lg_in (tin_7 _ (List.mem_of_getElem? (i := 24) rfl)) rfl
abbrev w_Steps_checkIf : List Cond := Cond.code y_Steps_checkIf b_Steps_checkIf 10 none :: lw_good
theorem im_Steps_checkIf : Cond.instanceMethod y_Steps_checkIf ∈ lw_good := lg_right (i := 1463) (by decide +kernel) rfl
theorem se_Steps_checkIf : Cond.selects R_Steps y_Steps_checkIf y_Steps_checkIf ∈ lw_good := lg_left (i := 77) (by decide +kernel) rfl
theorem d_Steps_checkIf_0 : decode b_Steps_checkIf 0 = .ok (.aload_n 0, 1) := by decide +kernel
theorem d_Steps_checkIf_1 : decode b_Steps_checkIf 1 = .ok (.getfield 9, 3) := by decide +kernel
theorem d_Steps_checkIf_4 : decode b_Steps_checkIf 4 = .ok (.getfield 152, 3) := by decide +kernel
theorem d_Steps_checkIf_7 : decode b_Steps_checkIf 7 = .ok (.iload_n 1, 1) := by decide +kernel
theorem d_Steps_checkIf_8 : decode b_Steps_checkIf 8 = .ok (.iaload, 1) := by decide +kernel
theorem d_Steps_checkIf_9 : decode b_Steps_checkIf 9 = .ok (.istore_n 3, 1) := by decide +kernel
theorem d_Steps_checkIf_10 : decode b_Steps_checkIf 10 = .ok (.aload_n 0, 1) := by decide +kernel
theorem d_Steps_checkIf_11 : decode b_Steps_checkIf 11 = .ok (.iload_n 3, 1) := by decide +kernel
theorem d_Steps_checkIf_12 : decode b_Steps_checkIf 12 = .ok (.iload_n 2, 1) := by decide +kernel
theorem d_Steps_checkIf_13 : decode b_Steps_checkIf 13 = .ok (.invokevirtual 212, 3) := by decide +kernel
theorem ml_Steps_212 : Cond.methodLink R_Steps 212 ⟨"PointerHouse$Steps", "checkQuestion", "(II)V"⟩ ∈ lw_good := lg_right (i := 1465) (by decide +kernel) rfl
theorem d_Steps_checkIf_16 : decode b_Steps_checkIf 16 = .ok (.aload_n 0, 1) := by decide +kernel
theorem d_Steps_checkIf_17 : decode b_Steps_checkIf 17 = .ok (.getfield 39, 3) := by decide +kernel
theorem d_Steps_checkIf_20 : decode b_Steps_checkIf 20 = .ok (.bipush 51, 2) := by decide +kernel
theorem d_Steps_checkIf_22 : decode b_Steps_checkIf 22 = .ok (.iconst 0, 1) := by decide +kernel
theorem d_Steps_checkIf_23 : decode b_Steps_checkIf 23 = .ok (.iconst 0, 1) := by decide +kernel
theorem d_Steps_checkIf_24 : decode b_Steps_checkIf 24 = .ok (.invokevirtual 96, 3) := by decide +kernel
theorem d_Steps_checkIf_27 : decode b_Steps_checkIf 27 = .ok (.istore 4, 2) := by decide +kernel
theorem d_Steps_checkIf_29 : decode b_Steps_checkIf 29 = .ok (.aload_n 0, 1) := by decide +kernel
theorem d_Steps_checkIf_30 : decode b_Steps_checkIf 30 = .ok (.getfield 34, 3) := by decide +kernel
theorem d_Steps_checkIf_33 : decode b_Steps_checkIf 33 = .ok (.getfield 215, 3) := by decide +kernel
theorem fl_Steps_215 : Cond.fieldLink R_Steps 215 "PointerHouse$Scope" "flow" "J" ∈ lw_good := lg_right (i := 478) (by decide +kernel) rfl
theorem d_Steps_checkIf_36 : decode b_Steps_checkIf 36 = .ok (.lstore 5, 2) := by decide +kernel
theorem d_Steps_checkIf_38 : decode b_Steps_checkIf 38 = .ok (.aload_n 0, 1) := by decide +kernel
theorem d_Steps_checkIf_39 : decode b_Steps_checkIf 39 = .ok (.getfield 34, 3) := by decide +kernel
theorem d_Steps_checkIf_42 : decode b_Steps_checkIf 42 = .ok (.aload_n 0, 1) := by decide +kernel
theorem d_Steps_checkIf_43 : decode b_Steps_checkIf 43 = .ok (.getfield 35, 3) := by decide +kernel
theorem d_Steps_checkIf_46 : decode b_Steps_checkIf 46 = .ok (.iload_n 3, 1) := by decide +kernel
theorem d_Steps_checkIf_47 : decode b_Steps_checkIf 47 = .ok (.invokevirtual 219, 3) := by decide +kernel
theorem ml_Steps_219 : Cond.methodLink R_Steps 219 ⟨"PointerHouse$Exprs", "varAlone", "(I)I"⟩ ∈ lw_good := lg_right (i := 1471) (by decide +kernel) rfl
theorem d_Steps_checkIf_50 : decode b_Steps_checkIf 50 = .ok (.invokevirtual 222, 3) := by decide +kernel
theorem ml_Steps_222 : Cond.methodLink R_Steps 222 ⟨"PointerHouse$Scope", "know", "(I)V"⟩ ∈ lw_good := lg_right (i := 1479) (by decide +kernel) rfl
theorem d_Steps_checkIf_53 : decode b_Steps_checkIf 53 = .ok (.aload_n 0, 1) := by decide +kernel
theorem d_Steps_checkIf_54 : decode b_Steps_checkIf 54 = .ok (.aload_n 0, 1) := by decide +kernel
theorem d_Steps_checkIf_55 : decode b_Steps_checkIf 55 = .ok (.getfield 9, 3) := by decide +kernel
theorem d_Steps_checkIf_58 : decode b_Steps_checkIf 58 = .ok (.getfield 128, 3) := by decide +kernel
theorem d_Steps_checkIf_61 : decode b_Steps_checkIf 61 = .ok (.iload_n 1, 1) := by decide +kernel
theorem d_Steps_checkIf_62 : decode b_Steps_checkIf 62 = .ok (.iaload, 1) := by decide +kernel
theorem d_Steps_checkIf_63 : decode b_Steps_checkIf 63 = .ok (.iload_n 2, 1) := by decide +kernel
theorem d_Steps_checkIf_64 : decode b_Steps_checkIf 64 = .ok (.iconst 1, 1) := by decide +kernel
theorem d_Steps_checkIf_65 : decode b_Steps_checkIf 65 = .ok (.iadd, 1) := by decide +kernel
theorem d_Steps_checkIf_66 : decode b_Steps_checkIf 66 = .ok (.invokevirtual 73, 3) := by decide +kernel
theorem d_Steps_checkIf_69 : decode b_Steps_checkIf 69 = .ok (.aload_n 0, 1) := by decide +kernel
theorem d_Steps_checkIf_70 : decode b_Steps_checkIf 70 = .ok (.getfield 34, 3) := by decide +kernel
theorem d_Steps_checkIf_73 : decode b_Steps_checkIf 73 = .ok (.getfield 215, 3) := by decide +kernel
theorem d_Steps_checkIf_76 : decode b_Steps_checkIf 76 = .ok (.lstore 7, 2) := by decide +kernel
theorem d_Steps_checkIf_78 : decode b_Steps_checkIf 78 = .ok (.aload_n 0, 1) := by decide +kernel
theorem d_Steps_checkIf_79 : decode b_Steps_checkIf 79 = .ok (.getfield 34, 3) := by decide +kernel
theorem d_Steps_checkIf_82 : decode b_Steps_checkIf 82 = .ok (.lload 5, 2) := by decide +kernel
theorem d_Steps_checkIf_84 : decode b_Steps_checkIf 84 = .ok (.putfield 215, 3) := by decide +kernel
theorem d_Steps_checkIf_87 : decode b_Steps_checkIf 87 = .ok (.aload_n 0, 1) := by decide +kernel
theorem d_Steps_checkIf_88 : decode b_Steps_checkIf 88 = .ok (.getfield 34, 3) := by decide +kernel
theorem d_Steps_checkIf_91 : decode b_Steps_checkIf 91 = .ok (.aload_n 0, 1) := by decide +kernel
theorem d_Steps_checkIf_92 : decode b_Steps_checkIf 92 = .ok (.getfield 35, 3) := by decide +kernel
theorem d_Steps_checkIf_95 : decode b_Steps_checkIf 95 = .ok (.iload_n 3, 1) := by decide +kernel
theorem d_Steps_checkIf_96 : decode b_Steps_checkIf 96 = .ok (.invokevirtual 225, 3) := by decide +kernel
theorem ml_Steps_225 : Cond.methodLink R_Steps 225 ⟨"PointerHouse$Exprs", "varAgainstNull", "(I)I"⟩ ∈ lw_good := lg_right (i := 1480) (by decide +kernel) rfl
theorem d_Steps_checkIf_99 : decode b_Steps_checkIf 99 = .ok (.invokevirtual 222, 3) := by decide +kernel
theorem d_Steps_checkIf_102 : decode b_Steps_checkIf 102 = .ok (.aload_n 0, 1) := by decide +kernel
theorem d_Steps_checkIf_103 : decode b_Steps_checkIf 103 = .ok (.getfield 9, 3) := by decide +kernel
theorem d_Steps_checkIf_106 : decode b_Steps_checkIf 106 = .ok (.getfield 228, 3) := by decide +kernel
theorem fl_Steps_228 : Cond.fieldLink R_Steps 228 "PointerHouse$Source" "tail" "[I" ∈ lw_good := lg_right (i := 218) (by decide +kernel) rfl
theorem d_Steps_checkIf_109 : decode b_Steps_checkIf 109 = .ok (.iload_n 1, 1) := by decide +kernel
theorem d_Steps_checkIf_110 : decode b_Steps_checkIf 110 = .ok (.iaload, 1) := by decide +kernel
theorem d_Steps_checkIf_111 : decode b_Steps_checkIf 111 = .ok (.ifCond .eq 53, 3) := by decide +kernel
theorem d_Steps_checkIf_114 : decode b_Steps_checkIf 114 = .ok (.aload_n 0, 1) := by decide +kernel
theorem d_Steps_checkIf_115 : decode b_Steps_checkIf 115 = .ok (.getfield 39, 3) := by decide +kernel
theorem d_Steps_checkIf_118 : decode b_Steps_checkIf 118 = .ok (.bipush 50, 2) := by decide +kernel
theorem d_Steps_checkIf_120 : decode b_Steps_checkIf 120 = .ok (.iconst 0, 1) := by decide +kernel
theorem d_Steps_checkIf_121 : decode b_Steps_checkIf 121 = .ok (.iconst 0, 1) := by decide +kernel
theorem d_Steps_checkIf_122 : decode b_Steps_checkIf 122 = .ok (.invokevirtual 96, 3) := by decide +kernel
theorem d_Steps_checkIf_125 : decode b_Steps_checkIf 125 = .ok (.istore 9, 2) := by decide +kernel
theorem d_Steps_checkIf_127 : decode b_Steps_checkIf 127 = .ok (.aload_n 0, 1) := by decide +kernel
theorem d_Steps_checkIf_128 : decode b_Steps_checkIf 128 = .ok (.getfield 39, 3) := by decide +kernel
theorem d_Steps_checkIf_131 : decode b_Steps_checkIf 131 = .ok (.iload 4, 2) := by decide +kernel
theorem d_Steps_checkIf_133 : decode b_Steps_checkIf 133 = .ok (.invokevirtual 231, 3) := by decide +kernel
theorem ml_Steps_231 : Cond.methodLink R_Steps 231 ⟨"PointerHouse$Code", "aim", "(I)V"⟩ ∈ lw_good := lg_right (i := 1493) (by decide +kernel) rfl
theorem d_Steps_checkIf_136 : decode b_Steps_checkIf 136 = .ok (.aload_n 0, 1) := by decide +kernel
theorem d_Steps_checkIf_137 : decode b_Steps_checkIf 137 = .ok (.aload_n 0, 1) := by decide +kernel
theorem d_Steps_checkIf_138 : decode b_Steps_checkIf 138 = .ok (.getfield 9, 3) := by decide +kernel
theorem d_Steps_checkIf_141 : decode b_Steps_checkIf 141 = .ok (.getfield 228, 3) := by decide +kernel
theorem d_Steps_checkIf_144 : decode b_Steps_checkIf 144 = .ok (.iload_n 1, 1) := by decide +kernel
theorem d_Steps_checkIf_145 : decode b_Steps_checkIf 145 = .ok (.iaload, 1) := by decide +kernel
theorem d_Steps_checkIf_146 : decode b_Steps_checkIf 146 = .ok (.iload_n 2, 1) := by decide +kernel
theorem d_Steps_checkIf_147 : decode b_Steps_checkIf 147 = .ok (.iconst 1, 1) := by decide +kernel
theorem d_Steps_checkIf_148 : decode b_Steps_checkIf 148 = .ok (.iadd, 1) := by decide +kernel
theorem d_Steps_checkIf_149 : decode b_Steps_checkIf 149 = .ok (.invokevirtual 73, 3) := by decide +kernel
theorem d_Steps_checkIf_152 : decode b_Steps_checkIf 152 = .ok (.aload_n 0, 1) := by decide +kernel
theorem d_Steps_checkIf_153 : decode b_Steps_checkIf 153 = .ok (.getfield 39, 3) := by decide +kernel
theorem d_Steps_checkIf_156 : decode b_Steps_checkIf 156 = .ok (.iload 9, 2) := by decide +kernel
theorem d_Steps_checkIf_158 : decode b_Steps_checkIf 158 = .ok (.invokevirtual 231, 3) := by decide +kernel
theorem d_Steps_checkIf_161 : decode b_Steps_checkIf 161 = .ok (.goto 12, 3) := by decide +kernel
theorem d_Steps_checkIf_164 : decode b_Steps_checkIf 164 = .ok (.aload_n 0, 1) := by decide +kernel
theorem d_Steps_checkIf_165 : decode b_Steps_checkIf 165 = .ok (.getfield 39, 3) := by decide +kernel
theorem d_Steps_checkIf_168 : decode b_Steps_checkIf 168 = .ok (.iload 4, 2) := by decide +kernel
theorem d_Steps_checkIf_170 : decode b_Steps_checkIf 170 = .ok (.invokevirtual 231, 3) := by decide +kernel
theorem d_Steps_checkIf_173 : decode b_Steps_checkIf 173 = .ok (.aload_n 0, 1) := by decide +kernel
theorem d_Steps_checkIf_174 : decode b_Steps_checkIf 174 = .ok (.getfield 35, 3) := by decide +kernel
theorem d_Steps_checkIf_177 : decode b_Steps_checkIf 177 = .ok (.aload_n 0, 1) := by decide +kernel
theorem d_Steps_checkIf_178 : decode b_Steps_checkIf 178 = .ok (.getfield 34, 3) := by decide +kernel
theorem d_Steps_checkIf_181 : decode b_Steps_checkIf 181 = .ok (.lload 7, 2) := by decide +kernel
theorem d_Steps_checkIf_183 : decode b_Steps_checkIf 183 = .ok (.aload_n 0, 1) := by decide +kernel
theorem d_Steps_checkIf_184 : decode b_Steps_checkIf 184 = .ok (.getfield 34, 3) := by decide +kernel
theorem d_Steps_checkIf_187 : decode b_Steps_checkIf 187 = .ok (.getfield 215, 3) := by decide +kernel
theorem d_Steps_checkIf_190 : decode b_Steps_checkIf 190 = .ok (.invokevirtual 234, 3) := by decide +kernel
theorem ml_Steps_234 : Cond.methodLink R_Steps 234 ⟨"PointerHouse$Scope", "meet", "(JJ)Z"⟩ ∈ lw_good := lg_right (i := 1501) (by decide +kernel) rfl
theorem d_Steps_checkIf_193 : decode b_Steps_checkIf 193 = .ok (.bipush 8, 2) := by decide +kernel
theorem d_Steps_checkIf_195 : decode b_Steps_checkIf 195 = .ok (.aload_n 0, 1) := by decide +kernel
theorem d_Steps_checkIf_196 : decode b_Steps_checkIf 196 = .ok (.getfield 9, 3) := by decide +kernel
theorem d_Steps_checkIf_199 : decode b_Steps_checkIf 199 = .ok (.aload_n 0, 1) := by decide +kernel
theorem d_Steps_checkIf_200 : decode b_Steps_checkIf 200 = .ok (.getfield 9, 3) := by decide +kernel
theorem d_Steps_checkIf_203 : decode b_Steps_checkIf 203 = .ok (.getfield 103, 3) := by decide +kernel
theorem d_Steps_checkIf_206 : decode b_Steps_checkIf 206 = .ok (.iload_n 1, 1) := by decide +kernel
theorem d_Steps_checkIf_207 : decode b_Steps_checkIf 207 = .ok (.iaload, 1) := by decide +kernel
theorem d_Steps_checkIf_208 : decode b_Steps_checkIf 208 = .ok (.invokevirtual 87, 3) := by decide +kernel
theorem d_Steps_checkIf_211 : decode b_Steps_checkIf 211 = .ok (.invokevirtual 191, 3) := by decide +kernel
theorem d_Steps_checkIf_214 : decode b_Steps_checkIf 214 = .ok (.return_, 1) := by decide +kernel
abbrev b_Steps_checkWhile : ByteArray := prog_11_method_11_code
abbrev y_Steps_checkWhile : MethodName := ⟨R_Steps, "checkWhile", "(II)V"⟩
theorem co_Steps_checkWhile : Cond.code y_Steps_checkWhile b_Steps_checkWhile 9 none ∈ lw_good := lg_in (tin_7 _ (List.mem_of_getElem? (i := 72) rfl)) rfl
abbrev w_Steps_checkWhile : List Cond := Cond.code y_Steps_checkWhile b_Steps_checkWhile 9 none :: lw_good
theorem im_Steps_checkWhile : Cond.instanceMethod y_Steps_checkWhile ∈ lw_good := lg_right (i := 1511) (by decide +kernel) rfl
theorem se_Steps_checkWhile : Cond.selects R_Steps y_Steps_checkWhile y_Steps_checkWhile ∈ lw_good := lg_left (i := 81) (by decide +kernel) rfl
theorem d_Steps_checkWhile_0 : decode b_Steps_checkWhile 0 = .ok (.aload_n 0, 1) := by decide +kernel
theorem d_Steps_checkWhile_1 : decode b_Steps_checkWhile 1 = .ok (.getfield 9, 3) := by decide +kernel
theorem d_Steps_checkWhile_4 : decode b_Steps_checkWhile 4 = .ok (.getfield 152, 3) := by decide +kernel
theorem d_Steps_checkWhile_7 : decode b_Steps_checkWhile 7 = .ok (.iload_n 1, 1) := by decide +kernel
theorem d_Steps_checkWhile_8 : decode b_Steps_checkWhile 8 = .ok (.iaload, 1) := by decide +kernel
theorem d_Steps_checkWhile_9 : decode b_Steps_checkWhile 9 = .ok (.istore_n 3, 1) := by decide +kernel
theorem d_Steps_checkWhile_10 : decode b_Steps_checkWhile 10 = .ok (.aload_n 0, 1) := by decide +kernel
theorem d_Steps_checkWhile_11 : decode b_Steps_checkWhile 11 = .ok (.getfield 39, 3) := by decide +kernel
theorem d_Steps_checkWhile_14 : decode b_Steps_checkWhile 14 = .ok (.invokevirtual 65, 3) := by decide +kernel
theorem d_Steps_checkWhile_17 : decode b_Steps_checkWhile 17 = .ok (.iconst 1, 1) := by decide +kernel
theorem d_Steps_checkWhile_18 : decode b_Steps_checkWhile 18 = .ok (.isub, 1) := by decide +kernel
theorem d_Steps_checkWhile_19 : decode b_Steps_checkWhile 19 = .ok (.istore 4, 2) := by decide +kernel
theorem d_Steps_checkWhile_21 : decode b_Steps_checkWhile 21 = .ok (.aload_n 0, 1) := by decide +kernel
theorem d_Steps_checkWhile_22 : decode b_Steps_checkWhile 22 = .ok (.getfield 34, 3) := by decide +kernel
theorem d_Steps_checkWhile_25 : decode b_Steps_checkWhile 25 = .ok (.aload_n 0, 1) := by decide +kernel
theorem d_Steps_checkWhile_26 : decode b_Steps_checkWhile 26 = .ok (.aload_n 0, 1) := by decide +kernel
theorem d_Steps_checkWhile_27 : decode b_Steps_checkWhile 27 = .ok (.getfield 9, 3) := by decide +kernel
theorem d_Steps_checkWhile_30 : decode b_Steps_checkWhile 30 = .ok (.getfield 128, 3) := by decide +kernel
theorem d_Steps_checkWhile_33 : decode b_Steps_checkWhile 33 = .ok (.iload_n 1, 1) := by decide +kernel
theorem d_Steps_checkWhile_34 : decode b_Steps_checkWhile 34 = .ok (.iaload, 1) := by decide +kernel
theorem d_Steps_checkWhile_35 : decode b_Steps_checkWhile 35 = .ok (.iload_n 2, 1) := by decide +kernel
theorem d_Steps_checkWhile_36 : decode b_Steps_checkWhile 36 = .ok (.iconst 1, 1) := by decide +kernel
theorem d_Steps_checkWhile_37 : decode b_Steps_checkWhile 37 = .ok (.iadd, 1) := by decide +kernel
theorem d_Steps_checkWhile_38 : decode b_Steps_checkWhile 38 = .ok (.invokevirtual 238, 3) := by decide +kernel
theorem ml_Steps_238 : Cond.methodLink R_Steps 238 ⟨"PointerHouse$Steps", "varsGiven", "(II)I"⟩ ∈ lw_good := lg_right (i := 1513) (by decide +kernel) rfl
theorem d_Steps_checkWhile_41 : decode b_Steps_checkWhile 41 = .ok (.invokevirtual 241, 3) := by decide +kernel
theorem ml_Steps_241 : Cond.methodLink R_Steps 241 ⟨"PointerHouse$Scope", "forgetKnown", "(I)V"⟩ ∈ lw_good := lg_right (i := 1517) (by decide +kernel) rfl
theorem d_Steps_checkWhile_44 : decode b_Steps_checkWhile 44 = .ok (.aload_n 0, 1) := by decide +kernel
theorem d_Steps_checkWhile_45 : decode b_Steps_checkWhile 45 = .ok (.iload_n 3, 1) := by decide +kernel
theorem d_Steps_checkWhile_46 : decode b_Steps_checkWhile 46 = .ok (.iload_n 2, 1) := by decide +kernel
theorem d_Steps_checkWhile_47 : decode b_Steps_checkWhile 47 = .ok (.invokevirtual 212, 3) := by decide +kernel
theorem d_Steps_checkWhile_50 : decode b_Steps_checkWhile 50 = .ok (.aload_n 0, 1) := by decide +kernel
theorem d_Steps_checkWhile_51 : decode b_Steps_checkWhile 51 = .ok (.getfield 39, 3) := by decide +kernel
theorem d_Steps_checkWhile_54 : decode b_Steps_checkWhile 54 = .ok (.bipush 51, 2) := by decide +kernel
theorem d_Steps_checkWhile_56 : decode b_Steps_checkWhile 56 = .ok (.iconst 0, 1) := by decide +kernel
theorem d_Steps_checkWhile_57 : decode b_Steps_checkWhile 57 = .ok (.iconst 0, 1) := by decide +kernel
theorem d_Steps_checkWhile_58 : decode b_Steps_checkWhile 58 = .ok (.invokevirtual 96, 3) := by decide +kernel
theorem d_Steps_checkWhile_61 : decode b_Steps_checkWhile 61 = .ok (.istore 5, 2) := by decide +kernel
theorem d_Steps_checkWhile_63 : decode b_Steps_checkWhile 63 = .ok (.aload_n 0, 1) := by decide +kernel
theorem d_Steps_checkWhile_64 : decode b_Steps_checkWhile 64 = .ok (.getfield 34, 3) := by decide +kernel
theorem d_Steps_checkWhile_67 : decode b_Steps_checkWhile 67 = .ok (.getfield 215, 3) := by decide +kernel
theorem d_Steps_checkWhile_70 : decode b_Steps_checkWhile 70 = .ok (.lstore 6, 2) := by decide +kernel
theorem d_Steps_checkWhile_72 : decode b_Steps_checkWhile 72 = .ok (.aload_n 0, 1) := by decide +kernel
theorem d_Steps_checkWhile_73 : decode b_Steps_checkWhile 73 = .ok (.getfield 34, 3) := by decide +kernel
theorem d_Steps_checkWhile_76 : decode b_Steps_checkWhile 76 = .ok (.aload_n 0, 1) := by decide +kernel
theorem d_Steps_checkWhile_77 : decode b_Steps_checkWhile 77 = .ok (.getfield 35, 3) := by decide +kernel
theorem d_Steps_checkWhile_80 : decode b_Steps_checkWhile 80 = .ok (.iload_n 3, 1) := by decide +kernel
theorem d_Steps_checkWhile_81 : decode b_Steps_checkWhile 81 = .ok (.invokevirtual 219, 3) := by decide +kernel
theorem d_Steps_checkWhile_84 : decode b_Steps_checkWhile 84 = .ok (.invokevirtual 222, 3) := by decide +kernel
theorem d_Steps_checkWhile_87 : decode b_Steps_checkWhile 87 = .ok (.aload_n 0, 1) := by decide +kernel
theorem d_Steps_checkWhile_88 : decode b_Steps_checkWhile 88 = .ok (.aload_n 0, 1) := by decide +kernel
theorem d_Steps_checkWhile_89 : decode b_Steps_checkWhile 89 = .ok (.getfield 9, 3) := by decide +kernel
theorem d_Steps_checkWhile_92 : decode b_Steps_checkWhile 92 = .ok (.getfield 128, 3) := by decide +kernel
theorem d_Steps_checkWhile_95 : decode b_Steps_checkWhile 95 = .ok (.iload_n 1, 1) := by decide +kernel
theorem d_Steps_checkWhile_96 : decode b_Steps_checkWhile 96 = .ok (.iaload, 1) := by decide +kernel
theorem d_Steps_checkWhile_97 : decode b_Steps_checkWhile 97 = .ok (.iload_n 2, 1) := by decide +kernel
theorem d_Steps_checkWhile_98 : decode b_Steps_checkWhile 98 = .ok (.iconst 1, 1) := by decide +kernel
theorem d_Steps_checkWhile_99 : decode b_Steps_checkWhile 99 = .ok (.iadd, 1) := by decide +kernel
theorem d_Steps_checkWhile_100 : decode b_Steps_checkWhile 100 = .ok (.invokevirtual 73, 3) := by decide +kernel
theorem d_Steps_checkWhile_103 : decode b_Steps_checkWhile 103 = .ok (.aload_n 0, 1) := by decide +kernel
theorem d_Steps_checkWhile_104 : decode b_Steps_checkWhile 104 = .ok (.getfield 34, 3) := by decide +kernel
theorem d_Steps_checkWhile_107 : decode b_Steps_checkWhile 107 = .ok (.invokevirtual 80, 3) := by decide +kernel
theorem d_Steps_checkWhile_110 : decode b_Steps_checkWhile 110 = .ok (.ifCond .eq 18, 3) := by decide +kernel
theorem d_Steps_checkWhile_113 : decode b_Steps_checkWhile 113 = .ok (.aload_n 0, 1) := by decide +kernel
theorem d_Steps_checkWhile_114 : decode b_Steps_checkWhile 114 = .ok (.getfield 34, 3) := by decide +kernel
theorem d_Steps_checkWhile_117 : decode b_Steps_checkWhile 117 = .ok (.getfield 215, 3) := by decide +kernel
theorem d_Steps_checkWhile_120 : decode b_Steps_checkWhile 120 = .ok (.lload 6, 2) := by decide +kernel
theorem d_Steps_checkWhile_122 : decode b_Steps_checkWhile 122 = .ok (.invokestatic 244, 3) := by decide +kernel
theorem ml_Steps_244 : Cond.methodLink R_Steps 244 ⟨"PointerHouse$Scope", "sameLive", "(JJ)Z"⟩ ∈ lw_good := lg_right (i := 1519) (by decide +kernel) rfl
theorem d_Steps_checkWhile_125 : decode b_Steps_checkWhile 125 = .ok (.ifCond .eq 7, 3) := by decide +kernel
theorem d_Steps_checkWhile_128 : decode b_Steps_checkWhile 128 = .ok (.iconst 1, 1) := by decide +kernel
theorem d_Steps_checkWhile_129 : decode b_Steps_checkWhile 129 = .ok (.goto 4, 3) := by decide +kernel
theorem d_Steps_checkWhile_132 : decode b_Steps_checkWhile 132 = .ok (.iconst 0, 1) := by decide +kernel
theorem d_Steps_checkWhile_133 : decode b_Steps_checkWhile 133 = .ok (.istore 8, 2) := by decide +kernel
theorem d_Steps_checkWhile_135 : decode b_Steps_checkWhile 135 = .ok (.aload_n 0, 1) := by decide +kernel
theorem d_Steps_checkWhile_136 : decode b_Steps_checkWhile 136 = .ok (.getfield 35, 3) := by decide +kernel
theorem d_Steps_checkWhile_139 : decode b_Steps_checkWhile 139 = .ok (.iload 8, 2) := by decide +kernel
theorem d_Steps_checkWhile_141 : decode b_Steps_checkWhile 141 = .ok (.bipush 8, 2) := by decide +kernel
theorem d_Steps_checkWhile_143 : decode b_Steps_checkWhile 143 = .ok (.aload_n 0, 1) := by decide +kernel
theorem d_Steps_checkWhile_144 : decode b_Steps_checkWhile 144 = .ok (.getfield 9, 3) := by decide +kernel
theorem d_Steps_checkWhile_147 : decode b_Steps_checkWhile 147 = .ok (.aload_n 0, 1) := by decide +kernel
theorem d_Steps_checkWhile_148 : decode b_Steps_checkWhile 148 = .ok (.getfield 9, 3) := by decide +kernel
theorem d_Steps_checkWhile_151 : decode b_Steps_checkWhile 151 = .ok (.getfield 103, 3) := by decide +kernel
theorem d_Steps_checkWhile_154 : decode b_Steps_checkWhile 154 = .ok (.iload_n 1, 1) := by decide +kernel
theorem d_Steps_checkWhile_155 : decode b_Steps_checkWhile 155 = .ok (.iaload, 1) := by decide +kernel
theorem d_Steps_checkWhile_156 : decode b_Steps_checkWhile 156 = .ok (.invokevirtual 87, 3) := by decide +kernel
theorem d_Steps_checkWhile_159 : decode b_Steps_checkWhile 159 = .ok (.invokevirtual 191, 3) := by decide +kernel
theorem d_Steps_checkWhile_162 : decode b_Steps_checkWhile 162 = .ok (.aload_n 0, 1) := by decide +kernel
theorem d_Steps_checkWhile_163 : decode b_Steps_checkWhile 163 = .ok (.getfield 39, 3) := by decide +kernel
theorem d_Steps_checkWhile_166 : decode b_Steps_checkWhile 166 = .ok (.bipush 50, 2) := by decide +kernel
theorem d_Steps_checkWhile_168 : decode b_Steps_checkWhile 168 = .ok (.iload 4, 2) := by decide +kernel
theorem d_Steps_checkWhile_170 : decode b_Steps_checkWhile 170 = .ok (.iconst 0, 1) := by decide +kernel
theorem d_Steps_checkWhile_171 : decode b_Steps_checkWhile 171 = .ok (.invokevirtual 96, 3) := by decide +kernel
theorem d_Steps_checkWhile_174 : decode b_Steps_checkWhile 174 = .ok (.pop, 1) := by decide +kernel
theorem d_Steps_checkWhile_175 : decode b_Steps_checkWhile 175 = .ok (.aload_n 0, 1) := by decide +kernel
theorem d_Steps_checkWhile_176 : decode b_Steps_checkWhile 176 = .ok (.getfield 39, 3) := by decide +kernel
theorem d_Steps_checkWhile_179 : decode b_Steps_checkWhile 179 = .ok (.iload 5, 2) := by decide +kernel
theorem d_Steps_checkWhile_181 : decode b_Steps_checkWhile 181 = .ok (.invokevirtual 231, 3) := by decide +kernel
theorem d_Steps_checkWhile_184 : decode b_Steps_checkWhile 184 = .ok (.aload_n 0, 1) := by decide +kernel
theorem d_Steps_checkWhile_185 : decode b_Steps_checkWhile 185 = .ok (.getfield 34, 3) := by decide +kernel
theorem d_Steps_checkWhile_188 : decode b_Steps_checkWhile 188 = .ok (.lload 6, 2) := by decide +kernel
theorem d_Steps_checkWhile_190 : decode b_Steps_checkWhile 190 = .ok (.putfield 215, 3) := by decide +kernel
theorem d_Steps_checkWhile_193 : decode b_Steps_checkWhile 193 = .ok (.aload_n 0, 1) := by decide +kernel
theorem d_Steps_checkWhile_194 : decode b_Steps_checkWhile 194 = .ok (.getfield 34, 3) := by decide +kernel
theorem d_Steps_checkWhile_197 : decode b_Steps_checkWhile 197 = .ok (.aload_n 0, 1) := by decide +kernel
theorem d_Steps_checkWhile_198 : decode b_Steps_checkWhile 198 = .ok (.getfield 35, 3) := by decide +kernel
theorem d_Steps_checkWhile_201 : decode b_Steps_checkWhile 201 = .ok (.iload_n 3, 1) := by decide +kernel
theorem d_Steps_checkWhile_202 : decode b_Steps_checkWhile 202 = .ok (.invokevirtual 225, 3) := by decide +kernel
theorem d_Steps_checkWhile_205 : decode b_Steps_checkWhile 205 = .ok (.invokevirtual 222, 3) := by decide +kernel
theorem d_Steps_checkWhile_208 : decode b_Steps_checkWhile 208 = .ok (.return_, 1) := by decide +kernel
abbrev b_Steps_checkReturn : ByteArray := prog_11_method_8_code
abbrev y_Steps_checkReturn : MethodName := ⟨R_Steps, "checkReturn", "(II)V"⟩
theorem co_Steps_checkReturn : Cond.code y_Steps_checkReturn b_Steps_checkReturn 5 none ∈ lw_good := lg_in (tin_7 _ (List.mem_of_getElem? (i := 83) rfl)) rfl
abbrev w_Steps_checkReturn : List Cond := Cond.code y_Steps_checkReturn b_Steps_checkReturn 5 none :: lw_good
theorem im_Steps_checkReturn : Cond.instanceMethod y_Steps_checkReturn ∈ lw_good := lg_right (i := 1522) (by decide +kernel) rfl
theorem se_Steps_checkReturn : Cond.selects R_Steps y_Steps_checkReturn y_Steps_checkReturn ∈ lw_good := lg_left (i := 83) (by decide +kernel) rfl
theorem d_Steps_checkReturn_0 : decode b_Steps_checkReturn 0 = .ok (.aload_n 0, 1) := by decide +kernel
theorem d_Steps_checkReturn_1 : decode b_Steps_checkReturn 1 = .ok (.getfield 9, 3) := by decide +kernel
theorem d_Steps_checkReturn_4 : decode b_Steps_checkReturn 4 = .ok (.getfield 128, 3) := by decide +kernel
theorem d_Steps_checkReturn_7 : decode b_Steps_checkReturn 7 = .ok (.iload_n 1, 1) := by decide +kernel
theorem d_Steps_checkReturn_8 : decode b_Steps_checkReturn 8 = .ok (.iaload, 1) := by decide +kernel
theorem d_Steps_checkReturn_9 : decode b_Steps_checkReturn 9 = .ok (.istore_n 3, 1) := by decide +kernel
theorem d_Steps_checkReturn_10 : decode b_Steps_checkReturn 10 = .ok (.aload_n 0, 1) := by decide +kernel
theorem d_Steps_checkReturn_11 : decode b_Steps_checkReturn 11 = .ok (.getfield 15, 3) := by decide +kernel
theorem d_Steps_checkReturn_14 : decode b_Steps_checkReturn 14 = .ok (.getfield 77, 3) := by decide +kernel
theorem d_Steps_checkReturn_17 : decode b_Steps_checkReturn 17 = .ok (.aload_n 0, 1) := by decide +kernel
theorem d_Steps_checkReturn_18 : decode b_Steps_checkReturn 18 = .ok (.getfield 34, 3) := by decide +kernel
theorem d_Steps_checkReturn_21 : decode b_Steps_checkReturn 21 = .ok (.getfield 202, 3) := by decide +kernel
theorem fl_Steps_202 : Cond.fieldLink R_Steps 202 "PointerHouse$Scope" "item" "I" ∈ lw_good := lg_right (i := 464) (by decide +kernel) rfl
theorem d_Steps_checkReturn_24 : decode b_Steps_checkReturn 24 = .ok (.iaload, 1) := by decide +kernel
theorem d_Steps_checkReturn_25 : decode b_Steps_checkReturn 25 = .ok (.istore 4, 2) := by decide +kernel
theorem d_Steps_checkReturn_27 : decode b_Steps_checkReturn 27 = .ok (.aload_n 0, 1) := by decide +kernel
theorem d_Steps_checkReturn_28 : decode b_Steps_checkReturn 28 = .ok (.getfield 35, 3) := by decide +kernel
theorem d_Steps_checkReturn_31 : decode b_Steps_checkReturn 31 = .ok (.iload_n 3, 1) := by decide +kernel
theorem d_Steps_checkReturn_32 : decode b_Steps_checkReturn 32 = .ok (.ifCond .eq 7, 3) := by decide +kernel
theorem d_Steps_checkReturn_35 : decode b_Steps_checkReturn 35 = .ok (.iconst 1, 1) := by decide +kernel
theorem d_Steps_checkReturn_36 : decode b_Steps_checkReturn 36 = .ok (.goto 4, 3) := by decide +kernel
theorem d_Steps_checkReturn_39 : decode b_Steps_checkReturn 39 = .ok (.iconst 0, 1) := by decide +kernel
theorem d_Steps_checkReturn_40 : decode b_Steps_checkReturn 40 = .ok (.iload 4, 2) := by decide +kernel
theorem d_Steps_checkReturn_42 : decode b_Steps_checkReturn 42 = .ok (.ifCond .eq 7, 3) := by decide +kernel
theorem d_Steps_checkReturn_45 : decode b_Steps_checkReturn 45 = .ok (.iconst 1, 1) := by decide +kernel
theorem d_Steps_checkReturn_46 : decode b_Steps_checkReturn 46 = .ok (.goto 4, 3) := by decide +kernel
theorem d_Steps_checkReturn_49 : decode b_Steps_checkReturn 49 = .ok (.iconst 0, 1) := by decide +kernel
theorem d_Steps_checkReturn_50 : decode b_Steps_checkReturn 50 = .ok (.if_icmp .ne 7, 3) := by decide +kernel
theorem d_Steps_checkReturn_53 : decode b_Steps_checkReturn 53 = .ok (.iconst 1, 1) := by decide +kernel
theorem d_Steps_checkReturn_54 : decode b_Steps_checkReturn 54 = .ok (.goto 4, 3) := by decide +kernel
theorem d_Steps_checkReturn_57 : decode b_Steps_checkReturn 57 = .ok (.iconst 0, 1) := by decide +kernel
theorem d_Steps_checkReturn_58 : decode b_Steps_checkReturn 58 = .ok (.bipush 8, 2) := by decide +kernel
theorem d_Steps_checkReturn_60 : decode b_Steps_checkReturn 60 = .ok (.aload_n 0, 1) := by decide +kernel
theorem d_Steps_checkReturn_61 : decode b_Steps_checkReturn 61 = .ok (.getfield 9, 3) := by decide +kernel
theorem d_Steps_checkReturn_64 : decode b_Steps_checkReturn 64 = .ok (.aload_n 0, 1) := by decide +kernel
theorem d_Steps_checkReturn_65 : decode b_Steps_checkReturn 65 = .ok (.getfield 9, 3) := by decide +kernel
theorem d_Steps_checkReturn_68 : decode b_Steps_checkReturn 68 = .ok (.getfield 103, 3) := by decide +kernel
theorem d_Steps_checkReturn_71 : decode b_Steps_checkReturn 71 = .ok (.iload_n 1, 1) := by decide +kernel
theorem d_Steps_checkReturn_72 : decode b_Steps_checkReturn 72 = .ok (.iaload, 1) := by decide +kernel
theorem d_Steps_checkReturn_73 : decode b_Steps_checkReturn 73 = .ok (.invokevirtual 87, 3) := by decide +kernel
theorem d_Steps_checkReturn_76 : decode b_Steps_checkReturn 76 = .ok (.invokevirtual 191, 3) := by decide +kernel
theorem d_Steps_checkReturn_79 : decode b_Steps_checkReturn 79 = .ok (.iload_n 3, 1) := by decide +kernel
theorem d_Steps_checkReturn_80 : decode b_Steps_checkReturn 80 = .ok (.ifCond .eq 16, 3) := by decide +kernel
theorem d_Steps_checkReturn_83 : decode b_Steps_checkReturn 83 = .ok (.aload_n 0, 1) := by decide +kernel
theorem d_Steps_checkReturn_84 : decode b_Steps_checkReturn 84 = .ok (.getfield 35, 3) := by decide +kernel
theorem d_Steps_checkReturn_87 : decode b_Steps_checkReturn 87 = .ok (.iload_n 3, 1) := by decide +kernel
theorem d_Steps_checkReturn_88 : decode b_Steps_checkReturn 88 = .ok (.iload 4, 2) := by decide +kernel
theorem d_Steps_checkReturn_90 : decode b_Steps_checkReturn 90 = .ok (.iload_n 2, 1) := by decide +kernel
theorem d_Steps_checkReturn_91 : decode b_Steps_checkReturn 91 = .ok (.iconst 1, 1) := by decide +kernel
theorem d_Steps_checkReturn_92 : decode b_Steps_checkReturn 92 = .ok (.iadd, 1) := by decide +kernel
theorem d_Steps_checkReturn_93 : decode b_Steps_checkReturn 93 = .ok (.invokevirtual 171, 3) := by decide +kernel
theorem ml_Steps_171 : Cond.methodLink R_Steps 171 ⟨"PointerHouse$Exprs", "checkFits", "(III)V"⟩ ∈ lw_good := lg_right (i := 1524) (by decide +kernel) rfl
theorem d_Steps_checkReturn_96 : decode b_Steps_checkReturn 96 = .ok (.aload_n 0, 1) := by decide +kernel
theorem d_Steps_checkReturn_97 : decode b_Steps_checkReturn 97 = .ok (.getfield 39, 3) := by decide +kernel
theorem d_Steps_checkReturn_100 : decode b_Steps_checkReturn 100 = .ok (.bipush 58, 2) := by decide +kernel
theorem d_Steps_checkReturn_102 : decode b_Steps_checkReturn 102 = .ok (.aload_n 0, 1) := by decide +kernel
theorem d_Steps_checkReturn_103 : decode b_Steps_checkReturn 103 = .ok (.getfield 29, 3) := by decide +kernel
theorem d_Steps_checkReturn_106 : decode b_Steps_checkReturn 106 = .ok (.iload 4, 2) := by decide +kernel
theorem d_Steps_checkReturn_108 : decode b_Steps_checkReturn 108 = .ok (.invokevirtual 166, 3) := by decide +kernel
theorem d_Steps_checkReturn_111 : decode b_Steps_checkReturn 111 = .ok (.iconst 0, 1) := by decide +kernel
theorem d_Steps_checkReturn_112 : decode b_Steps_checkReturn 112 = .ok (.invokevirtual 96, 3) := by decide +kernel
theorem d_Steps_checkReturn_115 : decode b_Steps_checkReturn 115 = .ok (.pop, 1) := by decide +kernel
theorem d_Steps_checkReturn_116 : decode b_Steps_checkReturn 116 = .ok (.aload_n 0, 1) := by decide +kernel
theorem d_Steps_checkReturn_117 : decode b_Steps_checkReturn 117 = .ok (.getfield 34, 3) := by decide +kernel
theorem d_Steps_checkReturn_120 : decode b_Steps_checkReturn 120 = .ok (.invokevirtual 134, 3) := by decide +kernel
theorem d_Steps_checkReturn_123 : decode b_Steps_checkReturn 123 = .ok (.return_, 1) := by decide +kernel
abbrev b_Steps_checkNumber : ByteArray := prog_11_method_6_code
abbrev y_Steps_checkNumber : MethodName := ⟨R_Steps, "checkNumber", "(II)V"⟩
theorem co_Steps_checkNumber : Cond.code y_Steps_checkNumber b_Steps_checkNumber 3 none ∈ lw_good := lg_in (tin_7 _ (List.mem_of_getElem? (i := 94) rfl)) rfl
abbrev w_Steps_checkNumber : List Cond := Cond.code y_Steps_checkNumber b_Steps_checkNumber 3 none :: lw_good
theorem im_Steps_checkNumber : Cond.instanceMethod y_Steps_checkNumber ∈ lw_good := lg_right (i := 1533) (by decide +kernel) rfl
theorem se_Steps_checkNumber : Cond.selects R_Steps y_Steps_checkNumber y_Steps_checkNumber ∈ lw_good := lg_left (i := 84) (by decide +kernel) rfl
theorem d_Steps_checkNumber_0 : decode b_Steps_checkNumber 0 = .ok (.aload_n 0, 1) := by decide +kernel
theorem d_Steps_checkNumber_1 : decode b_Steps_checkNumber 1 = .ok (.getfield 35, 3) := by decide +kernel
theorem d_Steps_checkNumber_4 : decode b_Steps_checkNumber 4 = .ok (.iload_n 1, 1) := by decide +kernel
theorem d_Steps_checkNumber_5 : decode b_Steps_checkNumber 5 = .ok (.iconst 1, 1) := by decide +kernel
theorem d_Steps_checkNumber_6 : decode b_Steps_checkNumber 6 = .ok (.iload_n 2, 1) := by decide +kernel
theorem d_Steps_checkNumber_7 : decode b_Steps_checkNumber 7 = .ok (.iconst 1, 1) := by decide +kernel
theorem d_Steps_checkNumber_8 : decode b_Steps_checkNumber 8 = .ok (.iadd, 1) := by decide +kernel
theorem d_Steps_checkNumber_9 : decode b_Steps_checkNumber 9 = .ok (.invokevirtual 171, 3) := by decide +kernel
theorem d_Steps_checkNumber_12 : decode b_Steps_checkNumber 12 = .ok (.return_, 1) := by decide +kernel
abbrev b_Steps_checkRegion : ByteArray := prog_11_method_12_code
abbrev y_Steps_checkRegion : MethodName := ⟨R_Steps, "checkRegion", "(II)V"⟩
theorem co_Steps_checkRegion : Cond.code y_Steps_checkRegion b_Steps_checkRegion 6 none ∈ lw_good := lg_in (tin_7 _ (List.mem_of_getElem? (i := 98) rfl)) rfl
abbrev w_Steps_checkRegion : List Cond := Cond.code y_Steps_checkRegion b_Steps_checkRegion 6 none :: lw_good
theorem im_Steps_checkRegion : Cond.instanceMethod y_Steps_checkRegion ∈ lw_good := lg_right (i := 1537) (by decide +kernel) rfl
theorem se_Steps_checkRegion : Cond.selects R_Steps y_Steps_checkRegion y_Steps_checkRegion ∈ lw_good := lg_left (i := 85) (by decide +kernel) rfl
theorem d_Steps_checkRegion_0 : decode b_Steps_checkRegion 0 = .ok (.aload_n 0, 1) := by decide +kernel
theorem d_Steps_checkRegion_1 : decode b_Steps_checkRegion 1 = .ok (.getfield 9, 3) := by decide +kernel
theorem d_Steps_checkRegion_4 : decode b_Steps_checkRegion 4 = .ok (.getfield 103, 3) := by decide +kernel
theorem d_Steps_checkRegion_7 : decode b_Steps_checkRegion 7 = .ok (.iload_n 1, 1) := by decide +kernel
theorem d_Steps_checkRegion_8 : decode b_Steps_checkRegion 8 = .ok (.iaload, 1) := by decide +kernel
theorem d_Steps_checkRegion_9 : decode b_Steps_checkRegion 9 = .ok (.iconst 1, 1) := by decide +kernel
theorem d_Steps_checkRegion_10 : decode b_Steps_checkRegion 10 = .ok (.iadd, 1) := by decide +kernel
theorem d_Steps_checkRegion_11 : decode b_Steps_checkRegion 11 = .ok (.istore_n 3, 1) := by decide +kernel
theorem d_Steps_checkRegion_12 : decode b_Steps_checkRegion 12 = .ok (.aload_n 0, 1) := by decide +kernel
theorem d_Steps_checkRegion_13 : decode b_Steps_checkRegion 13 = .ok (.getfield 34, 3) := by decide +kernel
theorem d_Steps_checkRegion_16 : decode b_Steps_checkRegion 16 = .ok (.aload_n 0, 1) := by decide +kernel
theorem d_Steps_checkRegion_17 : decode b_Steps_checkRegion 17 = .ok (.getfield 9, 3) := by decide +kernel
theorem d_Steps_checkRegion_20 : decode b_Steps_checkRegion 20 = .ok (.iload_n 3, 1) := by decide +kernel
theorem d_Steps_checkRegion_21 : decode b_Steps_checkRegion 21 = .ok (.invokevirtual 183, 3) := by decide +kernel
theorem d_Steps_checkRegion_24 : decode b_Steps_checkRegion 24 = .ok (.invokevirtual 247, 3) := by decide +kernel
theorem ml_Steps_247 : Cond.methodLink R_Steps 247 ⟨"PointerHouse$Scope", "findRegion", "(J)I"⟩ ∈ lw_good := lg_right (i := 1539) (by decide +kernel) rfl
theorem d_Steps_checkRegion_27 : decode b_Steps_checkRegion 27 = .ok (.iconst (-1), 1) := by decide +kernel
theorem d_Steps_checkRegion_28 : decode b_Steps_checkRegion 28 = .ok (.if_icmp .ne 7, 3) := by decide +kernel
theorem d_Steps_checkRegion_31 : decode b_Steps_checkRegion 31 = .ok (.iconst 1, 1) := by decide +kernel
theorem d_Steps_checkRegion_32 : decode b_Steps_checkRegion 32 = .ok (.goto 4, 3) := by decide +kernel
theorem d_Steps_checkRegion_35 : decode b_Steps_checkRegion 35 = .ok (.iconst 0, 1) := by decide +kernel
theorem d_Steps_checkRegion_36 : decode b_Steps_checkRegion 36 = .ok (.istore 4, 2) := by decide +kernel
theorem d_Steps_checkRegion_38 : decode b_Steps_checkRegion 38 = .ok (.aload_n 0, 1) := by decide +kernel
theorem d_Steps_checkRegion_39 : decode b_Steps_checkRegion 39 = .ok (.getfield 35, 3) := by decide +kernel
theorem d_Steps_checkRegion_42 : decode b_Steps_checkRegion 42 = .ok (.iload 4, 2) := by decide +kernel
theorem d_Steps_checkRegion_44 : decode b_Steps_checkRegion 44 = .ok (.iconst 2, 1) := by decide +kernel
theorem d_Steps_checkRegion_45 : decode b_Steps_checkRegion 45 = .ok (.aload_n 0, 1) := by decide +kernel
theorem d_Steps_checkRegion_46 : decode b_Steps_checkRegion 46 = .ok (.getfield 9, 3) := by decide +kernel
theorem d_Steps_checkRegion_49 : decode b_Steps_checkRegion 49 = .ok (.iload_n 3, 1) := by decide +kernel
theorem d_Steps_checkRegion_50 : decode b_Steps_checkRegion 50 = .ok (.invokevirtual 87, 3) := by decide +kernel
theorem d_Steps_checkRegion_53 : decode b_Steps_checkRegion 53 = .ok (.invokevirtual 191, 3) := by decide +kernel
theorem d_Steps_checkRegion_56 : decode b_Steps_checkRegion 56 = .ok (.aload_n 0, 1) := by decide +kernel
theorem d_Steps_checkRegion_57 : decode b_Steps_checkRegion 57 = .ok (.getfield 34, 3) := by decide +kernel
theorem d_Steps_checkRegion_60 : decode b_Steps_checkRegion 60 = .ok (.aload_n 0, 1) := by decide +kernel
theorem d_Steps_checkRegion_61 : decode b_Steps_checkRegion 61 = .ok (.getfield 9, 3) := by decide +kernel
theorem d_Steps_checkRegion_64 : decode b_Steps_checkRegion 64 = .ok (.iload_n 3, 1) := by decide +kernel
theorem d_Steps_checkRegion_65 : decode b_Steps_checkRegion 65 = .ok (.invokevirtual 183, 3) := by decide +kernel
theorem d_Steps_checkRegion_68 : decode b_Steps_checkRegion 68 = .ok (.invokevirtual 250, 3) := by decide +kernel
theorem ml_Steps_250 : Cond.methodLink R_Steps 250 ⟨"PointerHouse$Scope", "openRegion", "(J)I"⟩ ∈ lw_good := lg_right (i := 1540) (by decide +kernel) rfl
theorem d_Steps_checkRegion_71 : decode b_Steps_checkRegion 71 = .ok (.istore 5, 2) := by decide +kernel
theorem d_Steps_checkRegion_73 : decode b_Steps_checkRegion 73 = .ok (.aload_n 0, 1) := by decide +kernel
theorem d_Steps_checkRegion_74 : decode b_Steps_checkRegion 74 = .ok (.getfield 39, 3) := by decide +kernel
theorem d_Steps_checkRegion_77 : decode b_Steps_checkRegion 77 = .ok (.bipush 52, 2) := by decide +kernel
theorem d_Steps_checkRegion_79 : decode b_Steps_checkRegion 79 = .ok (.iload 5, 2) := by decide +kernel
theorem d_Steps_checkRegion_81 : decode b_Steps_checkRegion 81 = .ok (.iconst 0, 1) := by decide +kernel
theorem d_Steps_checkRegion_82 : decode b_Steps_checkRegion 82 = .ok (.invokevirtual 96, 3) := by decide +kernel
theorem d_Steps_checkRegion_85 : decode b_Steps_checkRegion 85 = .ok (.pop, 1) := by decide +kernel
theorem d_Steps_checkRegion_86 : decode b_Steps_checkRegion 86 = .ok (.aload_n 0, 1) := by decide +kernel
theorem d_Steps_checkRegion_87 : decode b_Steps_checkRegion 87 = .ok (.aload_n 0, 1) := by decide +kernel
theorem d_Steps_checkRegion_88 : decode b_Steps_checkRegion 88 = .ok (.getfield 9, 3) := by decide +kernel
theorem d_Steps_checkRegion_91 : decode b_Steps_checkRegion 91 = .ok (.getfield 128, 3) := by decide +kernel
theorem d_Steps_checkRegion_94 : decode b_Steps_checkRegion 94 = .ok (.iload_n 1, 1) := by decide +kernel
theorem d_Steps_checkRegion_95 : decode b_Steps_checkRegion 95 = .ok (.iaload, 1) := by decide +kernel
theorem d_Steps_checkRegion_96 : decode b_Steps_checkRegion 96 = .ok (.iload_n 2, 1) := by decide +kernel
theorem d_Steps_checkRegion_97 : decode b_Steps_checkRegion 97 = .ok (.iconst 1, 1) := by decide +kernel
theorem d_Steps_checkRegion_98 : decode b_Steps_checkRegion 98 = .ok (.iadd, 1) := by decide +kernel
theorem d_Steps_checkRegion_99 : decode b_Steps_checkRegion 99 = .ok (.invokevirtual 73, 3) := by decide +kernel
theorem d_Steps_checkRegion_102 : decode b_Steps_checkRegion 102 = .ok (.aload_n 0, 1) := by decide +kernel
theorem d_Steps_checkRegion_103 : decode b_Steps_checkRegion 103 = .ok (.getfield 34, 3) := by decide +kernel
theorem d_Steps_checkRegion_106 : decode b_Steps_checkRegion 106 = .ok (.iload 5, 2) := by decide +kernel
theorem d_Steps_checkRegion_108 : decode b_Steps_checkRegion 108 = .ok (.invokevirtual 253, 3) := by decide +kernel
theorem ml_Steps_253 : Cond.methodLink R_Steps 253 ⟨"PointerHouse$Scope", "isLive", "(I)Z"⟩ ∈ lw_good := lg_right (i := 1544) (by decide +kernel) rfl
theorem d_Steps_checkRegion_111 : decode b_Steps_checkRegion 111 = .ok (.ifCond .eq 16, 3) := by decide +kernel
theorem d_Steps_checkRegion_114 : decode b_Steps_checkRegion 114 = .ok (.aload_n 0, 1) := by decide +kernel
theorem d_Steps_checkRegion_115 : decode b_Steps_checkRegion 115 = .ok (.getfield 39, 3) := by decide +kernel
theorem d_Steps_checkRegion_118 : decode b_Steps_checkRegion 118 = .ok (.bipush 53, 2) := by decide +kernel
theorem d_Steps_checkRegion_120 : decode b_Steps_checkRegion 120 = .ok (.iload 5, 2) := by decide +kernel
theorem d_Steps_checkRegion_122 : decode b_Steps_checkRegion 122 = .ok (.iconst 0, 1) := by decide +kernel
theorem d_Steps_checkRegion_123 : decode b_Steps_checkRegion 123 = .ok (.invokevirtual 96, 3) := by decide +kernel
theorem d_Steps_checkRegion_126 : decode b_Steps_checkRegion 126 = .ok (.pop, 1) := by decide +kernel
theorem d_Steps_checkRegion_127 : decode b_Steps_checkRegion 127 = .ok (.aload_n 0, 1) := by decide +kernel
theorem d_Steps_checkRegion_128 : decode b_Steps_checkRegion 128 = .ok (.getfield 34, 3) := by decide +kernel
theorem d_Steps_checkRegion_131 : decode b_Steps_checkRegion 131 = .ok (.iload 5, 2) := by decide +kernel
theorem d_Steps_checkRegion_133 : decode b_Steps_checkRegion 133 = .ok (.invokevirtual 256, 3) := by decide +kernel
theorem ml_Steps_256 : Cond.methodLink R_Steps 256 ⟨"PointerHouse$Scope", "leaveRegion", "(I)V"⟩ ∈ lw_good := lg_right (i := 1545) (by decide +kernel) rfl
theorem d_Steps_checkRegion_136 : decode b_Steps_checkRegion 136 = .ok (.return_, 1) := by decide +kernel
abbrev b_Steps_checkClose : ByteArray := prog_11_method_13_code
abbrev y_Steps_checkClose : MethodName := ⟨R_Steps, "checkClose", "(I)V"⟩
theorem co_Steps_checkClose : Cond.code y_Steps_checkClose b_Steps_checkClose 4 none ∈ lw_good := lg_in (tin_7 _ (List.mem_of_getElem? (i := 112) rfl)) rfl
abbrev w_Steps_checkClose : List Cond := Cond.code y_Steps_checkClose b_Steps_checkClose 4 none :: lw_good
theorem im_Steps_checkClose : Cond.instanceMethod y_Steps_checkClose ∈ lw_good := lg_right (i := 1551) (by decide +kernel) rfl
theorem se_Steps_checkClose : Cond.selects R_Steps y_Steps_checkClose y_Steps_checkClose ∈ lw_good := lg_left (i := 86) (by decide +kernel) rfl
theorem d_Steps_checkClose_0 : decode b_Steps_checkClose 0 = .ok (.aload_n 0, 1) := by decide +kernel
theorem d_Steps_checkClose_1 : decode b_Steps_checkClose 1 = .ok (.getfield 9, 3) := by decide +kernel
theorem d_Steps_checkClose_4 : decode b_Steps_checkClose 4 = .ok (.getfield 103, 3) := by decide +kernel
theorem d_Steps_checkClose_7 : decode b_Steps_checkClose 7 = .ok (.iload_n 1, 1) := by decide +kernel
theorem d_Steps_checkClose_8 : decode b_Steps_checkClose 8 = .ok (.iaload, 1) := by decide +kernel
theorem d_Steps_checkClose_9 : decode b_Steps_checkClose 9 = .ok (.istore_n 2, 1) := by decide +kernel
theorem d_Steps_checkClose_10 : decode b_Steps_checkClose 10 = .ok (.aload_n 0, 1) := by decide +kernel
theorem d_Steps_checkClose_11 : decode b_Steps_checkClose 11 = .ok (.getfield 34, 3) := by decide +kernel
theorem d_Steps_checkClose_14 : decode b_Steps_checkClose 14 = .ok (.aload_n 0, 1) := by decide +kernel
theorem d_Steps_checkClose_15 : decode b_Steps_checkClose 15 = .ok (.getfield 9, 3) := by decide +kernel
theorem d_Steps_checkClose_18 : decode b_Steps_checkClose 18 = .ok (.iload_n 2, 1) := by decide +kernel
theorem d_Steps_checkClose_19 : decode b_Steps_checkClose 19 = .ok (.iconst 1, 1) := by decide +kernel
theorem d_Steps_checkClose_20 : decode b_Steps_checkClose 20 = .ok (.iadd, 1) := by decide +kernel
theorem d_Steps_checkClose_21 : decode b_Steps_checkClose 21 = .ok (.invokevirtual 183, 3) := by decide +kernel
theorem d_Steps_checkClose_24 : decode b_Steps_checkClose 24 = .ok (.invokevirtual 247, 3) := by decide +kernel
theorem d_Steps_checkClose_27 : decode b_Steps_checkClose 27 = .ok (.istore_n 3, 1) := by decide +kernel
theorem d_Steps_checkClose_28 : decode b_Steps_checkClose 28 = .ok (.aload_n 0, 1) := by decide +kernel
theorem d_Steps_checkClose_29 : decode b_Steps_checkClose 29 = .ok (.getfield 35, 3) := by decide +kernel
theorem d_Steps_checkClose_32 : decode b_Steps_checkClose 32 = .ok (.iload_n 3, 1) := by decide +kernel
theorem d_Steps_checkClose_33 : decode b_Steps_checkClose 33 = .ok (.iconst (-1), 1) := by decide +kernel
theorem d_Steps_checkClose_34 : decode b_Steps_checkClose 34 = .ok (.if_icmp .eq 7, 3) := by decide +kernel
theorem d_Steps_checkClose_37 : decode b_Steps_checkClose 37 = .ok (.iconst 1, 1) := by decide +kernel
theorem d_Steps_checkClose_38 : decode b_Steps_checkClose 38 = .ok (.goto 4, 3) := by decide +kernel
theorem d_Steps_checkClose_41 : decode b_Steps_checkClose 41 = .ok (.iconst 0, 1) := by decide +kernel
theorem d_Steps_checkClose_42 : decode b_Steps_checkClose 42 = .ok (.iconst 3, 1) := by decide +kernel
theorem d_Steps_checkClose_43 : decode b_Steps_checkClose 43 = .ok (.aload_n 0, 1) := by decide +kernel
theorem d_Steps_checkClose_44 : decode b_Steps_checkClose 44 = .ok (.getfield 9, 3) := by decide +kernel
theorem d_Steps_checkClose_47 : decode b_Steps_checkClose 47 = .ok (.iload_n 2, 1) := by decide +kernel
theorem d_Steps_checkClose_48 : decode b_Steps_checkClose 48 = .ok (.iconst 1, 1) := by decide +kernel
theorem d_Steps_checkClose_49 : decode b_Steps_checkClose 49 = .ok (.iadd, 1) := by decide +kernel
theorem d_Steps_checkClose_50 : decode b_Steps_checkClose 50 = .ok (.invokevirtual 87, 3) := by decide +kernel
theorem d_Steps_checkClose_53 : decode b_Steps_checkClose 53 = .ok (.invokevirtual 191, 3) := by decide +kernel
theorem d_Steps_checkClose_56 : decode b_Steps_checkClose 56 = .ok (.aload_n 0, 1) := by decide +kernel
theorem d_Steps_checkClose_57 : decode b_Steps_checkClose 57 = .ok (.getfield 34, 3) := by decide +kernel
theorem d_Steps_checkClose_60 : decode b_Steps_checkClose 60 = .ok (.iload_n 3, 1) := by decide +kernel
theorem d_Steps_checkClose_61 : decode b_Steps_checkClose 61 = .ok (.invokevirtual 259, 3) := by decide +kernel
theorem ml_Steps_259 : Cond.methodLink R_Steps 259 ⟨"PointerHouse$Scope", "mayClose", "(I)Z"⟩ ∈ lw_good := lg_right (i := 1553) (by decide +kernel) rfl
theorem d_Steps_checkClose_64 : decode b_Steps_checkClose 64 = .ok (.ifCond .ne 21, 3) := by decide +kernel
theorem d_Steps_checkClose_67 : decode b_Steps_checkClose 67 = .ok (.aload_n 0, 1) := by decide +kernel
theorem d_Steps_checkClose_68 : decode b_Steps_checkClose 68 = .ok (.getfield 39, 3) := by decide +kernel
theorem d_Steps_checkClose_71 : decode b_Steps_checkClose 71 = .ok (.bipush 8, 2) := by decide +kernel
theorem d_Steps_checkClose_73 : decode b_Steps_checkClose 73 = .ok (.aload_n 0, 1) := by decide +kernel
theorem d_Steps_checkClose_74 : decode b_Steps_checkClose 74 = .ok (.getfield 9, 3) := by decide +kernel
theorem d_Steps_checkClose_77 : decode b_Steps_checkClose 77 = .ok (.iload_n 2, 1) := by decide +kernel
theorem d_Steps_checkClose_78 : decode b_Steps_checkClose 78 = .ok (.invokevirtual 87, 3) := by decide +kernel
theorem d_Steps_checkClose_81 : decode b_Steps_checkClose 81 = .ok (.invokevirtual 93, 3) := by decide +kernel
theorem d_Steps_checkClose_84 : decode b_Steps_checkClose 84 = .ok (.return_, 1) := by decide +kernel
theorem d_Steps_checkClose_85 : decode b_Steps_checkClose 85 = .ok (.aload_n 0, 1) := by decide +kernel
theorem d_Steps_checkClose_86 : decode b_Steps_checkClose 86 = .ok (.getfield 34, 3) := by decide +kernel
theorem d_Steps_checkClose_89 : decode b_Steps_checkClose 89 = .ok (.iload_n 3, 1) := by decide +kernel
theorem d_Steps_checkClose_90 : decode b_Steps_checkClose 90 = .ok (.iconst 0, 1) := by decide +kernel
theorem d_Steps_checkClose_91 : decode b_Steps_checkClose 91 = .ok (.invokevirtual 262, 3) := by decide +kernel
theorem ml_Steps_262 : Cond.methodLink R_Steps 262 ⟨"PointerHouse$Scope", "setLive", "(IZ)V"⟩ ∈ lw_good := lg_right (i := 1558) (by decide +kernel) rfl
theorem d_Steps_checkClose_94 : decode b_Steps_checkClose 94 = .ok (.aload_n 0, 1) := by decide +kernel
theorem d_Steps_checkClose_95 : decode b_Steps_checkClose 95 = .ok (.getfield 39, 3) := by decide +kernel
theorem d_Steps_checkClose_98 : decode b_Steps_checkClose 98 = .ok (.bipush 53, 2) := by decide +kernel
theorem d_Steps_checkClose_100 : decode b_Steps_checkClose 100 = .ok (.iload_n 3, 1) := by decide +kernel
theorem d_Steps_checkClose_101 : decode b_Steps_checkClose 101 = .ok (.iconst 0, 1) := by decide +kernel
theorem d_Steps_checkClose_102 : decode b_Steps_checkClose 102 = .ok (.invokevirtual 96, 3) := by decide +kernel
theorem d_Steps_checkClose_105 : decode b_Steps_checkClose 105 = .ok (.pop, 1) := by decide +kernel
theorem d_Steps_checkClose_106 : decode b_Steps_checkClose 106 = .ok (.return_, 1) := by decide +kernel
abbrev b_Steps_checkTry : ByteArray := prog_11_method_14_code
abbrev y_Steps_checkTry : MethodName := ⟨R_Steps, "checkTry", "(II)V"⟩
theorem co_Steps_checkTry : Cond.code y_Steps_checkTry b_Steps_checkTry 9 none ∈ lw_good := lg_in (tin_7 _ (List.mem_of_getElem? (i := 122) rfl)) rfl
abbrev w_Steps_checkTry : List Cond := Cond.code y_Steps_checkTry b_Steps_checkTry 9 none :: lw_good
theorem im_Steps_checkTry : Cond.instanceMethod y_Steps_checkTry ∈ lw_good := lg_right (i := 1561) (by decide +kernel) rfl
theorem se_Steps_checkTry : Cond.selects R_Steps y_Steps_checkTry y_Steps_checkTry ∈ lw_good := lg_left (i := 87) (by decide +kernel) rfl
theorem d_Steps_checkTry_0 : decode b_Steps_checkTry 0 = .ok (.aload_n 0, 1) := by decide +kernel
theorem d_Steps_checkTry_1 : decode b_Steps_checkTry 1 = .ok (.getfield 34, 3) := by decide +kernel
theorem d_Steps_checkTry_4 : decode b_Steps_checkTry 4 = .ok (.getfield 215, 3) := by decide +kernel
theorem d_Steps_checkTry_7 : decode b_Steps_checkTry 7 = .ok (.lstore_n 3, 1) := by decide +kernel
theorem d_Steps_checkTry_8 : decode b_Steps_checkTry 8 = .ok (.aload_n 0, 1) := by decide +kernel
theorem d_Steps_checkTry_9 : decode b_Steps_checkTry 9 = .ok (.getfield 39, 3) := by decide +kernel
theorem d_Steps_checkTry_12 : decode b_Steps_checkTry 12 = .ok (.bipush 54, 2) := by decide +kernel
theorem d_Steps_checkTry_14 : decode b_Steps_checkTry 14 = .ok (.iconst 0, 1) := by decide +kernel
theorem d_Steps_checkTry_15 : decode b_Steps_checkTry 15 = .ok (.iconst 0, 1) := by decide +kernel
theorem d_Steps_checkTry_16 : decode b_Steps_checkTry 16 = .ok (.invokevirtual 96, 3) := by decide +kernel
theorem d_Steps_checkTry_19 : decode b_Steps_checkTry 19 = .ok (.istore 5, 2) := by decide +kernel
theorem d_Steps_checkTry_21 : decode b_Steps_checkTry 21 = .ok (.aload_n 0, 1) := by decide +kernel
theorem d_Steps_checkTry_22 : decode b_Steps_checkTry 22 = .ok (.getfield 34, 3) := by decide +kernel
theorem d_Steps_checkTry_25 : decode b_Steps_checkTry 25 = .ok (.dup, 1) := by decide +kernel
theorem d_Steps_checkTry_26 : decode b_Steps_checkTry 26 = .ok (.getfield 266, 3) := by decide +kernel
theorem fl_Steps_266 : Cond.fieldLink R_Steps 266 "PointerHouse$Scope" "tries" "I" ∈ lw_good := lg_right (i := 473) (by decide +kernel) rfl
theorem d_Steps_checkTry_29 : decode b_Steps_checkTry 29 = .ok (.iconst 1, 1) := by decide +kernel
theorem d_Steps_checkTry_30 : decode b_Steps_checkTry 30 = .ok (.iadd, 1) := by decide +kernel
theorem d_Steps_checkTry_31 : decode b_Steps_checkTry 31 = .ok (.putfield 266, 3) := by decide +kernel
theorem d_Steps_checkTry_34 : decode b_Steps_checkTry 34 = .ok (.aload_n 0, 1) := by decide +kernel
theorem d_Steps_checkTry_35 : decode b_Steps_checkTry 35 = .ok (.aload_n 0, 1) := by decide +kernel
theorem d_Steps_checkTry_36 : decode b_Steps_checkTry 36 = .ok (.getfield 9, 3) := by decide +kernel
theorem d_Steps_checkTry_39 : decode b_Steps_checkTry 39 = .ok (.getfield 128, 3) := by decide +kernel
theorem d_Steps_checkTry_42 : decode b_Steps_checkTry 42 = .ok (.iload_n 1, 1) := by decide +kernel
theorem d_Steps_checkTry_43 : decode b_Steps_checkTry 43 = .ok (.iaload, 1) := by decide +kernel
theorem d_Steps_checkTry_44 : decode b_Steps_checkTry 44 = .ok (.iload_n 2, 1) := by decide +kernel
theorem d_Steps_checkTry_45 : decode b_Steps_checkTry 45 = .ok (.iconst 1, 1) := by decide +kernel
theorem d_Steps_checkTry_46 : decode b_Steps_checkTry 46 = .ok (.iadd, 1) := by decide +kernel
theorem d_Steps_checkTry_47 : decode b_Steps_checkTry 47 = .ok (.invokevirtual 73, 3) := by decide +kernel
theorem d_Steps_checkTry_50 : decode b_Steps_checkTry 50 = .ok (.aload_n 0, 1) := by decide +kernel
theorem d_Steps_checkTry_51 : decode b_Steps_checkTry 51 = .ok (.getfield 34, 3) := by decide +kernel
theorem d_Steps_checkTry_54 : decode b_Steps_checkTry 54 = .ok (.dup, 1) := by decide +kernel
theorem d_Steps_checkTry_55 : decode b_Steps_checkTry 55 = .ok (.getfield 266, 3) := by decide +kernel
theorem d_Steps_checkTry_58 : decode b_Steps_checkTry 58 = .ok (.iconst 1, 1) := by decide +kernel
theorem d_Steps_checkTry_59 : decode b_Steps_checkTry 59 = .ok (.isub, 1) := by decide +kernel
theorem d_Steps_checkTry_60 : decode b_Steps_checkTry 60 = .ok (.putfield 266, 3) := by decide +kernel
theorem d_Steps_checkTry_63 : decode b_Steps_checkTry 63 = .ok (.aload_n 0, 1) := by decide +kernel
theorem d_Steps_checkTry_64 : decode b_Steps_checkTry 64 = .ok (.getfield 34, 3) := by decide +kernel
theorem d_Steps_checkTry_67 : decode b_Steps_checkTry 67 = .ok (.getfield 215, 3) := by decide +kernel
theorem d_Steps_checkTry_70 : decode b_Steps_checkTry 70 = .ok (.lstore 6, 2) := by decide +kernel
theorem d_Steps_checkTry_72 : decode b_Steps_checkTry 72 = .ok (.aload_n 0, 1) := by decide +kernel
theorem d_Steps_checkTry_73 : decode b_Steps_checkTry 73 = .ok (.getfield 39, 3) := by decide +kernel
theorem d_Steps_checkTry_76 : decode b_Steps_checkTry 76 = .ok (.bipush 55, 2) := by decide +kernel
theorem d_Steps_checkTry_78 : decode b_Steps_checkTry 78 = .ok (.iconst 0, 1) := by decide +kernel
theorem d_Steps_checkTry_79 : decode b_Steps_checkTry 79 = .ok (.iconst 0, 1) := by decide +kernel
theorem d_Steps_checkTry_80 : decode b_Steps_checkTry 80 = .ok (.invokevirtual 96, 3) := by decide +kernel
theorem d_Steps_checkTry_83 : decode b_Steps_checkTry 83 = .ok (.pop, 1) := by decide +kernel
theorem d_Steps_checkTry_84 : decode b_Steps_checkTry 84 = .ok (.aload_n 0, 1) := by decide +kernel
theorem d_Steps_checkTry_85 : decode b_Steps_checkTry 85 = .ok (.getfield 39, 3) := by decide +kernel
theorem d_Steps_checkTry_88 : decode b_Steps_checkTry 88 = .ok (.bipush 50, 2) := by decide +kernel
theorem d_Steps_checkTry_90 : decode b_Steps_checkTry 90 = .ok (.iconst 0, 1) := by decide +kernel
theorem d_Steps_checkTry_91 : decode b_Steps_checkTry 91 = .ok (.iconst 0, 1) := by decide +kernel
theorem d_Steps_checkTry_92 : decode b_Steps_checkTry 92 = .ok (.invokevirtual 96, 3) := by decide +kernel
theorem d_Steps_checkTry_95 : decode b_Steps_checkTry 95 = .ok (.istore 8, 2) := by decide +kernel
theorem d_Steps_checkTry_97 : decode b_Steps_checkTry 97 = .ok (.aload_n 0, 1) := by decide +kernel
theorem d_Steps_checkTry_98 : decode b_Steps_checkTry 98 = .ok (.getfield 39, 3) := by decide +kernel
theorem d_Steps_checkTry_101 : decode b_Steps_checkTry 101 = .ok (.iload 5, 2) := by decide +kernel
theorem d_Steps_checkTry_103 : decode b_Steps_checkTry 103 = .ok (.invokevirtual 231, 3) := by decide +kernel
theorem d_Steps_checkTry_106 : decode b_Steps_checkTry 106 = .ok (.aload_n 0, 1) := by decide +kernel
theorem d_Steps_checkTry_107 : decode b_Steps_checkTry 107 = .ok (.getfield 34, 3) := by decide +kernel
theorem d_Steps_checkTry_110 : decode b_Steps_checkTry 110 = .ok (.lload_n 3, 1) := by decide +kernel
theorem d_Steps_checkTry_111 : decode b_Steps_checkTry 111 = .ok (.putfield 215, 3) := by decide +kernel
theorem d_Steps_checkTry_114 : decode b_Steps_checkTry 114 = .ok (.aload_n 0, 1) := by decide +kernel
theorem d_Steps_checkTry_115 : decode b_Steps_checkTry 115 = .ok (.getfield 34, 3) := by decide +kernel
theorem d_Steps_checkTry_118 : decode b_Steps_checkTry 118 = .ok (.aload_n 0, 1) := by decide +kernel
theorem d_Steps_checkTry_119 : decode b_Steps_checkTry 119 = .ok (.aload_n 0, 1) := by decide +kernel
theorem d_Steps_checkTry_120 : decode b_Steps_checkTry 120 = .ok (.getfield 9, 3) := by decide +kernel
theorem d_Steps_checkTry_123 : decode b_Steps_checkTry 123 = .ok (.getfield 128, 3) := by decide +kernel
theorem d_Steps_checkTry_126 : decode b_Steps_checkTry 126 = .ok (.iload_n 1, 1) := by decide +kernel
theorem d_Steps_checkTry_127 : decode b_Steps_checkTry 127 = .ok (.iaload, 1) := by decide +kernel
theorem d_Steps_checkTry_128 : decode b_Steps_checkTry 128 = .ok (.iload_n 2, 1) := by decide +kernel
theorem d_Steps_checkTry_129 : decode b_Steps_checkTry 129 = .ok (.iconst 1, 1) := by decide +kernel
theorem d_Steps_checkTry_130 : decode b_Steps_checkTry 130 = .ok (.iadd, 1) := by decide +kernel
theorem d_Steps_checkTry_131 : decode b_Steps_checkTry 131 = .ok (.invokevirtual 238, 3) := by decide +kernel
theorem d_Steps_checkTry_134 : decode b_Steps_checkTry 134 = .ok (.invokevirtual 241, 3) := by decide +kernel
theorem d_Steps_checkTry_137 : decode b_Steps_checkTry 137 = .ok (.aload_n 0, 1) := by decide +kernel
theorem d_Steps_checkTry_138 : decode b_Steps_checkTry 138 = .ok (.getfield 39, 3) := by decide +kernel
theorem d_Steps_checkTry_141 : decode b_Steps_checkTry 141 = .ok (.iconst 4, 1) := by decide +kernel
theorem d_Steps_checkTry_142 : decode b_Steps_checkTry 142 = .ok (.bipush 60, 2) := by decide +kernel
theorem d_Steps_checkTry_144 : decode b_Steps_checkTry 144 = .ok (.aload_n 0, 1) := by decide +kernel
theorem d_Steps_checkTry_145 : decode b_Steps_checkTry 145 = .ok (.getfield 34, 3) := by decide +kernel
theorem d_Steps_checkTry_148 : decode b_Steps_checkTry 148 = .ok (.getfield 269, 3) := by decide +kernel
theorem fl_Steps_269 : Cond.fieldLink R_Steps 269 "PointerHouse$Scope" "catches" "I" ∈ lw_good := lg_right (i := 475) (by decide +kernel) rfl
theorem d_Steps_checkTry_151 : decode b_Steps_checkTry 151 = .ok (.iadd, 1) := by decide +kernel
theorem d_Steps_checkTry_152 : decode b_Steps_checkTry 152 = .ok (.iconst 1, 1) := by decide +kernel
theorem d_Steps_checkTry_153 : decode b_Steps_checkTry 153 = .ok (.invokevirtual 96, 3) := by decide +kernel
theorem d_Steps_checkTry_156 : decode b_Steps_checkTry 156 = .ok (.pop, 1) := by decide +kernel
theorem d_Steps_checkTry_157 : decode b_Steps_checkTry 157 = .ok (.aload_n 0, 1) := by decide +kernel
theorem d_Steps_checkTry_158 : decode b_Steps_checkTry 158 = .ok (.getfield 34, 3) := by decide +kernel
theorem d_Steps_checkTry_161 : decode b_Steps_checkTry 161 = .ok (.dup, 1) := by decide +kernel
theorem d_Steps_checkTry_162 : decode b_Steps_checkTry 162 = .ok (.getfield 269, 3) := by decide +kernel
theorem d_Steps_checkTry_165 : decode b_Steps_checkTry 165 = .ok (.iconst 1, 1) := by decide +kernel
theorem d_Steps_checkTry_166 : decode b_Steps_checkTry 166 = .ok (.iadd, 1) := by decide +kernel
theorem d_Steps_checkTry_167 : decode b_Steps_checkTry 167 = .ok (.putfield 269, 3) := by decide +kernel
theorem d_Steps_checkTry_170 : decode b_Steps_checkTry 170 = .ok (.aload_n 0, 1) := by decide +kernel
theorem d_Steps_checkTry_171 : decode b_Steps_checkTry 171 = .ok (.aload_n 0, 1) := by decide +kernel
theorem d_Steps_checkTry_172 : decode b_Steps_checkTry 172 = .ok (.getfield 9, 3) := by decide +kernel
theorem d_Steps_checkTry_175 : decode b_Steps_checkTry 175 = .ok (.getfield 228, 3) := by decide +kernel
theorem d_Steps_checkTry_178 : decode b_Steps_checkTry 178 = .ok (.iload_n 1, 1) := by decide +kernel
theorem d_Steps_checkTry_179 : decode b_Steps_checkTry 179 = .ok (.iaload, 1) := by decide +kernel
theorem d_Steps_checkTry_180 : decode b_Steps_checkTry 180 = .ok (.iload_n 2, 1) := by decide +kernel
theorem d_Steps_checkTry_181 : decode b_Steps_checkTry 181 = .ok (.iconst 1, 1) := by decide +kernel
theorem d_Steps_checkTry_182 : decode b_Steps_checkTry 182 = .ok (.iadd, 1) := by decide +kernel
theorem d_Steps_checkTry_183 : decode b_Steps_checkTry 183 = .ok (.invokevirtual 73, 3) := by decide +kernel
theorem d_Steps_checkTry_186 : decode b_Steps_checkTry 186 = .ok (.aload_n 0, 1) := by decide +kernel
theorem d_Steps_checkTry_187 : decode b_Steps_checkTry 187 = .ok (.getfield 34, 3) := by decide +kernel
theorem d_Steps_checkTry_190 : decode b_Steps_checkTry 190 = .ok (.dup, 1) := by decide +kernel
theorem d_Steps_checkTry_191 : decode b_Steps_checkTry 191 = .ok (.getfield 269, 3) := by decide +kernel
theorem d_Steps_checkTry_194 : decode b_Steps_checkTry 194 = .ok (.iconst 1, 1) := by decide +kernel
theorem d_Steps_checkTry_195 : decode b_Steps_checkTry 195 = .ok (.isub, 1) := by decide +kernel
theorem d_Steps_checkTry_196 : decode b_Steps_checkTry 196 = .ok (.putfield 269, 3) := by decide +kernel
theorem d_Steps_checkTry_199 : decode b_Steps_checkTry 199 = .ok (.aload_n 0, 1) := by decide +kernel
theorem d_Steps_checkTry_200 : decode b_Steps_checkTry 200 = .ok (.getfield 39, 3) := by decide +kernel
theorem d_Steps_checkTry_203 : decode b_Steps_checkTry 203 = .ok (.iload 8, 2) := by decide +kernel
theorem d_Steps_checkTry_205 : decode b_Steps_checkTry 205 = .ok (.invokevirtual 231, 3) := by decide +kernel
theorem d_Steps_checkTry_208 : decode b_Steps_checkTry 208 = .ok (.aload_n 0, 1) := by decide +kernel
theorem d_Steps_checkTry_209 : decode b_Steps_checkTry 209 = .ok (.getfield 35, 3) := by decide +kernel
theorem d_Steps_checkTry_212 : decode b_Steps_checkTry 212 = .ok (.aload_n 0, 1) := by decide +kernel
theorem d_Steps_checkTry_213 : decode b_Steps_checkTry 213 = .ok (.getfield 34, 3) := by decide +kernel
theorem d_Steps_checkTry_216 : decode b_Steps_checkTry 216 = .ok (.lload 6, 2) := by decide +kernel
theorem d_Steps_checkTry_218 : decode b_Steps_checkTry 218 = .ok (.aload_n 0, 1) := by decide +kernel
theorem d_Steps_checkTry_219 : decode b_Steps_checkTry 219 = .ok (.getfield 34, 3) := by decide +kernel
theorem d_Steps_checkTry_222 : decode b_Steps_checkTry 222 = .ok (.getfield 215, 3) := by decide +kernel
theorem d_Steps_checkTry_225 : decode b_Steps_checkTry 225 = .ok (.invokevirtual 234, 3) := by decide +kernel
theorem d_Steps_checkTry_228 : decode b_Steps_checkTry 228 = .ok (.bipush 8, 2) := by decide +kernel
theorem d_Steps_checkTry_230 : decode b_Steps_checkTry 230 = .ok (.aload_n 0, 1) := by decide +kernel
theorem d_Steps_checkTry_231 : decode b_Steps_checkTry 231 = .ok (.getfield 9, 3) := by decide +kernel
theorem d_Steps_checkTry_234 : decode b_Steps_checkTry 234 = .ok (.aload_n 0, 1) := by decide +kernel
theorem d_Steps_checkTry_235 : decode b_Steps_checkTry 235 = .ok (.getfield 9, 3) := by decide +kernel
theorem d_Steps_checkTry_238 : decode b_Steps_checkTry 238 = .ok (.getfield 103, 3) := by decide +kernel
theorem d_Steps_checkTry_241 : decode b_Steps_checkTry 241 = .ok (.iload_n 1, 1) := by decide +kernel
theorem d_Steps_checkTry_242 : decode b_Steps_checkTry 242 = .ok (.iaload, 1) := by decide +kernel
theorem d_Steps_checkTry_243 : decode b_Steps_checkTry 243 = .ok (.invokevirtual 87, 3) := by decide +kernel
theorem d_Steps_checkTry_246 : decode b_Steps_checkTry 246 = .ok (.invokevirtual 191, 3) := by decide +kernel
theorem d_Steps_checkTry_249 : decode b_Steps_checkTry 249 = .ok (.return_, 1) := by decide +kernel
abbrev b_Steps_checkQuestion : ByteArray := prog_11_method_9_code
abbrev y_Steps_checkQuestion : MethodName := ⟨R_Steps, "checkQuestion", "(II)V"⟩
theorem co_Steps_checkQuestion : Cond.code y_Steps_checkQuestion b_Steps_checkQuestion 4 none ∈ lw_good := lg_in (tin_7 _ (List.mem_of_getElem? (i := 28) rfl)) rfl
abbrev w_Steps_checkQuestion : List Cond := Cond.code y_Steps_checkQuestion b_Steps_checkQuestion 4 none :: lw_good
theorem im_Steps_checkQuestion : Cond.instanceMethod y_Steps_checkQuestion ∈ lw_good := lg_right (i := 1467) (by decide +kernel) rfl
theorem se_Steps_checkQuestion : Cond.selects R_Steps y_Steps_checkQuestion y_Steps_checkQuestion ∈ lw_good := lg_left (i := 78) (by decide +kernel) rfl
theorem d_Steps_checkQuestion_0 : decode b_Steps_checkQuestion 0 = .ok (.aload_n 0, 1) := by decide +kernel
theorem d_Steps_checkQuestion_1 : decode b_Steps_checkQuestion 1 = .ok (.getfield 35, 3) := by decide +kernel
theorem d_Steps_checkQuestion_4 : decode b_Steps_checkQuestion 4 = .ok (.iload_n 1, 1) := by decide +kernel
theorem d_Steps_checkQuestion_5 : decode b_Steps_checkQuestion 5 = .ok (.iload_n 2, 1) := by decide +kernel
theorem d_Steps_checkQuestion_6 : decode b_Steps_checkQuestion 6 = .ok (.iconst 1, 1) := by decide +kernel
theorem d_Steps_checkQuestion_7 : decode b_Steps_checkQuestion 7 = .ok (.iadd, 1) := by decide +kernel
theorem d_Steps_checkQuestion_8 : decode b_Steps_checkQuestion 8 = .ok (.invokevirtual 146, 3) := by decide +kernel
theorem d_Steps_checkQuestion_11 : decode b_Steps_checkQuestion 11 = .ok (.istore_n 3, 1) := by decide +kernel
theorem d_Steps_checkQuestion_12 : decode b_Steps_checkQuestion 12 = .ok (.aload_n 0, 1) := by decide +kernel
theorem d_Steps_checkQuestion_13 : decode b_Steps_checkQuestion 13 = .ok (.getfield 35, 3) := by decide +kernel
theorem d_Steps_checkQuestion_16 : decode b_Steps_checkQuestion 16 = .ok (.iload_n 3, 1) := by decide +kernel
theorem d_Steps_checkQuestion_17 : decode b_Steps_checkQuestion 17 = .ok (.iconst 1, 1) := by decide +kernel
theorem d_Steps_checkQuestion_18 : decode b_Steps_checkQuestion 18 = .ok (.if_icmp .eq 14, 3) := by decide +kernel
theorem d_Steps_checkQuestion_21 : decode b_Steps_checkQuestion 21 = .ok (.aload_n 0, 1) := by decide +kernel
theorem d_Steps_checkQuestion_22 : decode b_Steps_checkQuestion 22 = .ok (.getfield 29, 3) := by decide +kernel
theorem d_Steps_checkQuestion_25 : decode b_Steps_checkQuestion 25 = .ok (.iload_n 3, 1) := by decide +kernel
theorem d_Steps_checkQuestion_26 : decode b_Steps_checkQuestion 26 = .ok (.invokevirtual 205, 3) := by decide +kernel
theorem ml_Steps_205 : Cond.methodLink R_Steps 205 ⟨"PointerHouse$Types", "isPointed", "(I)Z"⟩ ∈ lw_good := lg_right (i := 1469) (by decide +kernel) rfl
theorem d_Steps_checkQuestion_29 : decode b_Steps_checkQuestion 29 = .ok (.ifCond .eq 7, 3) := by decide +kernel
theorem d_Steps_checkQuestion_32 : decode b_Steps_checkQuestion 32 = .ok (.iconst 1, 1) := by decide +kernel
theorem d_Steps_checkQuestion_33 : decode b_Steps_checkQuestion 33 = .ok (.goto 4, 3) := by decide +kernel
theorem d_Steps_checkQuestion_36 : decode b_Steps_checkQuestion 36 = .ok (.iconst 0, 1) := by decide +kernel
theorem d_Steps_checkQuestion_37 : decode b_Steps_checkQuestion 37 = .ok (.iconst 4, 1) := by decide +kernel
theorem d_Steps_checkQuestion_38 : decode b_Steps_checkQuestion 38 = .ok (.aload_n 0, 1) := by decide +kernel
theorem d_Steps_checkQuestion_39 : decode b_Steps_checkQuestion 39 = .ok (.getfield 9, 3) := by decide +kernel
theorem d_Steps_checkQuestion_42 : decode b_Steps_checkQuestion 42 = .ok (.iload_n 1, 1) := by decide +kernel
theorem d_Steps_checkQuestion_43 : decode b_Steps_checkQuestion 43 = .ok (.invokevirtual 209, 3) := by decide +kernel
theorem ml_Steps_209 : Cond.methodLink R_Steps 209 ⟨"PointerHouse$Source", "beginOf", "(I)I"⟩ ∈ lw_good := lg_right (i := 1470) (by decide +kernel) rfl
theorem d_Steps_checkQuestion_46 : decode b_Steps_checkQuestion 46 = .ok (.invokevirtual 191, 3) := by decide +kernel
theorem d_Steps_checkQuestion_49 : decode b_Steps_checkQuestion 49 = .ok (.return_, 1) := by decide +kernel
abbrev b_Steps_varsGiven : ByteArray := prog_11_method_15_code
abbrev y_Steps_varsGiven : MethodName := ⟨R_Steps, "varsGiven", "(II)I"⟩
theorem co_Steps_varsGiven : Cond.code y_Steps_varsGiven b_Steps_varsGiven 8 (some .int) ∈ lw_good := lg_in (tin_7 _ (List.mem_of_getElem? (i := 76) rfl)) rfl
abbrev w_Steps_varsGiven : List Cond := Cond.code y_Steps_varsGiven b_Steps_varsGiven 8 (some .int) :: lw_good
theorem im_Steps_varsGiven : Cond.instanceMethod y_Steps_varsGiven ∈ lw_good := lg_right (i := 1515) (by decide +kernel) rfl
theorem se_Steps_varsGiven : Cond.selects R_Steps y_Steps_varsGiven y_Steps_varsGiven ∈ lw_good := lg_left (i := 82) (by decide +kernel) rfl
theorem d_Steps_varsGiven_0 : decode b_Steps_varsGiven 0 = .ok (.iload_n 2, 1) := by decide +kernel
theorem d_Steps_varsGiven_1 : decode b_Steps_varsGiven 1 = .ok (.bipush 20, 2) := by decide +kernel
theorem d_Steps_varsGiven_3 : decode b_Steps_varsGiven 3 = .ok (.if_icmp .le 5, 3) := by decide +kernel
theorem d_Steps_varsGiven_6 : decode b_Steps_varsGiven 6 = .ok (.iconst 0, 1) := by decide +kernel
theorem d_Steps_varsGiven_7 : decode b_Steps_varsGiven 7 = .ok (.ireturn, 1) := by decide +kernel
theorem d_Steps_varsGiven_8 : decode b_Steps_varsGiven 8 = .ok (.iconst 0, 1) := by decide +kernel
theorem d_Steps_varsGiven_9 : decode b_Steps_varsGiven 9 = .ok (.istore_n 3, 1) := by decide +kernel
theorem d_Steps_varsGiven_10 : decode b_Steps_varsGiven 10 = .ok (.iload_n 1, 1) := by decide +kernel
theorem d_Steps_varsGiven_11 : decode b_Steps_varsGiven 11 = .ok (.istore 4, 2) := by decide +kernel
theorem d_Steps_varsGiven_13 : decode b_Steps_varsGiven 13 = .ok (.iconst 0, 1) := by decide +kernel
theorem d_Steps_varsGiven_14 : decode b_Steps_varsGiven 14 = .ok (.istore 5, 2) := by decide +kernel
theorem d_Steps_varsGiven_16 : decode b_Steps_varsGiven 16 = .ok (.iload 4, 2) := by decide +kernel
theorem d_Steps_varsGiven_18 : decode b_Steps_varsGiven 18 = .ok (.ifCond .eq 153, 3) := by decide +kernel
theorem d_Steps_varsGiven_21 : decode b_Steps_varsGiven 21 = .ok (.iload 5, 2) := by decide +kernel
theorem d_Steps_varsGiven_23 : decode b_Steps_varsGiven 23 = .ok (.sipush 4000, 3) := by decide +kernel
theorem d_Steps_varsGiven_26 : decode b_Steps_varsGiven 26 = .ok (.if_icmp .ge 145, 3) := by decide +kernel
theorem d_Steps_varsGiven_29 : decode b_Steps_varsGiven 29 = .ok (.aload_n 0, 1) := by decide +kernel
theorem d_Steps_varsGiven_30 : decode b_Steps_varsGiven 30 = .ok (.getfield 9, 3) := by decide +kernel
theorem d_Steps_varsGiven_33 : decode b_Steps_varsGiven 33 = .ok (.getfield 115, 3) := by decide +kernel
theorem d_Steps_varsGiven_36 : decode b_Steps_varsGiven 36 = .ok (.iload 4, 2) := by decide +kernel
theorem d_Steps_varsGiven_38 : decode b_Steps_varsGiven 38 = .ok (.iaload, 1) := by decide +kernel
theorem d_Steps_varsGiven_39 : decode b_Steps_varsGiven 39 = .ok (.istore 6, 2) := by decide +kernel
theorem d_Steps_varsGiven_41 : decode b_Steps_varsGiven 41 = .ok (.iload 6, 2) := by decide +kernel
theorem d_Steps_varsGiven_43 : decode b_Steps_varsGiven 43 = .ok (.bipush 50, 2) := by decide +kernel
theorem d_Steps_varsGiven_45 : decode b_Steps_varsGiven 45 = .ok (.if_icmp .ne 42, 3) := by decide +kernel
theorem d_Steps_varsGiven_48 : decode b_Steps_varsGiven 48 = .ok (.aload_n 0, 1) := by decide +kernel
theorem d_Steps_varsGiven_49 : decode b_Steps_varsGiven 49 = .ok (.getfield 35, 3) := by decide +kernel
theorem d_Steps_varsGiven_52 : decode b_Steps_varsGiven 52 = .ok (.aload_n 0, 1) := by decide +kernel
theorem d_Steps_varsGiven_53 : decode b_Steps_varsGiven 53 = .ok (.getfield 9, 3) := by decide +kernel
theorem d_Steps_varsGiven_56 : decode b_Steps_varsGiven 56 = .ok (.getfield 152, 3) := by decide +kernel
theorem d_Steps_varsGiven_59 : decode b_Steps_varsGiven 59 = .ok (.iload 4, 2) := by decide +kernel
theorem d_Steps_varsGiven_61 : decode b_Steps_varsGiven 61 = .ok (.iaload, 1) := by decide +kernel
theorem d_Steps_varsGiven_62 : decode b_Steps_varsGiven 62 = .ok (.invokevirtual 219, 3) := by decide +kernel
theorem d_Steps_varsGiven_65 : decode b_Steps_varsGiven 65 = .ok (.istore 7, 2) := by decide +kernel
theorem d_Steps_varsGiven_67 : decode b_Steps_varsGiven 67 = .ok (.iload_n 3, 1) := by decide +kernel
theorem d_Steps_varsGiven_68 : decode b_Steps_varsGiven 68 = .ok (.iload 7, 2) := by decide +kernel
theorem d_Steps_varsGiven_70 : decode b_Steps_varsGiven 70 = .ok (.iconst (-1), 1) := by decide +kernel
theorem d_Steps_varsGiven_71 : decode b_Steps_varsGiven 71 = .ok (.if_icmp .ne 7, 3) := by decide +kernel
theorem d_Steps_varsGiven_74 : decode b_Steps_varsGiven 74 = .ok (.iconst 0, 1) := by decide +kernel
theorem d_Steps_varsGiven_75 : decode b_Steps_varsGiven 75 = .ok (.goto 7, 3) := by decide +kernel
theorem d_Steps_varsGiven_78 : decode b_Steps_varsGiven 78 = .ok (.iconst 1, 1) := by decide +kernel
theorem d_Steps_varsGiven_79 : decode b_Steps_varsGiven 79 = .ok (.iload 7, 2) := by decide +kernel
theorem d_Steps_varsGiven_81 : decode b_Steps_varsGiven 81 = .ok (.ishl, 1) := by decide +kernel
theorem d_Steps_varsGiven_82 : decode b_Steps_varsGiven 82 = .ok (.ior, 1) := by decide +kernel
theorem d_Steps_varsGiven_83 : decode b_Steps_varsGiven 83 = .ok (.istore_n 3, 1) := by decide +kernel
theorem d_Steps_varsGiven_84 : decode b_Steps_varsGiven 84 = .ok (.goto 69, 3) := by decide +kernel
theorem d_Steps_varsGiven_87 : decode b_Steps_varsGiven 87 = .ok (.iload 6, 2) := by decide +kernel
theorem d_Steps_varsGiven_89 : decode b_Steps_varsGiven 89 = .ok (.bipush 16, 2) := by decide +kernel
theorem d_Steps_varsGiven_91 : decode b_Steps_varsGiven 91 = .ok (.if_icmp .eq 24, 3) := by decide +kernel
theorem d_Steps_varsGiven_94 : decode b_Steps_varsGiven 94 = .ok (.iload 6, 2) := by decide +kernel
theorem d_Steps_varsGiven_96 : decode b_Steps_varsGiven 96 = .ok (.bipush 18, 2) := by decide +kernel
theorem d_Steps_varsGiven_98 : decode b_Steps_varsGiven 98 = .ok (.if_icmp .eq 17, 3) := by decide +kernel
theorem d_Steps_varsGiven_101 : decode b_Steps_varsGiven 101 = .ok (.iload 6, 2) := by decide +kernel
theorem d_Steps_varsGiven_103 : decode b_Steps_varsGiven 103 = .ok (.bipush 21, 2) := by decide +kernel
theorem d_Steps_varsGiven_105 : decode b_Steps_varsGiven 105 = .ok (.if_icmp .eq 10, 3) := by decide +kernel
theorem d_Steps_varsGiven_108 : decode b_Steps_varsGiven 108 = .ok (.iload 6, 2) := by decide +kernel
theorem d_Steps_varsGiven_110 : decode b_Steps_varsGiven 110 = .ok (.bipush 23, 2) := by decide +kernel
theorem d_Steps_varsGiven_112 : decode b_Steps_varsGiven 112 = .ok (.if_icmp .ne 41, 3) := by decide +kernel
theorem d_Steps_varsGiven_115 : decode b_Steps_varsGiven 115 = .ok (.iload_n 3, 1) := by decide +kernel
theorem d_Steps_varsGiven_116 : decode b_Steps_varsGiven 116 = .ok (.aload_n 0, 1) := by decide +kernel
theorem d_Steps_varsGiven_117 : decode b_Steps_varsGiven 117 = .ok (.aload_n 0, 1) := by decide +kernel
theorem d_Steps_varsGiven_118 : decode b_Steps_varsGiven 118 = .ok (.getfield 9, 3) := by decide +kernel
theorem d_Steps_varsGiven_121 : decode b_Steps_varsGiven 121 = .ok (.getfield 128, 3) := by decide +kernel
theorem d_Steps_varsGiven_124 : decode b_Steps_varsGiven 124 = .ok (.iload 4, 2) := by decide +kernel
theorem d_Steps_varsGiven_126 : decode b_Steps_varsGiven 126 = .ok (.iaload, 1) := by decide +kernel
theorem d_Steps_varsGiven_127 : decode b_Steps_varsGiven 127 = .ok (.iload_n 2, 1) := by decide +kernel
theorem d_Steps_varsGiven_128 : decode b_Steps_varsGiven 128 = .ok (.iconst 1, 1) := by decide +kernel
theorem d_Steps_varsGiven_129 : decode b_Steps_varsGiven 129 = .ok (.iadd, 1) := by decide +kernel
theorem d_Steps_varsGiven_130 : decode b_Steps_varsGiven 130 = .ok (.invokevirtual 238, 3) := by decide +kernel
theorem d_Steps_varsGiven_133 : decode b_Steps_varsGiven 133 = .ok (.aload_n 0, 1) := by decide +kernel
theorem d_Steps_varsGiven_134 : decode b_Steps_varsGiven 134 = .ok (.aload_n 0, 1) := by decide +kernel
theorem d_Steps_varsGiven_135 : decode b_Steps_varsGiven 135 = .ok (.getfield 9, 3) := by decide +kernel
theorem d_Steps_varsGiven_138 : decode b_Steps_varsGiven 138 = .ok (.getfield 228, 3) := by decide +kernel
theorem d_Steps_varsGiven_141 : decode b_Steps_varsGiven 141 = .ok (.iload 4, 2) := by decide +kernel
theorem d_Steps_varsGiven_143 : decode b_Steps_varsGiven 143 = .ok (.iaload, 1) := by decide +kernel
theorem d_Steps_varsGiven_144 : decode b_Steps_varsGiven 144 = .ok (.iload_n 2, 1) := by decide +kernel
theorem d_Steps_varsGiven_145 : decode b_Steps_varsGiven 145 = .ok (.iconst 1, 1) := by decide +kernel
theorem d_Steps_varsGiven_146 : decode b_Steps_varsGiven 146 = .ok (.iadd, 1) := by decide +kernel
theorem d_Steps_varsGiven_147 : decode b_Steps_varsGiven 147 = .ok (.invokevirtual 238, 3) := by decide +kernel
theorem d_Steps_varsGiven_150 : decode b_Steps_varsGiven 150 = .ok (.ior, 1) := by decide +kernel
theorem d_Steps_varsGiven_151 : decode b_Steps_varsGiven 151 = .ok (.ior, 1) := by decide +kernel
theorem d_Steps_varsGiven_152 : decode b_Steps_varsGiven 152 = .ok (.istore_n 3, 1) := by decide +kernel
theorem d_Steps_varsGiven_153 : decode b_Steps_varsGiven 153 = .ok (.aload_n 0, 1) := by decide +kernel
theorem d_Steps_varsGiven_154 : decode b_Steps_varsGiven 154 = .ok (.getfield 9, 3) := by decide +kernel
theorem d_Steps_varsGiven_157 : decode b_Steps_varsGiven 157 = .ok (.getfield 109, 3) := by decide +kernel
theorem d_Steps_varsGiven_160 : decode b_Steps_varsGiven 160 = .ok (.iload 4, 2) := by decide +kernel
theorem d_Steps_varsGiven_162 : decode b_Steps_varsGiven 162 = .ok (.iaload, 1) := by decide +kernel
theorem d_Steps_varsGiven_163 : decode b_Steps_varsGiven 163 = .ok (.istore 4, 2) := by decide +kernel
theorem d_Steps_varsGiven_165 : decode b_Steps_varsGiven 165 = .ok (.iinc 5 1, 3) := by decide +kernel
theorem d_Steps_varsGiven_168 : decode b_Steps_varsGiven 168 = .ok (.goto (-152), 3) := by decide +kernel
theorem d_Steps_varsGiven_171 : decode b_Steps_varsGiven 171 = .ok (.iload_n 3, 1) := by decide +kernel
theorem d_Steps_varsGiven_172 : decode b_Steps_varsGiven 172 = .ok (.ireturn, 1) := by decide +kernel
section GV
variable {p : Program} {l : Launch} {e : Env} {R : Room} {s : State} {m : MethodId} {args : Array Value} {below : List Frame} {meth : Method} {c : Code} {H : Heap} {locs : List Loc} {cells slots : Nat} {Q : State → Prop}
variable {cc : ByteArray} {pc : Nat} {ls : Array Slot} {rest st0 : List Value} {dC : Nat → ClassId} {dI : Nat → Nat → Nat} {A : Nat → Prop} {ad ea ev : Nat → Nat} {km : Nat → ClassId} {T T' : gSt} {H0 : Heap}
theorem rd_Steps_15 (hx : p.tables.exec = Jvm.exec) (hb : c.code = cc) (hT : ∀ w ∈ lw_good, w.before args s = true) (hown : s.vm.findClass R_Steps = some m.cls) (hK : va_K (dC, dI) cls_all (gT LH km) s) (hP : va_P (dC, dI) cls_all (gW LH ad km T) H) (hdg : decode cc pc = .ok (.getfield 15, 3)) (kk : W p l e R s m args below meth c H locs cells slots Q (F0 m (pc + 3) ls (.ref (ad 2) :: rest))) : W p l e R s m args below meth c H locs cells slots Q (F0 m pc ls (.ref (ad 9) :: rest)) := gw_get hx hb hT i_Steps hown hK hP 9 1 90 (Nat.le_of_ble_eq_true rfl) rfl rfl (Nat.le_of_ble_eq_true rfl) rfl (gv_o rfl) (hT _ fl_Steps_15) (fun _ h9 => h9) hdg kk
theorem rd_Steps_43 (hx : p.tables.exec = Jvm.exec) (hb : c.code = cc) (hT : ∀ w ∈ lw_good, w.before args s = true) (hown : s.vm.findClass R_Steps = some m.cls) (hK : va_K (dC, dI) cls_all (gT LH km) s) (hP : va_P (dC, dI) cls_all (gW LH ad km T) H) (hdg : decode cc pc = .ok (.getfield 43, 3)) (kk : W p l e R s m args below meth c H locs cells slots Q (F0 m (pc + 3) ls (.int (T.1 27 0) :: rest))) : W p l e R s m args below meth c H locs cells slots Q (F0 m pc ls (.ref (ad 2) :: rest)) := gw_get hx hb hT i_Items hown hK hP 2 0 27 (Nat.le_of_ble_eq_true rfl) rfl rfl (Nat.le_of_ble_eq_true rfl) rfl (gv_i rfl) (hT _ fl_Steps_43) (fun _ h9 => h9) hdg kk
theorem rd_Steps_49 (hx : p.tables.exec = Jvm.exec) (hb : c.code = cc) (hT : ∀ w ∈ lw_good, w.before args s = true) (hown : s.vm.findClass R_Steps = some m.cls) (hK : va_K (dC, dI) cls_all (gT LH km) s) (hP : va_P (dC, dI) cls_all (gW LH ad km T) H) (hdg : decode cc pc = .ok (.getfield 49, 3)) (kk : W p l e R s m args below meth c H locs cells slots Q (F0 m (pc + 3) ls (.ref (ad 25) :: rest))) : W p l e R s m args below meth c H locs cells slots Q (F0 m pc ls (.ref (ad 2) :: rest)) := gw_get hx hb hT i_Items hown hK hP 2 1 28 (Nat.le_of_ble_eq_true rfl) rfl rfl (Nat.le_of_ble_eq_true rfl) rfl (gv_a rfl) (hT _ fl_Steps_49) (fun _ h9 => h9) hdg kk
theorem rd_Steps_34 (hx : p.tables.exec = Jvm.exec) (hb : c.code = cc) (hT : ∀ w ∈ lw_good, w.before args s = true) (hown : s.vm.findClass R_Steps = some m.cls) (hK : va_K (dC, dI) cls_all (gT LH km) s) (hP : va_P (dC, dI) cls_all (gW LH ad km T) H) (hdg : decode cc pc = .ok (.getfield 34, 3)) (kk : W p l e R s m args below meth c H locs cells slots Q (F0 m (pc + 3) ls (.ref (ad 6) :: rest))) : W p l e R s m args below meth c H locs cells slots Q (F0 m pc ls (.ref (ad 9) :: rest)) := gw_get hx hb hT i_Steps hown hK hP 9 4 93 (Nat.le_of_ble_eq_true rfl) rfl rfl (Nat.le_of_ble_eq_true rfl) rfl (gv_o rfl) (hT _ fl_Steps_34) (fun _ h9 => h9) hdg kk
theorem rd_Steps_62 (hx : p.tables.exec = Jvm.exec) (hb : c.code = cc) (hT : ∀ w ∈ lw_good, w.before args s = true) (hown : s.vm.findClass R_Steps = some m.cls) (hK : va_K (dC, dI) cls_all (gT LH km) s) (hP : va_P (dC, dI) cls_all (gW LH ad km T) H) (hdg : decode cc pc = .ok (.getfield 62, 3)) (kk : W p l e R s m args below meth c H locs cells slots Q (F0 m (pc + 3) ls (.ref (ad 39) :: rest))) : W p l e R s m args below meth c H locs cells slots Q (F0 m pc ls (.ref (ad 2) :: rest)) := gw_get hx hb hT i_Items hown hK hP 2 15 42 (Nat.le_of_ble_eq_true rfl) rfl rfl (Nat.le_of_ble_eq_true rfl) rfl (gv_a rfl) (hT _ fl_Steps_62) (fun _ h9 => h9) hdg kk
theorem rd_Steps_39 (hx : p.tables.exec = Jvm.exec) (hb : c.code = cc) (hT : ∀ w ∈ lw_good, w.before args s = true) (hown : s.vm.findClass R_Steps = some m.cls) (hK : va_K (dC, dI) cls_all (gT LH km) s) (hP : va_P (dC, dI) cls_all (gW LH ad km T) H) (hdg : decode cc pc = .ok (.getfield 39, 3)) (kk : W p l e R s m args below meth c H locs cells slots Q (F0 m (pc + 3) ls (.ref (ad 3) :: rest))) : W p l e R s m args below meth c H locs cells slots Q (F0 m pc ls (.ref (ad 9) :: rest)) := gw_get hx hb hT i_Steps hown hK hP 9 6 95 (Nat.le_of_ble_eq_true rfl) rfl rfl (Nat.le_of_ble_eq_true rfl) rfl (gv_o rfl) (hT _ fl_Steps_39) (fun _ h9 => h9) hdg kk
theorem laH_27 (hx : p.tables.exec = Jvm.exec) (hb : c.code = cc) (hK : va_K (dC, dI) cls_all (gT LH km) s) (hP : va_P (dC, dI) cls_all (gW LH ad km T) H) {x : Int32} (hin : inb x 24) (hdg : decode cc pc = .ok (.iaload, 1)) (kk : W p l e R s m args below meth c H locs cells slots Q (F0 m (pc + 1) ls (.int (T.1 42 x.toNatClampNeg) :: rest))) : W p l e R s m args below meth c H locs cells slots Q (F0 m pc ls (.int x :: .ref (ad 39) :: rest)) := gw_iald hx hb hK hP 27 42 24 39 (Nat.le_of_ble_eq_true rfl) rfl rfl rfl rfl rfl hin hdg kk
theorem saH_27 (hx : p.tables.exec = Jvm.exec) (hb : c.code = cc) (hK : va_K (dC, dI) cls_all (gT LH km) s) (hP : va_P (dC, dI) cls_all (gW LH ad km T) H) (hD : va_D A (gW LH ad km T)) (hS : va_S A H0 H locs) {x : Int32} {v : Int32} (hin : inb x 24) (hdg : decode cc pc = .ok (.iastore, 1)) (kk : ∀ (T1 : gSt), T1 = sI T 42 x.toNatClampNeg v → ∀ (H1 : Heap) (locs1 : List Loc), va_P (dC, dI) cls_all (gW LH ad km T1) H1 → va_D A (gW LH ad km T1) → va_S A H0 H1 locs1 → W p l e R s m args below meth c H1 locs1 cells slots Q (F0 m (pc + 1) ls rest)) : W p l e R s m args below meth c H locs cells slots Q (F0 m pc ls (.int v :: .int x :: .ref (ad 39) :: rest)) := gw_iast okH hx hb hK hP hD hS 27 42 24 39 (Nat.le_of_ble_eq_true rfl) rfl rfl rfl rfl rfl hin hdg kk
theorem rd_Steps_70 (hx : p.tables.exec = Jvm.exec) (hb : c.code = cc) (hT : ∀ w ∈ lw_good, w.before args s = true) (hown : s.vm.findClass R_Steps = some m.cls) (hK : va_K (dC, dI) cls_all (gT LH km) s) (hP : va_P (dC, dI) cls_all (gW LH ad km T) H) (hdg : decode cc pc = .ok (.getfield 70, 3)) (kk : W p l e R s m args below meth c H locs cells slots Q (F0 m (pc + 3) ls (.ref (ad 33) :: rest))) : W p l e R s m args below meth c H locs cells slots Q (F0 m pc ls (.ref (ad 2) :: rest)) := gw_get hx hb hT i_Items hown hK hP 2 9 36 (Nat.le_of_ble_eq_true rfl) rfl rfl (Nat.le_of_ble_eq_true rfl) rfl (gv_a rfl) (hT _ fl_Steps_70) (fun _ h9 => h9) hdg kk
theorem rd_Steps_77 (hx : p.tables.exec = Jvm.exec) (hb : c.code = cc) (hT : ∀ w ∈ lw_good, w.before args s = true) (hown : s.vm.findClass R_Steps = some m.cls) (hK : va_K (dC, dI) cls_all (gT LH km) s) (hP : va_P (dC, dI) cls_all (gW LH ad km T) H) (hdg : decode cc pc = .ok (.getfield 77, 3)) (kk : W p l e R s m args below meth c H locs cells slots Q (F0 m (pc + 3) ls (.ref (ad 35) :: rest))) : W p l e R s m args below meth c H locs cells slots Q (F0 m pc ls (.ref (ad 2) :: rest)) := gw_get hx hb hT i_Items hown hK hP 2 11 38 (Nat.le_of_ble_eq_true rfl) rfl rfl (Nat.le_of_ble_eq_true rfl) rfl (gv_a rfl) (hT _ fl_Steps_77) (fun _ h9 => h9) hdg kk
theorem rd_Steps_9 (hx : p.tables.exec = Jvm.exec) (hb : c.code = cc) (hT : ∀ w ∈ lw_good, w.before args s = true) (hown : s.vm.findClass R_Steps = some m.cls) (hK : va_K (dC, dI) cls_all (gT LH km) s) (hP : va_P (dC, dI) cls_all (gW LH ad km T) H) (hdg : decode cc pc = .ok (.getfield 9, 3)) (kk : W p l e R s m args below meth c H locs cells slots Q (F0 m (pc + 3) ls (.ref (ad 1) :: rest))) : W p l e R s m args below meth c H locs cells slots Q (F0 m pc ls (.ref (ad 9) :: rest)) := gw_get hx hb hT i_Steps hown hK hP 9 0 89 (Nat.le_of_ble_eq_true rfl) rfl rfl (Nat.le_of_ble_eq_true rfl) rfl (gv_o rfl) (hT _ fl_Steps_9) (fun _ h9 => h9) hdg kk
theorem rd_Steps_84 (hx : p.tables.exec = Jvm.exec) (hb : c.code = cc) (hT : ∀ w ∈ lw_good, w.before args s = true) (hown : s.vm.findClass R_Steps = some m.cls) (hK : va_K (dC, dI) cls_all (gT LH km) s) (hP : va_P (dC, dI) cls_all (gW LH ad km T) H) (hdg : decode cc pc = .ok (.getfield 84, 3)) (kk : W p l e R s m args below meth c H locs cells slots Q (F0 m (pc + 3) ls (.ref (ad 34) :: rest))) : W p l e R s m args below meth c H locs cells slots Q (F0 m pc ls (.ref (ad 2) :: rest)) := gw_get hx hb hT i_Items hown hK hP 2 10 37 (Nat.le_of_ble_eq_true rfl) rfl rfl (Nat.le_of_ble_eq_true rfl) rfl (gv_a rfl) (hT _ fl_Steps_84) (fun _ h9 => h9) hdg kk
theorem rd_Steps_103 (hx : p.tables.exec = Jvm.exec) (hb : c.code = cc) (hT : ∀ w ∈ lw_good, w.before args s = true) (hown : s.vm.findClass R_Steps = some m.cls) (hK : va_K (dC, dI) cls_all (gT LH km) s) (hP : va_P (dC, dI) cls_all (gW LH ad km T) H) (hdg : decode cc pc = .ok (.getfield 103, 3)) (kk : W p l e R s m args below meth c H locs cells slots Q (F0 m (pc + 3) ls (.ref (ad 14) :: rest))) : W p l e R s m args below meth c H locs cells slots Q (F0 m pc ls (.ref (ad 1) :: rest)) := gw_get hx hb hT i_Source hown hK hP 1 1 12 (Nat.le_of_ble_eq_true rfl) rfl rfl (Nat.le_of_ble_eq_true rfl) rfl (gv_a rfl) (hT _ fl_Steps_103) (fun _ h9 => h9) hdg kk
theorem rd_Steps_109 (hx : p.tables.exec = Jvm.exec) (hb : c.code = cc) (hT : ∀ w ∈ lw_good, w.before args s = true) (hown : s.vm.findClass R_Steps = some m.cls) (hK : va_K (dC, dI) cls_all (gT LH km) s) (hP : va_P (dC, dI) cls_all (gW LH ad km T) H) (hdg : decode cc pc = .ok (.getfield 109, 3)) (kk : W p l e R s m args below meth c H locs cells slots Q (F0 m (pc + 3) ls (.ref (ad 15) :: rest))) : W p l e R s m args below meth c H locs cells slots Q (F0 m pc ls (.ref (ad 1) :: rest)) := gw_get hx hb hT i_Source hown hK hP 1 2 13 (Nat.le_of_ble_eq_true rfl) rfl rfl (Nat.le_of_ble_eq_true rfl) rfl (gv_a rfl) (hT _ fl_Steps_109) (fun _ h9 => h9) hdg kk
theorem rd_Steps_115 (hx : p.tables.exec = Jvm.exec) (hb : c.code = cc) (hT : ∀ w ∈ lw_good, w.before args s = true) (hown : s.vm.findClass R_Steps = some m.cls) (hK : va_K (dC, dI) cls_all (gT LH km) s) (hP : va_P (dC, dI) cls_all (gW LH ad km T) H) (hdg : decode cc pc = .ok (.getfield 115, 3)) (kk : W p l e R s m args below meth c H locs cells slots Q (F0 m (pc + 3) ls (.ref (ad 13) :: rest))) : W p l e R s m args below meth c H locs cells slots Q (F0 m pc ls (.ref (ad 1) :: rest)) := gw_get hx hb hT i_Source hown hK hP 1 0 11 (Nat.le_of_ble_eq_true rfl) rfl rfl (Nat.le_of_ble_eq_true rfl) rfl (gv_a rfl) (hT _ fl_Steps_115) (fun _ h9 => h9) hdg kk
theorem rd_Steps_128 (hx : p.tables.exec = Jvm.exec) (hb : c.code = cc) (hT : ∀ w ∈ lw_good, w.before args s = true) (hown : s.vm.findClass R_Steps = some m.cls) (hK : va_K (dC, dI) cls_all (gT LH km) s) (hP : va_P (dC, dI) cls_all (gW LH ad km T) H) (hdg : decode cc pc = .ok (.getfield 128, 3)) (kk : W p l e R s m args below meth c H locs cells slots Q (F0 m (pc + 3) ls (.ref (ad 19) :: rest))) : W p l e R s m args below meth c H locs cells slots Q (F0 m pc ls (.ref (ad 1) :: rest)) := gw_get hx hb hT i_Source hown hK hP 1 6 17 (Nat.le_of_ble_eq_true rfl) rfl rfl (Nat.le_of_ble_eq_true rfl) rfl (gv_a rfl) (hT _ fl_Steps_128) (fun _ h9 => h9) hdg kk
theorem rd_Steps_35 (hx : p.tables.exec = Jvm.exec) (hb : c.code = cc) (hT : ∀ w ∈ lw_good, w.before args s = true) (hown : s.vm.findClass R_Steps = some m.cls) (hK : va_K (dC, dI) cls_all (gT LH km) s) (hP : va_P (dC, dI) cls_all (gW LH ad km T) H) (hdg : decode cc pc = .ok (.getfield 35, 3)) (kk : W p l e R s m args below meth c H locs cells slots Q (F0 m (pc + 3) ls (.ref (ad 8) :: rest))) : W p l e R s m args below meth c H locs cells slots Q (F0 m pc ls (.ref (ad 9) :: rest)) := gw_get hx hb hT i_Steps hown hK hP 9 5 94 (Nat.le_of_ble_eq_true rfl) rfl rfl (Nat.le_of_ble_eq_true rfl) rfl (gv_o rfl) (hT _ fl_Steps_35) (fun _ h9 => h9) hdg kk
theorem rd_Steps_152 (hx : p.tables.exec = Jvm.exec) (hb : c.code = cc) (hT : ∀ w ∈ lw_good, w.before args s = true) (hown : s.vm.findClass R_Steps = some m.cls) (hK : va_K (dC, dI) cls_all (gT LH km) s) (hP : va_P (dC, dI) cls_all (gW LH ad km T) H) (hdg : decode cc pc = .ok (.getfield 152, 3)) (kk : W p l e R s m args below meth c H locs cells slots Q (F0 m (pc + 3) ls (.ref (ad 18) :: rest))) : W p l e R s m args below meth c H locs cells slots Q (F0 m pc ls (.ref (ad 1) :: rest)) := gw_get hx hb hT i_Source hown hK hP 1 5 16 (Nat.le_of_ble_eq_true rfl) rfl rfl (Nat.le_of_ble_eq_true rfl) rfl (gv_a rfl) (hT _ fl_Steps_152) (fun _ h9 => h9) hdg kk
theorem rd_Steps_29 (hx : p.tables.exec = Jvm.exec) (hb : c.code = cc) (hT : ∀ w ∈ lw_good, w.before args s = true) (hown : s.vm.findClass R_Steps = some m.cls) (hK : va_K (dC, dI) cls_all (gT LH km) s) (hP : va_P (dC, dI) cls_all (gW LH ad km T) H) (hdg : decode cc pc = .ok (.getfield 29, 3)) (kk : W p l e R s m args below meth c H locs cells slots Q (F0 m (pc + 3) ls (.ref (ad 5) :: rest))) : W p l e R s m args below meth c H locs cells slots Q (F0 m pc ls (.ref (ad 9) :: rest)) := gw_get hx hb hT i_Steps hown hK hP 9 3 92 (Nat.le_of_ble_eq_true rfl) rfl rfl (Nat.le_of_ble_eq_true rfl) rfl (gv_o rfl) (hT _ fl_Steps_29) (fun _ h9 => h9) hdg kk
theorem rd_Steps_19 (hx : p.tables.exec = Jvm.exec) (hb : c.code = cc) (hT : ∀ w ∈ lw_good, w.before args s = true) (hown : s.vm.findClass R_Steps = some m.cls) (hK : va_K (dC, dI) cls_all (gT LH km) s) (hP : va_P (dC, dI) cls_all (gW LH ad km T) H) (hdg : decode cc pc = .ok (.getfield 19, 3)) (kk : W p l e R s m args below meth c H locs cells slots Q (F0 m (pc + 3) ls (.ref (ad 7) :: rest))) : W p l e R s m args below meth c H locs cells slots Q (F0 m pc ls (.ref (ad 9) :: rest)) := gw_get hx hb hT i_Steps hown hK hP 9 2 91 (Nat.le_of_ble_eq_true rfl) rfl rfl (Nat.le_of_ble_eq_true rfl) rfl (gv_o rfl) (hT _ fl_Steps_19) (fun _ h9 => h9) hdg kk
theorem rd_Steps_202 (hx : p.tables.exec = Jvm.exec) (hb : c.code = cc) (hT : ∀ w ∈ lw_good, w.before args s = true) (hown : s.vm.findClass R_Steps = some m.cls) (hK : va_K (dC, dI) cls_all (gT LH km) s) (hP : va_P (dC, dI) cls_all (gW LH ad km T) H) (hdg : decode cc pc = .ok (.getfield 202, 3)) (kk : W p l e R s m args below meth c H locs cells slots Q (F0 m (pc + 3) ls (.int (T.1 67 0) :: rest))) : W p l e R s m args below meth c H locs cells slots Q (F0 m pc ls (.ref (ad 6) :: rest)) := gw_get hx hb hT i_Scope hown hK hP 6 3 67 (Nat.le_of_ble_eq_true rfl) rfl rfl (Nat.le_of_ble_eq_true rfl) rfl (gv_i rfl) (hT _ fl_Steps_202) (fun _ h9 => h9) hdg kk
theorem rd_Steps_215 (hx : p.tables.exec = Jvm.exec) (hb : c.code = cc) (hT : ∀ w ∈ lw_good, w.before args s = true) (hown : s.vm.findClass R_Steps = some m.cls) (hK : va_K (dC, dI) cls_all (gT LH km) s) (hP : va_P (dC, dI) cls_all (gW LH ad km T) H) (hdg : decode cc pc = .ok (.getfield 215, 3)) (kk : W p l e R s m args below meth c H locs cells slots Q (F0 m (pc + 3) ls (.long (T.2 77 0) :: rest))) : W p l e R s m args below meth c H locs cells slots Q (F0 m pc ls (.ref (ad 6) :: rest)) := gw_get hx hb hT i_Scope hown hK hP 6 13 77 (Nat.le_of_ble_eq_true rfl) rfl rfl (Nat.le_of_ble_eq_true rfl) rfl (gv_l rfl) (hT _ fl_Steps_215) (fun _ h9 => h9) hdg kk
theorem wr_Steps_215 (hx : p.tables.exec = Jvm.exec) (hb : c.code = cc) (hT : ∀ w ∈ lw_good, w.before args s = true) (hown : s.vm.findClass R_Steps = some m.cls) (hK : va_K (dC, dI) cls_all (gT LH km) s) (hP : va_P (dC, dI) cls_all (gW LH ad km T) H) (hD : va_D A (gW LH ad km T)) (hS : va_S A H0 H locs) {v : Int64} (hdg : decode cc pc = .ok (.putfield 215, 3)) (kk : ∀ (T1 : gSt), T1 = sJ T 77 0 v → ∀ (H1 : Heap) (locs1 : List Loc), va_P (dC, dI) cls_all (gW LH ad km T1) H1 → va_D A (gW LH ad km T1) → va_S A H0 H1 locs1 → W p l e R s m args below meth c H1 locs1 cells slots Q (F0 m (pc + 3) ls rest)) : W p l e R s m args below meth c H locs cells slots Q (F0 m pc ls (.long v :: .ref (ad 6) :: rest)) := gw_putj okH hx hb hT i_Scope t_Scope t_Scope_ok n_Scope hown hK hP hD hS 6 13 77 (Nat.le_of_ble_eq_true rfl) rfl rfl (Nat.le_of_ble_eq_true rfl) rfl rfl (hT _ fl_Steps_215) (fun _ h9 => h9) rfl (ty := .long) (by decide +kernel) rfl rfl hdg kk
theorem rd_Steps_228 (hx : p.tables.exec = Jvm.exec) (hb : c.code = cc) (hT : ∀ w ∈ lw_good, w.before args s = true) (hown : s.vm.findClass R_Steps = some m.cls) (hK : va_K (dC, dI) cls_all (gT LH km) s) (hP : va_P (dC, dI) cls_all (gW LH ad km T) H) (hdg : decode cc pc = .ok (.getfield 228, 3)) (kk : W p l e R s m args below meth c H locs cells slots Q (F0 m (pc + 3) ls (.ref (ad 20) :: rest))) : W p l e R s m args below meth c H locs cells slots Q (F0 m pc ls (.ref (ad 1) :: rest)) := gw_get hx hb hT i_Source hown hK hP 1 7 18 (Nat.le_of_ble_eq_true rfl) rfl rfl (Nat.le_of_ble_eq_true rfl) rfl (gv_a rfl) (hT _ fl_Steps_228) (fun _ h9 => h9) hdg kk
end GV
def mt_Exprs_storePlace (l : Launch) (dC : Nat → ClassId) (dI : Nat → Nat → Nat) (ea ev ad : Nat → Nat) (km : Nat → ClassId) (F : gF) (d : Nat) : Prop := ∀ (T : gSt) (p1 : Int32) (p2 : Int32) (p3 : Int32) (p4 : Int32) (r : Int32) (rl : Int64) (T' : gSt), F 172 T [p1, p2, p3, p4] [] = some (r, rl, T') → GMv l dC dI LH ad km ea ev y_Exprs_storePlace w_Exprs_storePlace (rmD d) [.ref (ad 8), .int p1, .int p2, .int p3, .int p4] T T'
theorem pd_Exprs_storePlace : (y_Exprs_storePlace).cls = R_Exprs ∧ (y_Exprs_storePlace).cls ≠ "java/lang/invoke/MethodHandle" ∧ (y_Exprs_storePlace).cls ≠ "java/lang/invoke/VarHandle" ∧ (parseMethodDescriptor (y_Exprs_storePlace).desc).map (fun d => d.parameters.length) = some 4 := by decide +kernel
def mt_Exprs_giveVar (l : Launch) (dC : Nat → ClassId) (dI : Nat → Nat → Nat) (ea ev ad : Nat → Nat) (km : Nat → ClassId) (F : gF) (d : Nat) : Prop := ∀ (T : gSt) (p1 : Int32) (p2 : Int32) (r : Int32) (rl : Int64) (T' : gSt), F 174 T [p1, p2] [] = some (r, rl, T') → GMv l dC dI LH ad km ea ev y_Exprs_giveVar w_Exprs_giveVar (rmD d) [.ref (ad 8), .int p1, .int p2] T T'
theorem pd_Exprs_giveVar : (y_Exprs_giveVar).cls = R_Exprs ∧ (y_Exprs_giveVar).cls ≠ "java/lang/invoke/MethodHandle" ∧ (y_Exprs_giveVar).cls ≠ "java/lang/invoke/VarHandle" ∧ (parseMethodDescriptor (y_Exprs_giveVar).desc).map (fun d => d.parameters.length) = some 2 := by decide +kernel
def mt_Exprs_storeVar (l : Launch) (dC : Nat → ClassId) (dI : Nat → Nat → Nat) (ea ev ad : Nat → Nat) (km : Nat → ClassId) (F : gF) (d : Nat) : Prop := ∀ (T : gSt) (p1 : Int32) (p2 : Int32) (p3 : Int32) (r : Int32) (rl : Int64) (T' : gSt), F 173 T [p1, p2, p3] [] = some (r, rl, T') → GMv l dC dI LH ad km ea ev y_Exprs_storeVar w_Exprs_storeVar (rmD d) [.ref (ad 8), .int p1, .int p2, .int p3] T T'
theorem pd_Exprs_storeVar : (y_Exprs_storeVar).cls = R_Exprs ∧ (y_Exprs_storeVar).cls ≠ "java/lang/invoke/MethodHandle" ∧ (y_Exprs_storeVar).cls ≠ "java/lang/invoke/VarHandle" ∧ (parseMethodDescriptor (y_Exprs_storeVar).desc).map (fun d => d.parameters.length) = some 3 := by decide +kernel
def mt_Exprs_nameAlone (l : Launch) (dC : Nat → ClassId) (dI : Nat → Nat → Nat) (ea ev ad : Nat → Nat) (km : Nat → ClassId) (F : gF) (d : Nat) : Prop := ∀ (T : gSt) (p1 : Int32) (r : Int32) (rl : Int64) (T' : gSt), F 237 T [p1] [] = some (r, rl, T') → GMi l dC dI LH ad km ea ev y_Exprs_nameAlone w_Exprs_nameAlone (rmD d) [.ref (ad 8), .int p1] T r T'
theorem pd_Exprs_nameAlone : (y_Exprs_nameAlone).cls = R_Exprs ∧ (y_Exprs_nameAlone).cls ≠ "java/lang/invoke/MethodHandle" ∧ (y_Exprs_nameAlone).cls ≠ "java/lang/invoke/VarHandle" ∧ (parseMethodDescriptor (y_Exprs_nameAlone).desc).map (fun d => d.parameters.length) = some 1 := by decide +kernel
def mt_Exprs_varAlone (l : Launch) (dC : Nat → ClassId) (dI : Nat → Nat → Nat) (ea ev ad : Nat → Nat) (km : Nat → ClassId) (F : gF) (d : Nat) : Prop := ∀ (T : gSt) (p1 : Int32) (r : Int32) (rl : Int64) (T' : gSt), F 175 T [p1] [] = some (r, rl, T') → GMi l dC dI LH ad km ea ev y_Exprs_varAlone w_Exprs_varAlone (rmD d) [.ref (ad 8), .int p1] T r T'
theorem pd_Exprs_varAlone : (y_Exprs_varAlone).cls = R_Exprs ∧ (y_Exprs_varAlone).cls ≠ "java/lang/invoke/MethodHandle" ∧ (y_Exprs_varAlone).cls ≠ "java/lang/invoke/VarHandle" ∧ (parseMethodDescriptor (y_Exprs_varAlone).desc).map (fun d => d.parameters.length) = some 1 := by decide +kernel
def mt_Exprs_varOfTerm (l : Launch) (dC : Nat → ClassId) (dI : Nat → Nat → Nat) (ea ev ad : Nat → Nat) (km : Nat → ClassId) (F : gF) (d : Nat) : Prop := ∀ (T : gSt) (p1 : Int32) (r : Int32) (rl : Int64) (T' : gSt), F 177 T [p1] [] = some (r, rl, T') → GMi l dC dI LH ad km ea ev y_Exprs_varOfTerm w_Exprs_varOfTerm (rmD d) [.ref (ad 8), .int p1] T r T'
theorem pd_Exprs_varOfTerm : (y_Exprs_varOfTerm).cls = R_Exprs ∧ (y_Exprs_varOfTerm).cls ≠ "java/lang/invoke/MethodHandle" ∧ (y_Exprs_varOfTerm).cls ≠ "java/lang/invoke/VarHandle" ∧ (parseMethodDescriptor (y_Exprs_varOfTerm).desc).map (fun d => d.parameters.length) = some 1 := by decide +kernel
def mt_Exprs_varAgainstNull (l : Launch) (dC : Nat → ClassId) (dI : Nat → Nat → Nat) (ea ev ad : Nat → Nat) (km : Nat → ClassId) (F : gF) (d : Nat) : Prop := ∀ (T : gSt) (p1 : Int32) (r : Int32) (rl : Int64) (T' : gSt), F 176 T [p1] [] = some (r, rl, T') → GMi l dC dI LH ad km ea ev y_Exprs_varAgainstNull w_Exprs_varAgainstNull (rmD d) [.ref (ad 8), .int p1] T r T'
theorem pd_Exprs_varAgainstNull : (y_Exprs_varAgainstNull).cls = R_Exprs ∧ (y_Exprs_varAgainstNull).cls ≠ "java/lang/invoke/MethodHandle" ∧ (y_Exprs_varAgainstNull).cls ≠ "java/lang/invoke/VarHandle" ∧ (parseMethodDescriptor (y_Exprs_varAgainstNull).desc).map (fun d => d.parameters.length) = some 1 := by decide +kernel
def mt_Steps_checkFun (l : Launch) (dC : Nat → ClassId) (dI : Nat → Nat → Nat) (ea ev ad : Nat → Nat) (km : Nat → ClassId) (F : gF) (d : Nat) : Prop := ∀ (T : gSt) (p1 : Int32) (r : Int32) (rl : Int64) (T' : gSt), F 179 T [p1] [] = some (r, rl, T') → GMv l dC dI LH ad km ea ev y_Steps_checkFun w_Steps_checkFun (rmD d) [.ref (ad 9), .int p1] T T'
theorem pd_Steps_checkFun : (y_Steps_checkFun).cls = R_Steps ∧ (y_Steps_checkFun).cls ≠ "java/lang/invoke/MethodHandle" ∧ (y_Steps_checkFun).cls ≠ "java/lang/invoke/VarHandle" ∧ (parseMethodDescriptor (y_Steps_checkFun).desc).map (fun d => d.parameters.length) = some 1 := by decide +kernel
def mt_Steps_checkBlock (l : Launch) (dC : Nat → ClassId) (dI : Nat → Nat → Nat) (ea ev ad : Nat → Nat) (km : Nat → ClassId) (F : gF) (d : Nat) : Prop := ∀ (T : gSt) (p1 : Int32) (p2 : Int32) (r : Int32) (rl : Int64) (T' : gSt), F 180 T [p1, p2] [] = some (r, rl, T') → GMv l dC dI LH ad km ea ev y_Steps_checkBlock w_Steps_checkBlock (rmD d) [.ref (ad 9), .int p1, .int p2] T T'
theorem pd_Steps_checkBlock : (y_Steps_checkBlock).cls = R_Steps ∧ (y_Steps_checkBlock).cls ≠ "java/lang/invoke/MethodHandle" ∧ (y_Steps_checkBlock).cls ≠ "java/lang/invoke/VarHandle" ∧ (parseMethodDescriptor (y_Steps_checkBlock).desc).map (fun d => d.parameters.length) = some 2 := by decide +kernel
def mt_Steps_checkStep (l : Launch) (dC : Nat → ClassId) (dI : Nat → Nat → Nat) (ea ev ad : Nat → Nat) (km : Nat → ClassId) (F : gF) (d : Nat) : Prop := ∀ (T : gSt) (p1 : Int32) (p2 : Int32) (r : Int32) (rl : Int64) (T' : gSt), F 181 T [p1, p2] [] = some (r, rl, T') → GMv l dC dI LH ad km ea ev y_Steps_checkStep w_Steps_checkStep (rmD d) [.ref (ad 9), .int p1, .int p2] T T'
theorem pd_Steps_checkStep : (y_Steps_checkStep).cls = R_Steps ∧ (y_Steps_checkStep).cls ≠ "java/lang/invoke/MethodHandle" ∧ (y_Steps_checkStep).cls ≠ "java/lang/invoke/VarHandle" ∧ (parseMethodDescriptor (y_Steps_checkStep).desc).map (fun d => d.parameters.length) = some 2 := by decide +kernel
def mt_Steps_checkVar (l : Launch) (dC : Nat → ClassId) (dI : Nat → Nat → Nat) (ea ev ad : Nat → Nat) (km : Nat → ClassId) (F : gF) (d : Nat) : Prop := ∀ (T : gSt) (p1 : Int32) (p2 : Int32) (r : Int32) (rl : Int64) (T' : gSt), F 183 T [p1, p2] [] = some (r, rl, T') → GMv l dC dI LH ad km ea ev y_Steps_checkVar w_Steps_checkVar (rmD d) [.ref (ad 9), .int p1, .int p2] T T'
theorem pd_Steps_checkVar : (y_Steps_checkVar).cls = R_Steps ∧ (y_Steps_checkVar).cls ≠ "java/lang/invoke/MethodHandle" ∧ (y_Steps_checkVar).cls ≠ "java/lang/invoke/VarHandle" ∧ (parseMethodDescriptor (y_Steps_checkVar).desc).map (fun d => d.parameters.length) = some 2 := by decide +kernel
def mt_Steps_checkIf (l : Launch) (dC : Nat → ClassId) (dI : Nat → Nat → Nat) (ea ev ad : Nat → Nat) (km : Nat → ClassId) (F : gF) (d : Nat) : Prop := ∀ (T : gSt) (p1 : Int32) (p2 : Int32) (r : Int32) (rl : Int64) (T' : gSt), F 186 T [p1, p2] [] = some (r, rl, T') → GMv l dC dI LH ad km ea ev y_Steps_checkIf w_Steps_checkIf (rmD d) [.ref (ad 9), .int p1, .int p2] T T'
theorem pd_Steps_checkIf : (y_Steps_checkIf).cls = R_Steps ∧ (y_Steps_checkIf).cls ≠ "java/lang/invoke/MethodHandle" ∧ (y_Steps_checkIf).cls ≠ "java/lang/invoke/VarHandle" ∧ (parseMethodDescriptor (y_Steps_checkIf).desc).map (fun d => d.parameters.length) = some 2 := by decide +kernel
def mt_Steps_checkWhile (l : Launch) (dC : Nat → ClassId) (dI : Nat → Nat → Nat) (ea ev ad : Nat → Nat) (km : Nat → ClassId) (F : gF) (d : Nat) : Prop := ∀ (T : gSt) (p1 : Int32) (p2 : Int32) (r : Int32) (rl : Int64) (T' : gSt), F 187 T [p1, p2] [] = some (r, rl, T') → GMv l dC dI LH ad km ea ev y_Steps_checkWhile w_Steps_checkWhile (rmD d) [.ref (ad 9), .int p1, .int p2] T T'
theorem pd_Steps_checkWhile : (y_Steps_checkWhile).cls = R_Steps ∧ (y_Steps_checkWhile).cls ≠ "java/lang/invoke/MethodHandle" ∧ (y_Steps_checkWhile).cls ≠ "java/lang/invoke/VarHandle" ∧ (parseMethodDescriptor (y_Steps_checkWhile).desc).map (fun d => d.parameters.length) = some 2 := by decide +kernel
def mt_Steps_checkReturn (l : Launch) (dC : Nat → ClassId) (dI : Nat → Nat → Nat) (ea ev ad : Nat → Nat) (km : Nat → ClassId) (F : gF) (d : Nat) : Prop := ∀ (T : gSt) (p1 : Int32) (p2 : Int32) (r : Int32) (rl : Int64) (T' : gSt), F 184 T [p1, p2] [] = some (r, rl, T') → GMv l dC dI LH ad km ea ev y_Steps_checkReturn w_Steps_checkReturn (rmD d) [.ref (ad 9), .int p1, .int p2] T T'
theorem pd_Steps_checkReturn : (y_Steps_checkReturn).cls = R_Steps ∧ (y_Steps_checkReturn).cls ≠ "java/lang/invoke/MethodHandle" ∧ (y_Steps_checkReturn).cls ≠ "java/lang/invoke/VarHandle" ∧ (parseMethodDescriptor (y_Steps_checkReturn).desc).map (fun d => d.parameters.length) = some 2 := by decide +kernel
def mt_Steps_checkNumber (l : Launch) (dC : Nat → ClassId) (dI : Nat → Nat → Nat) (ea ev ad : Nat → Nat) (km : Nat → ClassId) (F : gF) (d : Nat) : Prop := ∀ (T : gSt) (p1 : Int32) (p2 : Int32) (r : Int32) (rl : Int64) (T' : gSt), F 182 T [p1, p2] [] = some (r, rl, T') → GMv l dC dI LH ad km ea ev y_Steps_checkNumber w_Steps_checkNumber (rmD d) [.ref (ad 9), .int p1, .int p2] T T'
theorem pd_Steps_checkNumber : (y_Steps_checkNumber).cls = R_Steps ∧ (y_Steps_checkNumber).cls ≠ "java/lang/invoke/MethodHandle" ∧ (y_Steps_checkNumber).cls ≠ "java/lang/invoke/VarHandle" ∧ (parseMethodDescriptor (y_Steps_checkNumber).desc).map (fun d => d.parameters.length) = some 2 := by decide +kernel
def mt_Steps_checkRegion (l : Launch) (dC : Nat → ClassId) (dI : Nat → Nat → Nat) (ea ev ad : Nat → Nat) (km : Nat → ClassId) (F : gF) (d : Nat) : Prop := ∀ (T : gSt) (p1 : Int32) (p2 : Int32) (r : Int32) (rl : Int64) (T' : gSt), F 188 T [p1, p2] [] = some (r, rl, T') → GMv l dC dI LH ad km ea ev y_Steps_checkRegion w_Steps_checkRegion (rmD d) [.ref (ad 9), .int p1, .int p2] T T'
theorem pd_Steps_checkRegion : (y_Steps_checkRegion).cls = R_Steps ∧ (y_Steps_checkRegion).cls ≠ "java/lang/invoke/MethodHandle" ∧ (y_Steps_checkRegion).cls ≠ "java/lang/invoke/VarHandle" ∧ (parseMethodDescriptor (y_Steps_checkRegion).desc).map (fun d => d.parameters.length) = some 2 := by decide +kernel
def mt_Steps_checkClose (l : Launch) (dC : Nat → ClassId) (dI : Nat → Nat → Nat) (ea ev ad : Nat → Nat) (km : Nat → ClassId) (F : gF) (d : Nat) : Prop := ∀ (T : gSt) (p1 : Int32) (r : Int32) (rl : Int64) (T' : gSt), F 189 T [p1] [] = some (r, rl, T') → GMv l dC dI LH ad km ea ev y_Steps_checkClose w_Steps_checkClose (rmD d) [.ref (ad 9), .int p1] T T'
theorem pd_Steps_checkClose : (y_Steps_checkClose).cls = R_Steps ∧ (y_Steps_checkClose).cls ≠ "java/lang/invoke/MethodHandle" ∧ (y_Steps_checkClose).cls ≠ "java/lang/invoke/VarHandle" ∧ (parseMethodDescriptor (y_Steps_checkClose).desc).map (fun d => d.parameters.length) = some 1 := by decide +kernel
def mt_Steps_checkTry (l : Launch) (dC : Nat → ClassId) (dI : Nat → Nat → Nat) (ea ev ad : Nat → Nat) (km : Nat → ClassId) (F : gF) (d : Nat) : Prop := ∀ (T : gSt) (p1 : Int32) (p2 : Int32) (r : Int32) (rl : Int64) (T' : gSt), F 190 T [p1, p2] [] = some (r, rl, T') → GMv l dC dI LH ad km ea ev y_Steps_checkTry w_Steps_checkTry (rmD d) [.ref (ad 9), .int p1, .int p2] T T'
theorem pd_Steps_checkTry : (y_Steps_checkTry).cls = R_Steps ∧ (y_Steps_checkTry).cls ≠ "java/lang/invoke/MethodHandle" ∧ (y_Steps_checkTry).cls ≠ "java/lang/invoke/VarHandle" ∧ (parseMethodDescriptor (y_Steps_checkTry).desc).map (fun d => d.parameters.length) = some 2 := by decide +kernel
def mt_Steps_checkQuestion (l : Launch) (dC : Nat → ClassId) (dI : Nat → Nat → Nat) (ea ev ad : Nat → Nat) (km : Nat → ClassId) (F : gF) (d : Nat) : Prop := ∀ (T : gSt) (p1 : Int32) (p2 : Int32) (r : Int32) (rl : Int64) (T' : gSt), F 185 T [p1, p2] [] = some (r, rl, T') → GMv l dC dI LH ad km ea ev y_Steps_checkQuestion w_Steps_checkQuestion (rmD d) [.ref (ad 9), .int p1, .int p2] T T'
theorem pd_Steps_checkQuestion : (y_Steps_checkQuestion).cls = R_Steps ∧ (y_Steps_checkQuestion).cls ≠ "java/lang/invoke/MethodHandle" ∧ (y_Steps_checkQuestion).cls ≠ "java/lang/invoke/VarHandle" ∧ (parseMethodDescriptor (y_Steps_checkQuestion).desc).map (fun d => d.parameters.length) = some 2 := by decide +kernel
def mt_Steps_varsGiven (l : Launch) (dC : Nat → ClassId) (dI : Nat → Nat → Nat) (ea ev ad : Nat → Nat) (km : Nat → ClassId) (F : gF) (d : Nat) : Prop := ∀ (T : gSt) (p1 : Int32) (p2 : Int32) (r : Int32) (rl : Int64) (T' : gSt), F 191 T [p1, p2] [] = some (r, rl, T') → GMi l dC dI LH ad km ea ev y_Steps_varsGiven w_Steps_varsGiven (rmD d) [.ref (ad 9), .int p1, .int p2] T r T'
theorem pd_Steps_varsGiven : (y_Steps_varsGiven).cls = R_Steps ∧ (y_Steps_varsGiven).cls ≠ "java/lang/invoke/MethodHandle" ∧ (y_Steps_varsGiven).cls ≠ "java/lang/invoke/VarHandle" ∧ (parseMethodDescriptor (y_Steps_varsGiven).desc).map (fun d => d.parameters.length) = some 2 := by decide +kernel
set_option maxHeartbeats 4000000 in
set_option maxRecDepth 100000 in
theorem sp_Exprs_storePlace (l : Launch) (dC : Nat → ClassId) (dI : Nat → Nat → Nat) (ea ev ad : Nat → Nat) (km : Nat → ClassId) (F : gF) (nf d : Nat) (h_Source_bare : mt_Source_bare l dC dI ea ev ad km F d) (h_Source_lastTail : mt_Source_lastTail l dC dI ea ev ad km F d) (h_Source_beginOf : mt_Source_beginOf l dC dI ea ev ad km F d) (h_Code_note : mt_Code_note l dC dI ea ev ad km F d) (h_Exprs_checkTerm : mt_Exprs_checkTerm l dC dI ea ev ad km F d) (h_Exprs_checkPlace : mt_Exprs_checkPlace l dC dI ea ev ad km F d) (h_Exprs_demandFit : mt_Exprs_demandFit l dC dI ea ev ad km F d) (T0 : gSt) (p1 : Int32) (p2 : Int32) (p3 : Int32) (p4 : Int32) (r0 : Int32) (rl0 : Int64) (T9 : gSt) (hR : rb_Exprs_storePlace F nf T0 p1 p2 p3 p4 = some (r0, rl0, T9)) : GMv l dC dI LH ad km ea ev y_Exprs_storePlace w_Exprs_storePlace (rmD (d + 1)) [.ref (ad 8), .int p1, .int p2, .int p3, .int p4] T0 T9 := by
  intro sz
  refine Met.ofW (cc := b_Exprs_storePlace) (maxL := 9) (ret := none) (by decide) rfl ?_
  intro p e s m args below meth c s₁ B hml hv
  obtain ⟨rfl, hsz, hP, hK, hD0, hnw, henv⟩ := hv
  have hx := B.exec
  have hb := B.bytes
  have hr := B.returns
  have hT : ∀ w ∈ lw_good, w.before _ s = true := fun w h => atoms_spec (ws := w_Exprs_storePlace) B.pre w (List.mem_cons_of_mem _ h)
  have hown : s.vm.findClass R_Exprs = some m.cls := findClass_of_methodNamed B.named
  subst hsz
  have hD := hD0.self (sz := s.heap.size)
  clear hD0
  generalize hAe : va_A (gW LH ad km T0) s.heap.size = A at hD henv ⊢
  have hA : ∀ q : Nat, s.heap.size ≤ q → A q := fun q h => by rw [← hAe]; exact Or.inr h
  have hS : va_S A s.heap s.heap [] := va_S.rf
  have hl := lv_entry ([.ref (ad 8), .int p1, .int p2, .int p3, .int p4]) (n := 9) (Nat.le_of_ble_eq_true rfl)
  rw [lg_entry_eq]
  generalize (lg_sl ([.ref (ad 8), .int p1, .int p2, .int p3, .int p4]) ++ List.replicate (9 - (lg_sl ([.ref (ad 8), .int p1, .int p2, .int p3, .int p4])).length) Slot.unset).toArray = ls at hl ⊢
  have hl : lv_has ls 9 [(0, .ref (ad 8)), (1, .int p1), (2, .int p2), (3, .int p3), (4, .int p4)] := hl
  unfold rb_Exprs_storePlace at hR
  refine lv_aload_n hx hb d_Exprs_storePlace_0 rfl (lv_at hl 0 rfl) ?_
  refine rd_Exprs_9 hx hb hT hown hK hP d_Exprs_storePlace_1 ?_
  refine lv_iload_n hx hb d_Exprs_storePlace_4 rfl (lv_at hl 1 rfl) ?_
  replace hR := bi_e hR
  obtain ⟨r1, l1, T1, hc1, hR⟩ := hR
  refine gcV_i (rest := []) ⟨hx, hb, hml, hown, hT⟩ (h_Source_bare _ _ _ _ _ hc1) (cwV 1 hT (gV ml_Exprs_311 im_Source_bare se_Source_bare ini_Source co_Source_bare) rfl rfl rfl pd_Source_bare ⟨rm_hi, rm_lo (Nat.le_of_ble_eq_true rfl)⟩) hK hP hD hS hA hnw henv (Nat.le_of_ble_eq_true rfl) rfl rfl hl.1 rfl (Nat.le_of_ble_eq_true rfl) d_Exprs_storePlace_5 ⟨Nat.le_refl _, Nat.le_refl _⟩ (fun H locs hP hD hS => ?_)
  clear hc1
  refine lv_istore (lv' := [(5, .int r1), (0, .ref (ad 8)), (1, .int p1), (2, .int p2), (3, .int p3), (4, .int p4)]) hx hb d_Exprs_storePlace_8 hl (by decide) rfl (fun ls hl => ?_)
  refine lv_aload_n hx hb d_Exprs_storePlace_10 rfl (lv_at hl 1 rfl) ?_
  refine rd_Exprs_9 hx hb hT hown hK hP d_Exprs_storePlace_11 ?_
  refine lv_iload hx hb d_Exprs_storePlace_14 (lv_at hl 0 rfl) ?_
  replace hR := bi_e hR
  obtain ⟨r2, l2, T2, hc2, hR⟩ := hR
  refine gcV_i (rest := []) ⟨hx, hb, hml, hown, hT⟩ (h_Source_lastTail _ _ _ _ _ hc2) (cwV 1 hT (gV ml_Exprs_314 im_Source_lastTail se_Source_lastTail ini_Source co_Source_lastTail) rfl rfl rfl pd_Source_lastTail ⟨rm_hi, rm_lo (Nat.le_of_ble_eq_true rfl)⟩) hK hP hD hS hA hnw henv (Nat.le_of_ble_eq_true rfl) rfl rfl hl.1 rfl (Nat.le_of_ble_eq_true rfl) d_Exprs_storePlace_16 ⟨Nat.le_refl _, Nat.le_refl _⟩ (fun H locs hP hD hS => ?_)
  clear hc2
  refine lv_istore (lv' := [(6, .int r2), (5, .int r1), (0, .ref (ad 8)), (1, .int p1), (2, .int p2), (3, .int p3), (4, .int p4)]) hx hb d_Exprs_storePlace_19 hl (by decide) rfl (fun ls hl => ?_)
  refine lv_aload_n hx hb d_Exprs_storePlace_21 rfl (lv_at hl 2 rfl) ?_
  refine rd_Exprs_9 hx hb hT hown hK hP d_Exprs_storePlace_22 ?_
  refine rd_Exprs_43 hx hb hT hown hK hP d_Exprs_storePlace_25 ?_
  refine lv_iload hx hb d_Exprs_storePlace_28 (lv_at hl 1 rfl) ?_
  replace hR := gd_e hR
  obtain ⟨b3, hR⟩ := hR
  refine laH_3 hx hb hK hP b3 d_Exprs_storePlace_30 ?_
  refine lv_if_ne (tgt := 54) hx hb d_Exprs_storePlace_31 (by decide) (fun c4 => ?_) (fun c4 => ?_)
  · replace hR := if_n c4 hR
    refine lv_aload_n hx hb d_Exprs_storePlace_54 rfl (lv_at hl 2 rfl) ?_
    refine rd_Exprs_35 hx hb hT hown hK hP d_Exprs_storePlace_55 ?_
    refine lv_iconst (v := 4) hx hb d_Exprs_storePlace_58 (by decide) ?_
    refine lv_aload_n hx hb d_Exprs_storePlace_59 rfl (lv_at hl 2 rfl) ?_
    refine rd_Exprs_9 hx hb hT hown hK hP d_Exprs_storePlace_60 ?_
    refine lv_iload hx hb d_Exprs_storePlace_63 (lv_at hl 1 rfl) ?_
    replace hR := bi_e hR
    obtain ⟨r5, l5, T5, hc5, hR⟩ := hR
    refine gcV_i (rest := [.int (4 : Int32), .ref (ad 3)]) ⟨hx, hb, hml, hown, hT⟩ (h_Source_beginOf _ _ _ _ _ hc5) (cwV 1 hT (gV ml_Exprs_64 im_Source_beginOf se_Source_beginOf ini_Source co_Source_beginOf) rfl rfl rfl pd_Source_beginOf ⟨rm_hi, rm_lo (Nat.le_of_ble_eq_true rfl)⟩) hK hP hD hS hA hnw henv (Nat.le_of_ble_eq_true rfl) rfl rfl hl.1 rfl (Nat.le_of_ble_eq_true rfl) d_Exprs_storePlace_65 ⟨Nat.le_refl _, Nat.le_refl _⟩ (fun H locs hP hD hS => ?_)
    clear hc5
    replace hR := bi_e hR
    obtain ⟨r6, l6, T6, hc6, hR⟩ := hR
    refine gcV_v (rest := []) ⟨hx, hb, hml, hown, hT⟩ (h_Code_note _ _ _ _ _ _ hc6) (cwV 2 hT (gV ml_Exprs_68 im_Code_note se_Code_note ini_Code co_Code_note) rfl rfl rfl pd_Code_note ⟨rm_hi, rm_lo (Nat.le_of_ble_eq_true rfl)⟩) hK hP hD hS hA hnw henv (Nat.le_of_ble_eq_true rfl) rfl rfl hl.1 rfl (Nat.le_of_ble_eq_true rfl) d_Exprs_storePlace_68 ⟨Nat.le_refl _, Nat.le_refl _⟩ (fun H locs hP hD hS => ?_)
    clear hc6
    obtain ⟨-, -, e3⟩ := re_e hR
    subst e3
    exact W.vret hx hb hr (fun t ht hW => ⟨⟨(), rfl, trivial, by rw [ht]; exact hP, va_K.moved hW.alike hK, hD⟩, hS.F ht⟩) hS.2.2 d_Exprs_storePlace_71
  · replace hR := if_p c4 hR
    refine lv_iload hx hb d_Exprs_storePlace_34 (lv_at hl 0 rfl) ?_
    refine lv_if_eq (tgt := 54) hx hb d_Exprs_storePlace_36 (by decide) (fun c7 => ?_) (fun c7 => ?_)
    · replace hR := if_p c7 hR
      refine lv_aload_n hx hb d_Exprs_storePlace_54 rfl (lv_at hl 2 rfl) ?_
      refine rd_Exprs_35 hx hb hT hown hK hP d_Exprs_storePlace_55 ?_
      refine lv_iconst (v := 4) hx hb d_Exprs_storePlace_58 (by decide) ?_
      refine lv_aload_n hx hb d_Exprs_storePlace_59 rfl (lv_at hl 2 rfl) ?_
      refine rd_Exprs_9 hx hb hT hown hK hP d_Exprs_storePlace_60 ?_
      refine lv_iload hx hb d_Exprs_storePlace_63 (lv_at hl 1 rfl) ?_
      replace hR := bi_e hR
      obtain ⟨r8, l8, T8, hc8, hR⟩ := hR
      refine gcV_i (rest := [.int (4 : Int32), .ref (ad 3)]) ⟨hx, hb, hml, hown, hT⟩ (h_Source_beginOf _ _ _ _ _ hc8) (cwV 1 hT (gV ml_Exprs_64 im_Source_beginOf se_Source_beginOf ini_Source co_Source_beginOf) rfl rfl rfl pd_Source_beginOf ⟨rm_hi, rm_lo (Nat.le_of_ble_eq_true rfl)⟩) hK hP hD hS hA hnw henv (Nat.le_of_ble_eq_true rfl) rfl rfl hl.1 rfl (Nat.le_of_ble_eq_true rfl) d_Exprs_storePlace_65 ⟨Nat.le_refl _, Nat.le_refl _⟩ (fun H locs hP hD hS => ?_)
      clear hc8
      replace hR := bi_e hR
      obtain ⟨r9, l9, T9, hc9, hR⟩ := hR
      refine gcV_v (rest := []) ⟨hx, hb, hml, hown, hT⟩ (h_Code_note _ _ _ _ _ _ hc9) (cwV 2 hT (gV ml_Exprs_68 im_Code_note se_Code_note ini_Code co_Code_note) rfl rfl rfl pd_Code_note ⟨rm_hi, rm_lo (Nat.le_of_ble_eq_true rfl)⟩) hK hP hD hS hA hnw henv (Nat.le_of_ble_eq_true rfl) rfl rfl hl.1 rfl (Nat.le_of_ble_eq_true rfl) d_Exprs_storePlace_68 ⟨Nat.le_refl _, Nat.le_refl _⟩ (fun H locs hP hD hS => ?_)
      clear hc9
      obtain ⟨-, -, e3⟩ := re_e hR
      subst e3
      exact W.vret hx hb hr (fun t ht hW => ⟨⟨(), rfl, trivial, by rw [ht]; exact hP, va_K.moved hW.alike hK, hD⟩, hS.F ht⟩) hS.2.2 d_Exprs_storePlace_71
    · replace hR := if_n c7 hR
      refine lv_aload_n hx hb d_Exprs_storePlace_39 rfl (lv_at hl 2 rfl) ?_
      refine rd_Exprs_9 hx hb hT hown hK hP d_Exprs_storePlace_40 ?_
      refine rd_Exprs_124 hx hb hT hown hK hP d_Exprs_storePlace_43 ?_
      refine lv_iload hx hb d_Exprs_storePlace_46 (lv_at hl 0 rfl) ?_
      replace hR := gd_e hR
      obtain ⟨b10, hR⟩ := hR
      refine laH_1 hx hb hK hP b10 d_Exprs_storePlace_48 ?_
      refine lv_bipush (v := 33) hx hb d_Exprs_storePlace_49 (by decide) ?_
      refine lv_icmp_ne (tgt := 72) hx hb d_Exprs_storePlace_51 (by decide) (fun c11 => ?_) (fun c11 => ?_)
      · replace hR := if_n c11 hR
        refine lv_aload_n hx hb d_Exprs_storePlace_72 rfl (lv_at hl 2 rfl) ?_
        refine lv_iload hx hb d_Exprs_storePlace_73 (lv_at hl 1 rfl) ?_
        refine lv_iload hx hb d_Exprs_storePlace_75 (lv_at hl 0 rfl) ?_
        refine lv_iload hx hb d_Exprs_storePlace_77 (lv_at hl 6 rfl) ?_
        replace hR := bi_e hR
        obtain ⟨r12, l12, T12, hc12, hR⟩ := hR
        refine gcV_i (rest := []) ⟨hx, hb, hml, hown, hT⟩ (h_Exprs_checkTerm _ _ _ _ _ _ _ hc12) (cwV 3 hT (gV ml_Exprs_39 im_Exprs_checkTerm se_Exprs_checkTerm ini_Exprs co_Exprs_checkTerm) rfl rfl rfl pd_Exprs_checkTerm ⟨rm_hi, rm_lo (Nat.le_of_ble_eq_true rfl)⟩) hK hP hD hS hA hnw henv (Nat.le_of_ble_eq_true rfl) rfl rfl hl.1 rfl (Nat.le_of_ble_eq_true rfl) d_Exprs_storePlace_79 ⟨Nat.le_refl _, Nat.le_refl _⟩ (fun H locs hP hD hS => ?_)
        clear hc12
        refine lv_istore (lv' := [(7, .int r12), (6, .int r2), (5, .int r1), (0, .ref (ad 8)), (1, .int p1), (2, .int p2), (3, .int p3), (4, .int p4)]) hx hb d_Exprs_storePlace_82 hl (by decide) rfl (fun ls hl => ?_)
        refine lv_aload_n hx hb d_Exprs_storePlace_84 rfl (lv_at hl 3 rfl) ?_
        refine lv_iload hx hb d_Exprs_storePlace_85 (lv_at hl 1 rfl) ?_
        refine lv_iload hx hb d_Exprs_storePlace_87 (lv_at hl 0 rfl) ?_
        refine lv_aload_n hx hb d_Exprs_storePlace_89 rfl (lv_at hl 3 rfl) ?_
        refine rd_Exprs_9 hx hb hT hown hK hP d_Exprs_storePlace_90 ?_
        refine lv_iload hx hb d_Exprs_storePlace_93 (lv_at hl 2 rfl) ?_
        replace hR := bi_e hR
        obtain ⟨r13, l13, T13, hc13, hR⟩ := hR
        refine gcV_i (rest := [.int r12, .int r2, .ref (ad 8)]) ⟨hx, hb, hml, hown, hT⟩ (h_Source_beginOf _ _ _ _ _ hc13) (cwV 1 hT (gV ml_Exprs_64 im_Source_beginOf se_Source_beginOf ini_Source co_Source_beginOf) rfl rfl rfl pd_Source_beginOf ⟨rm_hi, rm_lo (Nat.le_of_ble_eq_true rfl)⟩) hK hP hD hS hA hnw henv (Nat.le_of_ble_eq_true rfl) rfl rfl hl.1 rfl (Nat.le_of_ble_eq_true rfl) d_Exprs_storePlace_95 ⟨Nat.le_refl _, Nat.le_refl _⟩ (fun H locs hP hD hS => ?_)
        clear hc13
        refine lv_iconst (v := 2) hx hb d_Exprs_storePlace_98 (by decide) ?_
        refine lv_iload hx hb d_Exprs_storePlace_99 (lv_at hl 7 rfl) ?_
        replace hR := bi_e hR
        obtain ⟨r14, l14, T14, hc14, hR⟩ := hR
        refine gcV_i (rest := []) ⟨hx, hb, hml, hown, hT⟩ (h_Exprs_checkPlace _ _ _ _ _ _ _ _ _ hc14) (cwV 5 hT (gV ml_Exprs_130 im_Exprs_checkPlace se_Exprs_checkPlace ini_Exprs co_Exprs_checkPlace) rfl rfl rfl pd_Exprs_checkPlace ⟨rm_hi, rm_lo (Nat.le_of_ble_eq_true rfl)⟩) hK hP hD hS hA hnw henv (Nat.le_of_ble_eq_true rfl) rfl rfl hl.1 rfl (Nat.le_of_ble_eq_true rfl) d_Exprs_storePlace_101 ⟨Nat.le_refl _, Nat.le_refl _⟩ (fun H locs hP hD hS => ?_)
        clear hc14
        refine lv_istore (lv' := [(8, .int r14), (7, .int r12), (6, .int r2), (5, .int r1), (0, .ref (ad 8)), (1, .int p1), (2, .int p2), (3, .int p3), (4, .int p4)]) hx hb d_Exprs_storePlace_104 hl (by decide) rfl (fun ls hl => ?_)
        refine lv_aload_n hx hb d_Exprs_storePlace_106 rfl (lv_at hl 4 rfl) ?_
        refine lv_iload_n hx hb d_Exprs_storePlace_107 rfl (lv_at hl 6 rfl) ?_
        refine lv_iload hx hb d_Exprs_storePlace_108 (lv_at hl 0 rfl) ?_
        refine lv_iload_n hx hb d_Exprs_storePlace_110 rfl (lv_at hl 7 rfl) ?_
        replace hR := bi_e hR
        obtain ⟨r15, l15, T15, hc15, hR⟩ := hR
        refine gcV_v (rest := []) ⟨hx, hb, hml, hown, hT⟩ (h_Exprs_demandFit _ _ _ _ _ _ _ hc15) (cwV 3 hT (gV ml_Exprs_57 im_Exprs_demandFit se_Exprs_demandFit ini_Exprs co_Exprs_demandFit) rfl rfl rfl pd_Exprs_demandFit ⟨rm_hi, rm_lo (Nat.le_of_ble_eq_true rfl)⟩) hK hP hD hS hA hnw henv (Nat.le_of_ble_eq_true rfl) rfl rfl hl.1 rfl (Nat.le_of_ble_eq_true rfl) d_Exprs_storePlace_111 ⟨Nat.le_refl _, Nat.le_refl _⟩ (fun H locs hP hD hS => ?_)
        clear hc15
        obtain ⟨-, -, e3⟩ := re_e hR
        subst e3
        exact W.vret hx hb hr (fun t ht hW => ⟨⟨(), rfl, trivial, by rw [ht]; exact hP, va_K.moved hW.alike hK, hD⟩, hS.F ht⟩) hS.2.2 d_Exprs_storePlace_114
      · replace hR := if_p c11 hR
        refine lv_aload_n hx hb d_Exprs_storePlace_54 rfl (lv_at hl 2 rfl) ?_
        refine rd_Exprs_35 hx hb hT hown hK hP d_Exprs_storePlace_55 ?_
        refine lv_iconst (v := 4) hx hb d_Exprs_storePlace_58 (by decide) ?_
        refine lv_aload_n hx hb d_Exprs_storePlace_59 rfl (lv_at hl 2 rfl) ?_
        refine rd_Exprs_9 hx hb hT hown hK hP d_Exprs_storePlace_60 ?_
        refine lv_iload hx hb d_Exprs_storePlace_63 (lv_at hl 1 rfl) ?_
        replace hR := bi_e hR
        obtain ⟨r16, l16, T16, hc16, hR⟩ := hR
        refine gcV_i (rest := [.int (4 : Int32), .ref (ad 3)]) ⟨hx, hb, hml, hown, hT⟩ (h_Source_beginOf _ _ _ _ _ hc16) (cwV 1 hT (gV ml_Exprs_64 im_Source_beginOf se_Source_beginOf ini_Source co_Source_beginOf) rfl rfl rfl pd_Source_beginOf ⟨rm_hi, rm_lo (Nat.le_of_ble_eq_true rfl)⟩) hK hP hD hS hA hnw henv (Nat.le_of_ble_eq_true rfl) rfl rfl hl.1 rfl (Nat.le_of_ble_eq_true rfl) d_Exprs_storePlace_65 ⟨Nat.le_refl _, Nat.le_refl _⟩ (fun H locs hP hD hS => ?_)
        clear hc16
        replace hR := bi_e hR
        obtain ⟨r17, l17, T17, hc17, hR⟩ := hR
        refine gcV_v (rest := []) ⟨hx, hb, hml, hown, hT⟩ (h_Code_note _ _ _ _ _ _ hc17) (cwV 2 hT (gV ml_Exprs_68 im_Code_note se_Code_note ini_Code co_Code_note) rfl rfl rfl pd_Code_note ⟨rm_hi, rm_lo (Nat.le_of_ble_eq_true rfl)⟩) hK hP hD hS hA hnw henv (Nat.le_of_ble_eq_true rfl) rfl rfl hl.1 rfl (Nat.le_of_ble_eq_true rfl) d_Exprs_storePlace_68 ⟨Nat.le_refl _, Nat.le_refl _⟩ (fun H locs hP hD hS => ?_)
        clear hc17
        obtain ⟨-, -, e3⟩ := re_e hR
        subst e3
        exact W.vret hx hb hr (fun t ht hW => ⟨⟨(), rfl, trivial, by rw [ht]; exact hP, va_K.moved hW.alike hK, hD⟩, hS.F ht⟩) hS.2.2 d_Exprs_storePlace_71
set_option maxHeartbeats 4000000 in
set_option maxRecDepth 100000 in
theorem sp_Exprs_storeVar (l : Launch) (dC : Nat → ClassId) (dI : Nat → Nat → Nat) (ea ev ad : Nat → Nat) (km : Nat → ClassId) (F : gF) (nf d : Nat) (h_Source_nameAt : mt_Source_nameAt l dC dI ea ev ad km F d) (h_Scope_findVar : mt_Scope_findVar l dC dI ea ev ad km F d) (h_Scope_typeOf : mt_Scope_typeOf l dC dI ea ev ad km F d) (h_Exprs_demandFit : mt_Exprs_demandFit l dC dI ea ev ad km F d) (h_Exprs_giveVar : mt_Exprs_giveVar l dC dI ea ev ad km F d) (h_Source_startOf : mt_Source_startOf l dC dI ea ev ad km F d) (h_Code_note : mt_Code_note l dC dI ea ev ad km F d) (T0 : gSt) (p1 : Int32) (p2 : Int32) (p3 : Int32) (r0 : Int32) (rl0 : Int64) (T9 : gSt) (hR : rb_Exprs_storeVar F nf T0 p1 p2 p3 = some (r0, rl0, T9)) : GMv l dC dI LH ad km ea ev y_Exprs_storeVar w_Exprs_storeVar (rmD (d + 1)) [.ref (ad 8), .int p1, .int p2, .int p3] T0 T9 := by
  intro sz
  refine Met.ofW (cc := b_Exprs_storeVar) (maxL := 5) (ret := none) (by decide) rfl ?_
  intro p e s m args below meth c s₁ B hml hv
  obtain ⟨rfl, hsz, hP, hK, hD0, hnw, henv⟩ := hv
  have hx := B.exec
  have hb := B.bytes
  have hr := B.returns
  have hT : ∀ w ∈ lw_good, w.before _ s = true := fun w h => atoms_spec (ws := w_Exprs_storeVar) B.pre w (List.mem_cons_of_mem _ h)
  have hown : s.vm.findClass R_Exprs = some m.cls := findClass_of_methodNamed B.named
  subst hsz
  have hD := hD0.self (sz := s.heap.size)
  clear hD0
  generalize hAe : va_A (gW LH ad km T0) s.heap.size = A at hD henv ⊢
  have hA : ∀ q : Nat, s.heap.size ≤ q → A q := fun q h => by rw [← hAe]; exact Or.inr h
  have hS : va_S A s.heap s.heap [] := va_S.rf
  have hl := lv_entry ([.ref (ad 8), .int p1, .int p2, .int p3]) (n := 5) (Nat.le_of_ble_eq_true rfl)
  rw [lg_entry_eq]
  generalize (lg_sl ([.ref (ad 8), .int p1, .int p2, .int p3]) ++ List.replicate (5 - (lg_sl ([.ref (ad 8), .int p1, .int p2, .int p3])).length) Slot.unset).toArray = ls at hl ⊢
  have hl : lv_has ls 5 [(0, .ref (ad 8)), (1, .int p1), (2, .int p2), (3, .int p3)] := hl
  unfold rb_Exprs_storeVar at hR
  refine lv_aload_n hx hb d_Exprs_storeVar_0 rfl (lv_at hl 0 rfl) ?_
  refine rd_Exprs_34 hx hb hT hown hK hP d_Exprs_storeVar_1 ?_
  refine lv_aload_n hx hb d_Exprs_storeVar_4 rfl (lv_at hl 0 rfl) ?_
  refine rd_Exprs_9 hx hb hT hown hK hP d_Exprs_storeVar_5 ?_
  refine lv_iload_n hx hb d_Exprs_storeVar_8 rfl (lv_at hl 1 rfl) ?_
  replace hR := bi_e hR
  obtain ⟨r1, l1, T1, hc1, hR⟩ := hR
  refine gcV_l (rest := [.ref (ad 6)]) ⟨hx, hb, hml, hown, hT⟩ (h_Source_nameAt _ _ _ _ _ hc1) (cwV 1 hT (gV ml_Exprs_149 im_Source_nameAt se_Source_nameAt ini_Source co_Source_nameAt) rfl rfl rfl pd_Source_nameAt ⟨rm_hi, rm_lo (Nat.le_of_ble_eq_true rfl)⟩) hK hP hD hS hA hnw henv (Nat.le_of_ble_eq_true rfl) rfl rfl hl.1 rfl (Nat.le_of_ble_eq_true rfl) d_Exprs_storeVar_9 ⟨Nat.le_refl _, Nat.le_refl _⟩ (fun H locs hP hD hS => ?_)
  clear hc1
  replace hR := bi_e hR
  obtain ⟨r2, l2, T2, hc2, hR⟩ := hR
  refine gcV_i (rest := []) ⟨hx, hb, hml, hown, hT⟩ (h_Scope_findVar _ _ _ _ _ hc2) (cwV 1 hT (gV ml_Exprs_219 im_Scope_findVar se_Scope_findVar ini_Scope co_Scope_findVar) rfl rfl rfl pd_Scope_findVar ⟨rm_hi, rm_lo (Nat.le_of_ble_eq_true rfl)⟩) hK hP hD hS hA hnw henv (Nat.le_of_ble_eq_true rfl) rfl rfl hl.1 rfl (Nat.le_of_ble_eq_true rfl) d_Exprs_storeVar_12 ⟨Nat.le_refl _, Nat.le_refl _⟩ (fun H locs hP hD hS => ?_)
  clear hc2
  refine lv_istore (lv' := [(4, .int r2), (0, .ref (ad 8)), (1, .int p1), (2, .int p2), (3, .int p3)]) hx hb d_Exprs_storeVar_15 hl (by decide) rfl (fun ls hl => ?_)
  refine lv_iload hx hb d_Exprs_storeVar_17 (lv_at hl 0 rfl) ?_
  refine lv_iconst (v := (-1)) hx hb d_Exprs_storeVar_19 (by decide) ?_
  refine lv_icmp_ne (tgt := 40) hx hb d_Exprs_storeVar_20 (by decide) (fun c3 => ?_) (fun c3 => ?_)
  · replace hR := if_n c3 hR
    refine lv_aload_n hx hb d_Exprs_storeVar_40 rfl (lv_at hl 1 rfl) ?_
    refine lv_iload_n hx hb d_Exprs_storeVar_41 rfl (lv_at hl 3 rfl) ?_
    refine lv_aload_n hx hb d_Exprs_storeVar_42 rfl (lv_at hl 1 rfl) ?_
    refine rd_Exprs_34 hx hb hT hown hK hP d_Exprs_storeVar_43 ?_
    refine lv_iload hx hb d_Exprs_storeVar_46 (lv_at hl 0 rfl) ?_
    replace hR := bi_e hR
    obtain ⟨r4, l4, T4, hc4, hR⟩ := hR
    refine gcV_i (rest := [.int p2, .ref (ad 8)]) ⟨hx, hb, hml, hown, hT⟩ (h_Scope_typeOf _ _ _ _ _ hc4) (cwV 1 hT (gV ml_Exprs_226 im_Scope_typeOf se_Scope_typeOf ini_Scope co_Scope_typeOf) rfl rfl rfl pd_Scope_typeOf ⟨rm_hi, rm_lo (Nat.le_of_ble_eq_true rfl)⟩) hK hP hD hS hA hnw henv (Nat.le_of_ble_eq_true rfl) rfl rfl hl.1 rfl (Nat.le_of_ble_eq_true rfl) d_Exprs_storeVar_48 ⟨Nat.le_refl _, Nat.le_refl _⟩ (fun H locs hP hD hS => ?_)
    clear hc4
    refine lv_iload_n hx hb d_Exprs_storeVar_51 rfl (lv_at hl 4 rfl) ?_
    replace hR := bi_e hR
    obtain ⟨r5, l5, T5, hc5, hR⟩ := hR
    refine gcV_v (rest := []) ⟨hx, hb, hml, hown, hT⟩ (h_Exprs_demandFit _ _ _ _ _ _ _ hc5) (cwV 3 hT (gV ml_Exprs_57 im_Exprs_demandFit se_Exprs_demandFit ini_Exprs co_Exprs_demandFit) rfl rfl rfl pd_Exprs_demandFit ⟨rm_hi, rm_lo (Nat.le_of_ble_eq_true rfl)⟩) hK hP hD hS hA hnw henv (Nat.le_of_ble_eq_true rfl) rfl rfl hl.1 rfl (Nat.le_of_ble_eq_true rfl) d_Exprs_storeVar_52 ⟨Nat.le_refl _, Nat.le_refl _⟩ (fun H locs hP hD hS => ?_)
    clear hc5
    refine lv_aload_n hx hb d_Exprs_storeVar_55 rfl (lv_at hl 1 rfl) ?_
    refine lv_iload hx hb d_Exprs_storeVar_56 (lv_at hl 0 rfl) ?_
    refine lv_iload_n hx hb d_Exprs_storeVar_58 rfl (lv_at hl 3 rfl) ?_
    replace hR := bi_e hR
    obtain ⟨r6, l6, T6, hc6, hR⟩ := hR
    refine gcV_v (rest := []) ⟨hx, hb, hml, hown, hT⟩ (h_Exprs_giveVar _ _ _ _ _ _ hc6) (cwV 2 hT (gV ml_Exprs_317 im_Exprs_giveVar se_Exprs_giveVar ini_Exprs co_Exprs_giveVar) rfl rfl rfl pd_Exprs_giveVar ⟨rm_hi, rm_lo (Nat.le_of_ble_eq_true rfl)⟩) hK hP hD hS hA hnw henv (Nat.le_of_ble_eq_true rfl) rfl rfl hl.1 rfl (Nat.le_of_ble_eq_true rfl) d_Exprs_storeVar_59 ⟨Nat.le_refl _, Nat.le_refl _⟩ (fun H locs hP hD hS => ?_)
    clear hc6
    obtain ⟨-, -, e3⟩ := re_e hR
    subst e3
    exact W.vret hx hb hr (fun t ht hW => ⟨⟨(), rfl, trivial, by rw [ht]; exact hP, va_K.moved hW.alike hK, hD⟩, hS.F ht⟩) hS.2.2 d_Exprs_storeVar_62
  · replace hR := if_p c3 hR
    refine lv_aload_n hx hb d_Exprs_storeVar_23 rfl (lv_at hl 1 rfl) ?_
    refine rd_Exprs_35 hx hb hT hown hK hP d_Exprs_storeVar_24 ?_
    refine lv_iconst (v := 3) hx hb d_Exprs_storeVar_27 (by decide) ?_
    refine lv_aload_n hx hb d_Exprs_storeVar_28 rfl (lv_at hl 1 rfl) ?_
    refine rd_Exprs_9 hx hb hT hown hK hP d_Exprs_storeVar_29 ?_
    refine lv_iload_n hx hb d_Exprs_storeVar_32 rfl (lv_at hl 2 rfl) ?_
    replace hR := bi_e hR
    obtain ⟨r7, l7, T7, hc7, hR⟩ := hR
    refine gcV_i (rest := [.int (3 : Int32), .ref (ad 3)]) ⟨hx, hb, hml, hown, hT⟩ (h_Source_startOf _ _ _ _ _ hc7) (cwV 1 hT (gV ml_Exprs_157 im_Source_startOf se_Source_startOf ini_Source co_Source_startOf) rfl rfl rfl pd_Source_startOf ⟨rm_hi, rm_lo (Nat.le_of_ble_eq_true rfl)⟩) hK hP hD hS hA hnw henv (Nat.le_of_ble_eq_true rfl) rfl rfl hl.1 rfl (Nat.le_of_ble_eq_true rfl) d_Exprs_storeVar_33 ⟨Nat.le_refl _, Nat.le_refl _⟩ (fun H locs hP hD hS => ?_)
    clear hc7
    replace hR := bi_e hR
    obtain ⟨r8, l8, T8, hc8, hR⟩ := hR
    refine gcV_v (rest := []) ⟨hx, hb, hml, hown, hT⟩ (h_Code_note _ _ _ _ _ _ hc8) (cwV 2 hT (gV ml_Exprs_68 im_Code_note se_Code_note ini_Code co_Code_note) rfl rfl rfl pd_Code_note ⟨rm_hi, rm_lo (Nat.le_of_ble_eq_true rfl)⟩) hK hP hD hS hA hnw henv (Nat.le_of_ble_eq_true rfl) rfl rfl hl.1 rfl (Nat.le_of_ble_eq_true rfl) d_Exprs_storeVar_36 ⟨Nat.le_refl _, Nat.le_refl _⟩ (fun H locs hP hD hS => ?_)
    clear hc8
    obtain ⟨-, -, e3⟩ := re_e hR
    subst e3
    exact W.vret hx hb hr (fun t ht hW => ⟨⟨(), rfl, trivial, by rw [ht]; exact hP, va_K.moved hW.alike hK, hD⟩, hS.F ht⟩) hS.2.2 d_Exprs_storeVar_39
set_option maxHeartbeats 4000000 in
set_option maxRecDepth 100000 in
theorem sp_Exprs_giveVar (l : Launch) (dC : Nat → ClassId) (dI : Nat → Nat → Nat) (ea ev ad : Nat → Nat) (km : Nat → ClassId) (F : gF) (nf d : Nat) (h_Scope_typeOf : mt_Scope_typeOf l dC dI ea ev ad km F d) (h_Types_kindOf : mt_Types_kindOf l dC dI ea ev ad km F d) (h_Scope_give : mt_Scope_give l dC dI ea ev ad km F d) (h_Scope_slotOf : mt_Scope_slotOf l dC dI ea ev ad km F d) (h_Types_wordsOf : mt_Types_wordsOf l dC dI ea ev ad km F d) (h_Code_emit : mt_Code_emit l dC dI ea ev ad km F d) (T0 : gSt) (p1 : Int32) (p2 : Int32) (r0 : Int32) (rl0 : Int64) (T9 : gSt) (hR : rb_Exprs_giveVar F nf T0 p1 p2 = some (r0, rl0, T9)) : GMv l dC dI LH ad km ea ev y_Exprs_giveVar w_Exprs_giveVar (rmD (d + 1)) [.ref (ad 8), .int p1, .int p2] T0 T9 := by
  intro sz
  refine Met.ofW (cc := b_Exprs_giveVar) (maxL := 5) (ret := none) (by decide) rfl ?_
  intro p e s m args below meth c s₁ B hml hv
  obtain ⟨rfl, hsz, hP, hK, hD0, hnw, henv⟩ := hv
  have hx := B.exec
  have hb := B.bytes
  have hr := B.returns
  have hT : ∀ w ∈ lw_good, w.before _ s = true := fun w h => atoms_spec (ws := w_Exprs_giveVar) B.pre w (List.mem_cons_of_mem _ h)
  have hown : s.vm.findClass R_Exprs = some m.cls := findClass_of_methodNamed B.named
  subst hsz
  have hD := hD0.self (sz := s.heap.size)
  clear hD0
  generalize hAe : va_A (gW LH ad km T0) s.heap.size = A at hD henv ⊢
  have hA : ∀ q : Nat, s.heap.size ≤ q → A q := fun q h => by rw [← hAe]; exact Or.inr h
  have hS : va_S A s.heap s.heap [] := va_S.rf
  have hl := lv_entry ([.ref (ad 8), .int p1, .int p2]) (n := 5) (Nat.le_of_ble_eq_true rfl)
  rw [lg_entry_eq]
  generalize (lg_sl ([.ref (ad 8), .int p1, .int p2]) ++ List.replicate (5 - (lg_sl ([.ref (ad 8), .int p1, .int p2])).length) Slot.unset).toArray = ls at hl ⊢
  have hl : lv_has ls 5 [(0, .ref (ad 8)), (1, .int p1), (2, .int p2)] := hl
  obtain ⟨G, hG⟩ : ∃ G : Nat → List (Nat × Value) → List Value → gSt → Prop, G = (fun pc lv stk T => ∀ (H : Heap) (locs : List Loc), va_P (dC, dI) cls_all (gW LH ad km T) H → va_D A (gW LH ad km T) → va_S A s.heap H locs → ∀ (ls : Array Slot), lv_has ls 5 lv → W p l e (headSpec w_Exprs_giveVar (rmD (d + 1))).room s m ([.ref (ad 8), .int p1, .int p2] : List Value).toArray below meth c H locs 0 0 (MQ below (va_Qv (fun (_ : Unit) => True) (fun _ t => gPost dC dI LH ad km T9 A t) A) ([.ref (ad 8), .int p1, .int p2] : List Value).toArray s 0 0 A) (F0 m pc ls stk)) := ⟨_, rfl⟩
  have lb_38 : ∀ (T : gSt) (x1 : Int32) (x3 : Int32) (y0 : Int32), rj_Exprs_giveVar_38 F nf T x1 x3 y0 = some (r0, rl0, T9) → G 38 [(0, .ref (ad 8)), (1, .int x1), (3, .int x3)] [.int y0] T := by
    intro T x1 x3 y0 hR; unfold rj_Exprs_giveVar_38 at hR; rw [hG]; intro H locs hP hD hS ls hl
    refine lv_istore (lv' := [(4, .int y0), (0, .ref (ad 8)), (1, .int x1), (3, .int x3)]) hx hb d_Exprs_giveVar_38 hl (by decide) rfl (fun ls hl => ?_)
    refine lv_aload_n hx hb d_Exprs_giveVar_40 rfl (lv_at hl 1 rfl) ?_
    refine rd_Exprs_34 hx hb hT hown hK hP d_Exprs_giveVar_41 ?_
    refine lv_iload_n hx hb d_Exprs_giveVar_44 rfl (lv_at hl 2 rfl) ?_
    refine lv_iload hx hb d_Exprs_giveVar_45 (lv_at hl 0 rfl) ?_
    replace hR := bi_e hR
    obtain ⟨r6, l6, T6, hc6, hR⟩ := hR
    refine gcV_v (rest := []) ⟨hx, hb, hml, hown, hT⟩ (h_Scope_give _ _ _ _ _ _ hc6) (cwV 2 hT (gV ml_Exprs_320 im_Scope_give se_Scope_give ini_Scope co_Scope_give) rfl rfl rfl pd_Scope_give ⟨rm_hi, rm_lo (Nat.le_of_ble_eq_true rfl)⟩) hK hP hD hS hA hnw henv (Nat.le_of_ble_eq_true rfl) rfl rfl hl.1 rfl (Nat.le_of_ble_eq_true rfl) d_Exprs_giveVar_47 ⟨Nat.le_refl _, Nat.le_refl _⟩ (fun H locs hP hD hS => ?_)
    clear hc6
    refine lv_aload_n hx hb d_Exprs_giveVar_50 rfl (lv_at hl 1 rfl) ?_
    refine rd_Exprs_35 hx hb hT hown hK hP d_Exprs_giveVar_51 ?_
    refine lv_iconst (v := 4) hx hb d_Exprs_giveVar_54 (by decide) ?_
    refine lv_aload_n hx hb d_Exprs_giveVar_55 rfl (lv_at hl 1 rfl) ?_
    refine rd_Exprs_34 hx hb hT hown hK hP d_Exprs_giveVar_56 ?_
    refine lv_iload_n hx hb d_Exprs_giveVar_59 rfl (lv_at hl 2 rfl) ?_
    replace hR := bi_e hR
    obtain ⟨r7, l7, T7, hc7, hR⟩ := hR
    refine gcV_i (rest := [.int (4 : Int32), .ref (ad 3)]) ⟨hx, hb, hml, hown, hT⟩ (h_Scope_slotOf _ _ _ _ _ hc7) (cwV 1 hT (gV ml_Exprs_229 im_Scope_slotOf se_Scope_slotOf ini_Scope co_Scope_slotOf) rfl rfl rfl pd_Scope_slotOf ⟨rm_hi, rm_lo (Nat.le_of_ble_eq_true rfl)⟩) hK hP hD hS hA hnw henv (Nat.le_of_ble_eq_true rfl) rfl rfl hl.1 rfl (Nat.le_of_ble_eq_true rfl) d_Exprs_giveVar_60 ⟨Nat.le_refl _, Nat.le_refl _⟩ (fun H locs hP hD hS => ?_)
    clear hc7
    refine lv_aload_n hx hb d_Exprs_giveVar_63 rfl (lv_at hl 1 rfl) ?_
    refine rd_Exprs_29 hx hb hT hown hK hP d_Exprs_giveVar_64 ?_
    refine lv_iload_n hx hb d_Exprs_giveVar_67 rfl (lv_at hl 3 rfl) ?_
    replace hR := bi_e hR
    obtain ⟨r8, l8, T8, hc8, hR⟩ := hR
    refine gcV_i (rest := [.int r7, .int (4 : Int32), .ref (ad 3)]) ⟨hx, hb, hml, hown, hT⟩ (h_Types_wordsOf _ _ _ _ _ hc8) (cwV 1 hT (gV ml_Exprs_179 im_Types_wordsOf se_Types_wordsOf ini_Types co_Types_wordsOf) rfl rfl rfl pd_Types_wordsOf ⟨rm_hi, rm_lo (Nat.le_of_ble_eq_true rfl)⟩) hK hP hD hS hA hnw henv (Nat.le_of_ble_eq_true rfl) rfl rfl hl.1 rfl (Nat.le_of_ble_eq_true rfl) d_Exprs_giveVar_68 ⟨Nat.le_refl _, Nat.le_refl _⟩ (fun H locs hP hD hS => ?_)
    clear hc8
    replace hR := bi_e hR
    obtain ⟨r9, l9, T9, hc9, hR⟩ := hR
    refine gcV_i (rest := []) ⟨hx, hb, hml, hown, hT⟩ (h_Code_emit _ _ _ _ _ _ _ hc9) (cwV 3 hT (gV ml_Exprs_94 im_Code_emit se_Code_emit ini_Code co_Code_emit) rfl rfl rfl pd_Code_emit ⟨rm_hi, rm_lo (Nat.le_of_ble_eq_true rfl)⟩) hK hP hD hS hA hnw henv (Nat.le_of_ble_eq_true rfl) rfl rfl hl.1 rfl (Nat.le_of_ble_eq_true rfl) d_Exprs_giveVar_71 ⟨Nat.le_refl _, Nat.le_refl _⟩ (fun H locs hP hD hS => ?_)
    clear hc9
    refine lv_pop hx hb d_Exprs_giveVar_74 rfl ?_
    obtain ⟨-, -, e3⟩ := re_e hR
    subst e3
    exact W.vret hx hb hr (fun t ht hW => ⟨⟨(), rfl, trivial, by rw [ht]; exact hP, va_K.moved hW.alike hK, hD⟩, hS.F ht⟩) hS.2.2 d_Exprs_giveVar_75
  unfold rb_Exprs_giveVar at hR
  refine lv_aload_n hx hb d_Exprs_giveVar_0 rfl (lv_at hl 0 rfl) ?_
  refine rd_Exprs_34 hx hb hT hown hK hP d_Exprs_giveVar_1 ?_
  refine lv_iload_n hx hb d_Exprs_giveVar_4 rfl (lv_at hl 1 rfl) ?_
  replace hR := bi_e hR
  obtain ⟨r1, l1, T1, hc1, hR⟩ := hR
  refine gcV_i (rest := []) ⟨hx, hb, hml, hown, hT⟩ (h_Scope_typeOf _ _ _ _ _ hc1) (cwV 1 hT (gV ml_Exprs_226 im_Scope_typeOf se_Scope_typeOf ini_Scope co_Scope_typeOf) rfl rfl rfl pd_Scope_typeOf ⟨rm_hi, rm_lo (Nat.le_of_ble_eq_true rfl)⟩) hK hP hD hS hA hnw henv (Nat.le_of_ble_eq_true rfl) rfl rfl hl.1 rfl (Nat.le_of_ble_eq_true rfl) d_Exprs_giveVar_5 ⟨Nat.le_refl _, Nat.le_refl _⟩ (fun H locs hP hD hS => ?_)
  clear hc1
  refine lv_istore_n (lv' := [(3, .int r1), (0, .ref (ad 8)), (1, .int p1), (2, .int p2)]) hx hb d_Exprs_giveVar_8 rfl hl (by decide) rfl (fun ls hl => ?_)
  refine lv_aload_n hx hb d_Exprs_giveVar_9 rfl (lv_at hl 1 rfl) ?_
  refine rd_Exprs_29 hx hb hT hown hK hP d_Exprs_giveVar_10 ?_
  refine lv_iload_n hx hb d_Exprs_giveVar_13 rfl (lv_at hl 0 rfl) ?_
  replace hR := bi_e hR
  obtain ⟨r2, l2, T2, hc2, hR⟩ := hR
  refine gcV_i (rest := []) ⟨hx, hb, hml, hown, hT⟩ (h_Types_kindOf _ _ _ _ _ hc2) (cwV 1 hT (gV ml_Exprs_74 im_Types_kindOf se_Types_kindOf ini_Types co_Types_kindOf) rfl rfl rfl pd_Types_kindOf ⟨rm_hi, rm_lo (Nat.le_of_ble_eq_true rfl)⟩) hK hP hD hS hA hnw henv (Nat.le_of_ble_eq_true rfl) rfl rfl hl.1 rfl (Nat.le_of_ble_eq_true rfl) d_Exprs_giveVar_14 ⟨Nat.le_refl _, Nat.le_refl _⟩ (fun H locs hP hD hS => ?_)
  clear hc2
  refine lv_iconst (v := 4) hx hb d_Exprs_giveVar_17 (by decide) ?_
  refine lv_icmp_ne (tgt := 37) hx hb d_Exprs_giveVar_18 (by decide) (fun c3 => ?_) (fun c3 => ?_)
  · replace hR := if_n c3 hR
    refine lv_iconst (v := 0) hx hb d_Exprs_giveVar_37 (by decide) ?_
    have g := lb_38 T2 p1 r1 (0 : Int32) hR
    rw [hG] at g
    exact g _ _ hP hD hS _ (lv_sub hl [1, 2, 0] rfl)
  · replace hR := if_p c3 hR
    refine lv_aload_n hx hb d_Exprs_giveVar_21 rfl (lv_at hl 1 rfl) ?_
    refine rd_Exprs_29 hx hb hT hown hK hP d_Exprs_giveVar_22 ?_
    refine lv_iload_n hx hb d_Exprs_giveVar_25 rfl (lv_at hl 3 rfl) ?_
    replace hR := bi_e hR
    obtain ⟨r4, l4, T4, hc4, hR⟩ := hR
    refine gcV_i (rest := []) ⟨hx, hb, hml, hown, hT⟩ (h_Types_kindOf _ _ _ _ _ hc4) (cwV 1 hT (gV ml_Exprs_74 im_Types_kindOf se_Types_kindOf ini_Types co_Types_kindOf) rfl rfl rfl pd_Types_kindOf ⟨rm_hi, rm_lo (Nat.le_of_ble_eq_true rfl)⟩) hK hP hD hS hA hnw henv (Nat.le_of_ble_eq_true rfl) rfl rfl hl.1 rfl (Nat.le_of_ble_eq_true rfl) d_Exprs_giveVar_26 ⟨Nat.le_refl _, Nat.le_refl _⟩ (fun H locs hP hD hS => ?_)
    clear hc4
    refine lv_iconst (v := 3) hx hb d_Exprs_giveVar_29 (by decide) ?_
    refine lv_icmp_ne (tgt := 37) hx hb d_Exprs_giveVar_30 (by decide) (fun c5 => ?_) (fun c5 => ?_)
    · replace hR := if_n c5 hR
      refine lv_iconst (v := 0) hx hb d_Exprs_giveVar_37 (by decide) ?_
      have g := lb_38 T4 p1 r1 (0 : Int32) hR
      rw [hG] at g
      exact g _ _ hP hD hS _ (lv_sub hl [1, 2, 0] rfl)
    · replace hR := if_p c5 hR
      refine lv_iconst (v := 1) hx hb d_Exprs_giveVar_33 (by decide) ?_
      refine lv_goto (tgt := 38) hx hb d_Exprs_giveVar_34 (by decide) ?_
      have g := lb_38 T4 p1 r1 (1 : Int32) hR
      rw [hG] at g
      exact g _ _ hP hD hS _ (lv_sub hl [1, 2, 0] rfl)
set_option maxHeartbeats 4000000 in
set_option maxRecDepth 100000 in
theorem sp_Exprs_varAlone (l : Launch) (dC : Nat → ClassId) (dI : Nat → Nat → Nat) (ea ev ad : Nat → Nat) (km : Nat → ClassId) (F : gF) (nf d : Nat) (h_Exprs_nameAlone : mt_Exprs_nameAlone l dC dI ea ev ad km F d) (h_Source_nameAt : mt_Source_nameAt l dC dI ea ev ad km F d) (h_Scope_findVar : mt_Scope_findVar l dC dI ea ev ad km F d) (T0 : gSt) (p1 : Int32) (r0 : Int32) (rl0 : Int64) (T9 : gSt) (hR : rb_Exprs_varAlone F nf T0 p1 = some (r0, rl0, T9)) : GMi l dC dI LH ad km ea ev y_Exprs_varAlone w_Exprs_varAlone (rmD (d + 1)) [.ref (ad 8), .int p1] T0 r0 T9 := by
  intro sz
  refine Met.ofW (cc := b_Exprs_varAlone) (maxL := 3) (ret := (some .int)) (by decide) rfl ?_
  intro p e s m args below meth c s₁ B hml hv
  obtain ⟨rfl, hsz, hP, hK, hD0, hnw, henv⟩ := hv
  have hx := B.exec
  have hb := B.bytes
  have hr := B.returns
  have hT : ∀ w ∈ lw_good, w.before _ s = true := fun w h => atoms_spec (ws := w_Exprs_varAlone) B.pre w (List.mem_cons_of_mem _ h)
  have hown : s.vm.findClass R_Exprs = some m.cls := findClass_of_methodNamed B.named
  subst hsz
  have hD := hD0.self (sz := s.heap.size)
  clear hD0
  generalize hAe : va_A (gW LH ad km T0) s.heap.size = A at hD henv ⊢
  have hA : ∀ q : Nat, s.heap.size ≤ q → A q := fun q h => by rw [← hAe]; exact Or.inr h
  have hS : va_S A s.heap s.heap [] := va_S.rf
  have hl := lv_entry ([.ref (ad 8), .int p1]) (n := 3) (Nat.le_of_ble_eq_true rfl)
  rw [lg_entry_eq]
  generalize (lg_sl ([.ref (ad 8), .int p1]) ++ List.replicate (3 - (lg_sl ([.ref (ad 8), .int p1])).length) Slot.unset).toArray = ls at hl ⊢
  have hl : lv_has ls 3 [(0, .ref (ad 8)), (1, .int p1)] := hl
  unfold rb_Exprs_varAlone at hR
  refine lv_aload_n hx hb d_Exprs_varAlone_0 rfl (lv_at hl 0 rfl) ?_
  refine lv_iload_n hx hb d_Exprs_varAlone_1 rfl (lv_at hl 1 rfl) ?_
  replace hR := bi_e hR
  obtain ⟨r1, l1, T1, hc1, hR⟩ := hR
  refine gcV_i (rest := []) ⟨hx, hb, hml, hown, hT⟩ (h_Exprs_nameAlone _ _ _ _ _ hc1) (cwV 1 hT (gV ml_Exprs_324 im_Exprs_nameAlone se_Exprs_nameAlone ini_Exprs co_Exprs_nameAlone) rfl rfl rfl pd_Exprs_nameAlone ⟨rm_hi, rm_lo (Nat.le_of_ble_eq_true rfl)⟩) hK hP hD hS hA hnw henv (Nat.le_of_ble_eq_true rfl) rfl rfl hl.1 rfl (Nat.le_of_ble_eq_true rfl) d_Exprs_varAlone_2 ⟨Nat.le_refl _, Nat.le_refl _⟩ (fun H locs hP hD hS => ?_)
  clear hc1
  refine lv_istore_n (lv' := [(2, .int r1), (0, .ref (ad 8)), (1, .int p1)]) hx hb d_Exprs_varAlone_5 rfl hl (by decide) rfl (fun ls hl => ?_)
  refine lv_iload_n hx hb d_Exprs_varAlone_6 rfl (lv_at hl 0 rfl) ?_
  refine lv_iconst (v := (-1)) hx hb d_Exprs_varAlone_7 (by decide) ?_
  refine lv_icmp_ne (tgt := 15) hx hb d_Exprs_varAlone_8 (by decide) (fun c2 => ?_) (fun c2 => ?_)
  · replace hR := if_n c2 hR
    refine lv_aload_n hx hb d_Exprs_varAlone_15 rfl (lv_at hl 1 rfl) ?_
    refine rd_Exprs_34 hx hb hT hown hK hP d_Exprs_varAlone_16 ?_
    refine lv_aload_n hx hb d_Exprs_varAlone_19 rfl (lv_at hl 1 rfl) ?_
    refine rd_Exprs_9 hx hb hT hown hK hP d_Exprs_varAlone_20 ?_
    refine lv_iload_n hx hb d_Exprs_varAlone_23 rfl (lv_at hl 0 rfl) ?_
    replace hR := bi_e hR
    obtain ⟨r3, l3, T3, hc3, hR⟩ := hR
    refine gcV_l (rest := [.ref (ad 6)]) ⟨hx, hb, hml, hown, hT⟩ (h_Source_nameAt _ _ _ _ _ hc3) (cwV 1 hT (gV ml_Exprs_149 im_Source_nameAt se_Source_nameAt ini_Source co_Source_nameAt) rfl rfl rfl pd_Source_nameAt ⟨rm_hi, rm_lo (Nat.le_of_ble_eq_true rfl)⟩) hK hP hD hS hA hnw henv (Nat.le_of_ble_eq_true rfl) rfl rfl hl.1 rfl (Nat.le_of_ble_eq_true rfl) d_Exprs_varAlone_24 ⟨Nat.le_refl _, Nat.le_refl _⟩ (fun H locs hP hD hS => ?_)
    clear hc3
    replace hR := bi_e hR
    obtain ⟨r4, l4, T4, hc4, hR⟩ := hR
    refine gcV_i (rest := []) ⟨hx, hb, hml, hown, hT⟩ (h_Scope_findVar _ _ _ _ _ hc4) (cwV 1 hT (gV ml_Exprs_219 im_Scope_findVar se_Scope_findVar ini_Scope co_Scope_findVar) rfl rfl rfl pd_Scope_findVar ⟨rm_hi, rm_lo (Nat.le_of_ble_eq_true rfl)⟩) hK hP hD hS hA hnw henv (Nat.le_of_ble_eq_true rfl) rfl rfl hl.1 rfl (Nat.le_of_ble_eq_true rfl) d_Exprs_varAlone_27 ⟨Nat.le_refl _, Nat.le_refl _⟩ (fun H locs hP hD hS => ?_)
    clear hc4
    obtain ⟨e1, -, e3⟩ := re_e hR
    subst e1; subst e3
    exact W.iret (v := r4) hx hb hr (fun t ht hW => ⟨⟨r4, (), rfl, rfl, by rw [ht]; exact hP, va_K.moved hW.alike hK, hD⟩, hS.F ht⟩) hS.2.2 d_Exprs_varAlone_30
  · replace hR := if_p c2 hR
    refine lv_iconst (v := (-1)) hx hb d_Exprs_varAlone_11 (by decide) ?_
    refine lv_goto (tgt := 30) hx hb d_Exprs_varAlone_12 (by decide) ?_
    obtain ⟨e1, -, e3⟩ := re_e hR
    subst e1; subst e3
    exact W.iret (v := (-1 : Int32)) hx hb hr (fun t ht hW => ⟨⟨(-1 : Int32), (), rfl, rfl, by rw [ht]; exact hP, va_K.moved hW.alike hK, hD⟩, hS.F ht⟩) hS.2.2 d_Exprs_varAlone_30
set_option maxHeartbeats 4000000 in
set_option maxRecDepth 100000 in
theorem sp_Exprs_varAgainstNull (l : Launch) (dC : Nat → ClassId) (dI : Nat → Nat → Nat) (ea ev ad : Nat → Nat) (km : Nat → ClassId) (F : gF) (nf d : Nat) (h_Source_bare : mt_Source_bare l dC dI ea ev ad km F d) (h_Source_bareTerm : mt_Source_bareTerm l dC dI ea ev ad km F d) (h_Exprs_varOfTerm : mt_Exprs_varOfTerm l dC dI ea ev ad km F d) (T0 : gSt) (p1 : Int32) (r0 : Int32) (rl0 : Int64) (T9 : gSt) (hR : rb_Exprs_varAgainstNull F nf T0 p1 = some (r0, rl0, T9)) : GMi l dC dI LH ad km ea ev y_Exprs_varAgainstNull w_Exprs_varAgainstNull (rmD (d + 1)) [.ref (ad 8), .int p1] T0 r0 T9 := by
  intro sz
  refine Met.ofW (cc := b_Exprs_varAgainstNull) (maxL := 6) (ret := (some .int)) (by decide) rfl ?_
  intro p e s m args below meth c s₁ B hml hv
  obtain ⟨rfl, hsz, hP, hK, hD0, hnw, henv⟩ := hv
  have hx := B.exec
  have hb := B.bytes
  have hr := B.returns
  have hT : ∀ w ∈ lw_good, w.before _ s = true := fun w h => atoms_spec (ws := w_Exprs_varAgainstNull) B.pre w (List.mem_cons_of_mem _ h)
  have hown : s.vm.findClass R_Exprs = some m.cls := findClass_of_methodNamed B.named
  subst hsz
  have hD := hD0.self (sz := s.heap.size)
  clear hD0
  generalize hAe : va_A (gW LH ad km T0) s.heap.size = A at hD henv ⊢
  have hA : ∀ q : Nat, s.heap.size ≤ q → A q := fun q h => by rw [← hAe]; exact Or.inr h
  have hS : va_S A s.heap s.heap [] := va_S.rf
  have hl := lv_entry ([.ref (ad 8), .int p1]) (n := 6) (Nat.le_of_ble_eq_true rfl)
  rw [lg_entry_eq]
  generalize (lg_sl ([.ref (ad 8), .int p1]) ++ List.replicate (6 - (lg_sl ([.ref (ad 8), .int p1])).length) Slot.unset).toArray = ls at hl ⊢
  have hl : lv_has ls 6 [(0, .ref (ad 8)), (1, .int p1)] := hl
  unfold rb_Exprs_varAgainstNull at hR
  refine lv_aload_n hx hb d_Exprs_varAgainstNull_0 rfl (lv_at hl 0 rfl) ?_
  refine rd_Exprs_9 hx hb hT hown hK hP d_Exprs_varAgainstNull_1 ?_
  refine lv_iload_n hx hb d_Exprs_varAgainstNull_4 rfl (lv_at hl 1 rfl) ?_
  replace hR := bi_e hR
  obtain ⟨r1, l1, T1, hc1, hR⟩ := hR
  refine gcV_i (rest := []) ⟨hx, hb, hml, hown, hT⟩ (h_Source_bare _ _ _ _ _ hc1) (cwV 1 hT (gV ml_Exprs_311 im_Source_bare se_Source_bare ini_Source co_Source_bare) rfl rfl rfl pd_Source_bare ⟨rm_hi, rm_lo (Nat.le_of_ble_eq_true rfl)⟩) hK hP hD hS hA hnw henv (Nat.le_of_ble_eq_true rfl) rfl rfl hl.1 rfl (Nat.le_of_ble_eq_true rfl) d_Exprs_varAgainstNull_5 ⟨Nat.le_refl _, Nat.le_refl _⟩ (fun H locs hP hD hS => ?_)
  clear hc1
  refine lv_istore_n (lv' := [(2, .int r1), (0, .ref (ad 8)), (1, .int p1)]) hx hb d_Exprs_varAgainstNull_8 rfl hl (by decide) rfl (fun ls hl => ?_)
  refine lv_aload_n hx hb d_Exprs_varAgainstNull_9 rfl (lv_at hl 1 rfl) ?_
  refine rd_Exprs_9 hx hb hT hown hK hP d_Exprs_varAgainstNull_10 ?_
  refine rd_Exprs_43 hx hb hT hown hK hP d_Exprs_varAgainstNull_13 ?_
  refine lv_iload_n hx hb d_Exprs_varAgainstNull_16 rfl (lv_at hl 0 rfl) ?_
  replace hR := gd_e hR
  obtain ⟨b2, hR⟩ := hR
  refine laH_3 hx hb hK hP b2 d_Exprs_varAgainstNull_17 ?_
  refine lv_topi (fun z3 e3 => ?_)
  replace hR := vK_e e3 hR
  refine lv_istore_n (lv' := [(3, .int z3), (2, .int r1), (0, .ref (ad 8)), (1, .int p1)]) hx hb d_Exprs_varAgainstNull_18 rfl hl (by decide) rfl (fun ls hl => ?_)
  refine lv_iload_n hx hb d_Exprs_varAgainstNull_19 rfl (lv_at hl 0 rfl) ?_
  refine lv_if_eq (tgt := 49) hx hb d_Exprs_varAgainstNull_20 (by decide) (fun c4 => ?_) (fun c4 => ?_)
  · replace hR := if_p c4 hR
    refine lv_iconst (v := (-1)) hx hb d_Exprs_varAgainstNull_49 (by decide) ?_
    obtain ⟨e1, -, e3⟩ := re_e hR
    subst e1; subst e3
    exact W.iret (v := (-1 : Int32)) hx hb hr (fun t ht hW => ⟨⟨(-1 : Int32), (), rfl, rfl, by rw [ht]; exact hP, va_K.moved hW.alike hK, hD⟩, hS.F ht⟩) hS.2.2 d_Exprs_varAgainstNull_50
  · replace hR := if_n c4 hR
    refine lv_aload_n hx hb d_Exprs_varAgainstNull_23 rfl (lv_at hl 2 rfl) ?_
    refine rd_Exprs_9 hx hb hT hown hK hP d_Exprs_varAgainstNull_24 ?_
    refine rd_Exprs_43 hx hb hT hown hK hP d_Exprs_varAgainstNull_27 ?_
    refine lv_iload_n hx hb d_Exprs_varAgainstNull_30 rfl (lv_at hl 0 rfl) ?_
    replace hR := gd_e hR
    obtain ⟨b6, hR⟩ := hR
    refine laH_3 hx hb hK hP b6 d_Exprs_varAgainstNull_31 ?_
    refine lv_if_ne (tgt := 49) hx hb d_Exprs_varAgainstNull_32 (by decide) (fun c7 => ?_) (fun c7 => ?_)
    · replace hR := if_n c7 hR
      refine lv_iconst (v := (-1)) hx hb d_Exprs_varAgainstNull_49 (by decide) ?_
      obtain ⟨e1, -, e3⟩ := re_e hR
      subst e1; subst e3
      exact W.iret (v := (-1 : Int32)) hx hb hr (fun t ht hW => ⟨⟨(-1 : Int32), (), rfl, rfl, by rw [ht]; exact hP, va_K.moved hW.alike hK, hD⟩, hS.F ht⟩) hS.2.2 d_Exprs_varAgainstNull_50
    · replace hR := if_p c7 hR
      refine lv_aload_n hx hb d_Exprs_varAgainstNull_35 rfl (lv_at hl 2 rfl) ?_
      refine rd_Exprs_9 hx hb hT hown hK hP d_Exprs_varAgainstNull_36 ?_
      refine rd_Exprs_91 hx hb hT hown hK hP d_Exprs_varAgainstNull_39 ?_
      refine lv_iload_n hx hb d_Exprs_varAgainstNull_42 rfl (lv_at hl 0 rfl) ?_
      replace hR := gd_e hR
      obtain ⟨b9, hR⟩ := hR
      refine laH_5 hx hb hK hP b9 d_Exprs_varAgainstNull_43 ?_
      refine lv_bipush (v := 62) hx hb d_Exprs_varAgainstNull_44 (by decide) ?_
      refine lv_icmp_eq (tgt := 51) hx hb d_Exprs_varAgainstNull_46 (by decide) (fun c10 => ?_) (fun c10 => ?_)
      · replace hR := if_p c10 hR
        refine lv_aload_n hx hb d_Exprs_varAgainstNull_51 rfl (lv_at hl 2 rfl) ?_
        refine rd_Exprs_9 hx hb hT hown hK hP d_Exprs_varAgainstNull_52 ?_
        refine lv_iload_n hx hb d_Exprs_varAgainstNull_55 rfl (lv_at hl 0 rfl) ?_
        replace hR := bi_e hR
        obtain ⟨r11, l11, T11, hc11, hR⟩ := hR
        refine gcV_i (rest := []) ⟨hx, hb, hml, hown, hT⟩ (h_Source_bareTerm _ _ _ _ _ hc11) (cwV 1 hT (gV ml_Exprs_327 im_Source_bareTerm se_Source_bareTerm ini_Source co_Source_bareTerm) rfl rfl rfl pd_Source_bareTerm ⟨rm_hi, rm_lo (Nat.le_of_ble_eq_true rfl)⟩) hK hP hD hS hA hnw henv (Nat.le_of_ble_eq_true rfl) rfl rfl hl.1 rfl (Nat.le_of_ble_eq_true rfl) d_Exprs_varAgainstNull_56 ⟨Nat.le_refl _, Nat.le_refl _⟩ (fun H locs hP hD hS => ?_)
        clear hc11
        refine lv_istore (lv' := [(4, .int r11), (3, .int z3), (2, .int r1), (0, .ref (ad 8)), (1, .int p1)]) hx hb d_Exprs_varAgainstNull_59 hl (by decide) rfl (fun ls hl => ?_)
        refine lv_aload_n hx hb d_Exprs_varAgainstNull_61 rfl (lv_at hl 3 rfl) ?_
        refine rd_Exprs_9 hx hb hT hown hK hP d_Exprs_varAgainstNull_62 ?_
        refine rd_Exprs_124 hx hb hT hown hK hP d_Exprs_varAgainstNull_65 ?_
        refine lv_iload hx hb d_Exprs_varAgainstNull_68 (lv_at hl 0 rfl) ?_
        replace hR := gd_e hR
        obtain ⟨b12, hR⟩ := hR
        refine laH_1 hx hb hK hP b12 d_Exprs_varAgainstNull_70 ?_
        refine lv_bipush (v := 27) hx hb d_Exprs_varAgainstNull_71 (by decide) ?_
        refine lv_icmp_ne (tgt := 93) hx hb d_Exprs_varAgainstNull_73 (by decide) (fun c13 => ?_) (fun c13 => ?_)
        · replace hR := if_n c13 hR
          refine lv_iconst (v := 0) hx hb d_Exprs_varAgainstNull_93 (by decide) ?_
          refine lv_istore (lv' := [(5, .int (0 : Int32)), (4, .int r11), (3, .int z3), (2, .int r1), (0, .ref (ad 8)), (1, .int p1)]) hx hb d_Exprs_varAgainstNull_94 hl (by decide) rfl (fun ls hl => ?_)
          refine lv_iload hx hb d_Exprs_varAgainstNull_96 (lv_at hl 0 rfl) ?_
          refine lv_if_eq (tgt := 109) hx hb d_Exprs_varAgainstNull_98 (by decide) (fun _ => ?_) (fun c14 => absurd (by decide) c14)
          refine lv_iconst (v := (-1)) hx hb d_Exprs_varAgainstNull_109 (by decide) ?_
          obtain ⟨e1, -, e3⟩ := re_e hR
          subst e1; subst e3
          exact W.iret (v := (-1 : Int32)) hx hb hr (fun t ht hW => ⟨⟨(-1 : Int32), (), rfl, rfl, by rw [ht]; exact hP, va_K.moved hW.alike hK, hD⟩, hS.F ht⟩) hS.2.2 d_Exprs_varAgainstNull_110
        · replace hR := if_p c13 hR
          refine lv_aload_n hx hb d_Exprs_varAgainstNull_76 rfl (lv_at hl 3 rfl) ?_
          refine rd_Exprs_9 hx hb hT hown hK hP d_Exprs_varAgainstNull_77 ?_
          refine rd_Exprs_121 hx hb hT hown hK hP d_Exprs_varAgainstNull_80 ?_
          refine lv_iload hx hb d_Exprs_varAgainstNull_83 (lv_at hl 0 rfl) ?_
          replace hR := gd_e hR
          obtain ⟨b16, hR⟩ := hR
          refine laH_8 hx hb hK hP b16 d_Exprs_varAgainstNull_85 ?_
          refine lv_if_ne (tgt := 93) hx hb d_Exprs_varAgainstNull_86 (by decide) (fun c17 => ?_) (fun c17 => ?_)
          · replace hR := if_n c17 hR
            refine lv_iconst (v := 0) hx hb d_Exprs_varAgainstNull_93 (by decide) ?_
            refine lv_istore (lv' := [(5, .int (0 : Int32)), (4, .int r11), (3, .int z3), (2, .int r1), (0, .ref (ad 8)), (1, .int p1)]) hx hb d_Exprs_varAgainstNull_94 hl (by decide) rfl (fun ls hl => ?_)
            refine lv_iload hx hb d_Exprs_varAgainstNull_96 (lv_at hl 0 rfl) ?_
            refine lv_if_eq (tgt := 109) hx hb d_Exprs_varAgainstNull_98 (by decide) (fun _ => ?_) (fun c18 => absurd (by decide) c18)
            refine lv_iconst (v := (-1)) hx hb d_Exprs_varAgainstNull_109 (by decide) ?_
            obtain ⟨e1, -, e3⟩ := re_e hR
            subst e1; subst e3
            exact W.iret (v := (-1 : Int32)) hx hb hr (fun t ht hW => ⟨⟨(-1 : Int32), (), rfl, rfl, by rw [ht]; exact hP, va_K.moved hW.alike hK, hD⟩, hS.F ht⟩) hS.2.2 d_Exprs_varAgainstNull_110
          · replace hR := if_p c17 hR
            refine lv_iconst (v := 1) hx hb d_Exprs_varAgainstNull_89 (by decide) ?_
            refine lv_goto (tgt := 94) hx hb d_Exprs_varAgainstNull_90 (by decide) ?_
            refine lv_istore (lv' := [(5, .int (1 : Int32)), (4, .int r11), (3, .int z3), (2, .int r1), (0, .ref (ad 8)), (1, .int p1)]) hx hb d_Exprs_varAgainstNull_94 hl (by decide) rfl (fun ls hl => ?_)
            refine lv_iload hx hb d_Exprs_varAgainstNull_96 (lv_at hl 0 rfl) ?_
            refine lv_if_eq (tgt := 109) hx hb d_Exprs_varAgainstNull_98 (by decide) (fun c20 => absurd c20 (by decide)) (fun _ => ?_)
            refine lv_aload_n hx hb d_Exprs_varAgainstNull_101 rfl (lv_at hl 4 rfl) ?_
            refine lv_iload_n hx hb d_Exprs_varAgainstNull_102 rfl (lv_at hl 3 rfl) ?_
            replace hR := bi_e hR
            obtain ⟨r21, l21, T21, hc21, hR⟩ := hR
            refine gcV_i (rest := []) ⟨hx, hb, hml, hown, hT⟩ (h_Exprs_varOfTerm _ _ _ _ _ hc21) (cwV 1 hT (gV ml_Exprs_330 im_Exprs_varOfTerm se_Exprs_varOfTerm ini_Exprs co_Exprs_varOfTerm) rfl rfl rfl pd_Exprs_varOfTerm ⟨rm_hi, rm_lo (Nat.le_of_ble_eq_true rfl)⟩) hK hP hD hS hA hnw henv (Nat.le_of_ble_eq_true rfl) rfl rfl hl.1 rfl (Nat.le_of_ble_eq_true rfl) d_Exprs_varAgainstNull_103 ⟨Nat.le_refl _, Nat.le_refl _⟩ (fun H locs hP hD hS => ?_)
            clear hc21
            refine lv_goto (tgt := 110) hx hb d_Exprs_varAgainstNull_106 (by decide) ?_
            obtain ⟨e1, -, e3⟩ := re_e hR
            subst e1; subst e3
            exact W.iret (v := r21) hx hb hr (fun t ht hW => ⟨⟨r21, (), rfl, rfl, by rw [ht]; exact hP, va_K.moved hW.alike hK, hD⟩, hS.F ht⟩) hS.2.2 d_Exprs_varAgainstNull_110
      · replace hR := if_n c10 hR
        refine lv_iconst (v := (-1)) hx hb d_Exprs_varAgainstNull_49 (by decide) ?_
        obtain ⟨e1, -, e3⟩ := re_e hR
        subst e1; subst e3
        exact W.iret (v := (-1 : Int32)) hx hb hr (fun t ht hW => ⟨⟨(-1 : Int32), (), rfl, rfl, by rw [ht]; exact hP, va_K.moved hW.alike hK, hD⟩, hS.F ht⟩) hS.2.2 d_Exprs_varAgainstNull_50
set_option maxHeartbeats 4000000 in
set_option maxRecDepth 100000 in
theorem sp_Exprs_varOfTerm (l : Launch) (dC : Nat → ClassId) (dI : Nat → Nat → Nat) (ea ev ad : Nat → Nat) (km : Nat → ClassId) (F : gF) (nf d : Nat) (h_Source_bareTerm : mt_Source_bareTerm l dC dI ea ev ad km F d) (h_Source_nameAt : mt_Source_nameAt l dC dI ea ev ad km F d) (h_Scope_findVar : mt_Scope_findVar l dC dI ea ev ad km F d) (T0 : gSt) (p1 : Int32) (r0 : Int32) (rl0 : Int64) (T9 : gSt) (hR : rb_Exprs_varOfTerm F nf T0 p1 = some (r0, rl0, T9)) : GMi l dC dI LH ad km ea ev y_Exprs_varOfTerm w_Exprs_varOfTerm (rmD (d + 1)) [.ref (ad 8), .int p1] T0 r0 T9 := by
  intro sz
  refine Met.ofW (cc := b_Exprs_varOfTerm) (maxL := 4) (ret := (some .int)) (by decide) rfl ?_
  intro p e s m args below meth c s₁ B hml hv
  obtain ⟨rfl, hsz, hP, hK, hD0, hnw, henv⟩ := hv
  have hx := B.exec
  have hb := B.bytes
  have hr := B.returns
  have hT : ∀ w ∈ lw_good, w.before _ s = true := fun w h => atoms_spec (ws := w_Exprs_varOfTerm) B.pre w (List.mem_cons_of_mem _ h)
  have hown : s.vm.findClass R_Exprs = some m.cls := findClass_of_methodNamed B.named
  subst hsz
  have hD := hD0.self (sz := s.heap.size)
  clear hD0
  generalize hAe : va_A (gW LH ad km T0) s.heap.size = A at hD henv ⊢
  have hA : ∀ q : Nat, s.heap.size ≤ q → A q := fun q h => by rw [← hAe]; exact Or.inr h
  have hS : va_S A s.heap s.heap [] := va_S.rf
  have hl := lv_entry ([.ref (ad 8), .int p1]) (n := 4) (Nat.le_of_ble_eq_true rfl)
  rw [lg_entry_eq]
  generalize (lg_sl ([.ref (ad 8), .int p1]) ++ List.replicate (4 - (lg_sl ([.ref (ad 8), .int p1])).length) Slot.unset).toArray = ls at hl ⊢
  have hl : lv_has ls 4 [(0, .ref (ad 8)), (1, .int p1)] := hl
  obtain ⟨G, hG⟩ : ∃ G : Nat → List (Nat × Value) → List Value → gSt → Prop, G = (fun pc lv stk T => ∀ (H : Heap) (locs : List Loc), va_P (dC, dI) cls_all (gW LH ad km T) H → va_D A (gW LH ad km T) → va_S A s.heap H locs → ∀ (ls : Array Slot), lv_has ls 4 lv → W p l e (headSpec w_Exprs_varOfTerm (rmD (d + 1))).room s m ([.ref (ad 8), .int p1] : List Value).toArray below meth c H locs 0 0 (MQ below (va_Qi (fun (z : Int32) (_ : Unit) => z = r0) (fun _ t => gPost dC dI LH ad km T9 A t) A) ([.ref (ad 8), .int p1] : List Value).toArray s 0 0 A) (F0 m pc ls stk)) := ⟨_, rfl⟩
  have lb_39 : ∀ (T : gSt) (x2 : Int32) (y0 : Int32), rj_Exprs_varOfTerm_39 F nf T x2 y0 = some (r0, rl0, T9) → G 39 [(0, .ref (ad 8)), (2, .int x2)] [.int y0] T := by
    intro T x2 y0 hR; unfold rj_Exprs_varOfTerm_39 at hR; rw [hG]; intro H locs hP hD hS ls hl
    refine lv_istore_n (lv' := [(3, .int y0), (0, .ref (ad 8)), (2, .int x2)]) hx hb d_Exprs_varOfTerm_39 rfl hl (by decide) rfl (fun ls hl => ?_)
    refine lv_iload_n hx hb d_Exprs_varOfTerm_40 rfl (lv_at hl 0 rfl) ?_
    refine lv_if_eq (tgt := 70) hx hb d_Exprs_varOfTerm_41 (by decide) (fun c6 => ?_) (fun c6 => ?_)
    · replace hR := if_p c6 hR
      refine lv_iconst (v := (-1)) hx hb d_Exprs_varOfTerm_70 (by decide) ?_
      obtain ⟨e1, -, e3⟩ := re_e hR
      subst e1; subst e3
      exact W.iret (v := (-1 : Int32)) hx hb hr (fun t ht hW => ⟨⟨(-1 : Int32), (), rfl, rfl, by rw [ht]; exact hP, va_K.moved hW.alike hK, hD⟩, hS.F ht⟩) hS.2.2 d_Exprs_varOfTerm_71
    · replace hR := if_n c6 hR
      refine lv_aload_n hx hb d_Exprs_varOfTerm_44 rfl (lv_at hl 1 rfl) ?_
      refine rd_Exprs_34 hx hb hT hown hK hP d_Exprs_varOfTerm_45 ?_
      refine lv_aload_n hx hb d_Exprs_varOfTerm_48 rfl (lv_at hl 1 rfl) ?_
      refine rd_Exprs_9 hx hb hT hown hK hP d_Exprs_varOfTerm_49 ?_
      refine lv_aload_n hx hb d_Exprs_varOfTerm_52 rfl (lv_at hl 1 rfl) ?_
      refine rd_Exprs_9 hx hb hT hown hK hP d_Exprs_varOfTerm_53 ?_
      refine rd_Exprs_146 hx hb hT hown hK hP d_Exprs_varOfTerm_56 ?_
      refine lv_iload_n hx hb d_Exprs_varOfTerm_59 rfl (lv_at hl 2 rfl) ?_
      replace hR := gd_e hR
      obtain ⟨b8, hR⟩ := hR
      refine laH_2 hx hb hK hP b8 d_Exprs_varOfTerm_60 ?_
      replace hR := bi_e hR
      obtain ⟨r9, l9, T9, hc9, hR⟩ := hR
      refine gcV_l (rest := [.ref (ad 6)]) ⟨hx, hb, hml, hown, hT⟩ (h_Source_nameAt _ _ _ _ _ hc9) (cwV 1 hT (gV ml_Exprs_149 im_Source_nameAt se_Source_nameAt ini_Source co_Source_nameAt) rfl rfl rfl pd_Source_nameAt ⟨rm_hi, rm_lo (Nat.le_of_ble_eq_true rfl)⟩) hK hP hD hS hA hnw henv (Nat.le_of_ble_eq_true rfl) rfl rfl hl.1 rfl (Nat.le_of_ble_eq_true rfl) d_Exprs_varOfTerm_61 ⟨Nat.le_refl _, Nat.le_refl _⟩ (fun H locs hP hD hS => ?_)
      clear hc9
      replace hR := bi_e hR
      obtain ⟨r10, l10, T10, hc10, hR⟩ := hR
      refine gcV_i (rest := []) ⟨hx, hb, hml, hown, hT⟩ (h_Scope_findVar _ _ _ _ _ hc10) (cwV 1 hT (gV ml_Exprs_219 im_Scope_findVar se_Scope_findVar ini_Scope co_Scope_findVar) rfl rfl rfl pd_Scope_findVar ⟨rm_hi, rm_lo (Nat.le_of_ble_eq_true rfl)⟩) hK hP hD hS hA hnw henv (Nat.le_of_ble_eq_true rfl) rfl rfl hl.1 rfl (Nat.le_of_ble_eq_true rfl) d_Exprs_varOfTerm_64 ⟨Nat.le_refl _, Nat.le_refl _⟩ (fun H locs hP hD hS => ?_)
      clear hc10
      refine lv_goto (tgt := 71) hx hb d_Exprs_varOfTerm_67 (by decide) ?_
      obtain ⟨e1, -, e3⟩ := re_e hR
      subst e1; subst e3
      exact W.iret (v := r10) hx hb hr (fun t ht hW => ⟨⟨r10, (), rfl, rfl, by rw [ht]; exact hP, va_K.moved hW.alike hK, hD⟩, hS.F ht⟩) hS.2.2 d_Exprs_varOfTerm_71
  unfold rb_Exprs_varOfTerm at hR
  refine lv_aload_n hx hb d_Exprs_varOfTerm_0 rfl (lv_at hl 0 rfl) ?_
  refine rd_Exprs_9 hx hb hT hown hK hP d_Exprs_varOfTerm_1 ?_
  refine lv_iload_n hx hb d_Exprs_varOfTerm_4 rfl (lv_at hl 1 rfl) ?_
  replace hR := bi_e hR
  obtain ⟨r1, l1, T1, hc1, hR⟩ := hR
  refine gcV_i (rest := []) ⟨hx, hb, hml, hown, hT⟩ (h_Source_bareTerm _ _ _ _ _ hc1) (cwV 1 hT (gV ml_Exprs_327 im_Source_bareTerm se_Source_bareTerm ini_Source co_Source_bareTerm) rfl rfl rfl pd_Source_bareTerm ⟨rm_hi, rm_lo (Nat.le_of_ble_eq_true rfl)⟩) hK hP hD hS hA hnw henv (Nat.le_of_ble_eq_true rfl) rfl rfl hl.1 rfl (Nat.le_of_ble_eq_true rfl) d_Exprs_varOfTerm_5 ⟨Nat.le_refl _, Nat.le_refl _⟩ (fun H locs hP hD hS => ?_)
  clear hc1
  refine lv_istore_n (lv' := [(2, .int r1), (0, .ref (ad 8)), (1, .int p1)]) hx hb d_Exprs_varOfTerm_8 rfl hl (by decide) rfl (fun ls hl => ?_)
  refine lv_aload_n hx hb d_Exprs_varOfTerm_9 rfl (lv_at hl 1 rfl) ?_
  refine rd_Exprs_9 hx hb hT hown hK hP d_Exprs_varOfTerm_10 ?_
  refine rd_Exprs_124 hx hb hT hown hK hP d_Exprs_varOfTerm_13 ?_
  refine lv_iload_n hx hb d_Exprs_varOfTerm_16 rfl (lv_at hl 0 rfl) ?_
  replace hR := gd_e hR
  obtain ⟨b2, hR⟩ := hR
  refine laH_1 hx hb hK hP b2 d_Exprs_varOfTerm_17 ?_
  refine lv_iconst (v := 2) hx hb d_Exprs_varOfTerm_18 (by decide) ?_
  refine lv_icmp_ne (tgt := 38) hx hb d_Exprs_varOfTerm_19 (by decide) (fun c3 => ?_) (fun c3 => ?_)
  · replace hR := if_n c3 hR
    refine lv_iconst (v := 0) hx hb d_Exprs_varOfTerm_38 (by decide) ?_
    have g := lb_39 T1 r1 (0 : Int32) hR
    rw [hG] at g
    exact g _ _ hP hD hS _ (lv_sub hl [1, 0] rfl)
  · replace hR := if_p c3 hR
    refine lv_aload_n hx hb d_Exprs_varOfTerm_22 rfl (lv_at hl 1 rfl) ?_
    refine rd_Exprs_9 hx hb hT hown hK hP d_Exprs_varOfTerm_23 ?_
    refine rd_Exprs_121 hx hb hT hown hK hP d_Exprs_varOfTerm_26 ?_
    refine lv_iload_n hx hb d_Exprs_varOfTerm_29 rfl (lv_at hl 0 rfl) ?_
    replace hR := gd_e hR
    obtain ⟨b4, hR⟩ := hR
    refine laH_8 hx hb hK hP b4 d_Exprs_varOfTerm_30 ?_
    refine lv_if_ne (tgt := 38) hx hb d_Exprs_varOfTerm_31 (by decide) (fun c5 => ?_) (fun c5 => ?_)
    · replace hR := if_n c5 hR
      refine lv_iconst (v := 0) hx hb d_Exprs_varOfTerm_38 (by decide) ?_
      have g := lb_39 T1 r1 (0 : Int32) hR
      rw [hG] at g
      exact g _ _ hP hD hS _ (lv_sub hl [1, 0] rfl)
    · replace hR := if_p c5 hR
      refine lv_iconst (v := 1) hx hb d_Exprs_varOfTerm_34 (by decide) ?_
      refine lv_goto (tgt := 39) hx hb d_Exprs_varOfTerm_35 (by decide) ?_
      have g := lb_39 T1 r1 (1 : Int32) hR
      rw [hG] at g
      exact g _ _ hP hD hS _ (lv_sub hl [1, 0] rfl)
set_option maxHeartbeats 4000000 in
set_option maxRecDepth 100000 in
theorem sp_Steps_check (l : Launch) (dC : Nat → ClassId) (dI : Nat → Nat → Nat) (ea ev ad : Nat → Nat) (km : Nat → ClassId) (F : gF) (nf d : Nat) (h_Steps_checkFun : mt_Steps_checkFun l dC dI ea ev ad km F d) (T0 : gSt) (r0 : Int32) (rl0 : Int64) (T9 : gSt) (hR : rb_Steps_check F nf T0 = some (r0, rl0, T9)) : GMv l dC dI LH ad km ea ev y_Steps_check w_Steps_check (rmD (d + 1)) [.ref (ad 9)] T0 T9 := by
  intro sz
  refine Met.ofW (cc := b_Steps_check) (maxL := 2) (ret := none) (by decide) rfl ?_
  intro p e s m args below meth c s₁ B hml hv
  obtain ⟨rfl, hsz, hP, hK, hD0, hnw, henv⟩ := hv
  have hx := B.exec
  have hb := B.bytes
  have hr := B.returns
  have hT : ∀ w ∈ lw_good, w.before _ s = true := fun w h => atoms_spec (ws := w_Steps_check) B.pre w (List.mem_cons_of_mem _ h)
  have hown : s.vm.findClass R_Steps = some m.cls := findClass_of_methodNamed B.named
  subst hsz
  have hD := hD0.self (sz := s.heap.size)
  clear hD0
  generalize hAe : va_A (gW LH ad km T0) s.heap.size = A at hD henv ⊢
  have hA : ∀ q : Nat, s.heap.size ≤ q → A q := fun q h => by rw [← hAe]; exact Or.inr h
  have hS : va_S A s.heap s.heap [] := va_S.rf
  have hl := lv_entry ([.ref (ad 9)]) (n := 2) (Nat.le_of_ble_eq_true rfl)
  rw [lg_entry_eq]
  generalize (lg_sl ([.ref (ad 9)]) ++ List.replicate (2 - (lg_sl ([.ref (ad 9)])).length) Slot.unset).toArray = ls at hl ⊢
  have hl : lv_has ls 2 [(0, .ref (ad 9))] := hl
  obtain ⟨G, hG⟩ : ∃ G : Nat → List (Nat × Value) → List Value → gSt → Prop, G = (fun pc lv stk T => ∀ (H : Heap) (locs : List Loc), va_P (dC, dI) cls_all (gW LH ad km T) H → va_D A (gW LH ad km T) → va_S A s.heap H locs → ∀ (ls : Array Slot), lv_has ls 2 lv → W p l e (headSpec w_Steps_check (rmD (d + 1))).room s m ([.ref (ad 9)] : List Value).toArray below meth c H locs 0 0 (MQ below (va_Qv (fun (_ : Unit) => True) (fun _ t => gPost dC dI LH ad km T9 A t) A) ([.ref (ad 9)] : List Value).toArray s 0 0 A) (F0 m pc ls stk)) := ⟨_, rfl⟩
  have lb_2 : ∀ (n : Nat) (T : gSt) (x1 : Int32), rl_Steps_check_2 F nf n T x1 = some (r0, rl0, T9) → G 2 [(0, .ref (ad 9)), (1, .int x1)] [] T := by
    intro n
    induction n with
    | zero => intro T x1 hR; rw [rl_Steps_check_2] at hR; cases hR
    | succ n ih =>
      intro T x1 hR; rw [rl_Steps_check_2] at hR; rw [hG]; intro H locs hP hD hS ls hl
      refine lv_iload_n hx hb d_Steps_check_2 rfl (lv_at hl 1 rfl) ?_
      refine lv_aload_n hx hb d_Steps_check_3 rfl (lv_at hl 0 rfl) ?_
      refine rd_Steps_15 hx hb hT hown hK hP d_Steps_check_4 ?_
      refine rd_Steps_43 hx hb hT hown hK hP d_Steps_check_7 ?_
      refine lv_icmp_ge (tgt := 38) hx hb d_Steps_check_10 (by decide) (fun c1 => ?_) (fun c1 => ?_)
      · replace hR := if_p c1 hR
        obtain ⟨-, -, e3⟩ := re_e hR
        subst e3
        exact W.vret hx hb hr (fun t ht hW => ⟨⟨(), rfl, trivial, by rw [ht]; exact hP, va_K.moved hW.alike hK, hD⟩, hS.F ht⟩) hS.2.2 d_Steps_check_38
      · replace hR := if_n c1 hR
        refine lv_aload_n hx hb d_Steps_check_13 rfl (lv_at hl 0 rfl) ?_
        refine rd_Steps_15 hx hb hT hown hK hP d_Steps_check_14 ?_
        refine rd_Steps_49 hx hb hT hown hK hP d_Steps_check_17 ?_
        refine lv_iload_n hx hb d_Steps_check_20 rfl (lv_at hl 1 rfl) ?_
        replace hR := gd_e hR
        obtain ⟨b2, hR⟩ := hR
        refine laH_13 hx hb hK hP b2 d_Steps_check_21 ?_
        refine lv_bipush (v := 12) hx hb d_Steps_check_22 (by decide) ?_
        refine lv_icmp_ne (tgt := 32) hx hb d_Steps_check_24 (by decide) (fun c3 => ?_) (fun c3 => ?_)
        · replace hR := if_n c3 hR
          obtain ⟨z4, e4⟩ : ∃ y : Int32, y = x1 + (1 : Int32) := ⟨_, rfl⟩
          replace hR := vK_e e4 hR
          refine lv_iinc (v := z4) (lv' := [(1, .int z4), (0, .ref (ad 9))]) hx hb d_Steps_check_32 hl (k := 1) rfl (by rw [e4]; rfl) (by decide) rfl (fun ls hl => ?_)
          refine lv_goto (tgt := 2) hx hb d_Steps_check_35 (by decide) ?_
          have g := ih T z4 hR
          rw [hG] at g
          exact g _ _ hP hD hS _ (lv_sub hl [1, 0] rfl)
        · replace hR := if_p c3 hR
          refine lv_aload_n hx hb d_Steps_check_27 rfl (lv_at hl 0 rfl) ?_
          refine lv_iload_n hx hb d_Steps_check_28 rfl (lv_at hl 1 rfl) ?_
          replace hR := bi_e hR
          obtain ⟨r5, l5, T5, hc5, hR⟩ := hR
          refine gcV_v (rest := []) ⟨hx, hb, hml, hown, hT⟩ (h_Steps_checkFun _ _ _ _ _ hc5) (cwV 1 hT (gV ml_Steps_53 im_Steps_checkFun se_Steps_checkFun ini_Steps co_Steps_checkFun) rfl rfl rfl pd_Steps_checkFun ⟨rm_hi, rm_lo (Nat.le_of_ble_eq_true rfl)⟩) hK hP hD hS hA hnw henv (Nat.le_of_ble_eq_true rfl) rfl rfl hl.1 rfl (Nat.le_of_ble_eq_true rfl) d_Steps_check_29 ⟨Nat.le_refl _, Nat.le_refl _⟩ (fun H locs hP hD hS => ?_)
          clear hc5
          obtain ⟨z6, e6⟩ : ∃ y : Int32, y = x1 + (1 : Int32) := ⟨_, rfl⟩
          replace hR := vK_e e6 hR
          refine lv_iinc (v := z6) (lv' := [(1, .int z6), (0, .ref (ad 9))]) hx hb d_Steps_check_32 hl (k := 1) rfl (by rw [e6]; rfl) (by decide) rfl (fun ls hl => ?_)
          refine lv_goto (tgt := 2) hx hb d_Steps_check_35 (by decide) ?_
          have g := ih T5 z6 hR
          rw [hG] at g
          exact g _ _ hP hD hS _ (lv_sub hl [1, 0] rfl)
  unfold rb_Steps_check at hR
  refine lv_iconst (v := 0) hx hb d_Steps_check_0 (by decide) ?_
  refine lv_istore_n (lv' := [(1, .int (0 : Int32)), (0, .ref (ad 9))]) hx hb d_Steps_check_1 rfl hl (by decide) rfl (fun ls hl => ?_)
  have g := lb_2 nf T0 (0 : Int32) hR
  rw [hG] at g
  exact g _ _ hP hD hS _ (lv_sub hl [1, 0] rfl)
set_option maxHeartbeats 4000000 in
set_option maxRecDepth 100000 in
theorem sp_Steps_checkFun (l : Launch) (dC : Nat → ClassId) (dI : Nat → Nat → Nat) (ea ev ad : Nat → Nat) (km : Nat → ClassId) (F : gF) (nf d : Nat) (h_Scope_enterFun : mt_Scope_enterFun l dC dI ea ev ad km F d) (h_Code_count : mt_Code_count l dC dI ea ev ad km F d) (h_Steps_checkBlock : mt_Steps_checkBlock l dC dI ea ev ad km F d) (h_Code_emit : mt_Code_emit l dC dI ea ev ad km F d) (h_Scope_isReached : mt_Scope_isReached l dC dI ea ev ad km F d) (h_Source_startOf : mt_Source_startOf l dC dI ea ev ad km F d) (h_Code_note : mt_Code_note l dC dI ea ev ad km F d) (T0 : gSt) (p1 : Int32) (r0 : Int32) (rl0 : Int64) (T9 : gSt) (hR : rb_Steps_checkFun F nf T0 p1 = some (r0, rl0, T9)) : GMv l dC dI LH ad km ea ev y_Steps_checkFun w_Steps_checkFun (rmD (d + 1)) [.ref (ad 9), .int p1] T0 T9 := by
  intro sz
  refine Met.ofW (cc := b_Steps_checkFun) (maxL := 2) (ret := none) (by decide) rfl ?_
  intro p e s m args below meth c s₁ B hml hv
  obtain ⟨rfl, hsz, hP, hK, hD0, hnw, henv⟩ := hv
  have hx := B.exec
  have hb := B.bytes
  have hr := B.returns
  have hT : ∀ w ∈ lw_good, w.before _ s = true := fun w h => atoms_spec (ws := w_Steps_checkFun) B.pre w (List.mem_cons_of_mem _ h)
  have hown : s.vm.findClass R_Steps = some m.cls := findClass_of_methodNamed B.named
  subst hsz
  have hD := hD0.self (sz := s.heap.size)
  clear hD0
  generalize hAe : va_A (gW LH ad km T0) s.heap.size = A at hD henv ⊢
  have hA : ∀ q : Nat, s.heap.size ≤ q → A q := fun q h => by rw [← hAe]; exact Or.inr h
  have hS : va_S A s.heap s.heap [] := va_S.rf
  have hl := lv_entry ([.ref (ad 9), .int p1]) (n := 2) (Nat.le_of_ble_eq_true rfl)
  rw [lg_entry_eq]
  generalize (lg_sl ([.ref (ad 9), .int p1]) ++ List.replicate (2 - (lg_sl ([.ref (ad 9), .int p1])).length) Slot.unset).toArray = ls at hl ⊢
  have hl : lv_has ls 2 [(0, .ref (ad 9)), (1, .int p1)] := hl
  unfold rb_Steps_checkFun at hR
  refine lv_aload_n hx hb d_Steps_checkFun_0 rfl (lv_at hl 0 rfl) ?_
  refine rd_Steps_34 hx hb hT hown hK hP d_Steps_checkFun_1 ?_
  refine lv_iload_n hx hb d_Steps_checkFun_4 rfl (lv_at hl 1 rfl) ?_
  replace hR := bi_e hR
  obtain ⟨r1, l1, T1, hc1, hR⟩ := hR
  refine gcV_v (rest := []) ⟨hx, hb, hml, hown, hT⟩ (h_Scope_enterFun _ _ _ _ _ hc1) (cwV 1 hT (gV ml_Steps_57 im_Scope_enterFun se_Scope_enterFun ini_Scope co_Scope_enterFun) rfl rfl rfl pd_Scope_enterFun ⟨rm_hi, rm_lo (Nat.le_of_ble_eq_true rfl)⟩) hK hP hD hS hA hnw henv (Nat.le_of_ble_eq_true rfl) rfl rfl hl.1 rfl (Nat.le_of_ble_eq_true rfl) d_Steps_checkFun_5 ⟨Nat.le_refl _, Nat.le_refl _⟩ (fun H locs hP hD hS => ?_)
  clear hc1
  refine lv_aload_n hx hb d_Steps_checkFun_8 rfl (lv_at hl 0 rfl) ?_
  refine rd_Steps_15 hx hb hT hown hK hP d_Steps_checkFun_9 ?_
  refine rd_Steps_62 hx hb hT hown hK hP d_Steps_checkFun_12 ?_
  refine lv_iload_n hx hb d_Steps_checkFun_15 rfl (lv_at hl 1 rfl) ?_
  refine lv_aload_n hx hb d_Steps_checkFun_16 rfl (lv_at hl 0 rfl) ?_
  refine rd_Steps_39 hx hb hT hown hK hP d_Steps_checkFun_17 ?_
  replace hR := bi_e hR
  obtain ⟨r2, l2, T2, hc2, hR⟩ := hR
  refine gcV_i (rest := [.int p1, .ref (ad 39)]) ⟨hx, hb, hml, hown, hT⟩ (h_Code_count _ _ _ _ hc2) (cwV 0 hT (gV ml_Steps_65 im_Code_count se_Code_count ini_Code co_Code_count) rfl rfl rfl pd_Code_count ⟨rm_hi, rm_lo (Nat.le_of_ble_eq_true rfl)⟩) hK hP hD hS hA hnw henv (Nat.le_of_ble_eq_true rfl) rfl rfl hl.1 rfl (Nat.le_of_ble_eq_true rfl) d_Steps_checkFun_20 ⟨Nat.le_refl _, Nat.le_refl _⟩ (fun H locs hP hD hS => ?_)
  clear hc2
  replace hR := gd_e hR
  obtain ⟨b3, hR⟩ := hR
  refine saH_27 hx hb hK hP hD hS b3 d_Steps_checkFun_23 (fun T3 eT H locs hP hD hS => ?_)
  replace hR := stK_e eT hR
  clear eT
  refine lv_aload_n hx hb d_Steps_checkFun_24 rfl (lv_at hl 0 rfl) ?_
  refine lv_aload_n hx hb d_Steps_checkFun_25 rfl (lv_at hl 0 rfl) ?_
  refine rd_Steps_15 hx hb hT hown hK hP d_Steps_checkFun_26 ?_
  refine rd_Steps_70 hx hb hT hown hK hP d_Steps_checkFun_29 ?_
  refine lv_iload_n hx hb d_Steps_checkFun_32 rfl (lv_at hl 1 rfl) ?_
  replace hR := gd_e hR
  obtain ⟨b4, hR⟩ := hR
  refine laH_21 hx hb hK hP b4 d_Steps_checkFun_33 ?_
  refine lv_iconst (v := 1) hx hb d_Steps_checkFun_34 (by decide) ?_
  replace hR := bi_e hR
  obtain ⟨r5, l5, T5, hc5, hR⟩ := hR
  refine gcV_v (rest := []) ⟨hx, hb, hml, hown, hT⟩ (h_Steps_checkBlock _ _ _ _ _ _ hc5) (cwV 2 hT (gV ml_Steps_73 im_Steps_checkBlock se_Steps_checkBlock ini_Steps co_Steps_checkBlock) rfl rfl rfl pd_Steps_checkBlock ⟨rm_hi, rm_lo (Nat.le_of_ble_eq_true rfl)⟩) hK hP hD hS hA hnw henv (Nat.le_of_ble_eq_true rfl) rfl rfl hl.1 rfl (Nat.le_of_ble_eq_true rfl) d_Steps_checkFun_35 ⟨Nat.le_refl _, Nat.le_refl _⟩ (fun H locs hP hD hS => ?_)
  clear hc5
  refine lv_aload_n hx hb d_Steps_checkFun_38 rfl (lv_at hl 0 rfl) ?_
  refine rd_Steps_15 hx hb hT hown hK hP d_Steps_checkFun_39 ?_
  refine rd_Steps_77 hx hb hT hown hK hP d_Steps_checkFun_42 ?_
  refine lv_iload_n hx hb d_Steps_checkFun_45 rfl (lv_at hl 1 rfl) ?_
  replace hR := gd_e hR
  obtain ⟨b6, hR⟩ := hR
  refine laH_23 hx hb hK hP b6 d_Steps_checkFun_46 ?_
  refine lv_if_eq (tgt := 85) hx hb d_Steps_checkFun_47 (by decide) (fun c7 => ?_) (fun c7 => ?_)
  · replace hR := if_p c7 hR
    refine lv_aload_n hx hb d_Steps_checkFun_85 rfl (lv_at hl 0 rfl) ?_
    refine rd_Steps_39 hx hb hT hown hK hP d_Steps_checkFun_86 ?_
    refine lv_bipush (v := 58) hx hb d_Steps_checkFun_89 (by decide) ?_
    refine lv_iconst (v := 0) hx hb d_Steps_checkFun_91 (by decide) ?_
    refine lv_iconst (v := 0) hx hb d_Steps_checkFun_92 (by decide) ?_
    replace hR := bi_e hR
    obtain ⟨r8, l8, T8, hc8, hR⟩ := hR
    refine gcV_i (rest := []) ⟨hx, hb, hml, hown, hT⟩ (h_Code_emit _ _ _ _ _ _ _ hc8) (cwV 3 hT (gV ml_Steps_96 im_Code_emit se_Code_emit ini_Code co_Code_emit) rfl rfl rfl pd_Code_emit ⟨rm_hi, rm_lo (Nat.le_of_ble_eq_true rfl)⟩) hK hP hD hS hA hnw henv (Nat.le_of_ble_eq_true rfl) rfl rfl hl.1 rfl (Nat.le_of_ble_eq_true rfl) d_Steps_checkFun_93 ⟨Nat.le_refl _, Nat.le_refl _⟩ (fun H locs hP hD hS => ?_)
    clear hc8
    refine lv_pop hx hb d_Steps_checkFun_96 rfl ?_
    obtain ⟨-, -, e3⟩ := re_e hR
    subst e3
    exact W.vret hx hb hr (fun t ht hW => ⟨⟨(), rfl, trivial, by rw [ht]; exact hP, va_K.moved hW.alike hK, hD⟩, hS.F ht⟩) hS.2.2 d_Steps_checkFun_97
  · replace hR := if_n c7 hR
    refine lv_aload_n hx hb d_Steps_checkFun_50 rfl (lv_at hl 0 rfl) ?_
    refine rd_Steps_34 hx hb hT hown hK hP d_Steps_checkFun_51 ?_
    replace hR := bi_e hR
    obtain ⟨r9, l9, T9, hc9, hR⟩ := hR
    refine gcV_i (rest := []) ⟨hx, hb, hml, hown, hT⟩ (h_Scope_isReached _ _ _ _ hc9) (cwV 0 hT (gV ml_Steps_80 im_Scope_isReached se_Scope_isReached ini_Scope co_Scope_isReached) rfl rfl rfl pd_Scope_isReached ⟨rm_hi, rm_lo (Nat.le_of_ble_eq_true rfl)⟩) hK hP hD hS hA hnw henv (Nat.le_of_ble_eq_true rfl) rfl rfl hl.1 rfl (Nat.le_of_ble_eq_true rfl) d_Steps_checkFun_54 ⟨Nat.le_refl _, Nat.le_refl _⟩ (fun H locs hP hD hS => ?_)
    clear hc9
    refine lv_if_eq (tgt := 85) hx hb d_Steps_checkFun_57 (by decide) (fun c10 => ?_) (fun c10 => ?_)
    · replace hR := if_p c10 hR
      refine lv_aload_n hx hb d_Steps_checkFun_85 rfl (lv_at hl 0 rfl) ?_
      refine rd_Steps_39 hx hb hT hown hK hP d_Steps_checkFun_86 ?_
      refine lv_bipush (v := 58) hx hb d_Steps_checkFun_89 (by decide) ?_
      refine lv_iconst (v := 0) hx hb d_Steps_checkFun_91 (by decide) ?_
      refine lv_iconst (v := 0) hx hb d_Steps_checkFun_92 (by decide) ?_
      replace hR := bi_e hR
      obtain ⟨r11, l11, T11, hc11, hR⟩ := hR
      refine gcV_i (rest := []) ⟨hx, hb, hml, hown, hT⟩ (h_Code_emit _ _ _ _ _ _ _ hc11) (cwV 3 hT (gV ml_Steps_96 im_Code_emit se_Code_emit ini_Code co_Code_emit) rfl rfl rfl pd_Code_emit ⟨rm_hi, rm_lo (Nat.le_of_ble_eq_true rfl)⟩) hK hP hD hS hA hnw henv (Nat.le_of_ble_eq_true rfl) rfl rfl hl.1 rfl (Nat.le_of_ble_eq_true rfl) d_Steps_checkFun_93 ⟨Nat.le_refl _, Nat.le_refl _⟩ (fun H locs hP hD hS => ?_)
      clear hc11
      refine lv_pop hx hb d_Steps_checkFun_96 rfl ?_
      obtain ⟨-, -, e3⟩ := re_e hR
      subst e3
      exact W.vret hx hb hr (fun t ht hW => ⟨⟨(), rfl, trivial, by rw [ht]; exact hP, va_K.moved hW.alike hK, hD⟩, hS.F ht⟩) hS.2.2 d_Steps_checkFun_97
    · replace hR := if_n c10 hR
      refine lv_aload_n hx hb d_Steps_checkFun_60 rfl (lv_at hl 0 rfl) ?_
      refine rd_Steps_39 hx hb hT hown hK hP d_Steps_checkFun_61 ?_
      refine lv_bipush (v := 8) hx hb d_Steps_checkFun_64 (by decide) ?_
      refine lv_aload_n hx hb d_Steps_checkFun_66 rfl (lv_at hl 0 rfl) ?_
      refine rd_Steps_9 hx hb hT hown hK hP d_Steps_checkFun_67 ?_
      refine lv_aload_n hx hb d_Steps_checkFun_70 rfl (lv_at hl 0 rfl) ?_
      refine rd_Steps_15 hx hb hT hown hK hP d_Steps_checkFun_71 ?_
      refine rd_Steps_84 hx hb hT hown hK hP d_Steps_checkFun_74 ?_
      refine lv_iload_n hx hb d_Steps_checkFun_77 rfl (lv_at hl 1 rfl) ?_
      replace hR := gd_e hR
      obtain ⟨b12, hR⟩ := hR
      refine laH_22 hx hb hK hP b12 d_Steps_checkFun_78 ?_
      replace hR := bi_e hR
      obtain ⟨r13, l13, T13, hc13, hR⟩ := hR
      refine gcV_i (rest := [.int (8 : Int32), .ref (ad 3)]) ⟨hx, hb, hml, hown, hT⟩ (h_Source_startOf _ _ _ _ _ hc13) (cwV 1 hT (gV ml_Steps_87 im_Source_startOf se_Source_startOf ini_Source co_Source_startOf) rfl rfl rfl pd_Source_startOf ⟨rm_hi, rm_lo (Nat.le_of_ble_eq_true rfl)⟩) hK hP hD hS hA hnw henv (Nat.le_of_ble_eq_true rfl) rfl rfl hl.1 rfl (Nat.le_of_ble_eq_true rfl) d_Steps_checkFun_79 ⟨Nat.le_refl _, Nat.le_refl _⟩ (fun H locs hP hD hS => ?_)
      clear hc13
      replace hR := bi_e hR
      obtain ⟨r14, l14, T14, hc14, hR⟩ := hR
      refine gcV_v (rest := []) ⟨hx, hb, hml, hown, hT⟩ (h_Code_note _ _ _ _ _ _ hc14) (cwV 2 hT (gV ml_Steps_93 im_Code_note se_Code_note ini_Code co_Code_note) rfl rfl rfl pd_Code_note ⟨rm_hi, rm_lo (Nat.le_of_ble_eq_true rfl)⟩) hK hP hD hS hA hnw henv (Nat.le_of_ble_eq_true rfl) rfl rfl hl.1 rfl (Nat.le_of_ble_eq_true rfl) d_Steps_checkFun_82 ⟨Nat.le_refl _, Nat.le_refl _⟩ (fun H locs hP hD hS => ?_)
      clear hc14
      refine lv_aload_n hx hb d_Steps_checkFun_85 rfl (lv_at hl 0 rfl) ?_
      refine rd_Steps_39 hx hb hT hown hK hP d_Steps_checkFun_86 ?_
      refine lv_bipush (v := 58) hx hb d_Steps_checkFun_89 (by decide) ?_
      refine lv_iconst (v := 0) hx hb d_Steps_checkFun_91 (by decide) ?_
      refine lv_iconst (v := 0) hx hb d_Steps_checkFun_92 (by decide) ?_
      replace hR := bi_e hR
      obtain ⟨r15, l15, T15, hc15, hR⟩ := hR
      refine gcV_i (rest := []) ⟨hx, hb, hml, hown, hT⟩ (h_Code_emit _ _ _ _ _ _ _ hc15) (cwV 3 hT (gV ml_Steps_96 im_Code_emit se_Code_emit ini_Code co_Code_emit) rfl rfl rfl pd_Code_emit ⟨rm_hi, rm_lo (Nat.le_of_ble_eq_true rfl)⟩) hK hP hD hS hA hnw henv (Nat.le_of_ble_eq_true rfl) rfl rfl hl.1 rfl (Nat.le_of_ble_eq_true rfl) d_Steps_checkFun_93 ⟨Nat.le_refl _, Nat.le_refl _⟩ (fun H locs hP hD hS => ?_)
      clear hc15
      refine lv_pop hx hb d_Steps_checkFun_96 rfl ?_
      obtain ⟨-, -, e3⟩ := re_e hR
      subst e3
      exact W.vret hx hb hr (fun t ht hW => ⟨⟨(), rfl, trivial, by rw [ht]; exact hP, va_K.moved hW.alike hK, hD⟩, hS.F ht⟩) hS.2.2 d_Steps_checkFun_97
set_option maxHeartbeats 4000000 in
set_option maxRecDepth 100000 in
theorem sp_Steps_checkBlock (l : Launch) (dC : Nat → ClassId) (dI : Nat → Nat → Nat) (ea ev ad : Nat → Nat) (km : Nat → ClassId) (F : gF) (nf d : Nat) (h_Scope_varsSeen : mt_Scope_varsSeen l dC dI ea ev ad km F d) (h_Scope_forgetVars : mt_Scope_forgetVars l dC dI ea ev ad km F d) (h_Source_startOf : mt_Source_startOf l dC dI ea ev ad km F d) (h_Code_emit : mt_Code_emit l dC dI ea ev ad km F d) (h_Steps_checkStep : mt_Steps_checkStep l dC dI ea ev ad km F d) (T0 : gSt) (p1 : Int32) (p2 : Int32) (r0 : Int32) (rl0 : Int64) (T9 : gSt) (hR : rb_Steps_checkBlock F nf T0 p1 p2 = some (r0, rl0, T9)) : GMv l dC dI LH ad km ea ev y_Steps_checkBlock w_Steps_checkBlock (rmD (d + 1)) [.ref (ad 9), .int p1, .int p2] T0 T9 := by
  intro sz
  refine Met.ofW (cc := b_Steps_checkBlock) (maxL := 6) (ret := none) (by decide) rfl ?_
  intro p e s m args below meth c s₁ B hml hv
  obtain ⟨rfl, hsz, hP, hK, hD0, hnw, henv⟩ := hv
  have hx := B.exec
  have hb := B.bytes
  have hr := B.returns
  have hT : ∀ w ∈ lw_good, w.before _ s = true := fun w h => atoms_spec (ws := w_Steps_checkBlock) B.pre w (List.mem_cons_of_mem _ h)
  have hown : s.vm.findClass R_Steps = some m.cls := findClass_of_methodNamed B.named
  subst hsz
  have hD := hD0.self (sz := s.heap.size)
  clear hD0
  generalize hAe : va_A (gW LH ad km T0) s.heap.size = A at hD henv ⊢
  have hA : ∀ q : Nat, s.heap.size ≤ q → A q := fun q h => by rw [← hAe]; exact Or.inr h
  have hS : va_S A s.heap s.heap [] := va_S.rf
  have hl := lv_entry ([.ref (ad 9), .int p1, .int p2]) (n := 6) (Nat.le_of_ble_eq_true rfl)
  rw [lg_entry_eq]
  generalize (lg_sl ([.ref (ad 9), .int p1, .int p2]) ++ List.replicate (6 - (lg_sl ([.ref (ad 9), .int p1, .int p2])).length) Slot.unset).toArray = ls at hl ⊢
  have hl : lv_has ls 6 [(0, .ref (ad 9)), (1, .int p1), (2, .int p2)] := hl
  obtain ⟨G, hG⟩ : ∃ G : Nat → List (Nat × Value) → List Value → gSt → Prop, G = (fun pc lv stk T => ∀ (H : Heap) (locs : List Loc), va_P (dC, dI) cls_all (gW LH ad km T) H → va_D A (gW LH ad km T) → va_S A s.heap H locs → ∀ (ls : Array Slot), lv_has ls 6 lv → W p l e (headSpec w_Steps_checkBlock (rmD (d + 1))).room s m ([.ref (ad 9), .int p1, .int p2] : List Value).toArray below meth c H locs 0 0 (MQ below (va_Qv (fun (_ : Unit) => True) (fun _ t => gPost dC dI LH ad km T9 A t) A) ([.ref (ad 9), .int p1, .int p2] : List Value).toArray s 0 0 A) (F0 m pc ls stk)) := ⟨_, rfl⟩
  have lb_21 : ∀ (n : Nat) (T : gSt) (x2 : Int32) (x3 : Int32) (x4 : Int32) (x5 : Int32), rl_Steps_checkBlock_21 F nf n T x2 x3 x4 x5 = some (r0, rl0, T9) → G 21 [(0, .ref (ad 9)), (2, .int x2), (3, .int x3), (4, .int x4), (5, .int x5)] [] T := by
    intro n
    induction n with
    | zero => intro T x2 x3 x4 x5 hR; rw [rl_Steps_checkBlock_21] at hR; cases hR
    | succ n ih =>
      intro T x2 x3 x4 x5 hR; rw [rl_Steps_checkBlock_21] at hR; rw [hG]; intro H locs hP hD hS ls hl
      refine lv_iload hx hb d_Steps_checkBlock_21 (lv_at hl 3 rfl) ?_
      refine lv_if_eq (tgt := 86) hx hb d_Steps_checkBlock_23 (by decide) (fun c3 => ?_) (fun c3 => ?_)
      · replace hR := if_p c3 hR
        refine lv_aload_n hx hb d_Steps_checkBlock_86 rfl (lv_at hl 0 rfl) ?_
        refine rd_Steps_34 hx hb hT hown hK hP d_Steps_checkBlock_87 ?_
        refine lv_iload_n hx hb d_Steps_checkBlock_90 rfl (lv_at hl 2 rfl) ?_
        replace hR := bi_e hR
        obtain ⟨r4, l4, T4, hc4, hR⟩ := hR
        refine gcV_v (rest := []) ⟨hx, hb, hml, hown, hT⟩ (h_Scope_forgetVars _ _ _ _ _ hc4) (cwV 1 hT (gV ml_Steps_112 im_Scope_forgetVars se_Scope_forgetVars ini_Scope co_Scope_forgetVars) rfl rfl rfl pd_Scope_forgetVars ⟨rm_hi, rm_lo (Nat.le_of_ble_eq_true rfl)⟩) hK hP hD hS hA hnw henv (Nat.le_of_ble_eq_true rfl) rfl rfl hl.1 rfl (Nat.le_of_ble_eq_true rfl) d_Steps_checkBlock_91 ⟨Nat.le_refl _, Nat.le_refl _⟩ (fun H locs hP hD hS => ?_)
        clear hc4
        obtain ⟨-, -, e3⟩ := re_e hR
        subst e3
        exact W.vret hx hb hr (fun t ht hW => ⟨⟨(), rfl, trivial, by rw [ht]; exact hP, va_K.moved hW.alike hK, hD⟩, hS.F ht⟩) hS.2.2 d_Steps_checkBlock_94
      · replace hR := if_n c3 hR
        refine lv_iload hx hb d_Steps_checkBlock_26 (lv_at hl 4 rfl) ?_
        refine lv_sipush (v := 4000) hx hb d_Steps_checkBlock_28 (by decide) ?_
        refine lv_icmp_ge (tgt := 86) hx hb d_Steps_checkBlock_31 (by decide) (fun c5 => ?_) (fun c5 => ?_)
        · replace hR := if_p c5 hR
          refine lv_aload_n hx hb d_Steps_checkBlock_86 rfl (lv_at hl 0 rfl) ?_
          refine rd_Steps_34 hx hb hT hown hK hP d_Steps_checkBlock_87 ?_
          refine lv_iload_n hx hb d_Steps_checkBlock_90 rfl (lv_at hl 2 rfl) ?_
          replace hR := bi_e hR
          obtain ⟨r6, l6, T6, hc6, hR⟩ := hR
          refine gcV_v (rest := []) ⟨hx, hb, hml, hown, hT⟩ (h_Scope_forgetVars _ _ _ _ _ hc6) (cwV 1 hT (gV ml_Steps_112 im_Scope_forgetVars se_Scope_forgetVars ini_Scope co_Scope_forgetVars) rfl rfl rfl pd_Scope_forgetVars ⟨rm_hi, rm_lo (Nat.le_of_ble_eq_true rfl)⟩) hK hP hD hS hA hnw henv (Nat.le_of_ble_eq_true rfl) rfl rfl hl.1 rfl (Nat.le_of_ble_eq_true rfl) d_Steps_checkBlock_91 ⟨Nat.le_refl _, Nat.le_refl _⟩ (fun H locs hP hD hS => ?_)
          clear hc6
          obtain ⟨-, -, e3⟩ := re_e hR
          subst e3
          exact W.vret hx hb hr (fun t ht hW => ⟨⟨(), rfl, trivial, by rw [ht]; exact hP, va_K.moved hW.alike hK, hD⟩, hS.F ht⟩) hS.2.2 d_Steps_checkBlock_94
        · replace hR := if_n c5 hR
          refine lv_aload_n hx hb d_Steps_checkBlock_34 rfl (lv_at hl 0 rfl) ?_
          refine rd_Steps_39 hx hb hT hown hK hP d_Steps_checkBlock_35 ?_
          refine lv_iconst (v := 1) hx hb d_Steps_checkBlock_38 (by decide) ?_
          refine lv_aload_n hx hb d_Steps_checkBlock_39 rfl (lv_at hl 0 rfl) ?_
          refine rd_Steps_9 hx hb hT hown hK hP d_Steps_checkBlock_40 ?_
          refine lv_aload_n hx hb d_Steps_checkBlock_43 rfl (lv_at hl 0 rfl) ?_
          refine rd_Steps_9 hx hb hT hown hK hP d_Steps_checkBlock_44 ?_
          refine rd_Steps_103 hx hb hT hown hK hP d_Steps_checkBlock_47 ?_
          refine lv_iload hx hb d_Steps_checkBlock_50 (lv_at hl 3 rfl) ?_
          replace hR := gd_e hR
          obtain ⟨b7, hR⟩ := hR
          refine laH_2 hx hb hK hP b7 d_Steps_checkBlock_52 ?_
          replace hR := bi_e hR
          obtain ⟨r8, l8, T8, hc8, hR⟩ := hR
          refine gcV_i (rest := [.int (1 : Int32), .ref (ad 3)]) ⟨hx, hb, hml, hown, hT⟩ (h_Source_startOf _ _ _ _ _ hc8) (cwV 1 hT (gV ml_Steps_87 im_Source_startOf se_Source_startOf ini_Source co_Source_startOf) rfl rfl rfl pd_Source_startOf ⟨rm_hi, rm_lo (Nat.le_of_ble_eq_true rfl)⟩) hK hP hD hS hA hnw henv (Nat.le_of_ble_eq_true rfl) rfl rfl hl.1 rfl (Nat.le_of_ble_eq_true rfl) d_Steps_checkBlock_53 ⟨Nat.le_refl _, Nat.le_refl _⟩ (fun H locs hP hD hS => ?_)
          clear hc8
          refine lv_iconst (v := 0) hx hb d_Steps_checkBlock_56 (by decide) ?_
          replace hR := bi_e hR
          obtain ⟨r9, l9, T9, hc9, hR⟩ := hR
          refine gcV_i (rest := []) ⟨hx, hb, hml, hown, hT⟩ (h_Code_emit _ _ _ _ _ _ _ hc9) (cwV 3 hT (gV ml_Steps_96 im_Code_emit se_Code_emit ini_Code co_Code_emit) rfl rfl rfl pd_Code_emit ⟨rm_hi, rm_lo (Nat.le_of_ble_eq_true rfl)⟩) hK hP hD hS hA hnw henv (Nat.le_of_ble_eq_true rfl) rfl rfl hl.1 rfl (Nat.le_of_ble_eq_true rfl) d_Steps_checkBlock_57 ⟨Nat.le_refl _, Nat.le_refl _⟩ (fun H locs hP hD hS => ?_)
          clear hc9
          refine lv_pop hx hb d_Steps_checkBlock_60 rfl ?_
          refine lv_aload_n hx hb d_Steps_checkBlock_61 rfl (lv_at hl 0 rfl) ?_
          refine lv_iload hx hb d_Steps_checkBlock_62 (lv_at hl 3 rfl) ?_
          refine lv_iload_n hx hb d_Steps_checkBlock_64 rfl (lv_at hl 1 rfl) ?_
          replace hR := bi_e hR
          obtain ⟨r10, l10, T10, hc10, hR⟩ := hR
          refine gcV_v (rest := []) ⟨hx, hb, hml, hown, hT⟩ (h_Steps_checkStep _ _ _ _ _ _ hc10) (cwV 2 hT (gV ml_Steps_106 im_Steps_checkStep se_Steps_checkStep ini_Steps co_Steps_checkStep) rfl rfl rfl pd_Steps_checkStep ⟨rm_hi, rm_lo (Nat.le_of_ble_eq_true rfl)⟩) hK hP hD hS hA hnw henv (Nat.le_of_ble_eq_true rfl) rfl rfl hl.1 rfl (Nat.le_of_ble_eq_true rfl) d_Steps_checkBlock_65 ⟨Nat.le_refl _, Nat.le_refl _⟩ (fun H locs hP hD hS => ?_)
          clear hc10
          refine lv_aload_n hx hb d_Steps_checkBlock_68 rfl (lv_at hl 0 rfl) ?_
          refine rd_Steps_9 hx hb hT hown hK hP d_Steps_checkBlock_69 ?_
          refine rd_Steps_109 hx hb hT hown hK hP d_Steps_checkBlock_72 ?_
          refine lv_iload hx hb d_Steps_checkBlock_75 (lv_at hl 3 rfl) ?_
          replace hR := gd_e hR
          obtain ⟨b11, hR⟩ := hR
          refine laH_3 hx hb hK hP b11 d_Steps_checkBlock_77 ?_
          refine lv_topi (fun z12 e12 => ?_)
          replace hR := vK_e e12 hR
          refine lv_istore (lv' := [(4, .int z12), (0, .ref (ad 9)), (2, .int x2), (3, .int x3), (5, .int x5)]) hx hb d_Steps_checkBlock_78 hl (by decide) rfl (fun ls hl => ?_)
          obtain ⟨z13, e13⟩ : ∃ y : Int32, y = x5 + (1 : Int32) := ⟨_, rfl⟩
          replace hR := vK_e e13 hR
          refine lv_iinc (v := z13) (lv' := [(5, .int z13), (4, .int z12), (0, .ref (ad 9)), (2, .int x2), (3, .int x3)]) hx hb d_Steps_checkBlock_80 hl (k := 4) rfl (by rw [e13]; rfl) (by decide) rfl (fun ls hl => ?_)
          refine lv_goto (tgt := 21) hx hb d_Steps_checkBlock_83 (by decide) ?_
          have g := ih T10 x2 x3 z12 z13 hR
          rw [hG] at g
          exact g _ _ hP hD hS _ (lv_sub hl [2, 3, 4, 1, 0] rfl)
  unfold rb_Steps_checkBlock at hR
  refine lv_iload_n hx hb d_Steps_checkBlock_0 rfl (lv_at hl 2 rfl) ?_
  refine lv_bipush (v := 20) hx hb d_Steps_checkBlock_1 (by decide) ?_
  refine lv_icmp_le (tgt := 7) hx hb d_Steps_checkBlock_3 (by decide) (fun c1 => ?_) (fun c1 => ?_)
  · replace hR := if_p c1 hR
    refine lv_aload_n hx hb d_Steps_checkBlock_7 rfl (lv_at hl 0 rfl) ?_
    refine rd_Steps_34 hx hb hT hown hK hP d_Steps_checkBlock_8 ?_
    replace hR := bi_e hR
    obtain ⟨r2, l2, T2, hc2, hR⟩ := hR
    refine gcV_i (rest := []) ⟨hx, hb, hml, hown, hT⟩ (h_Scope_varsSeen _ _ _ _ hc2) (cwV 0 hT (gV ml_Steps_100 im_Scope_varsSeen se_Scope_varsSeen ini_Scope co_Scope_varsSeen) rfl rfl rfl pd_Scope_varsSeen ⟨rm_hi, rm_lo (Nat.le_of_ble_eq_true rfl)⟩) hK hP hD hS hA hnw henv (Nat.le_of_ble_eq_true rfl) rfl rfl hl.1 rfl (Nat.le_of_ble_eq_true rfl) d_Steps_checkBlock_11 ⟨Nat.le_refl _, Nat.le_refl _⟩ (fun H locs hP hD hS => ?_)
    clear hc2
    refine lv_istore_n (lv' := [(3, .int r2), (0, .ref (ad 9)), (1, .int p1), (2, .int p2)]) hx hb d_Steps_checkBlock_14 rfl hl (by decide) rfl (fun ls hl => ?_)
    refine lv_iload_n hx hb d_Steps_checkBlock_15 rfl (lv_at hl 2 rfl) ?_
    refine lv_istore (lv' := [(4, .int p1), (3, .int r2), (0, .ref (ad 9)), (1, .int p1), (2, .int p2)]) hx hb d_Steps_checkBlock_16 hl (by decide) rfl (fun ls hl => ?_)
    refine lv_iconst (v := 0) hx hb d_Steps_checkBlock_18 (by decide) ?_
    refine lv_istore (lv' := [(5, .int (0 : Int32)), (4, .int p1), (3, .int r2), (0, .ref (ad 9)), (1, .int p1), (2, .int p2)]) hx hb d_Steps_checkBlock_19 hl (by decide) rfl (fun ls hl => ?_)
    have g := lb_21 nf T2 p2 r2 p1 (0 : Int32) hR
    rw [hG] at g
    exact g _ _ hP hD hS _ (lv_sub hl [3, 5, 2, 1, 0] rfl)
  · replace hR := if_n c1 hR
    obtain ⟨-, -, e3⟩ := re_e hR
    subst e3
    exact W.vret hx hb hr (fun t ht hW => ⟨⟨(), rfl, trivial, by rw [ht]; exact hP, va_K.moved hW.alike hK, hD⟩, hS.F ht⟩) hS.2.2 d_Steps_checkBlock_6
set_option maxHeartbeats 4000000 in
set_option maxRecDepth 100000 in
theorem sp_Steps_checkStep (l : Launch) (dC : Nat → ClassId) (dI : Nat → Nat → Nat) (ea ev ad : Nat → Nat) (km : Nat → ClassId) (F : gF) (nf d : Nat) (h_Steps_checkVar : mt_Steps_checkVar l dC dI ea ev ad km F d) (h_Steps_checkIf : mt_Steps_checkIf l dC dI ea ev ad km F d) (h_Steps_checkWhile : mt_Steps_checkWhile l dC dI ea ev ad km F d) (h_Steps_checkReturn : mt_Steps_checkReturn l dC dI ea ev ad km F d) (h_Steps_checkNumber : mt_Steps_checkNumber l dC dI ea ev ad km F d) (h_Code_emit : mt_Code_emit l dC dI ea ev ad km F d) (h_Steps_checkRegion : mt_Steps_checkRegion l dC dI ea ev ad km F d) (h_Steps_checkClose : mt_Steps_checkClose l dC dI ea ev ad km F d) (h_Steps_checkTry : mt_Steps_checkTry l dC dI ea ev ad km F d) (h_Scope_leave : mt_Scope_leave l dC dI ea ev ad km F d) (h_Exprs_check : mt_Exprs_check l dC dI ea ev ad km F d) (h_Exprs_nameAlone : mt_Exprs_nameAlone l dC dI ea ev ad km F d) (h_Exprs_storeVar : mt_Exprs_storeVar l dC dI ea ev ad km F d) (h_Exprs_storePlace : mt_Exprs_storePlace l dC dI ea ev ad km F d) (h_Types_wordsOf : mt_Types_wordsOf l dC dI ea ev ad km F d) (T0 : gSt) (p1 : Int32) (p2 : Int32) (r0 : Int32) (rl0 : Int64) (T9 : gSt) (hR : rb_Steps_checkStep F nf T0 p1 p2 = some (r0, rl0, T9)) : GMv l dC dI LH ad km ea ev y_Steps_checkStep w_Steps_checkStep (rmD (d + 1)) [.ref (ad 9), .int p1, .int p2] T0 T9 := by
  intro sz
  refine Met.ofW (cc := b_Steps_checkStep) (maxL := 6) (ret := none) (by decide) rfl ?_
  intro p e s m args below meth c s₁ B hml hv
  obtain ⟨rfl, hsz, hP, hK, hD0, hnw, henv⟩ := hv
  have hx := B.exec
  have hb := B.bytes
  have hr := B.returns
  have hT : ∀ w ∈ lw_good, w.before _ s = true := fun w h => atoms_spec (ws := w_Steps_checkStep) B.pre w (List.mem_cons_of_mem _ h)
  have hown : s.vm.findClass R_Steps = some m.cls := findClass_of_methodNamed B.named
  subst hsz
  have hD := hD0.self (sz := s.heap.size)
  clear hD0
  generalize hAe : va_A (gW LH ad km T0) s.heap.size = A at hD henv ⊢
  have hA : ∀ q : Nat, s.heap.size ≤ q → A q := fun q h => by rw [← hAe]; exact Or.inr h
  have hS : va_S A s.heap s.heap [] := va_S.rf
  have hl := lv_entry ([.ref (ad 9), .int p1, .int p2]) (n := 6) (Nat.le_of_ble_eq_true rfl)
  rw [lg_entry_eq]
  generalize (lg_sl ([.ref (ad 9), .int p1, .int p2]) ++ List.replicate (6 - (lg_sl ([.ref (ad 9), .int p1, .int p2])).length) Slot.unset).toArray = ls at hl ⊢
  have hl : lv_has ls 6 [(0, .ref (ad 9)), (1, .int p1), (2, .int p2)] := hl
  obtain ⟨G, hG⟩ : ∃ G : Nat → List (Nat × Value) → List Value → gSt → Prop, G = (fun pc lv stk T => ∀ (H : Heap) (locs : List Loc), va_P (dC, dI) cls_all (gW LH ad km T) H → va_D A (gW LH ad km T) → va_S A s.heap H locs → ∀ (ls : Array Slot), lv_has ls 6 lv → W p l e (headSpec w_Steps_checkStep (rmD (d + 1))).room s m ([.ref (ad 9), .int p1, .int p2] : List Value).toArray below meth c H locs 0 0 (MQ below (va_Qv (fun (_ : Unit) => True) (fun _ t => gPost dC dI LH ad km T9 A t) A) ([.ref (ad 9), .int p1, .int p2] : List Value).toArray s 0 0 A) (F0 m pc ls stk)) := ⟨_, rfl⟩
  have lb_382 : ∀ (T : gSt) (x1 : Int32) (x2 : Int32), rj_Steps_checkStep_382 F nf T x1 x2 = some (r0, rl0, T9) → G 382 [(0, .ref (ad 9)), (1, .int x1), (2, .int x2)] [] T := by
    intro T x1 x2 hR; unfold rj_Steps_checkStep_382 at hR; rw [hG]; intro H locs hP hD hS ls hl
    refine lv_aload_n hx hb d_Steps_checkStep_382 rfl (lv_at hl 0 rfl) ?_
    refine rd_Steps_39 hx hb hT hown hK hP d_Steps_checkStep_383 ?_
    refine lv_iconst (v := 5) hx hb d_Steps_checkStep_386 (by decide) ?_
    refine lv_aload_n hx hb d_Steps_checkStep_387 rfl (lv_at hl 0 rfl) ?_
    refine rd_Steps_29 hx hb hT hown hK hP d_Steps_checkStep_388 ?_
    refine lv_aload_n hx hb d_Steps_checkStep_391 rfl (lv_at hl 0 rfl) ?_
    refine rd_Steps_35 hx hb hT hown hK hP d_Steps_checkStep_392 ?_
    refine lv_aload_n hx hb d_Steps_checkStep_395 rfl (lv_at hl 0 rfl) ?_
    refine rd_Steps_9 hx hb hT hown hK hP d_Steps_checkStep_396 ?_
    refine rd_Steps_128 hx hb hT hown hK hP d_Steps_checkStep_399 ?_
    refine lv_iload_n hx hb d_Steps_checkStep_402 rfl (lv_at hl 1 rfl) ?_
    replace hR := gd_e hR
    obtain ⟨b62, hR⟩ := hR
    refine laH_7 hx hb hK hP b62 d_Steps_checkStep_403 ?_
    refine lv_iload_n hx hb d_Steps_checkStep_404 rfl (lv_at hl 2 rfl) ?_
    refine lv_iconst (v := 1) hx hb d_Steps_checkStep_405 (by decide) ?_
    refine lv_iadd hx hb d_Steps_checkStep_406 ?_
    replace hR := bi_e hR
    obtain ⟨r63, l63, T63, hc63, hR⟩ := hR
    refine gcV_i (rest := [.ref (ad 5), .int (5 : Int32), .ref (ad 3)]) ⟨hx, hb, hml, hown, hT⟩ (h_Exprs_check _ _ _ _ _ _ hc63) (cwV 2 hT (gV ml_Steps_146 im_Exprs_check se_Exprs_check ini_Exprs co_Exprs_check) rfl rfl rfl pd_Exprs_check ⟨rm_hi, rm_lo (Nat.le_of_ble_eq_true rfl)⟩) hK hP hD hS hA hnw henv (Nat.le_of_ble_eq_true rfl) rfl rfl hl.1 rfl (Nat.le_of_ble_eq_true rfl) d_Steps_checkStep_407 ⟨Nat.le_refl _, Nat.le_refl _⟩ (fun H locs hP hD hS => ?_)
    clear hc63
    replace hR := bi_e hR
    obtain ⟨r64, l64, T64, hc64, hR⟩ := hR
    refine gcV_i (rest := [.int (5 : Int32), .ref (ad 3)]) ⟨hx, hb, hml, hown, hT⟩ (h_Types_wordsOf _ _ _ _ _ hc64) (cwV 1 hT (gV ml_Steps_166 im_Types_wordsOf se_Types_wordsOf ini_Types co_Types_wordsOf) rfl rfl rfl pd_Types_wordsOf ⟨rm_hi, rm_lo (Nat.le_of_ble_eq_true rfl)⟩) hK hP hD hS hA hnw henv (Nat.le_of_ble_eq_true rfl) rfl rfl hl.1 rfl (Nat.le_of_ble_eq_true rfl) d_Steps_checkStep_410 ⟨Nat.le_refl _, Nat.le_refl _⟩ (fun H locs hP hD hS => ?_)
    clear hc64
    refine lv_iconst (v := 0) hx hb d_Steps_checkStep_413 (by decide) ?_
    replace hR := bi_e hR
    obtain ⟨r65, l65, T65, hc65, hR⟩ := hR
    refine gcV_i (rest := []) ⟨hx, hb, hml, hown, hT⟩ (h_Code_emit _ _ _ _ _ _ _ hc65) (cwV 3 hT (gV ml_Steps_96 im_Code_emit se_Code_emit ini_Code co_Code_emit) rfl rfl rfl pd_Code_emit ⟨rm_hi, rm_lo (Nat.le_of_ble_eq_true rfl)⟩) hK hP hD hS hA hnw henv (Nat.le_of_ble_eq_true rfl) rfl rfl hl.1 rfl (Nat.le_of_ble_eq_true rfl) d_Steps_checkStep_414 ⟨Nat.le_refl _, Nat.le_refl _⟩ (fun H locs hP hD hS => ?_)
    clear hc65
    refine lv_pop hx hb d_Steps_checkStep_417 rfl ?_
    obtain ⟨-, -, e3⟩ := re_e hR
    subst e3
    exact W.vret hx hb hr (fun t ht hW => ⟨⟨(), rfl, trivial, by rw [ht]; exact hP, va_K.moved hW.alike hK, hD⟩, hS.F ht⟩) hS.2.2 d_Steps_checkStep_418
  unfold rb_Steps_checkStep at hR
  refine lv_aload_n hx hb d_Steps_checkStep_0 rfl (lv_at hl 0 rfl) ?_
  refine rd_Steps_9 hx hb hT hown hK hP d_Steps_checkStep_1 ?_
  refine rd_Steps_115 hx hb hT hown hK hP d_Steps_checkStep_4 ?_
  refine lv_iload_n hx hb d_Steps_checkStep_7 rfl (lv_at hl 1 rfl) ?_
  replace hR := gd_e hR
  obtain ⟨b1, hR⟩ := hR
  refine laH_1 hx hb hK hP b1 d_Steps_checkStep_8 ?_
  by_cases c2 : T0.1 11 p1.toNatClampNeg = (15 : Int32)
  · replace hR := if_p c2 hR
    refine lv_tableIn (off := 159) (tgt := 168) hx hb d_Steps_checkStep_9 (by rw [c2]; decide) (by rw [c2]; decide) (by rw [c2]; decide) (by decide) ?_
    refine lv_aload_n hx hb d_Steps_checkStep_168 rfl (lv_at hl 0 rfl) ?_
    refine lv_iload_n hx hb d_Steps_checkStep_169 rfl (lv_at hl 1 rfl) ?_
    refine lv_iload_n hx hb d_Steps_checkStep_170 rfl (lv_at hl 2 rfl) ?_
    replace hR := bi_e hR
    obtain ⟨r3, l3, T3, hc3, hR⟩ := hR
    refine gcV_v (rest := []) ⟨hx, hb, hml, hown, hT⟩ (h_Steps_checkVar _ _ _ _ _ _ hc3) (cwV 2 hT (gV ml_Steps_116 im_Steps_checkVar se_Steps_checkVar ini_Steps co_Steps_checkVar) rfl rfl rfl pd_Steps_checkVar ⟨rm_hi, rm_lo (Nat.le_of_ble_eq_true rfl)⟩) hK hP hD hS hA hnw henv (Nat.le_of_ble_eq_true rfl) rfl rfl hl.1 rfl (Nat.le_of_ble_eq_true rfl) d_Steps_checkStep_171 ⟨Nat.le_refl _, Nat.le_refl _⟩ (fun H locs hP hD hS => ?_)
    clear hc3
    refine lv_goto (tgt := 418) hx hb d_Steps_checkStep_174 (by decide) ?_
    obtain ⟨-, -, e3⟩ := re_e hR
    subst e3
    exact W.vret hx hb hr (fun t ht hW => ⟨⟨(), rfl, trivial, by rw [ht]; exact hP, va_K.moved hW.alike hK, hD⟩, hS.F ht⟩) hS.2.2 d_Steps_checkStep_418
  replace hR := if_n c2 hR
  by_cases c4 : T0.1 11 p1.toNatClampNeg = (16 : Int32)
  · replace hR := if_p c4 hR
    refine lv_tableIn (off := 168) (tgt := 177) hx hb d_Steps_checkStep_9 (by rw [c4]; decide) (by rw [c4]; decide) (by rw [c4]; decide) (by decide) ?_
    refine lv_aload_n hx hb d_Steps_checkStep_177 rfl (lv_at hl 0 rfl) ?_
    refine lv_iload_n hx hb d_Steps_checkStep_178 rfl (lv_at hl 1 rfl) ?_
    refine lv_iload_n hx hb d_Steps_checkStep_179 rfl (lv_at hl 2 rfl) ?_
    replace hR := bi_e hR
    obtain ⟨r5, l5, T5, hc5, hR⟩ := hR
    refine gcV_v (rest := []) ⟨hx, hb, hml, hown, hT⟩ (h_Steps_checkIf _ _ _ _ _ _ hc5) (cwV 2 hT (gV ml_Steps_119 im_Steps_checkIf se_Steps_checkIf ini_Steps co_Steps_checkIf) rfl rfl rfl pd_Steps_checkIf ⟨rm_hi, rm_lo (Nat.le_of_ble_eq_true rfl)⟩) hK hP hD hS hA hnw henv (Nat.le_of_ble_eq_true rfl) rfl rfl hl.1 rfl (Nat.le_of_ble_eq_true rfl) d_Steps_checkStep_180 ⟨Nat.le_refl _, Nat.le_refl _⟩ (fun H locs hP hD hS => ?_)
    clear hc5
    refine lv_goto (tgt := 418) hx hb d_Steps_checkStep_183 (by decide) ?_
    obtain ⟨-, -, e3⟩ := re_e hR
    subst e3
    exact W.vret hx hb hr (fun t ht hW => ⟨⟨(), rfl, trivial, by rw [ht]; exact hP, va_K.moved hW.alike hK, hD⟩, hS.F ht⟩) hS.2.2 d_Steps_checkStep_418
  replace hR := if_n c4 hR
  by_cases c6 : T0.1 11 p1.toNatClampNeg = (17 : Int32)
  · replace hR := if_p c6 hR
    refine lv_tableIn (off := 373) (tgt := 382) hx hb d_Steps_checkStep_9 (by rw [c6]; decide) (by rw [c6]; decide) (by rw [c6]; decide) (by decide) ?_
    have g := lb_382 T0 p1 p2 hR
    rw [hG] at g
    exact g _ _ hP hD hS _ (lv_sub hl [0, 1, 2] rfl)
  replace hR := if_n c6 hR
  by_cases c7 : T0.1 11 p1.toNatClampNeg = (18 : Int32)
  · replace hR := if_p c7 hR
    refine lv_tableIn (off := 177) (tgt := 186) hx hb d_Steps_checkStep_9 (by rw [c7]; decide) (by rw [c7]; decide) (by rw [c7]; decide) (by decide) ?_
    refine lv_aload_n hx hb d_Steps_checkStep_186 rfl (lv_at hl 0 rfl) ?_
    refine lv_iload_n hx hb d_Steps_checkStep_187 rfl (lv_at hl 1 rfl) ?_
    refine lv_iload_n hx hb d_Steps_checkStep_188 rfl (lv_at hl 2 rfl) ?_
    replace hR := bi_e hR
    obtain ⟨r8, l8, T8, hc8, hR⟩ := hR
    refine gcV_v (rest := []) ⟨hx, hb, hml, hown, hT⟩ (h_Steps_checkWhile _ _ _ _ _ _ hc8) (cwV 2 hT (gV ml_Steps_122 im_Steps_checkWhile se_Steps_checkWhile ini_Steps co_Steps_checkWhile) rfl rfl rfl pd_Steps_checkWhile ⟨rm_hi, rm_lo (Nat.le_of_ble_eq_true rfl)⟩) hK hP hD hS hA hnw henv (Nat.le_of_ble_eq_true rfl) rfl rfl hl.1 rfl (Nat.le_of_ble_eq_true rfl) d_Steps_checkStep_189 ⟨Nat.le_refl _, Nat.le_refl _⟩ (fun H locs hP hD hS => ?_)
    clear hc8
    refine lv_goto (tgt := 418) hx hb d_Steps_checkStep_192 (by decide) ?_
    obtain ⟨-, -, e3⟩ := re_e hR
    subst e3
    exact W.vret hx hb hr (fun t ht hW => ⟨⟨(), rfl, trivial, by rw [ht]; exact hP, va_K.moved hW.alike hK, hD⟩, hS.F ht⟩) hS.2.2 d_Steps_checkStep_418
  replace hR := if_n c7 hR
  by_cases c9 : T0.1 11 p1.toNatClampNeg = (19 : Int32)
  · replace hR := if_p c9 hR
    refine lv_tableIn (off := 186) (tgt := 195) hx hb d_Steps_checkStep_9 (by rw [c9]; decide) (by rw [c9]; decide) (by rw [c9]; decide) (by decide) ?_
    refine lv_aload_n hx hb d_Steps_checkStep_195 rfl (lv_at hl 0 rfl) ?_
    refine lv_iload_n hx hb d_Steps_checkStep_196 rfl (lv_at hl 1 rfl) ?_
    refine lv_iload_n hx hb d_Steps_checkStep_197 rfl (lv_at hl 2 rfl) ?_
    replace hR := bi_e hR
    obtain ⟨r10, l10, T10, hc10, hR⟩ := hR
    refine gcV_v (rest := []) ⟨hx, hb, hml, hown, hT⟩ (h_Steps_checkReturn _ _ _ _ _ _ hc10) (cwV 2 hT (gV ml_Steps_125 im_Steps_checkReturn se_Steps_checkReturn ini_Steps co_Steps_checkReturn) rfl rfl rfl pd_Steps_checkReturn ⟨rm_hi, rm_lo (Nat.le_of_ble_eq_true rfl)⟩) hK hP hD hS hA hnw henv (Nat.le_of_ble_eq_true rfl) rfl rfl hl.1 rfl (Nat.le_of_ble_eq_true rfl) d_Steps_checkStep_198 ⟨Nat.le_refl _, Nat.le_refl _⟩ (fun H locs hP hD hS => ?_)
    clear hc10
    refine lv_goto (tgt := 418) hx hb d_Steps_checkStep_201 (by decide) ?_
    obtain ⟨-, -, e3⟩ := re_e hR
    subst e3
    exact W.vret hx hb hr (fun t ht hW => ⟨⟨(), rfl, trivial, by rw [ht]; exact hP, va_K.moved hW.alike hK, hD⟩, hS.F ht⟩) hS.2.2 d_Steps_checkStep_418
  replace hR := if_n c9 hR
  by_cases c11 : T0.1 11 p1.toNatClampNeg = (20 : Int32)
  · replace hR := if_p c11 hR
    refine lv_tableIn (off := 195) (tgt := 204) hx hb d_Steps_checkStep_9 (by rw [c11]; decide) (by rw [c11]; decide) (by rw [c11]; decide) (by decide) ?_
    refine lv_aload_n hx hb d_Steps_checkStep_204 rfl (lv_at hl 0 rfl) ?_
    refine lv_aload_n hx hb d_Steps_checkStep_205 rfl (lv_at hl 0 rfl) ?_
    refine rd_Steps_9 hx hb hT hown hK hP d_Steps_checkStep_206 ?_
    refine rd_Steps_128 hx hb hT hown hK hP d_Steps_checkStep_209 ?_
    refine lv_iload_n hx hb d_Steps_checkStep_212 rfl (lv_at hl 1 rfl) ?_
    replace hR := gd_e hR
    obtain ⟨b12, hR⟩ := hR
    refine laH_7 hx hb hK hP b12 d_Steps_checkStep_213 ?_
    refine lv_iload_n hx hb d_Steps_checkStep_214 rfl (lv_at hl 2 rfl) ?_
    replace hR := bi_e hR
    obtain ⟨r13, l13, T13, hc13, hR⟩ := hR
    refine gcV_v (rest := []) ⟨hx, hb, hml, hown, hT⟩ (h_Steps_checkNumber _ _ _ _ _ _ hc13) (cwV 2 hT (gV ml_Steps_131 im_Steps_checkNumber se_Steps_checkNumber ini_Steps co_Steps_checkNumber) rfl rfl rfl pd_Steps_checkNumber ⟨rm_hi, rm_lo (Nat.le_of_ble_eq_true rfl)⟩) hK hP hD hS hA hnw henv (Nat.le_of_ble_eq_true rfl) rfl rfl hl.1 rfl (Nat.le_of_ble_eq_true rfl) d_Steps_checkStep_215 ⟨Nat.le_refl _, Nat.le_refl _⟩ (fun H locs hP hD hS => ?_)
    clear hc13
    refine lv_aload_n hx hb d_Steps_checkStep_218 rfl (lv_at hl 0 rfl) ?_
    refine rd_Steps_39 hx hb hT hown hK hP d_Steps_checkStep_219 ?_
    refine lv_bipush (v := 7) hx hb d_Steps_checkStep_222 (by decide) ?_
    refine lv_iconst (v := 0) hx hb d_Steps_checkStep_224 (by decide) ?_
    refine lv_iconst (v := 0) hx hb d_Steps_checkStep_225 (by decide) ?_
    replace hR := bi_e hR
    obtain ⟨r14, l14, T14, hc14, hR⟩ := hR
    refine gcV_i (rest := []) ⟨hx, hb, hml, hown, hT⟩ (h_Code_emit _ _ _ _ _ _ _ hc14) (cwV 3 hT (gV ml_Steps_96 im_Code_emit se_Code_emit ini_Code co_Code_emit) rfl rfl rfl pd_Code_emit ⟨rm_hi, rm_lo (Nat.le_of_ble_eq_true rfl)⟩) hK hP hD hS hA hnw henv (Nat.le_of_ble_eq_true rfl) rfl rfl hl.1 rfl (Nat.le_of_ble_eq_true rfl) d_Steps_checkStep_226 ⟨Nat.le_refl _, Nat.le_refl _⟩ (fun H locs hP hD hS => ?_)
    clear hc14
    refine lv_pop hx hb d_Steps_checkStep_229 rfl ?_
    refine lv_goto (tgt := 418) hx hb d_Steps_checkStep_230 (by decide) ?_
    obtain ⟨-, -, e3⟩ := re_e hR
    subst e3
    exact W.vret hx hb hr (fun t ht hW => ⟨⟨(), rfl, trivial, by rw [ht]; exact hP, va_K.moved hW.alike hK, hD⟩, hS.F ht⟩) hS.2.2 d_Steps_checkStep_418
  replace hR := if_n c11 hR
  by_cases c15 : T0.1 11 p1.toNatClampNeg = (21 : Int32)
  · replace hR := if_p c15 hR
    refine lv_tableIn (off := 260) (tgt := 269) hx hb d_Steps_checkStep_9 (by rw [c15]; decide) (by rw [c15]; decide) (by rw [c15]; decide) (by decide) ?_
    refine lv_aload_n hx hb d_Steps_checkStep_269 rfl (lv_at hl 0 rfl) ?_
    refine lv_iload_n hx hb d_Steps_checkStep_270 rfl (lv_at hl 1 rfl) ?_
    refine lv_iload_n hx hb d_Steps_checkStep_271 rfl (lv_at hl 2 rfl) ?_
    replace hR := bi_e hR
    obtain ⟨r16, l16, T16, hc16, hR⟩ := hR
    refine gcV_v (rest := []) ⟨hx, hb, hml, hown, hT⟩ (h_Steps_checkRegion _ _ _ _ _ _ hc16) (cwV 2 hT (gV ml_Steps_137 im_Steps_checkRegion se_Steps_checkRegion ini_Steps co_Steps_checkRegion) rfl rfl rfl pd_Steps_checkRegion ⟨rm_hi, rm_lo (Nat.le_of_ble_eq_true rfl)⟩) hK hP hD hS hA hnw henv (Nat.le_of_ble_eq_true rfl) rfl rfl hl.1 rfl (Nat.le_of_ble_eq_true rfl) d_Steps_checkStep_272 ⟨Nat.le_refl _, Nat.le_refl _⟩ (fun H locs hP hD hS => ?_)
    clear hc16
    refine lv_goto (tgt := 418) hx hb d_Steps_checkStep_275 (by decide) ?_
    obtain ⟨-, -, e3⟩ := re_e hR
    subst e3
    exact W.vret hx hb hr (fun t ht hW => ⟨⟨(), rfl, trivial, by rw [ht]; exact hP, va_K.moved hW.alike hK, hD⟩, hS.F ht⟩) hS.2.2 d_Steps_checkStep_418
  replace hR := if_n c15 hR
  by_cases c17 : T0.1 11 p1.toNatClampNeg = (22 : Int32)
  · replace hR := if_p c17 hR
    refine lv_tableIn (off := 269) (tgt := 278) hx hb d_Steps_checkStep_9 (by rw [c17]; decide) (by rw [c17]; decide) (by rw [c17]; decide) (by decide) ?_
    refine lv_aload_n hx hb d_Steps_checkStep_278 rfl (lv_at hl 0 rfl) ?_
    refine lv_iload_n hx hb d_Steps_checkStep_279 rfl (lv_at hl 1 rfl) ?_
    replace hR := bi_e hR
    obtain ⟨r18, l18, T18, hc18, hR⟩ := hR
    refine gcV_v (rest := []) ⟨hx, hb, hml, hown, hT⟩ (h_Steps_checkClose _ _ _ _ _ hc18) (cwV 1 hT (gV ml_Steps_140 im_Steps_checkClose se_Steps_checkClose ini_Steps co_Steps_checkClose) rfl rfl rfl pd_Steps_checkClose ⟨rm_hi, rm_lo (Nat.le_of_ble_eq_true rfl)⟩) hK hP hD hS hA hnw henv (Nat.le_of_ble_eq_true rfl) rfl rfl hl.1 rfl (Nat.le_of_ble_eq_true rfl) d_Steps_checkStep_280 ⟨Nat.le_refl _, Nat.le_refl _⟩ (fun H locs hP hD hS => ?_)
    clear hc18
    refine lv_goto (tgt := 418) hx hb d_Steps_checkStep_283 (by decide) ?_
    obtain ⟨-, -, e3⟩ := re_e hR
    subst e3
    exact W.vret hx hb hr (fun t ht hW => ⟨⟨(), rfl, trivial, by rw [ht]; exact hP, va_K.moved hW.alike hK, hD⟩, hS.F ht⟩) hS.2.2 d_Steps_checkStep_418
  replace hR := if_n c17 hR
  by_cases c19 : T0.1 11 p1.toNatClampNeg = (23 : Int32)
  · replace hR := if_p c19 hR
    refine lv_tableIn (off := 277) (tgt := 286) hx hb d_Steps_checkStep_9 (by rw [c19]; decide) (by rw [c19]; decide) (by rw [c19]; decide) (by decide) ?_
    refine lv_aload_n hx hb d_Steps_checkStep_286 rfl (lv_at hl 0 rfl) ?_
    refine lv_iload_n hx hb d_Steps_checkStep_287 rfl (lv_at hl 1 rfl) ?_
    refine lv_iload_n hx hb d_Steps_checkStep_288 rfl (lv_at hl 2 rfl) ?_
    replace hR := bi_e hR
    obtain ⟨r20, l20, T20, hc20, hR⟩ := hR
    refine gcV_v (rest := []) ⟨hx, hb, hml, hown, hT⟩ (h_Steps_checkTry _ _ _ _ _ _ hc20) (cwV 2 hT (gV ml_Steps_143 im_Steps_checkTry se_Steps_checkTry ini_Steps co_Steps_checkTry) rfl rfl rfl pd_Steps_checkTry ⟨rm_hi, rm_lo (Nat.le_of_ble_eq_true rfl)⟩) hK hP hD hS hA hnw henv (Nat.le_of_ble_eq_true rfl) rfl rfl hl.1 rfl (Nat.le_of_ble_eq_true rfl) d_Steps_checkStep_289 ⟨Nat.le_refl _, Nat.le_refl _⟩ (fun H locs hP hD hS => ?_)
    clear hc20
    refine lv_goto (tgt := 418) hx hb d_Steps_checkStep_292 (by decide) ?_
    obtain ⟨-, -, e3⟩ := re_e hR
    subst e3
    exact W.vret hx hb hr (fun t ht hW => ⟨⟨(), rfl, trivial, by rw [ht]; exact hP, va_K.moved hW.alike hK, hD⟩, hS.F ht⟩) hS.2.2 d_Steps_checkStep_418
  replace hR := if_n c19 hR
  by_cases c21 : T0.1 11 p1.toNatClampNeg = (24 : Int32)
  · replace hR := if_p c21 hR
    refine lv_tableIn (off := 373) (tgt := 382) hx hb d_Steps_checkStep_9 (by rw [c21]; decide) (by rw [c21]; decide) (by rw [c21]; decide) (by decide) ?_
    have g := lb_382 T0 p1 p2 hR
    rw [hG] at g
    exact g _ _ hP hD hS _ (lv_sub hl [0, 1, 2] rfl)
  replace hR := if_n c21 hR
  by_cases c22 : T0.1 11 p1.toNatClampNeg = (25 : Int32)
  · replace hR := if_p c22 hR
    refine lv_tableIn (off := 224) (tgt := 233) hx hb d_Steps_checkStep_9 (by rw [c22]; decide) (by rw [c22]; decide) (by rw [c22]; decide) (by decide) ?_
    refine lv_aload_n hx hb d_Steps_checkStep_233 rfl (lv_at hl 0 rfl) ?_
    refine lv_aload_n hx hb d_Steps_checkStep_234 rfl (lv_at hl 0 rfl) ?_
    refine rd_Steps_9 hx hb hT hown hK hP d_Steps_checkStep_235 ?_
    refine rd_Steps_128 hx hb hT hown hK hP d_Steps_checkStep_238 ?_
    refine lv_iload_n hx hb d_Steps_checkStep_241 rfl (lv_at hl 1 rfl) ?_
    replace hR := gd_e hR
    obtain ⟨b23, hR⟩ := hR
    refine laH_7 hx hb hK hP b23 d_Steps_checkStep_242 ?_
    refine lv_iload_n hx hb d_Steps_checkStep_243 rfl (lv_at hl 2 rfl) ?_
    replace hR := bi_e hR
    obtain ⟨r24, l24, T24, hc24, hR⟩ := hR
    refine gcV_v (rest := []) ⟨hx, hb, hml, hown, hT⟩ (h_Steps_checkNumber _ _ _ _ _ _ hc24) (cwV 2 hT (gV ml_Steps_131 im_Steps_checkNumber se_Steps_checkNumber ini_Steps co_Steps_checkNumber) rfl rfl rfl pd_Steps_checkNumber ⟨rm_hi, rm_lo (Nat.le_of_ble_eq_true rfl)⟩) hK hP hD hS hA hnw henv (Nat.le_of_ble_eq_true rfl) rfl rfl hl.1 rfl (Nat.le_of_ble_eq_true rfl) d_Steps_checkStep_244 ⟨Nat.le_refl _, Nat.le_refl _⟩ (fun H locs hP hD hS => ?_)
    clear hc24
    refine lv_aload_n hx hb d_Steps_checkStep_247 rfl (lv_at hl 0 rfl) ?_
    refine rd_Steps_39 hx hb hT hown hK hP d_Steps_checkStep_248 ?_
    refine lv_bipush (v := 56) hx hb d_Steps_checkStep_251 (by decide) ?_
    refine lv_iconst (v := 0) hx hb d_Steps_checkStep_253 (by decide) ?_
    refine lv_iconst (v := 0) hx hb d_Steps_checkStep_254 (by decide) ?_
    replace hR := bi_e hR
    obtain ⟨r25, l25, T25, hc25, hR⟩ := hR
    refine gcV_i (rest := []) ⟨hx, hb, hml, hown, hT⟩ (h_Code_emit _ _ _ _ _ _ _ hc25) (cwV 3 hT (gV ml_Steps_96 im_Code_emit se_Code_emit ini_Code co_Code_emit) rfl rfl rfl pd_Code_emit ⟨rm_hi, rm_lo (Nat.le_of_ble_eq_true rfl)⟩) hK hP hD hS hA hnw henv (Nat.le_of_ble_eq_true rfl) rfl rfl hl.1 rfl (Nat.le_of_ble_eq_true rfl) d_Steps_checkStep_255 ⟨Nat.le_refl _, Nat.le_refl _⟩ (fun H locs hP hD hS => ?_)
    clear hc25
    refine lv_pop hx hb d_Steps_checkStep_258 rfl ?_
    refine lv_aload_n hx hb d_Steps_checkStep_259 rfl (lv_at hl 0 rfl) ?_
    refine rd_Steps_34 hx hb hT hown hK hP d_Steps_checkStep_260 ?_
    replace hR := bi_e hR
    obtain ⟨r26, l26, T26, hc26, hR⟩ := hR
    refine gcV_v (rest := []) ⟨hx, hb, hml, hown, hT⟩ (h_Scope_leave _ _ _ _ hc26) (cwV 0 hT (gV ml_Steps_134 im_Scope_leave se_Scope_leave ini_Scope co_Scope_leave) rfl rfl rfl pd_Scope_leave ⟨rm_hi, rm_lo (Nat.le_of_ble_eq_true rfl)⟩) hK hP hD hS hA hnw henv (Nat.le_of_ble_eq_true rfl) rfl rfl hl.1 rfl (Nat.le_of_ble_eq_true rfl) d_Steps_checkStep_263 ⟨Nat.le_refl _, Nat.le_refl _⟩ (fun H locs hP hD hS => ?_)
    clear hc26
    refine lv_goto (tgt := 418) hx hb d_Steps_checkStep_266 (by decide) ?_
    obtain ⟨-, -, e3⟩ := re_e hR
    subst e3
    exact W.vret hx hb hr (fun t ht hW => ⟨⟨(), rfl, trivial, by rw [ht]; exact hP, va_K.moved hW.alike hK, hD⟩, hS.F ht⟩) hS.2.2 d_Steps_checkStep_418
  replace hR := if_n c22 hR
  by_cases c27 : T0.1 11 p1.toNatClampNeg = (26 : Int32)
  · replace hR := if_p c27 hR
    refine lv_tableIn (off := 373) (tgt := 382) hx hb d_Steps_checkStep_9 (by rw [c27]; decide) (by rw [c27]; decide) (by rw [c27]; decide) (by decide) ?_
    have g := lb_382 T0 p1 p2 hR
    rw [hG] at g
    exact g _ _ hP hD hS _ (lv_sub hl [0, 1, 2] rfl)
  replace hR := if_n c27 hR
  by_cases c28 : T0.1 11 p1.toNatClampNeg = (27 : Int32)
  · replace hR := if_p c28 hR
    refine lv_tableIn (off := 373) (tgt := 382) hx hb d_Steps_checkStep_9 (by rw [c28]; decide) (by rw [c28]; decide) (by rw [c28]; decide) (by decide) ?_
    have g := lb_382 T0 p1 p2 hR
    rw [hG] at g
    exact g _ _ hP hD hS _ (lv_sub hl [0, 1, 2] rfl)
  replace hR := if_n c28 hR
  by_cases c29 : T0.1 11 p1.toNatClampNeg = (28 : Int32)
  · replace hR := if_p c29 hR
    refine lv_tableIn (off := 373) (tgt := 382) hx hb d_Steps_checkStep_9 (by rw [c29]; decide) (by rw [c29]; decide) (by rw [c29]; decide) (by decide) ?_
    have g := lb_382 T0 p1 p2 hR
    rw [hG] at g
    exact g _ _ hP hD hS _ (lv_sub hl [0, 1, 2] rfl)
  replace hR := if_n c29 hR
  by_cases c30 : T0.1 11 p1.toNatClampNeg = (29 : Int32)
  · replace hR := if_p c30 hR
    refine lv_tableIn (off := 373) (tgt := 382) hx hb d_Steps_checkStep_9 (by rw [c30]; decide) (by rw [c30]; decide) (by rw [c30]; decide) (by decide) ?_
    have g := lb_382 T0 p1 p2 hR
    rw [hG] at g
    exact g _ _ hP hD hS _ (lv_sub hl [0, 1, 2] rfl)
  replace hR := if_n c30 hR
  by_cases c31 : T0.1 11 p1.toNatClampNeg = (30 : Int32)
  · replace hR := if_p c31 hR
    refine lv_tableIn (off := 373) (tgt := 382) hx hb d_Steps_checkStep_9 (by rw [c31]; decide) (by rw [c31]; decide) (by rw [c31]; decide) (by decide) ?_
    have g := lb_382 T0 p1 p2 hR
    rw [hG] at g
    exact g _ _ hP hD hS _ (lv_sub hl [0, 1, 2] rfl)
  replace hR := if_n c31 hR
  by_cases c32 : T0.1 11 p1.toNatClampNeg = (31 : Int32)
  · replace hR := if_p c32 hR
    refine lv_tableIn (off := 373) (tgt := 382) hx hb d_Steps_checkStep_9 (by rw [c32]; decide) (by rw [c32]; decide) (by rw [c32]; decide) (by decide) ?_
    have g := lb_382 T0 p1 p2 hR
    rw [hG] at g
    exact g _ _ hP hD hS _ (lv_sub hl [0, 1, 2] rfl)
  replace hR := if_n c32 hR
  by_cases c33 : T0.1 11 p1.toNatClampNeg = (32 : Int32)
  · replace hR := if_p c33 hR
    refine lv_tableIn (off := 373) (tgt := 382) hx hb d_Steps_checkStep_9 (by rw [c33]; decide) (by rw [c33]; decide) (by rw [c33]; decide) (by decide) ?_
    have g := lb_382 T0 p1 p2 hR
    rw [hG] at g
    exact g _ _ hP hD hS _ (lv_sub hl [0, 1, 2] rfl)
  replace hR := if_n c33 hR
  by_cases c34 : T0.1 11 p1.toNatClampNeg = (33 : Int32)
  · replace hR := if_p c34 hR
    refine lv_tableIn (off := 373) (tgt := 382) hx hb d_Steps_checkStep_9 (by rw [c34]; decide) (by rw [c34]; decide) (by rw [c34]; decide) (by decide) ?_
    have g := lb_382 T0 p1 p2 hR
    rw [hG] at g
    exact g _ _ hP hD hS _ (lv_sub hl [0, 1, 2] rfl)
  replace hR := if_n c34 hR
  by_cases c35 : T0.1 11 p1.toNatClampNeg = (34 : Int32)
  · replace hR := if_p c35 hR
    refine lv_tableIn (off := 373) (tgt := 382) hx hb d_Steps_checkStep_9 (by rw [c35]; decide) (by rw [c35]; decide) (by rw [c35]; decide) (by decide) ?_
    have g := lb_382 T0 p1 p2 hR
    rw [hG] at g
    exact g _ _ hP hD hS _ (lv_sub hl [0, 1, 2] rfl)
  replace hR := if_n c35 hR
  by_cases c36 : T0.1 11 p1.toNatClampNeg = (35 : Int32)
  · replace hR := if_p c36 hR
    refine lv_tableIn (off := 373) (tgt := 382) hx hb d_Steps_checkStep_9 (by rw [c36]; decide) (by rw [c36]; decide) (by rw [c36]; decide) (by decide) ?_
    have g := lb_382 T0 p1 p2 hR
    rw [hG] at g
    exact g _ _ hP hD hS _ (lv_sub hl [0, 1, 2] rfl)
  replace hR := if_n c36 hR
  by_cases c37 : T0.1 11 p1.toNatClampNeg = (36 : Int32)
  · replace hR := if_p c37 hR
    refine lv_tableIn (off := 373) (tgt := 382) hx hb d_Steps_checkStep_9 (by rw [c37]; decide) (by rw [c37]; decide) (by rw [c37]; decide) (by decide) ?_
    have g := lb_382 T0 p1 p2 hR
    rw [hG] at g
    exact g _ _ hP hD hS _ (lv_sub hl [0, 1, 2] rfl)
  replace hR := if_n c37 hR
  by_cases c38 : T0.1 11 p1.toNatClampNeg = (37 : Int32)
  · replace hR := if_p c38 hR
    refine lv_tableIn (off := 373) (tgt := 382) hx hb d_Steps_checkStep_9 (by rw [c38]; decide) (by rw [c38]; decide) (by rw [c38]; decide) (by decide) ?_
    have g := lb_382 T0 p1 p2 hR
    rw [hG] at g
    exact g _ _ hP hD hS _ (lv_sub hl [0, 1, 2] rfl)
  replace hR := if_n c38 hR
  by_cases c39 : T0.1 11 p1.toNatClampNeg = (38 : Int32)
  · replace hR := if_p c39 hR
    refine lv_tableIn (off := 373) (tgt := 382) hx hb d_Steps_checkStep_9 (by rw [c39]; decide) (by rw [c39]; decide) (by rw [c39]; decide) (by decide) ?_
    have g := lb_382 T0 p1 p2 hR
    rw [hG] at g
    exact g _ _ hP hD hS _ (lv_sub hl [0, 1, 2] rfl)
  replace hR := if_n c39 hR
  by_cases c40 : T0.1 11 p1.toNatClampNeg = (39 : Int32)
  · replace hR := if_p c40 hR
    refine lv_tableIn (off := 373) (tgt := 382) hx hb d_Steps_checkStep_9 (by rw [c40]; decide) (by rw [c40]; decide) (by rw [c40]; decide) (by decide) ?_
    have g := lb_382 T0 p1 p2 hR
    rw [hG] at g
    exact g _ _ hP hD hS _ (lv_sub hl [0, 1, 2] rfl)
  replace hR := if_n c40 hR
  by_cases c41 : T0.1 11 p1.toNatClampNeg = (40 : Int32)
  · replace hR := if_p c41 hR
    refine lv_tableIn (off := 373) (tgt := 382) hx hb d_Steps_checkStep_9 (by rw [c41]; decide) (by rw [c41]; decide) (by rw [c41]; decide) (by decide) ?_
    have g := lb_382 T0 p1 p2 hR
    rw [hG] at g
    exact g _ _ hP hD hS _ (lv_sub hl [0, 1, 2] rfl)
  replace hR := if_n c41 hR
  by_cases c42 : T0.1 11 p1.toNatClampNeg = (41 : Int32)
  · replace hR := if_p c42 hR
    refine lv_tableIn (off := 373) (tgt := 382) hx hb d_Steps_checkStep_9 (by rw [c42]; decide) (by rw [c42]; decide) (by rw [c42]; decide) (by decide) ?_
    have g := lb_382 T0 p1 p2 hR
    rw [hG] at g
    exact g _ _ hP hD hS _ (lv_sub hl [0, 1, 2] rfl)
  replace hR := if_n c42 hR
  by_cases c43 : T0.1 11 p1.toNatClampNeg = (42 : Int32)
  · replace hR := if_p c43 hR
    refine lv_tableIn (off := 373) (tgt := 382) hx hb d_Steps_checkStep_9 (by rw [c43]; decide) (by rw [c43]; decide) (by rw [c43]; decide) (by decide) ?_
    have g := lb_382 T0 p1 p2 hR
    rw [hG] at g
    exact g _ _ hP hD hS _ (lv_sub hl [0, 1, 2] rfl)
  replace hR := if_n c43 hR
  by_cases c44 : T0.1 11 p1.toNatClampNeg = (43 : Int32)
  · replace hR := if_p c44 hR
    refine lv_tableIn (off := 373) (tgt := 382) hx hb d_Steps_checkStep_9 (by rw [c44]; decide) (by rw [c44]; decide) (by rw [c44]; decide) (by decide) ?_
    have g := lb_382 T0 p1 p2 hR
    rw [hG] at g
    exact g _ _ hP hD hS _ (lv_sub hl [0, 1, 2] rfl)
  replace hR := if_n c44 hR
  by_cases c45 : T0.1 11 p1.toNatClampNeg = (44 : Int32)
  · replace hR := if_p c45 hR
    refine lv_tableIn (off := 373) (tgt := 382) hx hb d_Steps_checkStep_9 (by rw [c45]; decide) (by rw [c45]; decide) (by rw [c45]; decide) (by decide) ?_
    have g := lb_382 T0 p1 p2 hR
    rw [hG] at g
    exact g _ _ hP hD hS _ (lv_sub hl [0, 1, 2] rfl)
  replace hR := if_n c45 hR
  by_cases c46 : T0.1 11 p1.toNatClampNeg = (45 : Int32)
  · replace hR := if_p c46 hR
    refine lv_tableIn (off := 373) (tgt := 382) hx hb d_Steps_checkStep_9 (by rw [c46]; decide) (by rw [c46]; decide) (by rw [c46]; decide) (by decide) ?_
    have g := lb_382 T0 p1 p2 hR
    rw [hG] at g
    exact g _ _ hP hD hS _ (lv_sub hl [0, 1, 2] rfl)
  replace hR := if_n c46 hR
  by_cases c47 : T0.1 11 p1.toNatClampNeg = (46 : Int32)
  · replace hR := if_p c47 hR
    refine lv_tableIn (off := 373) (tgt := 382) hx hb d_Steps_checkStep_9 (by rw [c47]; decide) (by rw [c47]; decide) (by rw [c47]; decide) (by decide) ?_
    have g := lb_382 T0 p1 p2 hR
    rw [hG] at g
    exact g _ _ hP hD hS _ (lv_sub hl [0, 1, 2] rfl)
  replace hR := if_n c47 hR
  by_cases c48 : T0.1 11 p1.toNatClampNeg = (47 : Int32)
  · replace hR := if_p c48 hR
    refine lv_tableIn (off := 373) (tgt := 382) hx hb d_Steps_checkStep_9 (by rw [c48]; decide) (by rw [c48]; decide) (by rw [c48]; decide) (by decide) ?_
    have g := lb_382 T0 p1 p2 hR
    rw [hG] at g
    exact g _ _ hP hD hS _ (lv_sub hl [0, 1, 2] rfl)
  replace hR := if_n c48 hR
  by_cases c49 : T0.1 11 p1.toNatClampNeg = (48 : Int32)
  · replace hR := if_p c49 hR
    refine lv_tableIn (off := 373) (tgt := 382) hx hb d_Steps_checkStep_9 (by rw [c49]; decide) (by rw [c49]; decide) (by rw [c49]; decide) (by decide) ?_
    have g := lb_382 T0 p1 p2 hR
    rw [hG] at g
    exact g _ _ hP hD hS _ (lv_sub hl [0, 1, 2] rfl)
  replace hR := if_n c49 hR
  by_cases c50 : T0.1 11 p1.toNatClampNeg = (49 : Int32)
  · replace hR := if_p c50 hR
    refine lv_tableIn (off := 373) (tgt := 382) hx hb d_Steps_checkStep_9 (by rw [c50]; decide) (by rw [c50]; decide) (by rw [c50]; decide) (by decide) ?_
    have g := lb_382 T0 p1 p2 hR
    rw [hG] at g
    exact g _ _ hP hD hS _ (lv_sub hl [0, 1, 2] rfl)
  replace hR := if_n c50 hR
  by_cases c51 : T0.1 11 p1.toNatClampNeg = (50 : Int32)
  · replace hR := if_p c51 hR
    refine lv_tableIn (off := 286) (tgt := 295) hx hb d_Steps_checkStep_9 (by rw [c51]; decide) (by rw [c51]; decide) (by rw [c51]; decide) (by decide) ?_
    refine lv_aload_n hx hb d_Steps_checkStep_295 rfl (lv_at hl 0 rfl) ?_
    refine rd_Steps_9 hx hb hT hown hK hP d_Steps_checkStep_296 ?_
    refine rd_Steps_128 hx hb hT hown hK hP d_Steps_checkStep_299 ?_
    refine lv_iload_n hx hb d_Steps_checkStep_302 rfl (lv_at hl 1 rfl) ?_
    replace hR := gd_e hR
    obtain ⟨b52, hR⟩ := hR
    refine laH_7 hx hb hK hP b52 d_Steps_checkStep_303 ?_
    refine lv_topi (fun z53 e53 => ?_)
    replace hR := vK_e e53 hR
    refine lv_istore_n (lv' := [(3, .int z53), (0, .ref (ad 9)), (1, .int p1), (2, .int p2)]) hx hb d_Steps_checkStep_304 rfl hl (by decide) rfl (fun ls hl => ?_)
    refine lv_aload_n hx hb d_Steps_checkStep_305 rfl (lv_at hl 1 rfl) ?_
    refine rd_Steps_35 hx hb hT hown hK hP d_Steps_checkStep_306 ?_
    refine lv_iload_n hx hb d_Steps_checkStep_309 rfl (lv_at hl 0 rfl) ?_
    refine lv_iload_n hx hb d_Steps_checkStep_310 rfl (lv_at hl 3 rfl) ?_
    refine lv_iconst (v := 1) hx hb d_Steps_checkStep_311 (by decide) ?_
    refine lv_iadd hx hb d_Steps_checkStep_312 ?_
    replace hR := bi_e hR
    obtain ⟨r54, l54, T54, hc54, hR⟩ := hR
    refine gcV_i (rest := []) ⟨hx, hb, hml, hown, hT⟩ (h_Exprs_check _ _ _ _ _ _ hc54) (cwV 2 hT (gV ml_Steps_146 im_Exprs_check se_Exprs_check ini_Exprs co_Exprs_check) rfl rfl rfl pd_Exprs_check ⟨rm_hi, rm_lo (Nat.le_of_ble_eq_true rfl)⟩) hK hP hD hS hA hnw henv (Nat.le_of_ble_eq_true rfl) rfl rfl hl.1 rfl (Nat.le_of_ble_eq_true rfl) d_Steps_checkStep_313 ⟨Nat.le_refl _, Nat.le_refl _⟩ (fun H locs hP hD hS => ?_)
    clear hc54
    refine lv_istore (lv' := [(4, .int r54), (3, .int z53), (0, .ref (ad 9)), (1, .int p1), (2, .int p2)]) hx hb d_Steps_checkStep_316 hl (by decide) rfl (fun ls hl => ?_)
    refine lv_aload_n hx hb d_Steps_checkStep_318 rfl (lv_at hl 2 rfl) ?_
    refine rd_Steps_35 hx hb hT hown hK hP d_Steps_checkStep_319 ?_
    refine lv_aload_n hx hb d_Steps_checkStep_322 rfl (lv_at hl 2 rfl) ?_
    refine rd_Steps_9 hx hb hT hown hK hP d_Steps_checkStep_323 ?_
    refine rd_Steps_152 hx hb hT hown hK hP d_Steps_checkStep_326 ?_
    refine lv_iload_n hx hb d_Steps_checkStep_329 rfl (lv_at hl 3 rfl) ?_
    replace hR := gd_e hR
    obtain ⟨b55, hR⟩ := hR
    refine laH_6 hx hb hK hP b55 d_Steps_checkStep_330 ?_
    replace hR := bi_e hR
    obtain ⟨r56, l56, T56, hc56, hR⟩ := hR
    refine gcV_i (rest := []) ⟨hx, hb, hml, hown, hT⟩ (h_Exprs_nameAlone _ _ _ _ _ hc56) (cwV 1 hT (gV ml_Steps_155 im_Exprs_nameAlone se_Exprs_nameAlone ini_Exprs co_Exprs_nameAlone) rfl rfl rfl pd_Exprs_nameAlone ⟨rm_hi, rm_lo (Nat.le_of_ble_eq_true rfl)⟩) hK hP hD hS hA hnw henv (Nat.le_of_ble_eq_true rfl) rfl rfl hl.1 rfl (Nat.le_of_ble_eq_true rfl) d_Steps_checkStep_331 ⟨Nat.le_refl _, Nat.le_refl _⟩ (fun H locs hP hD hS => ?_)
    clear hc56
    refine lv_istore (lv' := [(5, .int r56), (4, .int r54), (3, .int z53), (0, .ref (ad 9)), (1, .int p1), (2, .int p2)]) hx hb d_Steps_checkStep_334 hl (by decide) rfl (fun ls hl => ?_)
    refine lv_iload hx hb d_Steps_checkStep_336 (lv_at hl 0 rfl) ?_
    refine lv_iconst (v := (-1)) hx hb d_Steps_checkStep_338 (by decide) ?_
    refine lv_icmp_ne (tgt := 367) hx hb d_Steps_checkStep_339 (by decide) (fun c57 => ?_) (fun c57 => ?_)
    · replace hR := if_n c57 hR
      refine lv_aload_n hx hb d_Steps_checkStep_367 rfl (lv_at hl 3 rfl) ?_
      refine rd_Steps_35 hx hb hT hown hK hP d_Steps_checkStep_368 ?_
      refine lv_iload hx hb d_Steps_checkStep_371 (lv_at hl 0 rfl) ?_
      refine lv_iload hx hb d_Steps_checkStep_373 (lv_at hl 1 rfl) ?_
      refine lv_iload_n hx hb d_Steps_checkStep_375 rfl (lv_at hl 2 rfl) ?_
      replace hR := bi_e hR
      obtain ⟨r58, l58, T58, hc58, hR⟩ := hR
      refine gcV_v (rest := []) ⟨hx, hb, hml, hown, hT⟩ (h_Exprs_storeVar _ _ _ _ _ _ _ hc58) (cwV 3 hT (gV ml_Steps_162 im_Exprs_storeVar se_Exprs_storeVar ini_Exprs co_Exprs_storeVar) rfl rfl rfl pd_Exprs_storeVar ⟨rm_hi, rm_lo (Nat.le_of_ble_eq_true rfl)⟩) hK hP hD hS hA hnw henv (Nat.le_of_ble_eq_true rfl) rfl rfl hl.1 rfl (Nat.le_of_ble_eq_true rfl) d_Steps_checkStep_376 ⟨Nat.le_refl _, Nat.le_refl _⟩ (fun H locs hP hD hS => ?_)
      clear hc58
      refine lv_goto (tgt := 418) hx hb d_Steps_checkStep_379 (by decide) ?_
      obtain ⟨-, -, e3⟩ := re_e hR
      subst e3
      exact W.vret hx hb hr (fun t ht hW => ⟨⟨(), rfl, trivial, by rw [ht]; exact hP, va_K.moved hW.alike hK, hD⟩, hS.F ht⟩) hS.2.2 d_Steps_checkStep_418
    · replace hR := if_p c57 hR
      refine lv_aload_n hx hb d_Steps_checkStep_342 rfl (lv_at hl 3 rfl) ?_
      refine rd_Steps_35 hx hb hT hown hK hP d_Steps_checkStep_343 ?_
      refine lv_aload_n hx hb d_Steps_checkStep_346 rfl (lv_at hl 3 rfl) ?_
      refine rd_Steps_9 hx hb hT hown hK hP d_Steps_checkStep_347 ?_
      refine rd_Steps_152 hx hb hT hown hK hP d_Steps_checkStep_350 ?_
      refine lv_iload_n hx hb d_Steps_checkStep_353 rfl (lv_at hl 4 rfl) ?_
      replace hR := gd_e hR
      obtain ⟨b59, hR⟩ := hR
      refine laH_6 hx hb hK hP b59 d_Steps_checkStep_354 ?_
      refine lv_iload hx hb d_Steps_checkStep_355 (lv_at hl 1 rfl) ?_
      refine lv_iload_n hx hb d_Steps_checkStep_357 rfl (lv_at hl 2 rfl) ?_
      refine lv_iload_n hx hb d_Steps_checkStep_358 rfl (lv_at hl 5 rfl) ?_
      refine lv_iconst (v := 1) hx hb d_Steps_checkStep_359 (by decide) ?_
      refine lv_iadd hx hb d_Steps_checkStep_360 ?_
      replace hR := bi_e hR
      obtain ⟨r60, l60, T60, hc60, hR⟩ := hR
      refine gcV_v (rest := []) ⟨hx, hb, hml, hown, hT⟩ (h_Exprs_storePlace _ _ _ _ _ _ _ _ hc60) (cwV 4 hT (gV ml_Steps_158 im_Exprs_storePlace se_Exprs_storePlace ini_Exprs co_Exprs_storePlace) rfl rfl rfl pd_Exprs_storePlace ⟨rm_hi, rm_lo (Nat.le_of_ble_eq_true rfl)⟩) hK hP hD hS hA hnw henv (Nat.le_of_ble_eq_true rfl) rfl rfl hl.1 rfl (Nat.le_of_ble_eq_true rfl) d_Steps_checkStep_361 ⟨Nat.le_refl _, Nat.le_refl _⟩ (fun H locs hP hD hS => ?_)
      clear hc60
      refine lv_goto (tgt := 418) hx hb d_Steps_checkStep_364 (by decide) ?_
      obtain ⟨-, -, e3⟩ := re_e hR
      subst e3
      exact W.vret hx hb hr (fun t ht hW => ⟨⟨(), rfl, trivial, by rw [ht]; exact hP, va_K.moved hW.alike hK, hD⟩, hS.F ht⟩) hS.2.2 d_Steps_checkStep_418
  replace hR := if_n c51 hR
  have h361 : (T0.1 11 p1.toNatClampNeg : Int32).toInt < 15 ∨ 50 < (T0.1 11 p1.toNatClampNeg : Int32).toInt := by
    simp only [i_eq, Int32.reduceToInt] at c2 c4 c6 c7 c9 c11 c15 c17 c19 c21 c22 c27 c28 c29 c30 c31 c32 c33 c34 c35 c36 c37 c38 c39 c40 c41 c42 c43 c44 c45 c46 c47 c48 c49 c50 c51; omega
  refine lv_tableOut (tgt := 382) hx hb d_Steps_checkStep_9 h361 (by decide) ?_
  have g := lb_382 T0 p1 p2 hR
  rw [hG] at g
  exact g _ _ hP hD hS _ (lv_sub hl [0, 1, 2] rfl)
set_option maxHeartbeats 4000000 in
set_option maxRecDepth 100000 in
theorem sp_Steps_checkNumber (l : Launch) (dC : Nat → ClassId) (dI : Nat → Nat → Nat) (ea ev ad : Nat → Nat) (km : Nat → ClassId) (F : gF) (nf d : Nat) (h_Exprs_checkFits : mt_Exprs_checkFits l dC dI ea ev ad km F d) (T0 : gSt) (p1 : Int32) (p2 : Int32) (r0 : Int32) (rl0 : Int64) (T9 : gSt) (hR : rb_Steps_checkNumber F nf T0 p1 p2 = some (r0, rl0, T9)) : GMv l dC dI LH ad km ea ev y_Steps_checkNumber w_Steps_checkNumber (rmD (d + 1)) [.ref (ad 9), .int p1, .int p2] T0 T9 := by
  intro sz
  refine Met.ofW (cc := b_Steps_checkNumber) (maxL := 3) (ret := none) (by decide) rfl ?_
  intro p e s m args below meth c s₁ B hml hv
  obtain ⟨rfl, hsz, hP, hK, hD0, hnw, henv⟩ := hv
  have hx := B.exec
  have hb := B.bytes
  have hr := B.returns
  have hT : ∀ w ∈ lw_good, w.before _ s = true := fun w h => atoms_spec (ws := w_Steps_checkNumber) B.pre w (List.mem_cons_of_mem _ h)
  have hown : s.vm.findClass R_Steps = some m.cls := findClass_of_methodNamed B.named
  subst hsz
  have hD := hD0.self (sz := s.heap.size)
  clear hD0
  generalize hAe : va_A (gW LH ad km T0) s.heap.size = A at hD henv ⊢
  have hA : ∀ q : Nat, s.heap.size ≤ q → A q := fun q h => by rw [← hAe]; exact Or.inr h
  have hS : va_S A s.heap s.heap [] := va_S.rf
  have hl := lv_entry ([.ref (ad 9), .int p1, .int p2]) (n := 3) (Nat.le_of_ble_eq_true rfl)
  rw [lg_entry_eq]
  generalize (lg_sl ([.ref (ad 9), .int p1, .int p2]) ++ List.replicate (3 - (lg_sl ([.ref (ad 9), .int p1, .int p2])).length) Slot.unset).toArray = ls at hl ⊢
  have hl : lv_has ls 3 [(0, .ref (ad 9)), (1, .int p1), (2, .int p2)] := hl
  unfold rb_Steps_checkNumber at hR
  refine lv_aload_n hx hb d_Steps_checkNumber_0 rfl (lv_at hl 0 rfl) ?_
  refine rd_Steps_35 hx hb hT hown hK hP d_Steps_checkNumber_1 ?_
  refine lv_iload_n hx hb d_Steps_checkNumber_4 rfl (lv_at hl 1 rfl) ?_
  refine lv_iconst (v := 1) hx hb d_Steps_checkNumber_5 (by decide) ?_
  refine lv_iload_n hx hb d_Steps_checkNumber_6 rfl (lv_at hl 2 rfl) ?_
  refine lv_iconst (v := 1) hx hb d_Steps_checkNumber_7 (by decide) ?_
  refine lv_iadd hx hb d_Steps_checkNumber_8 ?_
  replace hR := bi_e hR
  obtain ⟨r1, l1, T1, hc1, hR⟩ := hR
  refine gcV_v (rest := []) ⟨hx, hb, hml, hown, hT⟩ (h_Exprs_checkFits _ _ _ _ _ _ _ hc1) (cwV 3 hT (gV ml_Steps_171 im_Exprs_checkFits se_Exprs_checkFits ini_Exprs co_Exprs_checkFits) rfl rfl rfl pd_Exprs_checkFits ⟨rm_hi, rm_lo (Nat.le_of_ble_eq_true rfl)⟩) hK hP hD hS hA hnw henv (Nat.le_of_ble_eq_true rfl) rfl rfl hl.1 rfl (Nat.le_of_ble_eq_true rfl) d_Steps_checkNumber_9 ⟨Nat.le_refl _, Nat.le_refl _⟩ (fun H locs hP hD hS => ?_)
  clear hc1
  obtain ⟨-, -, e3⟩ := re_e hR
  subst e3
  exact W.vret hx hb hr (fun t ht hW => ⟨⟨(), rfl, trivial, by rw [ht]; exact hP, va_K.moved hW.alike hK, hD⟩, hS.F ht⟩) hS.2.2 d_Steps_checkNumber_12
set_option maxHeartbeats 4000000 in
set_option maxRecDepth 100000 in
theorem sp_Steps_checkVar (l : Launch) (dC : Nat → ClassId) (dI : Nat → Nat → Nat) (ea ev ad : Nat → Nat) (km : Nat → ClassId) (F : gF) (nf d : Nat) (h_Code_tally : mt_Code_tally l dC dI ea ev ad km F d) (h_Heads_readType : mt_Heads_readType l dC dI ea ev ad km F d) (h_Exprs_check : mt_Exprs_check l dC dI ea ev ad km F d) (h_Exprs_demandFit : mt_Exprs_demandFit l dC dI ea ev ad km F d) (h_Source_nameAt : mt_Source_nameAt l dC dI ea ev ad km F d) (h_Scope_findVar : mt_Scope_findVar l dC dI ea ev ad km F d) (h_Source_startOf : mt_Source_startOf l dC dI ea ev ad km F d) (h_Exprs_demand : mt_Exprs_demand l dC dI ea ev ad km F d) (h_Scope_addVar : mt_Scope_addVar l dC dI ea ev ad km F d) (h_Exprs_giveVar : mt_Exprs_giveVar l dC dI ea ev ad km F d) (T0 : gSt) (p1 : Int32) (p2 : Int32) (r0 : Int32) (rl0 : Int64) (T9 : gSt) (hR : rb_Steps_checkVar F nf T0 p1 p2 = some (r0, rl0, T9)) : GMv l dC dI LH ad km ea ev y_Steps_checkVar w_Steps_checkVar (rmD (d + 1)) [.ref (ad 9), .int p1, .int p2] T0 T9 := by
  intro sz
  refine Met.ofW (cc := b_Steps_checkVar) (maxL := 8) (ret := none) (by decide) rfl ?_
  intro p e s m args below meth c s₁ B hml hv
  obtain ⟨rfl, hsz, hP, hK, hD0, hnw, henv⟩ := hv
  have hx := B.exec
  have hb := B.bytes
  have hr := B.returns
  have hT : ∀ w ∈ lw_good, w.before _ s = true := fun w h => atoms_spec (ws := w_Steps_checkVar) B.pre w (List.mem_cons_of_mem _ h)
  have hown : s.vm.findClass R_Steps = some m.cls := findClass_of_methodNamed B.named
  subst hsz
  have hD := hD0.self (sz := s.heap.size)
  clear hD0
  generalize hAe : va_A (gW LH ad km T0) s.heap.size = A at hD henv ⊢
  have hA : ∀ q : Nat, s.heap.size ≤ q → A q := fun q h => by rw [← hAe]; exact Or.inr h
  have hS : va_S A s.heap s.heap [] := va_S.rf
  have hl := lv_entry ([.ref (ad 9), .int p1, .int p2]) (n := 8) (Nat.le_of_ble_eq_true rfl)
  rw [lg_entry_eq]
  generalize (lg_sl ([.ref (ad 9), .int p1, .int p2]) ++ List.replicate (8 - (lg_sl ([.ref (ad 9), .int p1, .int p2])).length) Slot.unset).toArray = ls at hl ⊢
  have hl : lv_has ls 8 [(0, .ref (ad 9)), (1, .int p1), (2, .int p2)] := hl
  obtain ⟨G, hG⟩ : ∃ G : Nat → List (Nat × Value) → List Value → gSt → Prop, G = (fun pc lv stk T => ∀ (H : Heap) (locs : List Loc), va_P (dC, dI) cls_all (gW LH ad km T) H → va_D A (gW LH ad km T) → va_S A s.heap H locs → ∀ (ls : Array Slot), lv_has ls 8 lv → W p l e (headSpec w_Steps_checkVar (rmD (d + 1))).room s m ([.ref (ad 9), .int p1, .int p2] : List Value).toArray below meth c H locs 0 0 (MQ below (va_Qv (fun (_ : Unit) => True) (fun _ t => gPost dC dI LH ad km T9 A t) A) ([.ref (ad 9), .int p1, .int p2] : List Value).toArray s 0 0 A) (F0 m pc ls stk)) := ⟨_, rfl⟩
  have lb_104 : ∀ (T : gSt) (x3 : Int32) (x4 : Int32) (x5 : Int32) (x6 : Int32) (y0 : Int32), rj_Steps_checkVar_104 F nf T x3 x4 x5 x6 y0 = some (r0, rl0, T9) → G 104 [(0, .ref (ad 9)), (3, .int x3), (4, .int x4), (5, .int x5), (6, .int x6)] [.int y0, .ref (ad 8)] T := by
    intro T x3 x4 x5 x6 y0 hR; unfold rj_Steps_checkVar_104 at hR; rw [hG]; intro H locs hP hD hS ls hl
    refine lv_iconst (v := 2) hx hb d_Steps_checkVar_104 (by decide) ?_
    refine lv_aload_n hx hb d_Steps_checkVar_105 rfl (lv_at hl 0 rfl) ?_
    refine rd_Steps_9 hx hb hT hown hK hP d_Steps_checkVar_106 ?_
    refine lv_iload_n hx hb d_Steps_checkVar_109 rfl (lv_at hl 1 rfl) ?_
    replace hR := bi_e hR
    obtain ⟨r13, l13, T13, hc13, hR⟩ := hR
    refine gcV_i (rest := [.int (2 : Int32), .int y0, .ref (ad 8)]) ⟨hx, hb, hml, hown, hT⟩ (h_Source_startOf _ _ _ _ _ hc13) (cwV 1 hT (gV ml_Steps_87 im_Source_startOf se_Source_startOf ini_Source co_Source_startOf) rfl rfl rfl pd_Source_startOf ⟨rm_hi, rm_lo (Nat.le_of_ble_eq_true rfl)⟩) hK hP hD hS hA hnw henv (Nat.le_of_ble_eq_true rfl) rfl rfl hl.1 rfl (Nat.le_of_ble_eq_true rfl) d_Steps_checkVar_110 ⟨Nat.le_refl _, Nat.le_refl _⟩ (fun H locs hP hD hS => ?_)
    clear hc13
    replace hR := bi_e hR
    obtain ⟨r14, l14, T14, hc14, hR⟩ := hR
    refine gcV_v (rest := []) ⟨hx, hb, hml, hown, hT⟩ (h_Exprs_demand _ _ _ _ _ _ _ hc14) (cwV 3 hT (gV ml_Steps_191 im_Exprs_demand se_Exprs_demand ini_Exprs co_Exprs_demand) rfl rfl rfl pd_Exprs_demand ⟨rm_hi, rm_lo (Nat.le_of_ble_eq_true rfl)⟩) hK hP hD hS hA hnw henv (Nat.le_of_ble_eq_true rfl) rfl rfl hl.1 rfl (Nat.le_of_ble_eq_true rfl) d_Steps_checkVar_113 ⟨Nat.le_refl _, Nat.le_refl _⟩ (fun H locs hP hD hS => ?_)
    clear hc14
    refine lv_aload_n hx hb d_Steps_checkVar_116 rfl (lv_at hl 0 rfl) ?_
    refine rd_Steps_34 hx hb hT hown hK hP d_Steps_checkVar_117 ?_
    refine lv_aload_n hx hb d_Steps_checkVar_120 rfl (lv_at hl 0 rfl) ?_
    refine rd_Steps_9 hx hb hT hown hK hP d_Steps_checkVar_121 ?_
    refine lv_iload_n hx hb d_Steps_checkVar_124 rfl (lv_at hl 1 rfl) ?_
    replace hR := bi_e hR
    obtain ⟨r15, l15, T15, hc15, hR⟩ := hR
    refine gcV_l (rest := [.ref (ad 6)]) ⟨hx, hb, hml, hown, hT⟩ (h_Source_nameAt _ _ _ _ _ hc15) (cwV 1 hT (gV ml_Steps_183 im_Source_nameAt se_Source_nameAt ini_Source co_Source_nameAt) rfl rfl rfl pd_Source_nameAt ⟨rm_hi, rm_lo (Nat.le_of_ble_eq_true rfl)⟩) hK hP hD hS hA hnw henv (Nat.le_of_ble_eq_true rfl) rfl rfl hl.1 rfl (Nat.le_of_ble_eq_true rfl) d_Steps_checkVar_125 ⟨Nat.le_refl _, Nat.le_refl _⟩ (fun H locs hP hD hS => ?_)
    clear hc15
    refine lv_iload hx hb d_Steps_checkVar_128 (lv_at hl 3 rfl) ?_
    replace hR := bi_e hR
    obtain ⟨r16, l16, T16, hc16, hR⟩ := hR
    refine gcV_i (rest := []) ⟨hx, hb, hml, hown, hT⟩ (h_Scope_addVar _ _ _ _ _ _ hc16) (cwV 2 hT (gV ml_Steps_195 im_Scope_addVar se_Scope_addVar ini_Scope co_Scope_addVar) rfl rfl rfl pd_Scope_addVar ⟨rm_hi, rm_lo (Nat.le_of_ble_eq_true rfl)⟩) hK hP hD hS hA hnw henv (Nat.le_of_ble_eq_true rfl) rfl rfl hl.1 rfl (Nat.le_of_ble_eq_true rfl) d_Steps_checkVar_130 ⟨Nat.le_refl _, Nat.le_refl _⟩ (fun H locs hP hD hS => ?_)
    clear hc16
    refine lv_istore (lv' := [(7, .int r16), (0, .ref (ad 9)), (3, .int x3), (4, .int x4), (5, .int x5), (6, .int x6)]) hx hb d_Steps_checkVar_133 hl (by decide) rfl (fun ls hl => ?_)
    refine lv_iload hx hb d_Steps_checkVar_135 (lv_at hl 3 rfl) ?_
    refine lv_if_eq (tgt := 151) hx hb d_Steps_checkVar_137 (by decide) (fun c17 => ?_) (fun c17 => ?_)
    · replace hR := if_p c17 hR
      obtain ⟨-, -, e3⟩ := re_e hR
      subst e3
      exact W.vret hx hb hr (fun t ht hW => ⟨⟨(), rfl, trivial, by rw [ht]; exact hP, va_K.moved hW.alike hK, hD⟩, hS.F ht⟩) hS.2.2 d_Steps_checkVar_151
    · replace hR := if_n c17 hR
      refine lv_aload_n hx hb d_Steps_checkVar_140 rfl (lv_at hl 1 rfl) ?_
      refine rd_Steps_35 hx hb hT hown hK hP d_Steps_checkVar_141 ?_
      refine lv_iload hx hb d_Steps_checkVar_144 (lv_at hl 0 rfl) ?_
      refine lv_iload hx hb d_Steps_checkVar_146 (lv_at hl 5 rfl) ?_
      replace hR := bi_e hR
      obtain ⟨r18, l18, T18, hc18, hR⟩ := hR
      refine gcV_v (rest := []) ⟨hx, hb, hml, hown, hT⟩ (h_Exprs_giveVar _ _ _ _ _ _ hc18) (cwV 2 hT (gV ml_Steps_199 im_Exprs_giveVar se_Exprs_giveVar ini_Exprs co_Exprs_giveVar) rfl rfl rfl pd_Exprs_giveVar ⟨rm_hi, rm_lo (Nat.le_of_ble_eq_true rfl)⟩) hK hP hD hS hA hnw henv (Nat.le_of_ble_eq_true rfl) rfl rfl hl.1 rfl (Nat.le_of_ble_eq_true rfl) d_Steps_checkVar_148 ⟨Nat.le_refl _, Nat.le_refl _⟩ (fun H locs hP hD hS => ?_)
      clear hc18
      obtain ⟨-, -, e3⟩ := re_e hR
      subst e3
      exact W.vret hx hb hr (fun t ht hW => ⟨⟨(), rfl, trivial, by rw [ht]; exact hP, va_K.moved hW.alike hK, hD⟩, hS.F ht⟩) hS.2.2 d_Steps_checkVar_151
  have lb_76 : ∀ (T : gSt) (x3 : Int32) (x4 : Int32) (x5 : Int32) (x6 : Int32), rj_Steps_checkVar_76 F nf T x3 x4 x5 x6 = some (r0, rl0, T9) → G 76 [(0, .ref (ad 9)), (3, .int x3), (4, .int x4), (5, .int x5), (6, .int x6)] [] T := by
    intro T x3 x4 x5 x6 hR; unfold rj_Steps_checkVar_76 at hR; rw [hG]; intro H locs hP hD hS ls hl
    refine lv_aload_n hx hb d_Steps_checkVar_76 rfl (lv_at hl 0 rfl) ?_
    refine rd_Steps_35 hx hb hT hown hK hP d_Steps_checkVar_77 ?_
    refine lv_aload_n hx hb d_Steps_checkVar_80 rfl (lv_at hl 0 rfl) ?_
    refine rd_Steps_34 hx hb hT hown hK hP d_Steps_checkVar_81 ?_
    refine lv_aload_n hx hb d_Steps_checkVar_84 rfl (lv_at hl 0 rfl) ?_
    refine rd_Steps_9 hx hb hT hown hK hP d_Steps_checkVar_85 ?_
    refine lv_iload_n hx hb d_Steps_checkVar_88 rfl (lv_at hl 1 rfl) ?_
    replace hR := bi_e hR
    obtain ⟨r10, l10, T10, hc10, hR⟩ := hR
    refine gcV_l (rest := [.ref (ad 6), .ref (ad 8)]) ⟨hx, hb, hml, hown, hT⟩ (h_Source_nameAt _ _ _ _ _ hc10) (cwV 1 hT (gV ml_Steps_183 im_Source_nameAt se_Source_nameAt ini_Source co_Source_nameAt) rfl rfl rfl pd_Source_nameAt ⟨rm_hi, rm_lo (Nat.le_of_ble_eq_true rfl)⟩) hK hP hD hS hA hnw henv (Nat.le_of_ble_eq_true rfl) rfl rfl hl.1 rfl (Nat.le_of_ble_eq_true rfl) d_Steps_checkVar_89 ⟨Nat.le_refl _, Nat.le_refl _⟩ (fun H locs hP hD hS => ?_)
    clear hc10
    replace hR := bi_e hR
    obtain ⟨r11, l11, T11, hc11, hR⟩ := hR
    refine gcV_i (rest := [.ref (ad 8)]) ⟨hx, hb, hml, hown, hT⟩ (h_Scope_findVar _ _ _ _ _ hc11) (cwV 1 hT (gV ml_Steps_187 im_Scope_findVar se_Scope_findVar ini_Scope co_Scope_findVar) rfl rfl rfl pd_Scope_findVar ⟨rm_hi, rm_lo (Nat.le_of_ble_eq_true rfl)⟩) hK hP hD hS hA hnw henv (Nat.le_of_ble_eq_true rfl) rfl rfl hl.1 rfl (Nat.le_of_ble_eq_true rfl) d_Steps_checkVar_92 ⟨Nat.le_refl _, Nat.le_refl _⟩ (fun H locs hP hD hS => ?_)
    clear hc11
    refine lv_iconst (v := (-1)) hx hb d_Steps_checkVar_95 (by decide) ?_
    refine lv_icmp_ne (tgt := 103) hx hb d_Steps_checkVar_96 (by decide) (fun c12 => ?_) (fun c12 => ?_)
    · replace hR := if_n c12 hR
      refine lv_iconst (v := 0) hx hb d_Steps_checkVar_103 (by decide) ?_
      have g := lb_104 T11 x3 x4 x5 x6 (0 : Int32) hR
      rw [hG] at g
      exact g _ _ hP hD hS _ (lv_sub hl [0, 1, 2, 3, 4] rfl)
    · replace hR := if_p c12 hR
      refine lv_iconst (v := 1) hx hb d_Steps_checkVar_99 (by decide) ?_
      refine lv_goto (tgt := 104) hx hb d_Steps_checkVar_100 (by decide) ?_
      have g := lb_104 T11 x3 x4 x5 x6 (1 : Int32) hR
      rw [hG] at g
      exact g _ _ hP hD hS _ (lv_sub hl [0, 1, 2, 3, 4] rfl)
  unfold rb_Steps_checkVar at hR
  refine lv_aload_n hx hb d_Steps_checkVar_0 rfl (lv_at hl 0 rfl) ?_
  refine rd_Steps_9 hx hb hT hown hK hP d_Steps_checkVar_1 ?_
  refine rd_Steps_103 hx hb hT hown hK hP d_Steps_checkVar_4 ?_
  refine lv_iload_n hx hb d_Steps_checkVar_7 rfl (lv_at hl 1 rfl) ?_
  replace hR := gd_e hR
  obtain ⟨b1, hR⟩ := hR
  refine laH_2 hx hb hK hP b1 d_Steps_checkVar_8 ?_
  refine lv_iconst (v := 1) hx hb d_Steps_checkVar_9 (by decide) ?_
  refine lv_iadd hx hb d_Steps_checkVar_10 ?_
  refine lv_topi (fun z2 e2 => ?_)
  replace hR := vK_e e2 hR
  refine lv_istore_n (lv' := [(3, .int z2), (0, .ref (ad 9)), (1, .int p1), (2, .int p2)]) hx hb d_Steps_checkVar_11 rfl hl (by decide) rfl (fun ls hl => ?_)
  refine lv_aload_n hx hb d_Steps_checkVar_12 rfl (lv_at hl 1 rfl) ?_
  refine rd_Steps_9 hx hb hT hown hK hP d_Steps_checkVar_13 ?_
  refine rd_Steps_128 hx hb hT hown hK hP d_Steps_checkVar_16 ?_
  refine lv_iload_n hx hb d_Steps_checkVar_19 rfl (lv_at hl 2 rfl) ?_
  replace hR := gd_e hR
  obtain ⟨b3, hR⟩ := hR
  refine laH_7 hx hb hK hP b3 d_Steps_checkVar_20 ?_
  refine lv_topi (fun z4 e4 => ?_)
  replace hR := vK_e e4 hR
  refine lv_istore (lv' := [(4, .int z4), (3, .int z2), (0, .ref (ad 9)), (1, .int p1), (2, .int p2)]) hx hb d_Steps_checkVar_21 hl (by decide) rfl (fun ls hl => ?_)
  refine lv_aload_n hx hb d_Steps_checkVar_23 rfl (lv_at hl 2 rfl) ?_
  refine rd_Steps_39 hx hb hT hown hK hP d_Steps_checkVar_24 ?_
  refine lv_iconst (v := 2) hx hb d_Steps_checkVar_27 (by decide) ?_
  replace hR := bi_e hR
  obtain ⟨r5, l5, T5, hc5, hR⟩ := hR
  refine gcV_v (rest := []) ⟨hx, hb, hml, hown, hT⟩ (h_Code_tally _ _ _ _ _ hc5) (cwV 1 hT (gV ml_Steps_174 im_Code_tally se_Code_tally ini_Code co_Code_tally) rfl rfl rfl pd_Code_tally ⟨rm_hi, rm_lo (Nat.le_of_ble_eq_true rfl)⟩) hK hP hD hS hA hnw henv (Nat.le_of_ble_eq_true rfl) rfl rfl hl.1 rfl (Nat.le_of_ble_eq_true rfl) d_Steps_checkVar_28 ⟨Nat.le_refl _, Nat.le_refl _⟩ (fun H locs hP hD hS => ?_)
  clear hc5
  refine lv_aload_n hx hb d_Steps_checkVar_31 rfl (lv_at hl 2 rfl) ?_
  refine rd_Steps_19 hx hb hT hown hK hP d_Steps_checkVar_32 ?_
  refine lv_iload_n hx hb d_Steps_checkVar_35 rfl (lv_at hl 1 rfl) ?_
  refine lv_iconst (v := 2) hx hb d_Steps_checkVar_36 (by decide) ?_
  refine lv_iadd hx hb d_Steps_checkVar_37 ?_
  refine lv_iconst (v := 1) hx hb d_Steps_checkVar_38 (by decide) ?_
  replace hR := bi_e hR
  obtain ⟨r6, l6, T6, hc6, hR⟩ := hR
  refine gcV_i (rest := []) ⟨hx, hb, hml, hown, hT⟩ (h_Heads_readType _ _ _ _ _ _ hc6) (cwV 2 hT (gV ml_Steps_177 im_Heads_readType se_Heads_readType ini_Heads co_Heads_readType) rfl rfl rfl pd_Heads_readType ⟨rm_hi, rm_lo (Nat.le_of_ble_eq_true rfl)⟩) hK hP hD hS hA hnw henv (Nat.le_of_ble_eq_true rfl) rfl rfl hl.1 rfl (Nat.le_of_ble_eq_true rfl) d_Steps_checkVar_39 ⟨Nat.le_refl _, Nat.le_refl _⟩ (fun H locs hP hD hS => ?_)
  clear hc6
  refine lv_istore (lv' := [(5, .int r6), (4, .int z4), (3, .int z2), (0, .ref (ad 9)), (1, .int p1), (2, .int p2)]) hx hb d_Steps_checkVar_42 hl (by decide) rfl (fun ls hl => ?_)
  refine lv_aload_n hx hb d_Steps_checkVar_44 rfl (lv_at hl 3 rfl) ?_
  refine rd_Steps_35 hx hb hT hown hK hP d_Steps_checkVar_45 ?_
  refine lv_iload hx hb d_Steps_checkVar_48 (lv_at hl 1 rfl) ?_
  refine lv_iload_n hx hb d_Steps_checkVar_50 rfl (lv_at hl 5 rfl) ?_
  refine lv_iconst (v := 1) hx hb d_Steps_checkVar_51 (by decide) ?_
  refine lv_iadd hx hb d_Steps_checkVar_52 ?_
  replace hR := bi_e hR
  obtain ⟨r7, l7, T7, hc7, hR⟩ := hR
  refine gcV_i (rest := []) ⟨hx, hb, hml, hown, hT⟩ (h_Exprs_check _ _ _ _ _ _ hc7) (cwV 2 hT (gV ml_Steps_146 im_Exprs_check se_Exprs_check ini_Exprs co_Exprs_check) rfl rfl rfl pd_Exprs_check ⟨rm_hi, rm_lo (Nat.le_of_ble_eq_true rfl)⟩) hK hP hD hS hA hnw henv (Nat.le_of_ble_eq_true rfl) rfl rfl hl.1 rfl (Nat.le_of_ble_eq_true rfl) d_Steps_checkVar_53 ⟨Nat.le_refl _, Nat.le_refl _⟩ (fun H locs hP hD hS => ?_)
  clear hc7
  refine lv_istore (lv' := [(6, .int r7), (5, .int r6), (4, .int z4), (3, .int z2), (0, .ref (ad 9)), (1, .int p1), (2, .int p2)]) hx hb d_Steps_checkVar_56 hl (by decide) rfl (fun ls hl => ?_)
  refine lv_iload hx hb d_Steps_checkVar_58 (lv_at hl 2 rfl) ?_
  refine lv_if_eq (tgt := 76) hx hb d_Steps_checkVar_60 (by decide) (fun c8 => ?_) (fun c8 => ?_)
  · replace hR := if_p c8 hR
    have g := lb_76 T7 z2 z4 r6 r7 hR
    rw [hG] at g
    exact g _ _ hP hD hS _ (lv_sub hl [4, 3, 2, 1, 0] rfl)
  · replace hR := if_n c8 hR
    refine lv_aload_n hx hb d_Steps_checkVar_63 rfl (lv_at hl 4 rfl) ?_
    refine rd_Steps_35 hx hb hT hown hK hP d_Steps_checkVar_64 ?_
    refine lv_iload hx hb d_Steps_checkVar_67 (lv_at hl 0 rfl) ?_
    refine lv_iload hx hb d_Steps_checkVar_69 (lv_at hl 1 rfl) ?_
    refine lv_iload hx hb d_Steps_checkVar_71 (lv_at hl 2 rfl) ?_
    replace hR := bi_e hR
    obtain ⟨r9, l9, T9, hc9, hR⟩ := hR
    refine gcV_v (rest := []) ⟨hx, hb, hml, hown, hT⟩ (h_Exprs_demandFit _ _ _ _ _ _ _ hc9) (cwV 3 hT (gV ml_Steps_180 im_Exprs_demandFit se_Exprs_demandFit ini_Exprs co_Exprs_demandFit) rfl rfl rfl pd_Exprs_demandFit ⟨rm_hi, rm_lo (Nat.le_of_ble_eq_true rfl)⟩) hK hP hD hS hA hnw henv (Nat.le_of_ble_eq_true rfl) rfl rfl hl.1 rfl (Nat.le_of_ble_eq_true rfl) d_Steps_checkVar_73 ⟨Nat.le_refl _, Nat.le_refl _⟩ (fun H locs hP hD hS => ?_)
    clear hc9
    have g := lb_76 T9 z2 z4 r6 r7 hR
    rw [hG] at g
    exact g _ _ hP hD hS _ (lv_sub hl [4, 3, 2, 1, 0] rfl)
set_option maxHeartbeats 4000000 in
set_option maxRecDepth 100000 in
theorem sp_Steps_checkReturn (l : Launch) (dC : Nat → ClassId) (dI : Nat → Nat → Nat) (ea ev ad : Nat → Nat) (km : Nat → ClassId) (F : gF) (nf d : Nat) (h_Source_startOf : mt_Source_startOf l dC dI ea ev ad km F d) (h_Exprs_demand : mt_Exprs_demand l dC dI ea ev ad km F d) (h_Types_wordsOf : mt_Types_wordsOf l dC dI ea ev ad km F d) (h_Code_emit : mt_Code_emit l dC dI ea ev ad km F d) (h_Scope_leave : mt_Scope_leave l dC dI ea ev ad km F d) (h_Exprs_checkFits : mt_Exprs_checkFits l dC dI ea ev ad km F d) (T0 : gSt) (p1 : Int32) (p2 : Int32) (r0 : Int32) (rl0 : Int64) (T9 : gSt) (hR : rb_Steps_checkReturn F nf T0 p1 p2 = some (r0, rl0, T9)) : GMv l dC dI LH ad km ea ev y_Steps_checkReturn w_Steps_checkReturn (rmD (d + 1)) [.ref (ad 9), .int p1, .int p2] T0 T9 := by
  intro sz
  refine Met.ofW (cc := b_Steps_checkReturn) (maxL := 5) (ret := none) (by decide) rfl ?_
  intro p e s m args below meth c s₁ B hml hv
  obtain ⟨rfl, hsz, hP, hK, hD0, hnw, henv⟩ := hv
  have hx := B.exec
  have hb := B.bytes
  have hr := B.returns
  have hT : ∀ w ∈ lw_good, w.before _ s = true := fun w h => atoms_spec (ws := w_Steps_checkReturn) B.pre w (List.mem_cons_of_mem _ h)
  have hown : s.vm.findClass R_Steps = some m.cls := findClass_of_methodNamed B.named
  subst hsz
  have hD := hD0.self (sz := s.heap.size)
  clear hD0
  generalize hAe : va_A (gW LH ad km T0) s.heap.size = A at hD henv ⊢
  have hA : ∀ q : Nat, s.heap.size ≤ q → A q := fun q h => by rw [← hAe]; exact Or.inr h
  have hS : va_S A s.heap s.heap [] := va_S.rf
  have hl := lv_entry ([.ref (ad 9), .int p1, .int p2]) (n := 5) (Nat.le_of_ble_eq_true rfl)
  rw [lg_entry_eq]
  generalize (lg_sl ([.ref (ad 9), .int p1, .int p2]) ++ List.replicate (5 - (lg_sl ([.ref (ad 9), .int p1, .int p2])).length) Slot.unset).toArray = ls at hl ⊢
  have hl : lv_has ls 5 [(0, .ref (ad 9)), (1, .int p1), (2, .int p2)] := hl
  obtain ⟨G, hG⟩ : ∃ G : Nat → List (Nat × Value) → List Value → gSt → Prop, G = (fun pc lv stk T => ∀ (H : Heap) (locs : List Loc), va_P (dC, dI) cls_all (gW LH ad km T) H → va_D A (gW LH ad km T) → va_S A s.heap H locs → ∀ (ls : Array Slot), lv_has ls 5 lv → W p l e (headSpec w_Steps_checkReturn (rmD (d + 1))).room s m ([.ref (ad 9), .int p1, .int p2] : List Value).toArray below meth c H locs 0 0 (MQ below (va_Qv (fun (_ : Unit) => True) (fun _ t => gPost dC dI LH ad km T9 A t) A) ([.ref (ad 9), .int p1, .int p2] : List Value).toArray s 0 0 A) (F0 m pc ls stk)) := ⟨_, rfl⟩
  have lb_58 : ∀ (T : gSt) (x1 : Int32) (x2 : Int32) (x3 : Int32) (x4 : Int32) (y0 : Int32), rj_Steps_checkReturn_58 F nf T x1 x2 x3 x4 y0 = some (r0, rl0, T9) → G 58 [(0, .ref (ad 9)), (1, .int x1), (2, .int x2), (3, .int x3), (4, .int x4)] [.int y0, .ref (ad 8)] T := by
    intro T x1 x2 x3 x4 y0 hR; unfold rj_Steps_checkReturn_58 at hR; rw [hG]; intro H locs hP hD hS ls hl
    refine lv_bipush (v := 8) hx hb d_Steps_checkReturn_58 (by decide) ?_
    refine lv_aload_n hx hb d_Steps_checkReturn_60 rfl (lv_at hl 0 rfl) ?_
    refine rd_Steps_9 hx hb hT hown hK hP d_Steps_checkReturn_61 ?_
    refine lv_aload_n hx hb d_Steps_checkReturn_64 rfl (lv_at hl 0 rfl) ?_
    refine rd_Steps_9 hx hb hT hown hK hP d_Steps_checkReturn_65 ?_
    refine rd_Steps_103 hx hb hT hown hK hP d_Steps_checkReturn_68 ?_
    refine lv_iload_n hx hb d_Steps_checkReturn_71 rfl (lv_at hl 1 rfl) ?_
    replace hR := gd_e hR
    obtain ⟨b9, hR⟩ := hR
    refine laH_2 hx hb hK hP b9 d_Steps_checkReturn_72 ?_
    replace hR := bi_e hR
    obtain ⟨r10, l10, T10, hc10, hR⟩ := hR
    refine gcV_i (rest := [.int (8 : Int32), .int y0, .ref (ad 8)]) ⟨hx, hb, hml, hown, hT⟩ (h_Source_startOf _ _ _ _ _ hc10) (cwV 1 hT (gV ml_Steps_87 im_Source_startOf se_Source_startOf ini_Source co_Source_startOf) rfl rfl rfl pd_Source_startOf ⟨rm_hi, rm_lo (Nat.le_of_ble_eq_true rfl)⟩) hK hP hD hS hA hnw henv (Nat.le_of_ble_eq_true rfl) rfl rfl hl.1 rfl (Nat.le_of_ble_eq_true rfl) d_Steps_checkReturn_73 ⟨Nat.le_refl _, Nat.le_refl _⟩ (fun H locs hP hD hS => ?_)
    clear hc10
    replace hR := bi_e hR
    obtain ⟨r11, l11, T11, hc11, hR⟩ := hR
    refine gcV_v (rest := []) ⟨hx, hb, hml, hown, hT⟩ (h_Exprs_demand _ _ _ _ _ _ _ hc11) (cwV 3 hT (gV ml_Steps_191 im_Exprs_demand se_Exprs_demand ini_Exprs co_Exprs_demand) rfl rfl rfl pd_Exprs_demand ⟨rm_hi, rm_lo (Nat.le_of_ble_eq_true rfl)⟩) hK hP hD hS hA hnw henv (Nat.le_of_ble_eq_true rfl) rfl rfl hl.1 rfl (Nat.le_of_ble_eq_true rfl) d_Steps_checkReturn_76 ⟨Nat.le_refl _, Nat.le_refl _⟩ (fun H locs hP hD hS => ?_)
    clear hc11
    refine lv_iload_n hx hb d_Steps_checkReturn_79 rfl (lv_at hl 3 rfl) ?_
    refine lv_if_eq (tgt := 96) hx hb d_Steps_checkReturn_80 (by decide) (fun c12 => ?_) (fun c12 => ?_)
    · replace hR := if_p c12 hR
      refine lv_aload_n hx hb d_Steps_checkReturn_96 rfl (lv_at hl 0 rfl) ?_
      refine rd_Steps_39 hx hb hT hown hK hP d_Steps_checkReturn_97 ?_
      refine lv_bipush (v := 58) hx hb d_Steps_checkReturn_100 (by decide) ?_
      refine lv_aload_n hx hb d_Steps_checkReturn_102 rfl (lv_at hl 0 rfl) ?_
      refine rd_Steps_29 hx hb hT hown hK hP d_Steps_checkReturn_103 ?_
      refine lv_iload hx hb d_Steps_checkReturn_106 (lv_at hl 4 rfl) ?_
      replace hR := bi_e hR
      obtain ⟨r13, l13, T13, hc13, hR⟩ := hR
      refine gcV_i (rest := [.int (58 : Int32), .ref (ad 3)]) ⟨hx, hb, hml, hown, hT⟩ (h_Types_wordsOf _ _ _ _ _ hc13) (cwV 1 hT (gV ml_Steps_166 im_Types_wordsOf se_Types_wordsOf ini_Types co_Types_wordsOf) rfl rfl rfl pd_Types_wordsOf ⟨rm_hi, rm_lo (Nat.le_of_ble_eq_true rfl)⟩) hK hP hD hS hA hnw henv (Nat.le_of_ble_eq_true rfl) rfl rfl hl.1 rfl (Nat.le_of_ble_eq_true rfl) d_Steps_checkReturn_108 ⟨Nat.le_refl _, Nat.le_refl _⟩ (fun H locs hP hD hS => ?_)
      clear hc13
      refine lv_iconst (v := 0) hx hb d_Steps_checkReturn_111 (by decide) ?_
      replace hR := bi_e hR
      obtain ⟨r14, l14, T14, hc14, hR⟩ := hR
      refine gcV_i (rest := []) ⟨hx, hb, hml, hown, hT⟩ (h_Code_emit _ _ _ _ _ _ _ hc14) (cwV 3 hT (gV ml_Steps_96 im_Code_emit se_Code_emit ini_Code co_Code_emit) rfl rfl rfl pd_Code_emit ⟨rm_hi, rm_lo (Nat.le_of_ble_eq_true rfl)⟩) hK hP hD hS hA hnw henv (Nat.le_of_ble_eq_true rfl) rfl rfl hl.1 rfl (Nat.le_of_ble_eq_true rfl) d_Steps_checkReturn_112 ⟨Nat.le_refl _, Nat.le_refl _⟩ (fun H locs hP hD hS => ?_)
      clear hc14
      refine lv_pop hx hb d_Steps_checkReturn_115 rfl ?_
      refine lv_aload_n hx hb d_Steps_checkReturn_116 rfl (lv_at hl 0 rfl) ?_
      refine rd_Steps_34 hx hb hT hown hK hP d_Steps_checkReturn_117 ?_
      replace hR := bi_e hR
      obtain ⟨r15, l15, T15, hc15, hR⟩ := hR
      refine gcV_v (rest := []) ⟨hx, hb, hml, hown, hT⟩ (h_Scope_leave _ _ _ _ hc15) (cwV 0 hT (gV ml_Steps_134 im_Scope_leave se_Scope_leave ini_Scope co_Scope_leave) rfl rfl rfl pd_Scope_leave ⟨rm_hi, rm_lo (Nat.le_of_ble_eq_true rfl)⟩) hK hP hD hS hA hnw henv (Nat.le_of_ble_eq_true rfl) rfl rfl hl.1 rfl (Nat.le_of_ble_eq_true rfl) d_Steps_checkReturn_120 ⟨Nat.le_refl _, Nat.le_refl _⟩ (fun H locs hP hD hS => ?_)
      clear hc15
      obtain ⟨-, -, e3⟩ := re_e hR
      subst e3
      exact W.vret hx hb hr (fun t ht hW => ⟨⟨(), rfl, trivial, by rw [ht]; exact hP, va_K.moved hW.alike hK, hD⟩, hS.F ht⟩) hS.2.2 d_Steps_checkReturn_123
    · replace hR := if_n c12 hR
      refine lv_aload_n hx hb d_Steps_checkReturn_83 rfl (lv_at hl 0 rfl) ?_
      refine rd_Steps_35 hx hb hT hown hK hP d_Steps_checkReturn_84 ?_
      refine lv_iload_n hx hb d_Steps_checkReturn_87 rfl (lv_at hl 3 rfl) ?_
      refine lv_iload hx hb d_Steps_checkReturn_88 (lv_at hl 4 rfl) ?_
      refine lv_iload_n hx hb d_Steps_checkReturn_90 rfl (lv_at hl 2 rfl) ?_
      refine lv_iconst (v := 1) hx hb d_Steps_checkReturn_91 (by decide) ?_
      refine lv_iadd hx hb d_Steps_checkReturn_92 ?_
      replace hR := bi_e hR
      obtain ⟨r16, l16, T16, hc16, hR⟩ := hR
      refine gcV_v (rest := []) ⟨hx, hb, hml, hown, hT⟩ (h_Exprs_checkFits _ _ _ _ _ _ _ hc16) (cwV 3 hT (gV ml_Steps_171 im_Exprs_checkFits se_Exprs_checkFits ini_Exprs co_Exprs_checkFits) rfl rfl rfl pd_Exprs_checkFits ⟨rm_hi, rm_lo (Nat.le_of_ble_eq_true rfl)⟩) hK hP hD hS hA hnw henv (Nat.le_of_ble_eq_true rfl) rfl rfl hl.1 rfl (Nat.le_of_ble_eq_true rfl) d_Steps_checkReturn_93 ⟨Nat.le_refl _, Nat.le_refl _⟩ (fun H locs hP hD hS => ?_)
      clear hc16
      refine lv_aload_n hx hb d_Steps_checkReturn_96 rfl (lv_at hl 0 rfl) ?_
      refine rd_Steps_39 hx hb hT hown hK hP d_Steps_checkReturn_97 ?_
      refine lv_bipush (v := 58) hx hb d_Steps_checkReturn_100 (by decide) ?_
      refine lv_aload_n hx hb d_Steps_checkReturn_102 rfl (lv_at hl 0 rfl) ?_
      refine rd_Steps_29 hx hb hT hown hK hP d_Steps_checkReturn_103 ?_
      refine lv_iload hx hb d_Steps_checkReturn_106 (lv_at hl 4 rfl) ?_
      replace hR := bi_e hR
      obtain ⟨r17, l17, T17, hc17, hR⟩ := hR
      refine gcV_i (rest := [.int (58 : Int32), .ref (ad 3)]) ⟨hx, hb, hml, hown, hT⟩ (h_Types_wordsOf _ _ _ _ _ hc17) (cwV 1 hT (gV ml_Steps_166 im_Types_wordsOf se_Types_wordsOf ini_Types co_Types_wordsOf) rfl rfl rfl pd_Types_wordsOf ⟨rm_hi, rm_lo (Nat.le_of_ble_eq_true rfl)⟩) hK hP hD hS hA hnw henv (Nat.le_of_ble_eq_true rfl) rfl rfl hl.1 rfl (Nat.le_of_ble_eq_true rfl) d_Steps_checkReturn_108 ⟨Nat.le_refl _, Nat.le_refl _⟩ (fun H locs hP hD hS => ?_)
      clear hc17
      refine lv_iconst (v := 0) hx hb d_Steps_checkReturn_111 (by decide) ?_
      replace hR := bi_e hR
      obtain ⟨r18, l18, T18, hc18, hR⟩ := hR
      refine gcV_i (rest := []) ⟨hx, hb, hml, hown, hT⟩ (h_Code_emit _ _ _ _ _ _ _ hc18) (cwV 3 hT (gV ml_Steps_96 im_Code_emit se_Code_emit ini_Code co_Code_emit) rfl rfl rfl pd_Code_emit ⟨rm_hi, rm_lo (Nat.le_of_ble_eq_true rfl)⟩) hK hP hD hS hA hnw henv (Nat.le_of_ble_eq_true rfl) rfl rfl hl.1 rfl (Nat.le_of_ble_eq_true rfl) d_Steps_checkReturn_112 ⟨Nat.le_refl _, Nat.le_refl _⟩ (fun H locs hP hD hS => ?_)
      clear hc18
      refine lv_pop hx hb d_Steps_checkReturn_115 rfl ?_
      refine lv_aload_n hx hb d_Steps_checkReturn_116 rfl (lv_at hl 0 rfl) ?_
      refine rd_Steps_34 hx hb hT hown hK hP d_Steps_checkReturn_117 ?_
      replace hR := bi_e hR
      obtain ⟨r19, l19, T19, hc19, hR⟩ := hR
      refine gcV_v (rest := []) ⟨hx, hb, hml, hown, hT⟩ (h_Scope_leave _ _ _ _ hc19) (cwV 0 hT (gV ml_Steps_134 im_Scope_leave se_Scope_leave ini_Scope co_Scope_leave) rfl rfl rfl pd_Scope_leave ⟨rm_hi, rm_lo (Nat.le_of_ble_eq_true rfl)⟩) hK hP hD hS hA hnw henv (Nat.le_of_ble_eq_true rfl) rfl rfl hl.1 rfl (Nat.le_of_ble_eq_true rfl) d_Steps_checkReturn_120 ⟨Nat.le_refl _, Nat.le_refl _⟩ (fun H locs hP hD hS => ?_)
      clear hc19
      obtain ⟨-, -, e3⟩ := re_e hR
      subst e3
      exact W.vret hx hb hr (fun t ht hW => ⟨⟨(), rfl, trivial, by rw [ht]; exact hP, va_K.moved hW.alike hK, hD⟩, hS.F ht⟩) hS.2.2 d_Steps_checkReturn_123
  have lb_40 : ∀ (T : gSt) (x1 : Int32) (x2 : Int32) (x3 : Int32) (x4 : Int32) (y0 : Int32), rj_Steps_checkReturn_40 F nf T x1 x2 x3 x4 y0 = some (r0, rl0, T9) → G 40 [(0, .ref (ad 9)), (1, .int x1), (2, .int x2), (3, .int x3), (4, .int x4)] [.int y0, .ref (ad 8)] T := by
    intro T x1 x2 x3 x4 y0 hR; unfold rj_Steps_checkReturn_40 at hR; rw [hG]; intro H locs hP hD hS ls hl
    refine lv_iload hx hb d_Steps_checkReturn_40 (lv_at hl 4 rfl) ?_
    refine lv_if_eq (tgt := 49) hx hb d_Steps_checkReturn_42 (by decide) (fun c6 => ?_) (fun c6 => ?_)
    · replace hR := if_p c6 hR
      refine lv_iconst (v := 0) hx hb d_Steps_checkReturn_49 (by decide) ?_
      refine lv_icmp_ne (tgt := 57) hx hb d_Steps_checkReturn_50 (by decide) (fun c7 => ?_) (fun c7 => ?_)
      · replace hR := if_n c7 hR
        refine lv_iconst (v := 0) hx hb d_Steps_checkReturn_57 (by decide) ?_
        have g := lb_58 T x1 x2 x3 x4 (0 : Int32) hR
        rw [hG] at g
        exact g _ _ hP hD hS _ (lv_sub hl [0, 1, 2, 3, 4] rfl)
      · replace hR := if_p c7 hR
        refine lv_iconst (v := 1) hx hb d_Steps_checkReturn_53 (by decide) ?_
        refine lv_goto (tgt := 58) hx hb d_Steps_checkReturn_54 (by decide) ?_
        have g := lb_58 T x1 x2 x3 x4 (1 : Int32) hR
        rw [hG] at g
        exact g _ _ hP hD hS _ (lv_sub hl [0, 1, 2, 3, 4] rfl)
    · replace hR := if_n c6 hR
      refine lv_iconst (v := 1) hx hb d_Steps_checkReturn_45 (by decide) ?_
      refine lv_goto (tgt := 50) hx hb d_Steps_checkReturn_46 (by decide) ?_
      refine lv_icmp_ne (tgt := 57) hx hb d_Steps_checkReturn_50 (by decide) (fun c8 => ?_) (fun c8 => ?_)
      · replace hR := if_n c8 hR
        refine lv_iconst (v := 0) hx hb d_Steps_checkReturn_57 (by decide) ?_
        have g := lb_58 T x1 x2 x3 x4 (0 : Int32) hR
        rw [hG] at g
        exact g _ _ hP hD hS _ (lv_sub hl [0, 1, 2, 3, 4] rfl)
      · replace hR := if_p c8 hR
        refine lv_iconst (v := 1) hx hb d_Steps_checkReturn_53 (by decide) ?_
        refine lv_goto (tgt := 58) hx hb d_Steps_checkReturn_54 (by decide) ?_
        have g := lb_58 T x1 x2 x3 x4 (1 : Int32) hR
        rw [hG] at g
        exact g _ _ hP hD hS _ (lv_sub hl [0, 1, 2, 3, 4] rfl)
  unfold rb_Steps_checkReturn at hR
  refine lv_aload_n hx hb d_Steps_checkReturn_0 rfl (lv_at hl 0 rfl) ?_
  refine rd_Steps_9 hx hb hT hown hK hP d_Steps_checkReturn_1 ?_
  refine rd_Steps_128 hx hb hT hown hK hP d_Steps_checkReturn_4 ?_
  refine lv_iload_n hx hb d_Steps_checkReturn_7 rfl (lv_at hl 1 rfl) ?_
  replace hR := gd_e hR
  obtain ⟨b1, hR⟩ := hR
  refine laH_7 hx hb hK hP b1 d_Steps_checkReturn_8 ?_
  refine lv_topi (fun z2 e2 => ?_)
  replace hR := vK_e e2 hR
  refine lv_istore_n (lv' := [(3, .int z2), (0, .ref (ad 9)), (1, .int p1), (2, .int p2)]) hx hb d_Steps_checkReturn_9 rfl hl (by decide) rfl (fun ls hl => ?_)
  refine lv_aload_n hx hb d_Steps_checkReturn_10 rfl (lv_at hl 1 rfl) ?_
  refine rd_Steps_15 hx hb hT hown hK hP d_Steps_checkReturn_11 ?_
  refine rd_Steps_77 hx hb hT hown hK hP d_Steps_checkReturn_14 ?_
  refine lv_aload_n hx hb d_Steps_checkReturn_17 rfl (lv_at hl 1 rfl) ?_
  refine rd_Steps_34 hx hb hT hown hK hP d_Steps_checkReturn_18 ?_
  refine rd_Steps_202 hx hb hT hown hK hP d_Steps_checkReturn_21 ?_
  replace hR := gd_e hR
  obtain ⟨b3, hR⟩ := hR
  refine laH_23 hx hb hK hP b3 d_Steps_checkReturn_24 ?_
  refine lv_topi (fun z4 e4 => ?_)
  replace hR := vK_e e4 hR
  refine lv_istore (lv' := [(4, .int z4), (3, .int z2), (0, .ref (ad 9)), (1, .int p1), (2, .int p2)]) hx hb d_Steps_checkReturn_25 hl (by decide) rfl (fun ls hl => ?_)
  refine lv_aload_n hx hb d_Steps_checkReturn_27 rfl (lv_at hl 2 rfl) ?_
  refine rd_Steps_35 hx hb hT hown hK hP d_Steps_checkReturn_28 ?_
  refine lv_iload_n hx hb d_Steps_checkReturn_31 rfl (lv_at hl 1 rfl) ?_
  refine lv_if_eq (tgt := 39) hx hb d_Steps_checkReturn_32 (by decide) (fun c5 => ?_) (fun c5 => ?_)
  · replace hR := if_p c5 hR
    refine lv_iconst (v := 0) hx hb d_Steps_checkReturn_39 (by decide) ?_
    have g := lb_40 T0 p1 p2 z2 z4 (0 : Int32) hR
    rw [hG] at g
    exact g _ _ hP hD hS _ (lv_sub hl [2, 3, 4, 1, 0] rfl)
  · replace hR := if_n c5 hR
    refine lv_iconst (v := 1) hx hb d_Steps_checkReturn_35 (by decide) ?_
    refine lv_goto (tgt := 40) hx hb d_Steps_checkReturn_36 (by decide) ?_
    have g := lb_40 T0 p1 p2 z2 z4 (1 : Int32) hR
    rw [hG] at g
    exact g _ _ hP hD hS _ (lv_sub hl [2, 3, 4, 1, 0] rfl)
set_option maxHeartbeats 4000000 in
set_option maxRecDepth 100000 in
theorem sp_Steps_checkQuestion (l : Launch) (dC : Nat → ClassId) (dI : Nat → Nat → Nat) (ea ev ad : Nat → Nat) (km : Nat → ClassId) (F : gF) (nf d : Nat) (h_Exprs_check : mt_Exprs_check l dC dI ea ev ad km F d) (h_Source_beginOf : mt_Source_beginOf l dC dI ea ev ad km F d) (h_Exprs_demand : mt_Exprs_demand l dC dI ea ev ad km F d) (h_Types_isPointed : mt_Types_isPointed l dC dI ea ev ad km F d) (T0 : gSt) (p1 : Int32) (p2 : Int32) (r0 : Int32) (rl0 : Int64) (T9 : gSt) (hR : rb_Steps_checkQuestion F nf T0 p1 p2 = some (r0, rl0, T9)) : GMv l dC dI LH ad km ea ev y_Steps_checkQuestion w_Steps_checkQuestion (rmD (d + 1)) [.ref (ad 9), .int p1, .int p2] T0 T9 := by
  intro sz
  refine Met.ofW (cc := b_Steps_checkQuestion) (maxL := 4) (ret := none) (by decide) rfl ?_
  intro p e s m args below meth c s₁ B hml hv
  obtain ⟨rfl, hsz, hP, hK, hD0, hnw, henv⟩ := hv
  have hx := B.exec
  have hb := B.bytes
  have hr := B.returns
  have hT : ∀ w ∈ lw_good, w.before _ s = true := fun w h => atoms_spec (ws := w_Steps_checkQuestion) B.pre w (List.mem_cons_of_mem _ h)
  have hown : s.vm.findClass R_Steps = some m.cls := findClass_of_methodNamed B.named
  subst hsz
  have hD := hD0.self (sz := s.heap.size)
  clear hD0
  generalize hAe : va_A (gW LH ad km T0) s.heap.size = A at hD henv ⊢
  have hA : ∀ q : Nat, s.heap.size ≤ q → A q := fun q h => by rw [← hAe]; exact Or.inr h
  have hS : va_S A s.heap s.heap [] := va_S.rf
  have hl := lv_entry ([.ref (ad 9), .int p1, .int p2]) (n := 4) (Nat.le_of_ble_eq_true rfl)
  rw [lg_entry_eq]
  generalize (lg_sl ([.ref (ad 9), .int p1, .int p2]) ++ List.replicate (4 - (lg_sl ([.ref (ad 9), .int p1, .int p2])).length) Slot.unset).toArray = ls at hl ⊢
  have hl : lv_has ls 4 [(0, .ref (ad 9)), (1, .int p1), (2, .int p2)] := hl
  unfold rb_Steps_checkQuestion at hR
  refine lv_aload_n hx hb d_Steps_checkQuestion_0 rfl (lv_at hl 0 rfl) ?_
  refine rd_Steps_35 hx hb hT hown hK hP d_Steps_checkQuestion_1 ?_
  refine lv_iload_n hx hb d_Steps_checkQuestion_4 rfl (lv_at hl 1 rfl) ?_
  refine lv_iload_n hx hb d_Steps_checkQuestion_5 rfl (lv_at hl 2 rfl) ?_
  refine lv_iconst (v := 1) hx hb d_Steps_checkQuestion_6 (by decide) ?_
  refine lv_iadd hx hb d_Steps_checkQuestion_7 ?_
  replace hR := bi_e hR
  obtain ⟨r1, l1, T1, hc1, hR⟩ := hR
  refine gcV_i (rest := []) ⟨hx, hb, hml, hown, hT⟩ (h_Exprs_check _ _ _ _ _ _ hc1) (cwV 2 hT (gV ml_Steps_146 im_Exprs_check se_Exprs_check ini_Exprs co_Exprs_check) rfl rfl rfl pd_Exprs_check ⟨rm_hi, rm_lo (Nat.le_of_ble_eq_true rfl)⟩) hK hP hD hS hA hnw henv (Nat.le_of_ble_eq_true rfl) rfl rfl hl.1 rfl (Nat.le_of_ble_eq_true rfl) d_Steps_checkQuestion_8 ⟨Nat.le_refl _, Nat.le_refl _⟩ (fun H locs hP hD hS => ?_)
  clear hc1
  refine lv_istore_n (lv' := [(3, .int r1), (0, .ref (ad 9)), (1, .int p1), (2, .int p2)]) hx hb d_Steps_checkQuestion_11 rfl hl (by decide) rfl (fun ls hl => ?_)
  refine lv_aload_n hx hb d_Steps_checkQuestion_12 rfl (lv_at hl 1 rfl) ?_
  refine rd_Steps_35 hx hb hT hown hK hP d_Steps_checkQuestion_13 ?_
  refine lv_iload_n hx hb d_Steps_checkQuestion_16 rfl (lv_at hl 0 rfl) ?_
  refine lv_iconst (v := 1) hx hb d_Steps_checkQuestion_17 (by decide) ?_
  refine lv_icmp_eq (tgt := 32) hx hb d_Steps_checkQuestion_18 (by decide) (fun c2 => ?_) (fun c2 => ?_)
  · replace hR := if_p c2 hR
    refine lv_iconst (v := 1) hx hb d_Steps_checkQuestion_32 (by decide) ?_
    refine lv_goto (tgt := 37) hx hb d_Steps_checkQuestion_33 (by decide) ?_
    refine lv_iconst (v := 4) hx hb d_Steps_checkQuestion_37 (by decide) ?_
    refine lv_aload_n hx hb d_Steps_checkQuestion_38 rfl (lv_at hl 1 rfl) ?_
    refine rd_Steps_9 hx hb hT hown hK hP d_Steps_checkQuestion_39 ?_
    refine lv_iload_n hx hb d_Steps_checkQuestion_42 rfl (lv_at hl 2 rfl) ?_
    replace hR := bi_e hR
    obtain ⟨r3, l3, T3, hc3, hR⟩ := hR
    refine gcV_i (rest := [.int (4 : Int32), .int (1 : Int32), .ref (ad 8)]) ⟨hx, hb, hml, hown, hT⟩ (h_Source_beginOf _ _ _ _ _ hc3) (cwV 1 hT (gV ml_Steps_209 im_Source_beginOf se_Source_beginOf ini_Source co_Source_beginOf) rfl rfl rfl pd_Source_beginOf ⟨rm_hi, rm_lo (Nat.le_of_ble_eq_true rfl)⟩) hK hP hD hS hA hnw henv (Nat.le_of_ble_eq_true rfl) rfl rfl hl.1 rfl (Nat.le_of_ble_eq_true rfl) d_Steps_checkQuestion_43 ⟨Nat.le_refl _, Nat.le_refl _⟩ (fun H locs hP hD hS => ?_)
    clear hc3
    replace hR := bi_e hR
    obtain ⟨r4, l4, T4, hc4, hR⟩ := hR
    refine gcV_v (rest := []) ⟨hx, hb, hml, hown, hT⟩ (h_Exprs_demand _ _ _ _ _ _ _ hc4) (cwV 3 hT (gV ml_Steps_191 im_Exprs_demand se_Exprs_demand ini_Exprs co_Exprs_demand) rfl rfl rfl pd_Exprs_demand ⟨rm_hi, rm_lo (Nat.le_of_ble_eq_true rfl)⟩) hK hP hD hS hA hnw henv (Nat.le_of_ble_eq_true rfl) rfl rfl hl.1 rfl (Nat.le_of_ble_eq_true rfl) d_Steps_checkQuestion_46 ⟨Nat.le_refl _, Nat.le_refl _⟩ (fun H locs hP hD hS => ?_)
    clear hc4
    obtain ⟨-, -, e3⟩ := re_e hR
    subst e3
    exact W.vret hx hb hr (fun t ht hW => ⟨⟨(), rfl, trivial, by rw [ht]; exact hP, va_K.moved hW.alike hK, hD⟩, hS.F ht⟩) hS.2.2 d_Steps_checkQuestion_49
  · replace hR := if_n c2 hR
    refine lv_aload_n hx hb d_Steps_checkQuestion_21 rfl (lv_at hl 1 rfl) ?_
    refine rd_Steps_29 hx hb hT hown hK hP d_Steps_checkQuestion_22 ?_
    refine lv_iload_n hx hb d_Steps_checkQuestion_25 rfl (lv_at hl 0 rfl) ?_
    replace hR := bi_e hR
    obtain ⟨r5, l5, T5, hc5, hR⟩ := hR
    refine gcV_i (rest := [.ref (ad 8)]) ⟨hx, hb, hml, hown, hT⟩ (h_Types_isPointed _ _ _ _ _ hc5) (cwV 1 hT (gV ml_Steps_205 im_Types_isPointed se_Types_isPointed ini_Types co_Types_isPointed) rfl rfl rfl pd_Types_isPointed ⟨rm_hi, rm_lo (Nat.le_of_ble_eq_true rfl)⟩) hK hP hD hS hA hnw henv (Nat.le_of_ble_eq_true rfl) rfl rfl hl.1 rfl (Nat.le_of_ble_eq_true rfl) d_Steps_checkQuestion_26 ⟨Nat.le_refl _, Nat.le_refl _⟩ (fun H locs hP hD hS => ?_)
    clear hc5
    refine lv_if_eq (tgt := 36) hx hb d_Steps_checkQuestion_29 (by decide) (fun c6 => ?_) (fun c6 => ?_)
    · replace hR := if_p c6 hR
      refine lv_iconst (v := 0) hx hb d_Steps_checkQuestion_36 (by decide) ?_
      refine lv_iconst (v := 4) hx hb d_Steps_checkQuestion_37 (by decide) ?_
      refine lv_aload_n hx hb d_Steps_checkQuestion_38 rfl (lv_at hl 1 rfl) ?_
      refine rd_Steps_9 hx hb hT hown hK hP d_Steps_checkQuestion_39 ?_
      refine lv_iload_n hx hb d_Steps_checkQuestion_42 rfl (lv_at hl 2 rfl) ?_
      replace hR := bi_e hR
      obtain ⟨r7, l7, T7, hc7, hR⟩ := hR
      refine gcV_i (rest := [.int (4 : Int32), .int (0 : Int32), .ref (ad 8)]) ⟨hx, hb, hml, hown, hT⟩ (h_Source_beginOf _ _ _ _ _ hc7) (cwV 1 hT (gV ml_Steps_209 im_Source_beginOf se_Source_beginOf ini_Source co_Source_beginOf) rfl rfl rfl pd_Source_beginOf ⟨rm_hi, rm_lo (Nat.le_of_ble_eq_true rfl)⟩) hK hP hD hS hA hnw henv (Nat.le_of_ble_eq_true rfl) rfl rfl hl.1 rfl (Nat.le_of_ble_eq_true rfl) d_Steps_checkQuestion_43 ⟨Nat.le_refl _, Nat.le_refl _⟩ (fun H locs hP hD hS => ?_)
      clear hc7
      replace hR := bi_e hR
      obtain ⟨r8, l8, T8, hc8, hR⟩ := hR
      refine gcV_v (rest := []) ⟨hx, hb, hml, hown, hT⟩ (h_Exprs_demand _ _ _ _ _ _ _ hc8) (cwV 3 hT (gV ml_Steps_191 im_Exprs_demand se_Exprs_demand ini_Exprs co_Exprs_demand) rfl rfl rfl pd_Exprs_demand ⟨rm_hi, rm_lo (Nat.le_of_ble_eq_true rfl)⟩) hK hP hD hS hA hnw henv (Nat.le_of_ble_eq_true rfl) rfl rfl hl.1 rfl (Nat.le_of_ble_eq_true rfl) d_Steps_checkQuestion_46 ⟨Nat.le_refl _, Nat.le_refl _⟩ (fun H locs hP hD hS => ?_)
      clear hc8
      obtain ⟨-, -, e3⟩ := re_e hR
      subst e3
      exact W.vret hx hb hr (fun t ht hW => ⟨⟨(), rfl, trivial, by rw [ht]; exact hP, va_K.moved hW.alike hK, hD⟩, hS.F ht⟩) hS.2.2 d_Steps_checkQuestion_49
    · replace hR := if_n c6 hR
      refine lv_iconst (v := 1) hx hb d_Steps_checkQuestion_32 (by decide) ?_
      refine lv_goto (tgt := 37) hx hb d_Steps_checkQuestion_33 (by decide) ?_
      refine lv_iconst (v := 4) hx hb d_Steps_checkQuestion_37 (by decide) ?_
      refine lv_aload_n hx hb d_Steps_checkQuestion_38 rfl (lv_at hl 1 rfl) ?_
      refine rd_Steps_9 hx hb hT hown hK hP d_Steps_checkQuestion_39 ?_
      refine lv_iload_n hx hb d_Steps_checkQuestion_42 rfl (lv_at hl 2 rfl) ?_
      replace hR := bi_e hR
      obtain ⟨r9, l9, T9, hc9, hR⟩ := hR
      refine gcV_i (rest := [.int (4 : Int32), .int (1 : Int32), .ref (ad 8)]) ⟨hx, hb, hml, hown, hT⟩ (h_Source_beginOf _ _ _ _ _ hc9) (cwV 1 hT (gV ml_Steps_209 im_Source_beginOf se_Source_beginOf ini_Source co_Source_beginOf) rfl rfl rfl pd_Source_beginOf ⟨rm_hi, rm_lo (Nat.le_of_ble_eq_true rfl)⟩) hK hP hD hS hA hnw henv (Nat.le_of_ble_eq_true rfl) rfl rfl hl.1 rfl (Nat.le_of_ble_eq_true rfl) d_Steps_checkQuestion_43 ⟨Nat.le_refl _, Nat.le_refl _⟩ (fun H locs hP hD hS => ?_)
      clear hc9
      replace hR := bi_e hR
      obtain ⟨r10, l10, T10, hc10, hR⟩ := hR
      refine gcV_v (rest := []) ⟨hx, hb, hml, hown, hT⟩ (h_Exprs_demand _ _ _ _ _ _ _ hc10) (cwV 3 hT (gV ml_Steps_191 im_Exprs_demand se_Exprs_demand ini_Exprs co_Exprs_demand) rfl rfl rfl pd_Exprs_demand ⟨rm_hi, rm_lo (Nat.le_of_ble_eq_true rfl)⟩) hK hP hD hS hA hnw henv (Nat.le_of_ble_eq_true rfl) rfl rfl hl.1 rfl (Nat.le_of_ble_eq_true rfl) d_Steps_checkQuestion_46 ⟨Nat.le_refl _, Nat.le_refl _⟩ (fun H locs hP hD hS => ?_)
      clear hc10
      obtain ⟨-, -, e3⟩ := re_e hR
      subst e3
      exact W.vret hx hb hr (fun t ht hW => ⟨⟨(), rfl, trivial, by rw [ht]; exact hP, va_K.moved hW.alike hK, hD⟩, hS.F ht⟩) hS.2.2 d_Steps_checkQuestion_49
set_option maxHeartbeats 4000000 in
set_option maxRecDepth 100000 in
theorem sp_Steps_checkIf (l : Launch) (dC : Nat → ClassId) (dI : Nat → Nat → Nat) (ea ev ad : Nat → Nat) (km : Nat → ClassId) (F : gF) (nf d : Nat) (h_Steps_checkQuestion : mt_Steps_checkQuestion l dC dI ea ev ad km F d) (h_Code_emit : mt_Code_emit l dC dI ea ev ad km F d) (h_Exprs_varAlone : mt_Exprs_varAlone l dC dI ea ev ad km F d) (h_Scope_know : mt_Scope_know l dC dI ea ev ad km F d) (h_Steps_checkBlock : mt_Steps_checkBlock l dC dI ea ev ad km F d) (h_Exprs_varAgainstNull : mt_Exprs_varAgainstNull l dC dI ea ev ad km F d) (h_Code_aim : mt_Code_aim l dC dI ea ev ad km F d) (h_Scope_meet : mt_Scope_meet l dC dI ea ev ad km F d) (h_Source_startOf : mt_Source_startOf l dC dI ea ev ad km F d) (h_Exprs_demand : mt_Exprs_demand l dC dI ea ev ad km F d) (T0 : gSt) (p1 : Int32) (p2 : Int32) (r0 : Int32) (rl0 : Int64) (T9 : gSt) (hR : rb_Steps_checkIf F nf T0 p1 p2 = some (r0, rl0, T9)) : GMv l dC dI LH ad km ea ev y_Steps_checkIf w_Steps_checkIf (rmD (d + 1)) [.ref (ad 9), .int p1, .int p2] T0 T9 := by
  intro sz
  refine Met.ofW (cc := b_Steps_checkIf) (maxL := 10) (ret := none) (by decide) rfl ?_
  intro p e s m args below meth c s₁ B hml hv
  obtain ⟨rfl, hsz, hP, hK, hD0, hnw, henv⟩ := hv
  have hx := B.exec
  have hb := B.bytes
  have hr := B.returns
  have hT : ∀ w ∈ lw_good, w.before _ s = true := fun w h => atoms_spec (ws := w_Steps_checkIf) B.pre w (List.mem_cons_of_mem _ h)
  have hown : s.vm.findClass R_Steps = some m.cls := findClass_of_methodNamed B.named
  subst hsz
  have hD := hD0.self (sz := s.heap.size)
  clear hD0
  generalize hAe : va_A (gW LH ad km T0) s.heap.size = A at hD henv ⊢
  have hA : ∀ q : Nat, s.heap.size ≤ q → A q := fun q h => by rw [← hAe]; exact Or.inr h
  have hS : va_S A s.heap s.heap [] := va_S.rf
  have hl := lv_entry ([.ref (ad 9), .int p1, .int p2]) (n := 10) (Nat.le_of_ble_eq_true rfl)
  rw [lg_entry_eq]
  generalize (lg_sl ([.ref (ad 9), .int p1, .int p2]) ++ List.replicate (10 - (lg_sl ([.ref (ad 9), .int p1, .int p2])).length) Slot.unset).toArray = ls at hl ⊢
  have hl : lv_has ls 10 [(0, .ref (ad 9)), (1, .int p1), (2, .int p2)] := hl
  obtain ⟨G, hG⟩ : ∃ G : Nat → List (Nat × Value) → List Value → gSt → Prop, G = (fun pc lv stk T => ∀ (H : Heap) (locs : List Loc), va_P (dC, dI) cls_all (gW LH ad km T) H → va_D A (gW LH ad km T) → va_S A s.heap H locs → ∀ (ls : Array Slot), lv_has ls 10 lv → W p l e (headSpec w_Steps_checkIf (rmD (d + 1))).room s m ([.ref (ad 9), .int p1, .int p2] : List Value).toArray below meth c H locs 0 0 (MQ below (va_Qv (fun (_ : Unit) => True) (fun _ t => gPost dC dI LH ad km T9 A t) A) ([.ref (ad 9), .int p1, .int p2] : List Value).toArray s 0 0 A) (F0 m pc ls stk)) := ⟨_, rfl⟩
  have lb_173 : ∀ (T : gSt) (x1 : Int32) (x7 : Int64), rj_Steps_checkIf_173 F nf T x1 x7 = some (r0, rl0, T9) → G 173 [(0, .ref (ad 9)), (1, .int x1), (7, .long x7)] [] T := by
    intro T x1 x7 hR; unfold rj_Steps_checkIf_173 at hR; rw [hG]; intro H locs hP hD hS ls hl
    refine lv_aload_n hx hb d_Steps_checkIf_173 rfl (lv_at hl 0 rfl) ?_
    refine rd_Steps_35 hx hb hT hown hK hP d_Steps_checkIf_174 ?_
    refine lv_aload_n hx hb d_Steps_checkIf_177 rfl (lv_at hl 0 rfl) ?_
    refine rd_Steps_34 hx hb hT hown hK hP d_Steps_checkIf_178 ?_
    refine lv_lload hx hb d_Steps_checkIf_181 (lv_at hl 2 rfl) ?_
    refine lv_aload_n hx hb d_Steps_checkIf_183 rfl (lv_at hl 0 rfl) ?_
    refine rd_Steps_34 hx hb hT hown hK hP d_Steps_checkIf_184 ?_
    refine rd_Steps_215 hx hb hT hown hK hP d_Steps_checkIf_187 ?_
    replace hR := bi_e hR
    obtain ⟨r22, l22, T22, hc22, hR⟩ := hR
    refine gcV_i (rest := [.ref (ad 8)]) ⟨hx, hb, hml, hown, hT⟩ (h_Scope_meet _ _ _ _ _ _ hc22) (cwV 2 hT (gV ml_Steps_234 im_Scope_meet se_Scope_meet ini_Scope co_Scope_meet) rfl rfl rfl pd_Scope_meet ⟨rm_hi, rm_lo (Nat.le_of_ble_eq_true rfl)⟩) hK hP hD hS hA hnw henv (Nat.le_of_ble_eq_true rfl) rfl rfl hl.1 rfl (Nat.le_of_ble_eq_true rfl) d_Steps_checkIf_190 ⟨Nat.le_refl _, Nat.le_refl _⟩ (fun H locs hP hD hS => ?_)
    clear hc22
    refine lv_bipush (v := 8) hx hb d_Steps_checkIf_193 (by decide) ?_
    refine lv_aload_n hx hb d_Steps_checkIf_195 rfl (lv_at hl 0 rfl) ?_
    refine rd_Steps_9 hx hb hT hown hK hP d_Steps_checkIf_196 ?_
    refine lv_aload_n hx hb d_Steps_checkIf_199 rfl (lv_at hl 0 rfl) ?_
    refine rd_Steps_9 hx hb hT hown hK hP d_Steps_checkIf_200 ?_
    refine rd_Steps_103 hx hb hT hown hK hP d_Steps_checkIf_203 ?_
    refine lv_iload_n hx hb d_Steps_checkIf_206 rfl (lv_at hl 1 rfl) ?_
    replace hR := gd_e hR
    obtain ⟨b23, hR⟩ := hR
    refine laH_2 hx hb hK hP b23 d_Steps_checkIf_207 ?_
    replace hR := bi_e hR
    obtain ⟨r24, l24, T24, hc24, hR⟩ := hR
    refine gcV_i (rest := [.int (8 : Int32), .int r22, .ref (ad 8)]) ⟨hx, hb, hml, hown, hT⟩ (h_Source_startOf _ _ _ _ _ hc24) (cwV 1 hT (gV ml_Steps_87 im_Source_startOf se_Source_startOf ini_Source co_Source_startOf) rfl rfl rfl pd_Source_startOf ⟨rm_hi, rm_lo (Nat.le_of_ble_eq_true rfl)⟩) hK hP hD hS hA hnw henv (Nat.le_of_ble_eq_true rfl) rfl rfl hl.1 rfl (Nat.le_of_ble_eq_true rfl) d_Steps_checkIf_208 ⟨Nat.le_refl _, Nat.le_refl _⟩ (fun H locs hP hD hS => ?_)
    clear hc24
    replace hR := bi_e hR
    obtain ⟨r25, l25, T25, hc25, hR⟩ := hR
    refine gcV_v (rest := []) ⟨hx, hb, hml, hown, hT⟩ (h_Exprs_demand _ _ _ _ _ _ _ hc25) (cwV 3 hT (gV ml_Steps_191 im_Exprs_demand se_Exprs_demand ini_Exprs co_Exprs_demand) rfl rfl rfl pd_Exprs_demand ⟨rm_hi, rm_lo (Nat.le_of_ble_eq_true rfl)⟩) hK hP hD hS hA hnw henv (Nat.le_of_ble_eq_true rfl) rfl rfl hl.1 rfl (Nat.le_of_ble_eq_true rfl) d_Steps_checkIf_211 ⟨Nat.le_refl _, Nat.le_refl _⟩ (fun H locs hP hD hS => ?_)
    clear hc25
    obtain ⟨-, -, e3⟩ := re_e hR
    subst e3
    exact W.vret hx hb hr (fun t ht hW => ⟨⟨(), rfl, trivial, by rw [ht]; exact hP, va_K.moved hW.alike hK, hD⟩, hS.F ht⟩) hS.2.2 d_Steps_checkIf_214
  unfold rb_Steps_checkIf at hR
  refine lv_aload_n hx hb d_Steps_checkIf_0 rfl (lv_at hl 0 rfl) ?_
  refine rd_Steps_9 hx hb hT hown hK hP d_Steps_checkIf_1 ?_
  refine rd_Steps_152 hx hb hT hown hK hP d_Steps_checkIf_4 ?_
  refine lv_iload_n hx hb d_Steps_checkIf_7 rfl (lv_at hl 1 rfl) ?_
  replace hR := gd_e hR
  obtain ⟨b1, hR⟩ := hR
  refine laH_6 hx hb hK hP b1 d_Steps_checkIf_8 ?_
  refine lv_topi (fun z2 e2 => ?_)
  replace hR := vK_e e2 hR
  refine lv_istore_n (lv' := [(3, .int z2), (0, .ref (ad 9)), (1, .int p1), (2, .int p2)]) hx hb d_Steps_checkIf_9 rfl hl (by decide) rfl (fun ls hl => ?_)
  refine lv_aload_n hx hb d_Steps_checkIf_10 rfl (lv_at hl 1 rfl) ?_
  refine lv_iload_n hx hb d_Steps_checkIf_11 rfl (lv_at hl 0 rfl) ?_
  refine lv_iload_n hx hb d_Steps_checkIf_12 rfl (lv_at hl 3 rfl) ?_
  replace hR := bi_e hR
  obtain ⟨r3, l3, T3, hc3, hR⟩ := hR
  refine gcV_v (rest := []) ⟨hx, hb, hml, hown, hT⟩ (h_Steps_checkQuestion _ _ _ _ _ _ hc3) (cwV 2 hT (gV ml_Steps_212 im_Steps_checkQuestion se_Steps_checkQuestion ini_Steps co_Steps_checkQuestion) rfl rfl rfl pd_Steps_checkQuestion ⟨rm_hi, rm_lo (Nat.le_of_ble_eq_true rfl)⟩) hK hP hD hS hA hnw henv (Nat.le_of_ble_eq_true rfl) rfl rfl hl.1 rfl (Nat.le_of_ble_eq_true rfl) d_Steps_checkIf_13 ⟨Nat.le_refl _, Nat.le_refl _⟩ (fun H locs hP hD hS => ?_)
  clear hc3
  refine lv_aload_n hx hb d_Steps_checkIf_16 rfl (lv_at hl 1 rfl) ?_
  refine rd_Steps_39 hx hb hT hown hK hP d_Steps_checkIf_17 ?_
  refine lv_bipush (v := 51) hx hb d_Steps_checkIf_20 (by decide) ?_
  refine lv_iconst (v := 0) hx hb d_Steps_checkIf_22 (by decide) ?_
  refine lv_iconst (v := 0) hx hb d_Steps_checkIf_23 (by decide) ?_
  replace hR := bi_e hR
  obtain ⟨r4, l4, T4, hc4, hR⟩ := hR
  refine gcV_i (rest := []) ⟨hx, hb, hml, hown, hT⟩ (h_Code_emit _ _ _ _ _ _ _ hc4) (cwV 3 hT (gV ml_Steps_96 im_Code_emit se_Code_emit ini_Code co_Code_emit) rfl rfl rfl pd_Code_emit ⟨rm_hi, rm_lo (Nat.le_of_ble_eq_true rfl)⟩) hK hP hD hS hA hnw henv (Nat.le_of_ble_eq_true rfl) rfl rfl hl.1 rfl (Nat.le_of_ble_eq_true rfl) d_Steps_checkIf_24 ⟨Nat.le_refl _, Nat.le_refl _⟩ (fun H locs hP hD hS => ?_)
  clear hc4
  refine lv_istore (lv' := [(4, .int r4), (3, .int z2), (0, .ref (ad 9)), (1, .int p1), (2, .int p2)]) hx hb d_Steps_checkIf_27 hl (by decide) rfl (fun ls hl => ?_)
  refine lv_aload_n hx hb d_Steps_checkIf_29 rfl (lv_at hl 2 rfl) ?_
  refine rd_Steps_34 hx hb hT hown hK hP d_Steps_checkIf_30 ?_
  refine rd_Steps_215 hx hb hT hown hK hP d_Steps_checkIf_33 ?_
  refine lv_topl (fun z5 e5 => ?_)
  replace hR := lK_e e5 hR
  refine lv_lstore (lv' := [(5, .long z5), (4, .int r4), (3, .int z2), (0, .ref (ad 9)), (1, .int p1), (2, .int p2)]) hx hb d_Steps_checkIf_36 hl (by decide) rfl (fun ls hl => ?_)
  refine lv_aload_n hx hb d_Steps_checkIf_38 rfl (lv_at hl 3 rfl) ?_
  refine rd_Steps_34 hx hb hT hown hK hP d_Steps_checkIf_39 ?_
  refine lv_aload_n hx hb d_Steps_checkIf_42 rfl (lv_at hl 3 rfl) ?_
  refine rd_Steps_35 hx hb hT hown hK hP d_Steps_checkIf_43 ?_
  refine lv_iload_n hx hb d_Steps_checkIf_46 rfl (lv_at hl 2 rfl) ?_
  replace hR := bi_e hR
  obtain ⟨r6, l6, T6, hc6, hR⟩ := hR
  refine gcV_i (rest := [.ref (ad 6)]) ⟨hx, hb, hml, hown, hT⟩ (h_Exprs_varAlone _ _ _ _ _ hc6) (cwV 1 hT (gV ml_Steps_219 im_Exprs_varAlone se_Exprs_varAlone ini_Exprs co_Exprs_varAlone) rfl rfl rfl pd_Exprs_varAlone ⟨rm_hi, rm_lo (Nat.le_of_ble_eq_true rfl)⟩) hK hP hD hS hA hnw henv (Nat.le_of_ble_eq_true rfl) rfl rfl hl.1 rfl (Nat.le_of_ble_eq_true rfl) d_Steps_checkIf_47 ⟨Nat.le_refl _, Nat.le_refl _⟩ (fun H locs hP hD hS => ?_)
  clear hc6
  replace hR := bi_e hR
  obtain ⟨r7, l7, T7, hc7, hR⟩ := hR
  refine gcV_v (rest := []) ⟨hx, hb, hml, hown, hT⟩ (h_Scope_know _ _ _ _ _ hc7) (cwV 1 hT (gV ml_Steps_222 im_Scope_know se_Scope_know ini_Scope co_Scope_know) rfl rfl rfl pd_Scope_know ⟨rm_hi, rm_lo (Nat.le_of_ble_eq_true rfl)⟩) hK hP hD hS hA hnw henv (Nat.le_of_ble_eq_true rfl) rfl rfl hl.1 rfl (Nat.le_of_ble_eq_true rfl) d_Steps_checkIf_50 ⟨Nat.le_refl _, Nat.le_refl _⟩ (fun H locs hP hD hS => ?_)
  clear hc7
  refine lv_aload_n hx hb d_Steps_checkIf_53 rfl (lv_at hl 3 rfl) ?_
  refine lv_aload_n hx hb d_Steps_checkIf_54 rfl (lv_at hl 3 rfl) ?_
  refine rd_Steps_9 hx hb hT hown hK hP d_Steps_checkIf_55 ?_
  refine rd_Steps_128 hx hb hT hown hK hP d_Steps_checkIf_58 ?_
  refine lv_iload_n hx hb d_Steps_checkIf_61 rfl (lv_at hl 4 rfl) ?_
  replace hR := gd_e hR
  obtain ⟨b8, hR⟩ := hR
  refine laH_7 hx hb hK hP b8 d_Steps_checkIf_62 ?_
  refine lv_iload_n hx hb d_Steps_checkIf_63 rfl (lv_at hl 5 rfl) ?_
  refine lv_iconst (v := 1) hx hb d_Steps_checkIf_64 (by decide) ?_
  refine lv_iadd hx hb d_Steps_checkIf_65 ?_
  replace hR := bi_e hR
  obtain ⟨r9, l9, T9, hc9, hR⟩ := hR
  refine gcV_v (rest := []) ⟨hx, hb, hml, hown, hT⟩ (h_Steps_checkBlock _ _ _ _ _ _ hc9) (cwV 2 hT (gV ml_Steps_73 im_Steps_checkBlock se_Steps_checkBlock ini_Steps co_Steps_checkBlock) rfl rfl rfl pd_Steps_checkBlock ⟨rm_hi, rm_lo (Nat.le_of_ble_eq_true rfl)⟩) hK hP hD hS hA hnw henv (Nat.le_of_ble_eq_true rfl) rfl rfl hl.1 rfl (Nat.le_of_ble_eq_true rfl) d_Steps_checkIf_66 ⟨Nat.le_refl _, Nat.le_refl _⟩ (fun H locs hP hD hS => ?_)
  clear hc9
  refine lv_aload_n hx hb d_Steps_checkIf_69 rfl (lv_at hl 3 rfl) ?_
  refine rd_Steps_34 hx hb hT hown hK hP d_Steps_checkIf_70 ?_
  refine rd_Steps_215 hx hb hT hown hK hP d_Steps_checkIf_73 ?_
  refine lv_topl (fun z10 e10 => ?_)
  replace hR := lK_e e10 hR
  refine lv_lstore (lv' := [(7, .long z10), (5, .long z5), (4, .int r4), (3, .int z2), (0, .ref (ad 9)), (1, .int p1), (2, .int p2)]) hx hb d_Steps_checkIf_76 hl (by decide) rfl (fun ls hl => ?_)
  refine lv_aload_n hx hb d_Steps_checkIf_78 rfl (lv_at hl 4 rfl) ?_
  refine rd_Steps_34 hx hb hT hown hK hP d_Steps_checkIf_79 ?_
  refine lv_lload hx hb d_Steps_checkIf_82 (lv_at hl 1 rfl) ?_
  refine wr_Steps_215 hx hb hT hown hK hP hD hS d_Steps_checkIf_84 (fun T11 eT H locs hP hD hS => ?_)
  replace hR := stK_e eT hR
  clear eT
  refine lv_aload_n hx hb d_Steps_checkIf_87 rfl (lv_at hl 4 rfl) ?_
  refine rd_Steps_34 hx hb hT hown hK hP d_Steps_checkIf_88 ?_
  refine lv_aload_n hx hb d_Steps_checkIf_91 rfl (lv_at hl 4 rfl) ?_
  refine rd_Steps_35 hx hb hT hown hK hP d_Steps_checkIf_92 ?_
  refine lv_iload_n hx hb d_Steps_checkIf_95 rfl (lv_at hl 3 rfl) ?_
  replace hR := bi_e hR
  obtain ⟨r12, l12, T12, hc12, hR⟩ := hR
  refine gcV_i (rest := [.ref (ad 6)]) ⟨hx, hb, hml, hown, hT⟩ (h_Exprs_varAgainstNull _ _ _ _ _ hc12) (cwV 1 hT (gV ml_Steps_225 im_Exprs_varAgainstNull se_Exprs_varAgainstNull ini_Exprs co_Exprs_varAgainstNull) rfl rfl rfl pd_Exprs_varAgainstNull ⟨rm_hi, rm_lo (Nat.le_of_ble_eq_true rfl)⟩) hK hP hD hS hA hnw henv (Nat.le_of_ble_eq_true rfl) rfl rfl hl.1 rfl (Nat.le_of_ble_eq_true rfl) d_Steps_checkIf_96 ⟨Nat.le_refl _, Nat.le_refl _⟩ (fun H locs hP hD hS => ?_)
  clear hc12
  replace hR := bi_e hR
  obtain ⟨r13, l13, T13, hc13, hR⟩ := hR
  refine gcV_v (rest := []) ⟨hx, hb, hml, hown, hT⟩ (h_Scope_know _ _ _ _ _ hc13) (cwV 1 hT (gV ml_Steps_222 im_Scope_know se_Scope_know ini_Scope co_Scope_know) rfl rfl rfl pd_Scope_know ⟨rm_hi, rm_lo (Nat.le_of_ble_eq_true rfl)⟩) hK hP hD hS hA hnw henv (Nat.le_of_ble_eq_true rfl) rfl rfl hl.1 rfl (Nat.le_of_ble_eq_true rfl) d_Steps_checkIf_99 ⟨Nat.le_refl _, Nat.le_refl _⟩ (fun H locs hP hD hS => ?_)
  clear hc13
  refine lv_aload_n hx hb d_Steps_checkIf_102 rfl (lv_at hl 4 rfl) ?_
  refine rd_Steps_9 hx hb hT hown hK hP d_Steps_checkIf_103 ?_
  refine rd_Steps_228 hx hb hT hown hK hP d_Steps_checkIf_106 ?_
  refine lv_iload_n hx hb d_Steps_checkIf_109 rfl (lv_at hl 5 rfl) ?_
  replace hR := gd_e hR
  obtain ⟨b14, hR⟩ := hR
  refine laH_8 hx hb hK hP b14 d_Steps_checkIf_110 ?_
  refine lv_if_eq (tgt := 164) hx hb d_Steps_checkIf_111 (by decide) (fun c15 => ?_) (fun c15 => ?_)
  · replace hR := if_p c15 hR
    refine lv_aload_n hx hb d_Steps_checkIf_164 rfl (lv_at hl 4 rfl) ?_
    refine rd_Steps_39 hx hb hT hown hK hP d_Steps_checkIf_165 ?_
    refine lv_iload hx hb d_Steps_checkIf_168 (lv_at hl 2 rfl) ?_
    replace hR := bi_e hR
    obtain ⟨r16, l16, T16, hc16, hR⟩ := hR
    refine gcV_v (rest := []) ⟨hx, hb, hml, hown, hT⟩ (h_Code_aim _ _ _ _ _ hc16) (cwV 1 hT (gV ml_Steps_231 im_Code_aim se_Code_aim ini_Code co_Code_aim) rfl rfl rfl pd_Code_aim ⟨rm_hi, rm_lo (Nat.le_of_ble_eq_true rfl)⟩) hK hP hD hS hA hnw henv (Nat.le_of_ble_eq_true rfl) rfl rfl hl.1 rfl (Nat.le_of_ble_eq_true rfl) d_Steps_checkIf_170 ⟨Nat.le_refl _, Nat.le_refl _⟩ (fun H locs hP hD hS => ?_)
    clear hc16
    have g := lb_173 T16 p1 z10 hR
    rw [hG] at g
    exact g _ _ hP hD hS _ (lv_sub hl [4, 5, 0] rfl)
  · replace hR := if_n c15 hR
    refine lv_aload_n hx hb d_Steps_checkIf_114 rfl (lv_at hl 4 rfl) ?_
    refine rd_Steps_39 hx hb hT hown hK hP d_Steps_checkIf_115 ?_
    refine lv_bipush (v := 50) hx hb d_Steps_checkIf_118 (by decide) ?_
    refine lv_iconst (v := 0) hx hb d_Steps_checkIf_120 (by decide) ?_
    refine lv_iconst (v := 0) hx hb d_Steps_checkIf_121 (by decide) ?_
    replace hR := bi_e hR
    obtain ⟨r17, l17, T17, hc17, hR⟩ := hR
    refine gcV_i (rest := []) ⟨hx, hb, hml, hown, hT⟩ (h_Code_emit _ _ _ _ _ _ _ hc17) (cwV 3 hT (gV ml_Steps_96 im_Code_emit se_Code_emit ini_Code co_Code_emit) rfl rfl rfl pd_Code_emit ⟨rm_hi, rm_lo (Nat.le_of_ble_eq_true rfl)⟩) hK hP hD hS hA hnw henv (Nat.le_of_ble_eq_true rfl) rfl rfl hl.1 rfl (Nat.le_of_ble_eq_true rfl) d_Steps_checkIf_122 ⟨Nat.le_refl _, Nat.le_refl _⟩ (fun H locs hP hD hS => ?_)
    clear hc17
    refine lv_istore (lv' := [(9, .int r17), (7, .long z10), (5, .long z5), (4, .int r4), (3, .int z2), (0, .ref (ad 9)), (1, .int p1), (2, .int p2)]) hx hb d_Steps_checkIf_125 hl (by decide) rfl (fun ls hl => ?_)
    refine lv_aload_n hx hb d_Steps_checkIf_127 rfl (lv_at hl 5 rfl) ?_
    refine rd_Steps_39 hx hb hT hown hK hP d_Steps_checkIf_128 ?_
    refine lv_iload hx hb d_Steps_checkIf_131 (lv_at hl 3 rfl) ?_
    replace hR := bi_e hR
    obtain ⟨r18, l18, T18, hc18, hR⟩ := hR
    refine gcV_v (rest := []) ⟨hx, hb, hml, hown, hT⟩ (h_Code_aim _ _ _ _ _ hc18) (cwV 1 hT (gV ml_Steps_231 im_Code_aim se_Code_aim ini_Code co_Code_aim) rfl rfl rfl pd_Code_aim ⟨rm_hi, rm_lo (Nat.le_of_ble_eq_true rfl)⟩) hK hP hD hS hA hnw henv (Nat.le_of_ble_eq_true rfl) rfl rfl hl.1 rfl (Nat.le_of_ble_eq_true rfl) d_Steps_checkIf_133 ⟨Nat.le_refl _, Nat.le_refl _⟩ (fun H locs hP hD hS => ?_)
    clear hc18
    refine lv_aload_n hx hb d_Steps_checkIf_136 rfl (lv_at hl 5 rfl) ?_
    refine lv_aload_n hx hb d_Steps_checkIf_137 rfl (lv_at hl 5 rfl) ?_
    refine rd_Steps_9 hx hb hT hown hK hP d_Steps_checkIf_138 ?_
    refine rd_Steps_228 hx hb hT hown hK hP d_Steps_checkIf_141 ?_
    refine lv_iload_n hx hb d_Steps_checkIf_144 rfl (lv_at hl 6 rfl) ?_
    replace hR := gd_e hR
    obtain ⟨b19, hR⟩ := hR
    refine laH_8 hx hb hK hP b19 d_Steps_checkIf_145 ?_
    refine lv_iload_n hx hb d_Steps_checkIf_146 rfl (lv_at hl 7 rfl) ?_
    refine lv_iconst (v := 1) hx hb d_Steps_checkIf_147 (by decide) ?_
    refine lv_iadd hx hb d_Steps_checkIf_148 ?_
    replace hR := bi_e hR
    obtain ⟨r20, l20, T20, hc20, hR⟩ := hR
    refine gcV_v (rest := []) ⟨hx, hb, hml, hown, hT⟩ (h_Steps_checkBlock _ _ _ _ _ _ hc20) (cwV 2 hT (gV ml_Steps_73 im_Steps_checkBlock se_Steps_checkBlock ini_Steps co_Steps_checkBlock) rfl rfl rfl pd_Steps_checkBlock ⟨rm_hi, rm_lo (Nat.le_of_ble_eq_true rfl)⟩) hK hP hD hS hA hnw henv (Nat.le_of_ble_eq_true rfl) rfl rfl hl.1 rfl (Nat.le_of_ble_eq_true rfl) d_Steps_checkIf_149 ⟨Nat.le_refl _, Nat.le_refl _⟩ (fun H locs hP hD hS => ?_)
    clear hc20
    refine lv_aload_n hx hb d_Steps_checkIf_152 rfl (lv_at hl 5 rfl) ?_
    refine rd_Steps_39 hx hb hT hown hK hP d_Steps_checkIf_153 ?_
    refine lv_iload hx hb d_Steps_checkIf_156 (lv_at hl 0 rfl) ?_
    replace hR := bi_e hR
    obtain ⟨r21, l21, T21, hc21, hR⟩ := hR
    refine gcV_v (rest := []) ⟨hx, hb, hml, hown, hT⟩ (h_Code_aim _ _ _ _ _ hc21) (cwV 1 hT (gV ml_Steps_231 im_Code_aim se_Code_aim ini_Code co_Code_aim) rfl rfl rfl pd_Code_aim ⟨rm_hi, rm_lo (Nat.le_of_ble_eq_true rfl)⟩) hK hP hD hS hA hnw henv (Nat.le_of_ble_eq_true rfl) rfl rfl hl.1 rfl (Nat.le_of_ble_eq_true rfl) d_Steps_checkIf_158 ⟨Nat.le_refl _, Nat.le_refl _⟩ (fun H locs hP hD hS => ?_)
    clear hc21
    refine lv_goto (tgt := 173) hx hb d_Steps_checkIf_161 (by decide) ?_
    have g := lb_173 T21 p1 z10 hR
    rw [hG] at g
    exact g _ _ hP hD hS _ (lv_sub hl [5, 6, 1] rfl)
set_option maxHeartbeats 4000000 in
set_option maxRecDepth 100000 in
theorem sp_Steps_checkWhile (l : Launch) (dC : Nat → ClassId) (dI : Nat → Nat → Nat) (ea ev ad : Nat → Nat) (km : Nat → ClassId) (F : gF) (nf d : Nat) (h_Code_count : mt_Code_count l dC dI ea ev ad km F d) (h_Steps_varsGiven : mt_Steps_varsGiven l dC dI ea ev ad km F d) (h_Scope_forgetKnown : mt_Scope_forgetKnown l dC dI ea ev ad km F d) (h_Steps_checkQuestion : mt_Steps_checkQuestion l dC dI ea ev ad km F d) (h_Code_emit : mt_Code_emit l dC dI ea ev ad km F d) (h_Exprs_varAlone : mt_Exprs_varAlone l dC dI ea ev ad km F d) (h_Scope_know : mt_Scope_know l dC dI ea ev ad km F d) (h_Steps_checkBlock : mt_Steps_checkBlock l dC dI ea ev ad km F d) (h_Scope_isReached : mt_Scope_isReached l dC dI ea ev ad km F d) (h_Scope_sameLive : mt_Scope_sameLive l dC dI ea ev ad km F d) (h_Source_startOf : mt_Source_startOf l dC dI ea ev ad km F d) (h_Exprs_demand : mt_Exprs_demand l dC dI ea ev ad km F d) (h_Code_aim : mt_Code_aim l dC dI ea ev ad km F d) (h_Exprs_varAgainstNull : mt_Exprs_varAgainstNull l dC dI ea ev ad km F d) (T0 : gSt) (p1 : Int32) (p2 : Int32) (r0 : Int32) (rl0 : Int64) (T9 : gSt) (hR : rb_Steps_checkWhile F nf T0 p1 p2 = some (r0, rl0, T9)) : GMv l dC dI LH ad km ea ev y_Steps_checkWhile w_Steps_checkWhile (rmD (d + 1)) [.ref (ad 9), .int p1, .int p2] T0 T9 := by
  intro sz
  refine Met.ofW (cc := b_Steps_checkWhile) (maxL := 9) (ret := none) (by decide) rfl ?_
  intro p e s m args below meth c s₁ B hml hv
  obtain ⟨rfl, hsz, hP, hK, hD0, hnw, henv⟩ := hv
  have hx := B.exec
  have hb := B.bytes
  have hr := B.returns
  have hT : ∀ w ∈ lw_good, w.before _ s = true := fun w h => atoms_spec (ws := w_Steps_checkWhile) B.pre w (List.mem_cons_of_mem _ h)
  have hown : s.vm.findClass R_Steps = some m.cls := findClass_of_methodNamed B.named
  subst hsz
  have hD := hD0.self (sz := s.heap.size)
  clear hD0
  generalize hAe : va_A (gW LH ad km T0) s.heap.size = A at hD henv ⊢
  have hA : ∀ q : Nat, s.heap.size ≤ q → A q := fun q h => by rw [← hAe]; exact Or.inr h
  have hS : va_S A s.heap s.heap [] := va_S.rf
  have hl := lv_entry ([.ref (ad 9), .int p1, .int p2]) (n := 9) (Nat.le_of_ble_eq_true rfl)
  rw [lg_entry_eq]
  generalize (lg_sl ([.ref (ad 9), .int p1, .int p2]) ++ List.replicate (9 - (lg_sl ([.ref (ad 9), .int p1, .int p2])).length) Slot.unset).toArray = ls at hl ⊢
  have hl : lv_has ls 9 [(0, .ref (ad 9)), (1, .int p1), (2, .int p2)] := hl
  obtain ⟨G, hG⟩ : ∃ G : Nat → List (Nat × Value) → List Value → gSt → Prop, G = (fun pc lv stk T => ∀ (H : Heap) (locs : List Loc), va_P (dC, dI) cls_all (gW LH ad km T) H → va_D A (gW LH ad km T) → va_S A s.heap H locs → ∀ (ls : Array Slot), lv_has ls 9 lv → W p l e (headSpec w_Steps_checkWhile (rmD (d + 1))).room s m ([.ref (ad 9), .int p1, .int p2] : List Value).toArray below meth c H locs 0 0 (MQ below (va_Qv (fun (_ : Unit) => True) (fun _ t => gPost dC dI LH ad km T9 A t) A) ([.ref (ad 9), .int p1, .int p2] : List Value).toArray s 0 0 A) (F0 m pc ls stk)) := ⟨_, rfl⟩
  have lb_133 : ∀ (T : gSt) (x1 : Int32) (x3 : Int32) (x4 : Int32) (x5 : Int32) (x6 : Int64) (y0 : Int32), rj_Steps_checkWhile_133 F nf T x1 x3 x4 x5 x6 y0 = some (r0, rl0, T9) → G 133 [(0, .ref (ad 9)), (1, .int x1), (3, .int x3), (4, .int x4), (5, .int x5), (6, .long x6)] [.int y0] T := by
    intro T x1 x3 x4 x5 x6 y0 hR; unfold rj_Steps_checkWhile_133 at hR; rw [hG]; intro H locs hP hD hS ls hl
    refine lv_istore (lv' := [(8, .int y0), (0, .ref (ad 9)), (1, .int x1), (3, .int x3), (4, .int x4), (5, .int x5), (6, .long x6)]) hx hb d_Steps_checkWhile_133 hl (by decide) rfl (fun ls hl => ?_)
    refine lv_aload_n hx hb d_Steps_checkWhile_135 rfl (lv_at hl 1 rfl) ?_
    refine rd_Steps_35 hx hb hT hown hK hP d_Steps_checkWhile_136 ?_
    refine lv_iload hx hb d_Steps_checkWhile_139 (lv_at hl 0 rfl) ?_
    refine lv_bipush (v := 8) hx hb d_Steps_checkWhile_141 (by decide) ?_
    refine lv_aload_n hx hb d_Steps_checkWhile_143 rfl (lv_at hl 1 rfl) ?_
    refine rd_Steps_9 hx hb hT hown hK hP d_Steps_checkWhile_144 ?_
    refine lv_aload_n hx hb d_Steps_checkWhile_147 rfl (lv_at hl 1 rfl) ?_
    refine rd_Steps_9 hx hb hT hown hK hP d_Steps_checkWhile_148 ?_
    refine rd_Steps_103 hx hb hT hown hK hP d_Steps_checkWhile_151 ?_
    refine lv_iload_n hx hb d_Steps_checkWhile_154 rfl (lv_at hl 2 rfl) ?_
    replace hR := gd_e hR
    obtain ⟨b19, hR⟩ := hR
    refine laH_2 hx hb hK hP b19 d_Steps_checkWhile_155 ?_
    replace hR := bi_e hR
    obtain ⟨r20, l20, T20, hc20, hR⟩ := hR
    refine gcV_i (rest := [.int (8 : Int32), .int y0, .ref (ad 8)]) ⟨hx, hb, hml, hown, hT⟩ (h_Source_startOf _ _ _ _ _ hc20) (cwV 1 hT (gV ml_Steps_87 im_Source_startOf se_Source_startOf ini_Source co_Source_startOf) rfl rfl rfl pd_Source_startOf ⟨rm_hi, rm_lo (Nat.le_of_ble_eq_true rfl)⟩) hK hP hD hS hA hnw henv (Nat.le_of_ble_eq_true rfl) rfl rfl hl.1 rfl (Nat.le_of_ble_eq_true rfl) d_Steps_checkWhile_156 ⟨Nat.le_refl _, Nat.le_refl _⟩ (fun H locs hP hD hS => ?_)
    clear hc20
    replace hR := bi_e hR
    obtain ⟨r21, l21, T21, hc21, hR⟩ := hR
    refine gcV_v (rest := []) ⟨hx, hb, hml, hown, hT⟩ (h_Exprs_demand _ _ _ _ _ _ _ hc21) (cwV 3 hT (gV ml_Steps_191 im_Exprs_demand se_Exprs_demand ini_Exprs co_Exprs_demand) rfl rfl rfl pd_Exprs_demand ⟨rm_hi, rm_lo (Nat.le_of_ble_eq_true rfl)⟩) hK hP hD hS hA hnw henv (Nat.le_of_ble_eq_true rfl) rfl rfl hl.1 rfl (Nat.le_of_ble_eq_true rfl) d_Steps_checkWhile_159 ⟨Nat.le_refl _, Nat.le_refl _⟩ (fun H locs hP hD hS => ?_)
    clear hc21
    refine lv_aload_n hx hb d_Steps_checkWhile_162 rfl (lv_at hl 1 rfl) ?_
    refine rd_Steps_39 hx hb hT hown hK hP d_Steps_checkWhile_163 ?_
    refine lv_bipush (v := 50) hx hb d_Steps_checkWhile_166 (by decide) ?_
    refine lv_iload hx hb d_Steps_checkWhile_168 (lv_at hl 4 rfl) ?_
    refine lv_iconst (v := 0) hx hb d_Steps_checkWhile_170 (by decide) ?_
    replace hR := bi_e hR
    obtain ⟨r22, l22, T22, hc22, hR⟩ := hR
    refine gcV_i (rest := []) ⟨hx, hb, hml, hown, hT⟩ (h_Code_emit _ _ _ _ _ _ _ hc22) (cwV 3 hT (gV ml_Steps_96 im_Code_emit se_Code_emit ini_Code co_Code_emit) rfl rfl rfl pd_Code_emit ⟨rm_hi, rm_lo (Nat.le_of_ble_eq_true rfl)⟩) hK hP hD hS hA hnw henv (Nat.le_of_ble_eq_true rfl) rfl rfl hl.1 rfl (Nat.le_of_ble_eq_true rfl) d_Steps_checkWhile_171 ⟨Nat.le_refl _, Nat.le_refl _⟩ (fun H locs hP hD hS => ?_)
    clear hc22
    refine lv_pop hx hb d_Steps_checkWhile_174 rfl ?_
    refine lv_aload_n hx hb d_Steps_checkWhile_175 rfl (lv_at hl 1 rfl) ?_
    refine rd_Steps_39 hx hb hT hown hK hP d_Steps_checkWhile_176 ?_
    refine lv_iload hx hb d_Steps_checkWhile_179 (lv_at hl 5 rfl) ?_
    replace hR := bi_e hR
    obtain ⟨r23, l23, T23, hc23, hR⟩ := hR
    refine gcV_v (rest := []) ⟨hx, hb, hml, hown, hT⟩ (h_Code_aim _ _ _ _ _ hc23) (cwV 1 hT (gV ml_Steps_231 im_Code_aim se_Code_aim ini_Code co_Code_aim) rfl rfl rfl pd_Code_aim ⟨rm_hi, rm_lo (Nat.le_of_ble_eq_true rfl)⟩) hK hP hD hS hA hnw henv (Nat.le_of_ble_eq_true rfl) rfl rfl hl.1 rfl (Nat.le_of_ble_eq_true rfl) d_Steps_checkWhile_181 ⟨Nat.le_refl _, Nat.le_refl _⟩ (fun H locs hP hD hS => ?_)
    clear hc23
    refine lv_aload_n hx hb d_Steps_checkWhile_184 rfl (lv_at hl 1 rfl) ?_
    refine rd_Steps_34 hx hb hT hown hK hP d_Steps_checkWhile_185 ?_
    refine lv_lload hx hb d_Steps_checkWhile_188 (lv_at hl 6 rfl) ?_
    refine wr_Steps_215 hx hb hT hown hK hP hD hS d_Steps_checkWhile_190 (fun T24 eT H locs hP hD hS => ?_)
    replace hR := stK_e eT hR
    clear eT
    refine lv_aload_n hx hb d_Steps_checkWhile_193 rfl (lv_at hl 1 rfl) ?_
    refine rd_Steps_34 hx hb hT hown hK hP d_Steps_checkWhile_194 ?_
    refine lv_aload_n hx hb d_Steps_checkWhile_197 rfl (lv_at hl 1 rfl) ?_
    refine rd_Steps_35 hx hb hT hown hK hP d_Steps_checkWhile_198 ?_
    refine lv_iload_n hx hb d_Steps_checkWhile_201 rfl (lv_at hl 3 rfl) ?_
    replace hR := bi_e hR
    obtain ⟨r25, l25, T25, hc25, hR⟩ := hR
    refine gcV_i (rest := [.ref (ad 6)]) ⟨hx, hb, hml, hown, hT⟩ (h_Exprs_varAgainstNull _ _ _ _ _ hc25) (cwV 1 hT (gV ml_Steps_225 im_Exprs_varAgainstNull se_Exprs_varAgainstNull ini_Exprs co_Exprs_varAgainstNull) rfl rfl rfl pd_Exprs_varAgainstNull ⟨rm_hi, rm_lo (Nat.le_of_ble_eq_true rfl)⟩) hK hP hD hS hA hnw henv (Nat.le_of_ble_eq_true rfl) rfl rfl hl.1 rfl (Nat.le_of_ble_eq_true rfl) d_Steps_checkWhile_202 ⟨Nat.le_refl _, Nat.le_refl _⟩ (fun H locs hP hD hS => ?_)
    clear hc25
    replace hR := bi_e hR
    obtain ⟨r26, l26, T26, hc26, hR⟩ := hR
    refine gcV_v (rest := []) ⟨hx, hb, hml, hown, hT⟩ (h_Scope_know _ _ _ _ _ hc26) (cwV 1 hT (gV ml_Steps_222 im_Scope_know se_Scope_know ini_Scope co_Scope_know) rfl rfl rfl pd_Scope_know ⟨rm_hi, rm_lo (Nat.le_of_ble_eq_true rfl)⟩) hK hP hD hS hA hnw henv (Nat.le_of_ble_eq_true rfl) rfl rfl hl.1 rfl (Nat.le_of_ble_eq_true rfl) d_Steps_checkWhile_205 ⟨Nat.le_refl _, Nat.le_refl _⟩ (fun H locs hP hD hS => ?_)
    clear hc26
    obtain ⟨-, -, e3⟩ := re_e hR
    subst e3
    exact W.vret hx hb hr (fun t ht hW => ⟨⟨(), rfl, trivial, by rw [ht]; exact hP, va_K.moved hW.alike hK, hD⟩, hS.F ht⟩) hS.2.2 d_Steps_checkWhile_208
  unfold rb_Steps_checkWhile at hR
  refine lv_aload_n hx hb d_Steps_checkWhile_0 rfl (lv_at hl 0 rfl) ?_
  refine rd_Steps_9 hx hb hT hown hK hP d_Steps_checkWhile_1 ?_
  refine rd_Steps_152 hx hb hT hown hK hP d_Steps_checkWhile_4 ?_
  refine lv_iload_n hx hb d_Steps_checkWhile_7 rfl (lv_at hl 1 rfl) ?_
  replace hR := gd_e hR
  obtain ⟨b1, hR⟩ := hR
  refine laH_6 hx hb hK hP b1 d_Steps_checkWhile_8 ?_
  refine lv_topi (fun z2 e2 => ?_)
  replace hR := vK_e e2 hR
  refine lv_istore_n (lv' := [(3, .int z2), (0, .ref (ad 9)), (1, .int p1), (2, .int p2)]) hx hb d_Steps_checkWhile_9 rfl hl (by decide) rfl (fun ls hl => ?_)
  refine lv_aload_n hx hb d_Steps_checkWhile_10 rfl (lv_at hl 1 rfl) ?_
  refine rd_Steps_39 hx hb hT hown hK hP d_Steps_checkWhile_11 ?_
  replace hR := bi_e hR
  obtain ⟨r3, l3, T3, hc3, hR⟩ := hR
  refine gcV_i (rest := []) ⟨hx, hb, hml, hown, hT⟩ (h_Code_count _ _ _ _ hc3) (cwV 0 hT (gV ml_Steps_65 im_Code_count se_Code_count ini_Code co_Code_count) rfl rfl rfl pd_Code_count ⟨rm_hi, rm_lo (Nat.le_of_ble_eq_true rfl)⟩) hK hP hD hS hA hnw henv (Nat.le_of_ble_eq_true rfl) rfl rfl hl.1 rfl (Nat.le_of_ble_eq_true rfl) d_Steps_checkWhile_14 ⟨Nat.le_refl _, Nat.le_refl _⟩ (fun H locs hP hD hS => ?_)
  clear hc3
  refine lv_iconst (v := 1) hx hb d_Steps_checkWhile_17 (by decide) ?_
  refine lv_isub hx hb d_Steps_checkWhile_18 ?_
  refine lv_topi (fun z4 e4 => ?_)
  replace hR := vK_e e4 hR
  refine lv_istore (lv' := [(4, .int z4), (3, .int z2), (0, .ref (ad 9)), (1, .int p1), (2, .int p2)]) hx hb d_Steps_checkWhile_19 hl (by decide) rfl (fun ls hl => ?_)
  refine lv_aload_n hx hb d_Steps_checkWhile_21 rfl (lv_at hl 2 rfl) ?_
  refine rd_Steps_34 hx hb hT hown hK hP d_Steps_checkWhile_22 ?_
  refine lv_aload_n hx hb d_Steps_checkWhile_25 rfl (lv_at hl 2 rfl) ?_
  refine lv_aload_n hx hb d_Steps_checkWhile_26 rfl (lv_at hl 2 rfl) ?_
  refine rd_Steps_9 hx hb hT hown hK hP d_Steps_checkWhile_27 ?_
  refine rd_Steps_128 hx hb hT hown hK hP d_Steps_checkWhile_30 ?_
  refine lv_iload_n hx hb d_Steps_checkWhile_33 rfl (lv_at hl 3 rfl) ?_
  replace hR := gd_e hR
  obtain ⟨b5, hR⟩ := hR
  refine laH_7 hx hb hK hP b5 d_Steps_checkWhile_34 ?_
  refine lv_iload_n hx hb d_Steps_checkWhile_35 rfl (lv_at hl 4 rfl) ?_
  refine lv_iconst (v := 1) hx hb d_Steps_checkWhile_36 (by decide) ?_
  refine lv_iadd hx hb d_Steps_checkWhile_37 ?_
  replace hR := bi_e hR
  obtain ⟨r6, l6, T6, hc6, hR⟩ := hR
  refine gcV_i (rest := [.ref (ad 6)]) ⟨hx, hb, hml, hown, hT⟩ (h_Steps_varsGiven _ _ _ _ _ _ hc6) (cwV 2 hT (gV ml_Steps_238 im_Steps_varsGiven se_Steps_varsGiven ini_Steps co_Steps_varsGiven) rfl rfl rfl pd_Steps_varsGiven ⟨rm_hi, rm_lo (Nat.le_of_ble_eq_true rfl)⟩) hK hP hD hS hA hnw henv (Nat.le_of_ble_eq_true rfl) rfl rfl hl.1 rfl (Nat.le_of_ble_eq_true rfl) d_Steps_checkWhile_38 ⟨Nat.le_refl _, Nat.le_refl _⟩ (fun H locs hP hD hS => ?_)
  clear hc6
  replace hR := bi_e hR
  obtain ⟨r7, l7, T7, hc7, hR⟩ := hR
  refine gcV_v (rest := []) ⟨hx, hb, hml, hown, hT⟩ (h_Scope_forgetKnown _ _ _ _ _ hc7) (cwV 1 hT (gV ml_Steps_241 im_Scope_forgetKnown se_Scope_forgetKnown ini_Scope co_Scope_forgetKnown) rfl rfl rfl pd_Scope_forgetKnown ⟨rm_hi, rm_lo (Nat.le_of_ble_eq_true rfl)⟩) hK hP hD hS hA hnw henv (Nat.le_of_ble_eq_true rfl) rfl rfl hl.1 rfl (Nat.le_of_ble_eq_true rfl) d_Steps_checkWhile_41 ⟨Nat.le_refl _, Nat.le_refl _⟩ (fun H locs hP hD hS => ?_)
  clear hc7
  refine lv_aload_n hx hb d_Steps_checkWhile_44 rfl (lv_at hl 2 rfl) ?_
  refine lv_iload_n hx hb d_Steps_checkWhile_45 rfl (lv_at hl 1 rfl) ?_
  refine lv_iload_n hx hb d_Steps_checkWhile_46 rfl (lv_at hl 4 rfl) ?_
  replace hR := bi_e hR
  obtain ⟨r8, l8, T8, hc8, hR⟩ := hR
  refine gcV_v (rest := []) ⟨hx, hb, hml, hown, hT⟩ (h_Steps_checkQuestion _ _ _ _ _ _ hc8) (cwV 2 hT (gV ml_Steps_212 im_Steps_checkQuestion se_Steps_checkQuestion ini_Steps co_Steps_checkQuestion) rfl rfl rfl pd_Steps_checkQuestion ⟨rm_hi, rm_lo (Nat.le_of_ble_eq_true rfl)⟩) hK hP hD hS hA hnw henv (Nat.le_of_ble_eq_true rfl) rfl rfl hl.1 rfl (Nat.le_of_ble_eq_true rfl) d_Steps_checkWhile_47 ⟨Nat.le_refl _, Nat.le_refl _⟩ (fun H locs hP hD hS => ?_)
  clear hc8
  refine lv_aload_n hx hb d_Steps_checkWhile_50 rfl (lv_at hl 2 rfl) ?_
  refine rd_Steps_39 hx hb hT hown hK hP d_Steps_checkWhile_51 ?_
  refine lv_bipush (v := 51) hx hb d_Steps_checkWhile_54 (by decide) ?_
  refine lv_iconst (v := 0) hx hb d_Steps_checkWhile_56 (by decide) ?_
  refine lv_iconst (v := 0) hx hb d_Steps_checkWhile_57 (by decide) ?_
  replace hR := bi_e hR
  obtain ⟨r9, l9, T9, hc9, hR⟩ := hR
  refine gcV_i (rest := []) ⟨hx, hb, hml, hown, hT⟩ (h_Code_emit _ _ _ _ _ _ _ hc9) (cwV 3 hT (gV ml_Steps_96 im_Code_emit se_Code_emit ini_Code co_Code_emit) rfl rfl rfl pd_Code_emit ⟨rm_hi, rm_lo (Nat.le_of_ble_eq_true rfl)⟩) hK hP hD hS hA hnw henv (Nat.le_of_ble_eq_true rfl) rfl rfl hl.1 rfl (Nat.le_of_ble_eq_true rfl) d_Steps_checkWhile_58 ⟨Nat.le_refl _, Nat.le_refl _⟩ (fun H locs hP hD hS => ?_)
  clear hc9
  refine lv_istore (lv' := [(5, .int r9), (4, .int z4), (3, .int z2), (0, .ref (ad 9)), (1, .int p1), (2, .int p2)]) hx hb d_Steps_checkWhile_61 hl (by decide) rfl (fun ls hl => ?_)
  refine lv_aload_n hx hb d_Steps_checkWhile_63 rfl (lv_at hl 3 rfl) ?_
  refine rd_Steps_34 hx hb hT hown hK hP d_Steps_checkWhile_64 ?_
  refine rd_Steps_215 hx hb hT hown hK hP d_Steps_checkWhile_67 ?_
  refine lv_topl (fun z10 e10 => ?_)
  replace hR := lK_e e10 hR
  refine lv_lstore (lv' := [(6, .long z10), (5, .int r9), (4, .int z4), (3, .int z2), (0, .ref (ad 9)), (1, .int p1), (2, .int p2)]) hx hb d_Steps_checkWhile_70 hl (by decide) rfl (fun ls hl => ?_)
  refine lv_aload_n hx hb d_Steps_checkWhile_72 rfl (lv_at hl 4 rfl) ?_
  refine rd_Steps_34 hx hb hT hown hK hP d_Steps_checkWhile_73 ?_
  refine lv_aload_n hx hb d_Steps_checkWhile_76 rfl (lv_at hl 4 rfl) ?_
  refine rd_Steps_35 hx hb hT hown hK hP d_Steps_checkWhile_77 ?_
  refine lv_iload_n hx hb d_Steps_checkWhile_80 rfl (lv_at hl 3 rfl) ?_
  replace hR := bi_e hR
  obtain ⟨r11, l11, T11, hc11, hR⟩ := hR
  refine gcV_i (rest := [.ref (ad 6)]) ⟨hx, hb, hml, hown, hT⟩ (h_Exprs_varAlone _ _ _ _ _ hc11) (cwV 1 hT (gV ml_Steps_219 im_Exprs_varAlone se_Exprs_varAlone ini_Exprs co_Exprs_varAlone) rfl rfl rfl pd_Exprs_varAlone ⟨rm_hi, rm_lo (Nat.le_of_ble_eq_true rfl)⟩) hK hP hD hS hA hnw henv (Nat.le_of_ble_eq_true rfl) rfl rfl hl.1 rfl (Nat.le_of_ble_eq_true rfl) d_Steps_checkWhile_81 ⟨Nat.le_refl _, Nat.le_refl _⟩ (fun H locs hP hD hS => ?_)
  clear hc11
  replace hR := bi_e hR
  obtain ⟨r12, l12, T12, hc12, hR⟩ := hR
  refine gcV_v (rest := []) ⟨hx, hb, hml, hown, hT⟩ (h_Scope_know _ _ _ _ _ hc12) (cwV 1 hT (gV ml_Steps_222 im_Scope_know se_Scope_know ini_Scope co_Scope_know) rfl rfl rfl pd_Scope_know ⟨rm_hi, rm_lo (Nat.le_of_ble_eq_true rfl)⟩) hK hP hD hS hA hnw henv (Nat.le_of_ble_eq_true rfl) rfl rfl hl.1 rfl (Nat.le_of_ble_eq_true rfl) d_Steps_checkWhile_84 ⟨Nat.le_refl _, Nat.le_refl _⟩ (fun H locs hP hD hS => ?_)
  clear hc12
  refine lv_aload_n hx hb d_Steps_checkWhile_87 rfl (lv_at hl 4 rfl) ?_
  refine lv_aload_n hx hb d_Steps_checkWhile_88 rfl (lv_at hl 4 rfl) ?_
  refine rd_Steps_9 hx hb hT hown hK hP d_Steps_checkWhile_89 ?_
  refine rd_Steps_128 hx hb hT hown hK hP d_Steps_checkWhile_92 ?_
  refine lv_iload_n hx hb d_Steps_checkWhile_95 rfl (lv_at hl 5 rfl) ?_
  replace hR := gd_e hR
  obtain ⟨b13, hR⟩ := hR
  refine laH_7 hx hb hK hP b13 d_Steps_checkWhile_96 ?_
  refine lv_iload_n hx hb d_Steps_checkWhile_97 rfl (lv_at hl 6 rfl) ?_
  refine lv_iconst (v := 1) hx hb d_Steps_checkWhile_98 (by decide) ?_
  refine lv_iadd hx hb d_Steps_checkWhile_99 ?_
  replace hR := bi_e hR
  obtain ⟨r14, l14, T14, hc14, hR⟩ := hR
  refine gcV_v (rest := []) ⟨hx, hb, hml, hown, hT⟩ (h_Steps_checkBlock _ _ _ _ _ _ hc14) (cwV 2 hT (gV ml_Steps_73 im_Steps_checkBlock se_Steps_checkBlock ini_Steps co_Steps_checkBlock) rfl rfl rfl pd_Steps_checkBlock ⟨rm_hi, rm_lo (Nat.le_of_ble_eq_true rfl)⟩) hK hP hD hS hA hnw henv (Nat.le_of_ble_eq_true rfl) rfl rfl hl.1 rfl (Nat.le_of_ble_eq_true rfl) d_Steps_checkWhile_100 ⟨Nat.le_refl _, Nat.le_refl _⟩ (fun H locs hP hD hS => ?_)
  clear hc14
  refine lv_aload_n hx hb d_Steps_checkWhile_103 rfl (lv_at hl 4 rfl) ?_
  refine rd_Steps_34 hx hb hT hown hK hP d_Steps_checkWhile_104 ?_
  replace hR := bi_e hR
  obtain ⟨r15, l15, T15, hc15, hR⟩ := hR
  refine gcV_i (rest := []) ⟨hx, hb, hml, hown, hT⟩ (h_Scope_isReached _ _ _ _ hc15) (cwV 0 hT (gV ml_Steps_80 im_Scope_isReached se_Scope_isReached ini_Scope co_Scope_isReached) rfl rfl rfl pd_Scope_isReached ⟨rm_hi, rm_lo (Nat.le_of_ble_eq_true rfl)⟩) hK hP hD hS hA hnw henv (Nat.le_of_ble_eq_true rfl) rfl rfl hl.1 rfl (Nat.le_of_ble_eq_true rfl) d_Steps_checkWhile_107 ⟨Nat.le_refl _, Nat.le_refl _⟩ (fun H locs hP hD hS => ?_)
  clear hc15
  refine lv_if_eq (tgt := 128) hx hb d_Steps_checkWhile_110 (by decide) (fun c16 => ?_) (fun c16 => ?_)
  · replace hR := if_p c16 hR
    refine lv_iconst (v := 1) hx hb d_Steps_checkWhile_128 (by decide) ?_
    refine lv_goto (tgt := 133) hx hb d_Steps_checkWhile_129 (by decide) ?_
    have g := lb_133 T15 p1 z2 z4 r9 z10 (1 : Int32) hR
    rw [hG] at g
    exact g _ _ hP hD hS _ (lv_sub hl [4, 5, 3, 2, 1, 0] rfl)
  · replace hR := if_n c16 hR
    refine lv_aload_n hx hb d_Steps_checkWhile_113 rfl (lv_at hl 4 rfl) ?_
    refine rd_Steps_34 hx hb hT hown hK hP d_Steps_checkWhile_114 ?_
    refine rd_Steps_215 hx hb hT hown hK hP d_Steps_checkWhile_117 ?_
    refine lv_lload hx hb d_Steps_checkWhile_120 (lv_at hl 0 rfl) ?_
    replace hR := bi_e hR
    obtain ⟨r17, l17, T17, hc17, hR⟩ := hR
    refine gcS_i (rest := []) ⟨hx, hb, hml, hown, hT⟩ (h_Scope_sameLive _ _ _ _ _ _ hc17) (va_cwS 2 hT (gS ml_Steps_244 st_Scope_sameLive ini_Scope co_Scope_sameLive) rfl rfl rfl pd_Scope_sameLive ⟨rm_hi, rm_lo (Nat.le_of_ble_eq_true rfl)⟩) hK hP hD hS hA hnw henv rfl hl.1 rfl (Nat.le_of_ble_eq_true rfl) d_Steps_checkWhile_122 ⟨Nat.le_refl _, Nat.le_refl _⟩ (fun H locs hP hD hS => ?_)
    clear hc17
    refine lv_if_eq (tgt := 132) hx hb d_Steps_checkWhile_125 (by decide) (fun c18 => ?_) (fun c18 => ?_)
    · replace hR := if_p c18 hR
      refine lv_iconst (v := 0) hx hb d_Steps_checkWhile_132 (by decide) ?_
      have g := lb_133 T17 p1 z2 z4 r9 z10 (0 : Int32) hR
      rw [hG] at g
      exact g _ _ hP hD hS _ (lv_sub hl [4, 5, 3, 2, 1, 0] rfl)
    · replace hR := if_n c18 hR
      refine lv_iconst (v := 1) hx hb d_Steps_checkWhile_128 (by decide) ?_
      refine lv_goto (tgt := 133) hx hb d_Steps_checkWhile_129 (by decide) ?_
      have g := lb_133 T17 p1 z2 z4 r9 z10 (1 : Int32) hR
      rw [hG] at g
      exact g _ _ hP hD hS _ (lv_sub hl [4, 5, 3, 2, 1, 0] rfl)
set_option maxHeartbeats 4000000 in
set_option maxRecDepth 100000 in
theorem sp_Steps_checkRegion (l : Launch) (dC : Nat → ClassId) (dI : Nat → Nat → Nat) (ea ev ad : Nat → Nat) (km : Nat → ClassId) (F : gF) (nf d : Nat) (h_Source_nameAt : mt_Source_nameAt l dC dI ea ev ad km F d) (h_Scope_findRegion : mt_Scope_findRegion l dC dI ea ev ad km F d) (h_Source_startOf : mt_Source_startOf l dC dI ea ev ad km F d) (h_Exprs_demand : mt_Exprs_demand l dC dI ea ev ad km F d) (h_Scope_openRegion : mt_Scope_openRegion l dC dI ea ev ad km F d) (h_Code_emit : mt_Code_emit l dC dI ea ev ad km F d) (h_Steps_checkBlock : mt_Steps_checkBlock l dC dI ea ev ad km F d) (h_Scope_isLive : mt_Scope_isLive l dC dI ea ev ad km F d) (h_Scope_leaveRegion : mt_Scope_leaveRegion l dC dI ea ev ad km F d) (T0 : gSt) (p1 : Int32) (p2 : Int32) (r0 : Int32) (rl0 : Int64) (T9 : gSt) (hR : rb_Steps_checkRegion F nf T0 p1 p2 = some (r0, rl0, T9)) : GMv l dC dI LH ad km ea ev y_Steps_checkRegion w_Steps_checkRegion (rmD (d + 1)) [.ref (ad 9), .int p1, .int p2] T0 T9 := by
  intro sz
  refine Met.ofW (cc := b_Steps_checkRegion) (maxL := 6) (ret := none) (by decide) rfl ?_
  intro p e s m args below meth c s₁ B hml hv
  obtain ⟨rfl, hsz, hP, hK, hD0, hnw, henv⟩ := hv
  have hx := B.exec
  have hb := B.bytes
  have hr := B.returns
  have hT : ∀ w ∈ lw_good, w.before _ s = true := fun w h => atoms_spec (ws := w_Steps_checkRegion) B.pre w (List.mem_cons_of_mem _ h)
  have hown : s.vm.findClass R_Steps = some m.cls := findClass_of_methodNamed B.named
  subst hsz
  have hD := hD0.self (sz := s.heap.size)
  clear hD0
  generalize hAe : va_A (gW LH ad km T0) s.heap.size = A at hD henv ⊢
  have hA : ∀ q : Nat, s.heap.size ≤ q → A q := fun q h => by rw [← hAe]; exact Or.inr h
  have hS : va_S A s.heap s.heap [] := va_S.rf
  have hl := lv_entry ([.ref (ad 9), .int p1, .int p2]) (n := 6) (Nat.le_of_ble_eq_true rfl)
  rw [lg_entry_eq]
  generalize (lg_sl ([.ref (ad 9), .int p1, .int p2]) ++ List.replicate (6 - (lg_sl ([.ref (ad 9), .int p1, .int p2])).length) Slot.unset).toArray = ls at hl ⊢
  have hl : lv_has ls 6 [(0, .ref (ad 9)), (1, .int p1), (2, .int p2)] := hl
  obtain ⟨G, hG⟩ : ∃ G : Nat → List (Nat × Value) → List Value → gSt → Prop, G = (fun pc lv stk T => ∀ (H : Heap) (locs : List Loc), va_P (dC, dI) cls_all (gW LH ad km T) H → va_D A (gW LH ad km T) → va_S A s.heap H locs → ∀ (ls : Array Slot), lv_has ls 6 lv → W p l e (headSpec w_Steps_checkRegion (rmD (d + 1))).room s m ([.ref (ad 9), .int p1, .int p2] : List Value).toArray below meth c H locs 0 0 (MQ below (va_Qv (fun (_ : Unit) => True) (fun _ t => gPost dC dI LH ad km T9 A t) A) ([.ref (ad 9), .int p1, .int p2] : List Value).toArray s 0 0 A) (F0 m pc ls stk)) := ⟨_, rfl⟩
  have lb_36 : ∀ (T : gSt) (x1 : Int32) (x2 : Int32) (x3 : Int32) (y0 : Int32), rj_Steps_checkRegion_36 F nf T x1 x2 x3 y0 = some (r0, rl0, T9) → G 36 [(0, .ref (ad 9)), (1, .int x1), (2, .int x2), (3, .int x3)] [.int y0] T := by
    intro T x1 x2 x3 y0 hR; unfold rj_Steps_checkRegion_36 at hR; rw [hG]; intro H locs hP hD hS ls hl
    refine lv_istore (lv' := [(4, .int y0), (0, .ref (ad 9)), (1, .int x1), (2, .int x2), (3, .int x3)]) hx hb d_Steps_checkRegion_36 hl (by decide) rfl (fun ls hl => ?_)
    refine lv_aload_n hx hb d_Steps_checkRegion_38 rfl (lv_at hl 1 rfl) ?_
    refine rd_Steps_35 hx hb hT hown hK hP d_Steps_checkRegion_39 ?_
    refine lv_iload hx hb d_Steps_checkRegion_42 (lv_at hl 0 rfl) ?_
    refine lv_iconst (v := 2) hx hb d_Steps_checkRegion_44 (by decide) ?_
    refine lv_aload_n hx hb d_Steps_checkRegion_45 rfl (lv_at hl 1 rfl) ?_
    refine rd_Steps_9 hx hb hT hown hK hP d_Steps_checkRegion_46 ?_
    refine lv_iload_n hx hb d_Steps_checkRegion_49 rfl (lv_at hl 4 rfl) ?_
    replace hR := bi_e hR
    obtain ⟨r6, l6, T6, hc6, hR⟩ := hR
    refine gcV_i (rest := [.int (2 : Int32), .int y0, .ref (ad 8)]) ⟨hx, hb, hml, hown, hT⟩ (h_Source_startOf _ _ _ _ _ hc6) (cwV 1 hT (gV ml_Steps_87 im_Source_startOf se_Source_startOf ini_Source co_Source_startOf) rfl rfl rfl pd_Source_startOf ⟨rm_hi, rm_lo (Nat.le_of_ble_eq_true rfl)⟩) hK hP hD hS hA hnw henv (Nat.le_of_ble_eq_true rfl) rfl rfl hl.1 rfl (Nat.le_of_ble_eq_true rfl) d_Steps_checkRegion_50 ⟨Nat.le_refl _, Nat.le_refl _⟩ (fun H locs hP hD hS => ?_)
    clear hc6
    replace hR := bi_e hR
    obtain ⟨r7, l7, T7, hc7, hR⟩ := hR
    refine gcV_v (rest := []) ⟨hx, hb, hml, hown, hT⟩ (h_Exprs_demand _ _ _ _ _ _ _ hc7) (cwV 3 hT (gV ml_Steps_191 im_Exprs_demand se_Exprs_demand ini_Exprs co_Exprs_demand) rfl rfl rfl pd_Exprs_demand ⟨rm_hi, rm_lo (Nat.le_of_ble_eq_true rfl)⟩) hK hP hD hS hA hnw henv (Nat.le_of_ble_eq_true rfl) rfl rfl hl.1 rfl (Nat.le_of_ble_eq_true rfl) d_Steps_checkRegion_53 ⟨Nat.le_refl _, Nat.le_refl _⟩ (fun H locs hP hD hS => ?_)
    clear hc7
    refine lv_aload_n hx hb d_Steps_checkRegion_56 rfl (lv_at hl 1 rfl) ?_
    refine rd_Steps_34 hx hb hT hown hK hP d_Steps_checkRegion_57 ?_
    refine lv_aload_n hx hb d_Steps_checkRegion_60 rfl (lv_at hl 1 rfl) ?_
    refine rd_Steps_9 hx hb hT hown hK hP d_Steps_checkRegion_61 ?_
    refine lv_iload_n hx hb d_Steps_checkRegion_64 rfl (lv_at hl 4 rfl) ?_
    replace hR := bi_e hR
    obtain ⟨r8, l8, T8, hc8, hR⟩ := hR
    refine gcV_l (rest := [.ref (ad 6)]) ⟨hx, hb, hml, hown, hT⟩ (h_Source_nameAt _ _ _ _ _ hc8) (cwV 1 hT (gV ml_Steps_183 im_Source_nameAt se_Source_nameAt ini_Source co_Source_nameAt) rfl rfl rfl pd_Source_nameAt ⟨rm_hi, rm_lo (Nat.le_of_ble_eq_true rfl)⟩) hK hP hD hS hA hnw henv (Nat.le_of_ble_eq_true rfl) rfl rfl hl.1 rfl (Nat.le_of_ble_eq_true rfl) d_Steps_checkRegion_65 ⟨Nat.le_refl _, Nat.le_refl _⟩ (fun H locs hP hD hS => ?_)
    clear hc8
    replace hR := bi_e hR
    obtain ⟨r9, l9, T9, hc9, hR⟩ := hR
    refine gcV_i (rest := []) ⟨hx, hb, hml, hown, hT⟩ (h_Scope_openRegion _ _ _ _ _ hc9) (cwV 1 hT (gV ml_Steps_250 im_Scope_openRegion se_Scope_openRegion ini_Scope co_Scope_openRegion) rfl rfl rfl pd_Scope_openRegion ⟨rm_hi, rm_lo (Nat.le_of_ble_eq_true rfl)⟩) hK hP hD hS hA hnw henv (Nat.le_of_ble_eq_true rfl) rfl rfl hl.1 rfl (Nat.le_of_ble_eq_true rfl) d_Steps_checkRegion_68 ⟨Nat.le_refl _, Nat.le_refl _⟩ (fun H locs hP hD hS => ?_)
    clear hc9
    refine lv_istore (lv' := [(5, .int r9), (4, .int y0), (0, .ref (ad 9)), (1, .int x1), (2, .int x2), (3, .int x3)]) hx hb d_Steps_checkRegion_71 hl (by decide) rfl (fun ls hl => ?_)
    refine lv_aload_n hx hb d_Steps_checkRegion_73 rfl (lv_at hl 2 rfl) ?_
    refine rd_Steps_39 hx hb hT hown hK hP d_Steps_checkRegion_74 ?_
    refine lv_bipush (v := 52) hx hb d_Steps_checkRegion_77 (by decide) ?_
    refine lv_iload hx hb d_Steps_checkRegion_79 (lv_at hl 0 rfl) ?_
    refine lv_iconst (v := 0) hx hb d_Steps_checkRegion_81 (by decide) ?_
    replace hR := bi_e hR
    obtain ⟨r10, l10, T10, hc10, hR⟩ := hR
    refine gcV_i (rest := []) ⟨hx, hb, hml, hown, hT⟩ (h_Code_emit _ _ _ _ _ _ _ hc10) (cwV 3 hT (gV ml_Steps_96 im_Code_emit se_Code_emit ini_Code co_Code_emit) rfl rfl rfl pd_Code_emit ⟨rm_hi, rm_lo (Nat.le_of_ble_eq_true rfl)⟩) hK hP hD hS hA hnw henv (Nat.le_of_ble_eq_true rfl) rfl rfl hl.1 rfl (Nat.le_of_ble_eq_true rfl) d_Steps_checkRegion_82 ⟨Nat.le_refl _, Nat.le_refl _⟩ (fun H locs hP hD hS => ?_)
    clear hc10
    refine lv_pop hx hb d_Steps_checkRegion_85 rfl ?_
    refine lv_aload_n hx hb d_Steps_checkRegion_86 rfl (lv_at hl 2 rfl) ?_
    refine lv_aload_n hx hb d_Steps_checkRegion_87 rfl (lv_at hl 2 rfl) ?_
    refine rd_Steps_9 hx hb hT hown hK hP d_Steps_checkRegion_88 ?_
    refine rd_Steps_128 hx hb hT hown hK hP d_Steps_checkRegion_91 ?_
    refine lv_iload_n hx hb d_Steps_checkRegion_94 rfl (lv_at hl 3 rfl) ?_
    replace hR := gd_e hR
    obtain ⟨b11, hR⟩ := hR
    refine laH_7 hx hb hK hP b11 d_Steps_checkRegion_95 ?_
    refine lv_iload_n hx hb d_Steps_checkRegion_96 rfl (lv_at hl 4 rfl) ?_
    refine lv_iconst (v := 1) hx hb d_Steps_checkRegion_97 (by decide) ?_
    refine lv_iadd hx hb d_Steps_checkRegion_98 ?_
    replace hR := bi_e hR
    obtain ⟨r12, l12, T12, hc12, hR⟩ := hR
    refine gcV_v (rest := []) ⟨hx, hb, hml, hown, hT⟩ (h_Steps_checkBlock _ _ _ _ _ _ hc12) (cwV 2 hT (gV ml_Steps_73 im_Steps_checkBlock se_Steps_checkBlock ini_Steps co_Steps_checkBlock) rfl rfl rfl pd_Steps_checkBlock ⟨rm_hi, rm_lo (Nat.le_of_ble_eq_true rfl)⟩) hK hP hD hS hA hnw henv (Nat.le_of_ble_eq_true rfl) rfl rfl hl.1 rfl (Nat.le_of_ble_eq_true rfl) d_Steps_checkRegion_99 ⟨Nat.le_refl _, Nat.le_refl _⟩ (fun H locs hP hD hS => ?_)
    clear hc12
    refine lv_aload_n hx hb d_Steps_checkRegion_102 rfl (lv_at hl 2 rfl) ?_
    refine rd_Steps_34 hx hb hT hown hK hP d_Steps_checkRegion_103 ?_
    refine lv_iload hx hb d_Steps_checkRegion_106 (lv_at hl 0 rfl) ?_
    replace hR := bi_e hR
    obtain ⟨r13, l13, T13, hc13, hR⟩ := hR
    refine gcV_i (rest := []) ⟨hx, hb, hml, hown, hT⟩ (h_Scope_isLive _ _ _ _ _ hc13) (cwV 1 hT (gV ml_Steps_253 im_Scope_isLive se_Scope_isLive ini_Scope co_Scope_isLive) rfl rfl rfl pd_Scope_isLive ⟨rm_hi, rm_lo (Nat.le_of_ble_eq_true rfl)⟩) hK hP hD hS hA hnw henv (Nat.le_of_ble_eq_true rfl) rfl rfl hl.1 rfl (Nat.le_of_ble_eq_true rfl) d_Steps_checkRegion_108 ⟨Nat.le_refl _, Nat.le_refl _⟩ (fun H locs hP hD hS => ?_)
    clear hc13
    refine lv_if_eq (tgt := 127) hx hb d_Steps_checkRegion_111 (by decide) (fun c14 => ?_) (fun c14 => ?_)
    · replace hR := if_p c14 hR
      refine lv_aload_n hx hb d_Steps_checkRegion_127 rfl (lv_at hl 2 rfl) ?_
      refine rd_Steps_34 hx hb hT hown hK hP d_Steps_checkRegion_128 ?_
      refine lv_iload hx hb d_Steps_checkRegion_131 (lv_at hl 0 rfl) ?_
      replace hR := bi_e hR
      obtain ⟨r15, l15, T15, hc15, hR⟩ := hR
      refine gcV_v (rest := []) ⟨hx, hb, hml, hown, hT⟩ (h_Scope_leaveRegion _ _ _ _ _ hc15) (cwV 1 hT (gV ml_Steps_256 im_Scope_leaveRegion se_Scope_leaveRegion ini_Scope co_Scope_leaveRegion) rfl rfl rfl pd_Scope_leaveRegion ⟨rm_hi, rm_lo (Nat.le_of_ble_eq_true rfl)⟩) hK hP hD hS hA hnw henv (Nat.le_of_ble_eq_true rfl) rfl rfl hl.1 rfl (Nat.le_of_ble_eq_true rfl) d_Steps_checkRegion_133 ⟨Nat.le_refl _, Nat.le_refl _⟩ (fun H locs hP hD hS => ?_)
      clear hc15
      obtain ⟨-, -, e3⟩ := re_e hR
      subst e3
      exact W.vret hx hb hr (fun t ht hW => ⟨⟨(), rfl, trivial, by rw [ht]; exact hP, va_K.moved hW.alike hK, hD⟩, hS.F ht⟩) hS.2.2 d_Steps_checkRegion_136
    · replace hR := if_n c14 hR
      refine lv_aload_n hx hb d_Steps_checkRegion_114 rfl (lv_at hl 2 rfl) ?_
      refine rd_Steps_39 hx hb hT hown hK hP d_Steps_checkRegion_115 ?_
      refine lv_bipush (v := 53) hx hb d_Steps_checkRegion_118 (by decide) ?_
      refine lv_iload hx hb d_Steps_checkRegion_120 (lv_at hl 0 rfl) ?_
      refine lv_iconst (v := 0) hx hb d_Steps_checkRegion_122 (by decide) ?_
      replace hR := bi_e hR
      obtain ⟨r16, l16, T16, hc16, hR⟩ := hR
      refine gcV_i (rest := []) ⟨hx, hb, hml, hown, hT⟩ (h_Code_emit _ _ _ _ _ _ _ hc16) (cwV 3 hT (gV ml_Steps_96 im_Code_emit se_Code_emit ini_Code co_Code_emit) rfl rfl rfl pd_Code_emit ⟨rm_hi, rm_lo (Nat.le_of_ble_eq_true rfl)⟩) hK hP hD hS hA hnw henv (Nat.le_of_ble_eq_true rfl) rfl rfl hl.1 rfl (Nat.le_of_ble_eq_true rfl) d_Steps_checkRegion_123 ⟨Nat.le_refl _, Nat.le_refl _⟩ (fun H locs hP hD hS => ?_)
      clear hc16
      refine lv_pop hx hb d_Steps_checkRegion_126 rfl ?_
      refine lv_aload_n hx hb d_Steps_checkRegion_127 rfl (lv_at hl 2 rfl) ?_
      refine rd_Steps_34 hx hb hT hown hK hP d_Steps_checkRegion_128 ?_
      refine lv_iload hx hb d_Steps_checkRegion_131 (lv_at hl 0 rfl) ?_
      replace hR := bi_e hR
      obtain ⟨r17, l17, T17, hc17, hR⟩ := hR
      refine gcV_v (rest := []) ⟨hx, hb, hml, hown, hT⟩ (h_Scope_leaveRegion _ _ _ _ _ hc17) (cwV 1 hT (gV ml_Steps_256 im_Scope_leaveRegion se_Scope_leaveRegion ini_Scope co_Scope_leaveRegion) rfl rfl rfl pd_Scope_leaveRegion ⟨rm_hi, rm_lo (Nat.le_of_ble_eq_true rfl)⟩) hK hP hD hS hA hnw henv (Nat.le_of_ble_eq_true rfl) rfl rfl hl.1 rfl (Nat.le_of_ble_eq_true rfl) d_Steps_checkRegion_133 ⟨Nat.le_refl _, Nat.le_refl _⟩ (fun H locs hP hD hS => ?_)
      clear hc17
      obtain ⟨-, -, e3⟩ := re_e hR
      subst e3
      exact W.vret hx hb hr (fun t ht hW => ⟨⟨(), rfl, trivial, by rw [ht]; exact hP, va_K.moved hW.alike hK, hD⟩, hS.F ht⟩) hS.2.2 d_Steps_checkRegion_136
  unfold rb_Steps_checkRegion at hR
  refine lv_aload_n hx hb d_Steps_checkRegion_0 rfl (lv_at hl 0 rfl) ?_
  refine rd_Steps_9 hx hb hT hown hK hP d_Steps_checkRegion_1 ?_
  refine rd_Steps_103 hx hb hT hown hK hP d_Steps_checkRegion_4 ?_
  refine lv_iload_n hx hb d_Steps_checkRegion_7 rfl (lv_at hl 1 rfl) ?_
  replace hR := gd_e hR
  obtain ⟨b1, hR⟩ := hR
  refine laH_2 hx hb hK hP b1 d_Steps_checkRegion_8 ?_
  refine lv_iconst (v := 1) hx hb d_Steps_checkRegion_9 (by decide) ?_
  refine lv_iadd hx hb d_Steps_checkRegion_10 ?_
  refine lv_topi (fun z2 e2 => ?_)
  replace hR := vK_e e2 hR
  refine lv_istore_n (lv' := [(3, .int z2), (0, .ref (ad 9)), (1, .int p1), (2, .int p2)]) hx hb d_Steps_checkRegion_11 rfl hl (by decide) rfl (fun ls hl => ?_)
  refine lv_aload_n hx hb d_Steps_checkRegion_12 rfl (lv_at hl 1 rfl) ?_
  refine rd_Steps_34 hx hb hT hown hK hP d_Steps_checkRegion_13 ?_
  refine lv_aload_n hx hb d_Steps_checkRegion_16 rfl (lv_at hl 1 rfl) ?_
  refine rd_Steps_9 hx hb hT hown hK hP d_Steps_checkRegion_17 ?_
  refine lv_iload_n hx hb d_Steps_checkRegion_20 rfl (lv_at hl 0 rfl) ?_
  replace hR := bi_e hR
  obtain ⟨r3, l3, T3, hc3, hR⟩ := hR
  refine gcV_l (rest := [.ref (ad 6)]) ⟨hx, hb, hml, hown, hT⟩ (h_Source_nameAt _ _ _ _ _ hc3) (cwV 1 hT (gV ml_Steps_183 im_Source_nameAt se_Source_nameAt ini_Source co_Source_nameAt) rfl rfl rfl pd_Source_nameAt ⟨rm_hi, rm_lo (Nat.le_of_ble_eq_true rfl)⟩) hK hP hD hS hA hnw henv (Nat.le_of_ble_eq_true rfl) rfl rfl hl.1 rfl (Nat.le_of_ble_eq_true rfl) d_Steps_checkRegion_21 ⟨Nat.le_refl _, Nat.le_refl _⟩ (fun H locs hP hD hS => ?_)
  clear hc3
  replace hR := bi_e hR
  obtain ⟨r4, l4, T4, hc4, hR⟩ := hR
  refine gcV_i (rest := []) ⟨hx, hb, hml, hown, hT⟩ (h_Scope_findRegion _ _ _ _ _ hc4) (cwV 1 hT (gV ml_Steps_247 im_Scope_findRegion se_Scope_findRegion ini_Scope co_Scope_findRegion) rfl rfl rfl pd_Scope_findRegion ⟨rm_hi, rm_lo (Nat.le_of_ble_eq_true rfl)⟩) hK hP hD hS hA hnw henv (Nat.le_of_ble_eq_true rfl) rfl rfl hl.1 rfl (Nat.le_of_ble_eq_true rfl) d_Steps_checkRegion_24 ⟨Nat.le_refl _, Nat.le_refl _⟩ (fun H locs hP hD hS => ?_)
  clear hc4
  refine lv_iconst (v := (-1)) hx hb d_Steps_checkRegion_27 (by decide) ?_
  refine lv_icmp_ne (tgt := 35) hx hb d_Steps_checkRegion_28 (by decide) (fun c5 => ?_) (fun c5 => ?_)
  · replace hR := if_n c5 hR
    refine lv_iconst (v := 0) hx hb d_Steps_checkRegion_35 (by decide) ?_
    have g := lb_36 T4 p1 p2 z2 (0 : Int32) hR
    rw [hG] at g
    exact g _ _ hP hD hS _ (lv_sub hl [1, 2, 3, 0] rfl)
  · replace hR := if_p c5 hR
    refine lv_iconst (v := 1) hx hb d_Steps_checkRegion_31 (by decide) ?_
    refine lv_goto (tgt := 36) hx hb d_Steps_checkRegion_32 (by decide) ?_
    have g := lb_36 T4 p1 p2 z2 (1 : Int32) hR
    rw [hG] at g
    exact g _ _ hP hD hS _ (lv_sub hl [1, 2, 3, 0] rfl)
set_option maxHeartbeats 4000000 in
set_option maxRecDepth 100000 in
theorem sp_Steps_checkClose (l : Launch) (dC : Nat → ClassId) (dI : Nat → Nat → Nat) (ea ev ad : Nat → Nat) (km : Nat → ClassId) (F : gF) (nf d : Nat) (h_Source_nameAt : mt_Source_nameAt l dC dI ea ev ad km F d) (h_Scope_findRegion : mt_Scope_findRegion l dC dI ea ev ad km F d) (h_Source_startOf : mt_Source_startOf l dC dI ea ev ad km F d) (h_Exprs_demand : mt_Exprs_demand l dC dI ea ev ad km F d) (h_Scope_mayClose : mt_Scope_mayClose l dC dI ea ev ad km F d) (h_Scope_setLive : mt_Scope_setLive l dC dI ea ev ad km F d) (h_Code_emit : mt_Code_emit l dC dI ea ev ad km F d) (h_Code_note : mt_Code_note l dC dI ea ev ad km F d) (T0 : gSt) (p1 : Int32) (r0 : Int32) (rl0 : Int64) (T9 : gSt) (hR : rb_Steps_checkClose F nf T0 p1 = some (r0, rl0, T9)) : GMv l dC dI LH ad km ea ev y_Steps_checkClose w_Steps_checkClose (rmD (d + 1)) [.ref (ad 9), .int p1] T0 T9 := by
  intro sz
  refine Met.ofW (cc := b_Steps_checkClose) (maxL := 4) (ret := none) (by decide) rfl ?_
  intro p e s m args below meth c s₁ B hml hv
  obtain ⟨rfl, hsz, hP, hK, hD0, hnw, henv⟩ := hv
  have hx := B.exec
  have hb := B.bytes
  have hr := B.returns
  have hT : ∀ w ∈ lw_good, w.before _ s = true := fun w h => atoms_spec (ws := w_Steps_checkClose) B.pre w (List.mem_cons_of_mem _ h)
  have hown : s.vm.findClass R_Steps = some m.cls := findClass_of_methodNamed B.named
  subst hsz
  have hD := hD0.self (sz := s.heap.size)
  clear hD0
  generalize hAe : va_A (gW LH ad km T0) s.heap.size = A at hD henv ⊢
  have hA : ∀ q : Nat, s.heap.size ≤ q → A q := fun q h => by rw [← hAe]; exact Or.inr h
  have hS : va_S A s.heap s.heap [] := va_S.rf
  have hl := lv_entry ([.ref (ad 9), .int p1]) (n := 4) (Nat.le_of_ble_eq_true rfl)
  rw [lg_entry_eq]
  generalize (lg_sl ([.ref (ad 9), .int p1]) ++ List.replicate (4 - (lg_sl ([.ref (ad 9), .int p1])).length) Slot.unset).toArray = ls at hl ⊢
  have hl : lv_has ls 4 [(0, .ref (ad 9)), (1, .int p1)] := hl
  obtain ⟨G, hG⟩ : ∃ G : Nat → List (Nat × Value) → List Value → gSt → Prop, G = (fun pc lv stk T => ∀ (H : Heap) (locs : List Loc), va_P (dC, dI) cls_all (gW LH ad km T) H → va_D A (gW LH ad km T) → va_S A s.heap H locs → ∀ (ls : Array Slot), lv_has ls 4 lv → W p l e (headSpec w_Steps_checkClose (rmD (d + 1))).room s m ([.ref (ad 9), .int p1] : List Value).toArray below meth c H locs 0 0 (MQ below (va_Qv (fun (_ : Unit) => True) (fun _ t => gPost dC dI LH ad km T9 A t) A) ([.ref (ad 9), .int p1] : List Value).toArray s 0 0 A) (F0 m pc ls stk)) := ⟨_, rfl⟩
  have lb_42 : ∀ (T : gSt) (x2 : Int32) (x3 : Int32) (y0 : Int32), rj_Steps_checkClose_42 F nf T x2 x3 y0 = some (r0, rl0, T9) → G 42 [(0, .ref (ad 9)), (2, .int x2), (3, .int x3)] [.int y0, .ref (ad 8)] T := by
    intro T x2 x3 y0 hR; unfold rj_Steps_checkClose_42 at hR; rw [hG]; intro H locs hP hD hS ls hl
    refine lv_iconst (v := 3) hx hb d_Steps_checkClose_42 (by decide) ?_
    refine lv_aload_n hx hb d_Steps_checkClose_43 rfl (lv_at hl 0 rfl) ?_
    refine rd_Steps_9 hx hb hT hown hK hP d_Steps_checkClose_44 ?_
    refine lv_iload_n hx hb d_Steps_checkClose_47 rfl (lv_at hl 1 rfl) ?_
    refine lv_iconst (v := 1) hx hb d_Steps_checkClose_48 (by decide) ?_
    refine lv_iadd hx hb d_Steps_checkClose_49 ?_
    replace hR := bi_e hR
    obtain ⟨r6, l6, T6, hc6, hR⟩ := hR
    refine gcV_i (rest := [.int (3 : Int32), .int y0, .ref (ad 8)]) ⟨hx, hb, hml, hown, hT⟩ (h_Source_startOf _ _ _ _ _ hc6) (cwV 1 hT (gV ml_Steps_87 im_Source_startOf se_Source_startOf ini_Source co_Source_startOf) rfl rfl rfl pd_Source_startOf ⟨rm_hi, rm_lo (Nat.le_of_ble_eq_true rfl)⟩) hK hP hD hS hA hnw henv (Nat.le_of_ble_eq_true rfl) rfl rfl hl.1 rfl (Nat.le_of_ble_eq_true rfl) d_Steps_checkClose_50 ⟨Nat.le_refl _, Nat.le_refl _⟩ (fun H locs hP hD hS => ?_)
    clear hc6
    replace hR := bi_e hR
    obtain ⟨r7, l7, T7, hc7, hR⟩ := hR
    refine gcV_v (rest := []) ⟨hx, hb, hml, hown, hT⟩ (h_Exprs_demand _ _ _ _ _ _ _ hc7) (cwV 3 hT (gV ml_Steps_191 im_Exprs_demand se_Exprs_demand ini_Exprs co_Exprs_demand) rfl rfl rfl pd_Exprs_demand ⟨rm_hi, rm_lo (Nat.le_of_ble_eq_true rfl)⟩) hK hP hD hS hA hnw henv (Nat.le_of_ble_eq_true rfl) rfl rfl hl.1 rfl (Nat.le_of_ble_eq_true rfl) d_Steps_checkClose_53 ⟨Nat.le_refl _, Nat.le_refl _⟩ (fun H locs hP hD hS => ?_)
    clear hc7
    refine lv_aload_n hx hb d_Steps_checkClose_56 rfl (lv_at hl 0 rfl) ?_
    refine rd_Steps_34 hx hb hT hown hK hP d_Steps_checkClose_57 ?_
    refine lv_iload_n hx hb d_Steps_checkClose_60 rfl (lv_at hl 2 rfl) ?_
    replace hR := bi_e hR
    obtain ⟨r8, l8, T8, hc8, hR⟩ := hR
    refine gcV_i (rest := []) ⟨hx, hb, hml, hown, hT⟩ (h_Scope_mayClose _ _ _ _ _ hc8) (cwV 1 hT (gV ml_Steps_259 im_Scope_mayClose se_Scope_mayClose ini_Scope co_Scope_mayClose) rfl rfl rfl pd_Scope_mayClose ⟨rm_hi, rm_lo (Nat.le_of_ble_eq_true rfl)⟩) hK hP hD hS hA hnw henv (Nat.le_of_ble_eq_true rfl) rfl rfl hl.1 rfl (Nat.le_of_ble_eq_true rfl) d_Steps_checkClose_61 ⟨Nat.le_refl _, Nat.le_refl _⟩ (fun H locs hP hD hS => ?_)
    clear hc8
    refine lv_if_ne (tgt := 85) hx hb d_Steps_checkClose_64 (by decide) (fun c9 => ?_) (fun c9 => ?_)
    · replace hR := if_n c9 hR
      refine lv_aload_n hx hb d_Steps_checkClose_85 rfl (lv_at hl 0 rfl) ?_
      refine rd_Steps_34 hx hb hT hown hK hP d_Steps_checkClose_86 ?_
      refine lv_iload_n hx hb d_Steps_checkClose_89 rfl (lv_at hl 2 rfl) ?_
      refine lv_iconst (v := 0) hx hb d_Steps_checkClose_90 (by decide) ?_
      replace hR := bi_e hR
      obtain ⟨r10, l10, T10, hc10, hR⟩ := hR
      refine gcV_v (rest := []) ⟨hx, hb, hml, hown, hT⟩ (h_Scope_setLive _ _ _ _ _ _ hc10) (cwV 2 hT (gV ml_Steps_262 im_Scope_setLive se_Scope_setLive ini_Scope co_Scope_setLive) rfl rfl rfl pd_Scope_setLive ⟨rm_hi, rm_lo (Nat.le_of_ble_eq_true rfl)⟩) hK hP hD hS hA hnw henv (Nat.le_of_ble_eq_true rfl) rfl rfl hl.1 rfl (Nat.le_of_ble_eq_true rfl) d_Steps_checkClose_91 ⟨Nat.le_refl _, Nat.le_refl _⟩ (fun H locs hP hD hS => ?_)
      clear hc10
      refine lv_aload_n hx hb d_Steps_checkClose_94 rfl (lv_at hl 0 rfl) ?_
      refine rd_Steps_39 hx hb hT hown hK hP d_Steps_checkClose_95 ?_
      refine lv_bipush (v := 53) hx hb d_Steps_checkClose_98 (by decide) ?_
      refine lv_iload_n hx hb d_Steps_checkClose_100 rfl (lv_at hl 2 rfl) ?_
      refine lv_iconst (v := 0) hx hb d_Steps_checkClose_101 (by decide) ?_
      replace hR := bi_e hR
      obtain ⟨r11, l11, T11, hc11, hR⟩ := hR
      refine gcV_i (rest := []) ⟨hx, hb, hml, hown, hT⟩ (h_Code_emit _ _ _ _ _ _ _ hc11) (cwV 3 hT (gV ml_Steps_96 im_Code_emit se_Code_emit ini_Code co_Code_emit) rfl rfl rfl pd_Code_emit ⟨rm_hi, rm_lo (Nat.le_of_ble_eq_true rfl)⟩) hK hP hD hS hA hnw henv (Nat.le_of_ble_eq_true rfl) rfl rfl hl.1 rfl (Nat.le_of_ble_eq_true rfl) d_Steps_checkClose_102 ⟨Nat.le_refl _, Nat.le_refl _⟩ (fun H locs hP hD hS => ?_)
      clear hc11
      refine lv_pop hx hb d_Steps_checkClose_105 rfl ?_
      obtain ⟨-, -, e3⟩ := re_e hR
      subst e3
      exact W.vret hx hb hr (fun t ht hW => ⟨⟨(), rfl, trivial, by rw [ht]; exact hP, va_K.moved hW.alike hK, hD⟩, hS.F ht⟩) hS.2.2 d_Steps_checkClose_106
    · replace hR := if_p c9 hR
      refine lv_aload_n hx hb d_Steps_checkClose_67 rfl (lv_at hl 0 rfl) ?_
      refine rd_Steps_39 hx hb hT hown hK hP d_Steps_checkClose_68 ?_
      refine lv_bipush (v := 8) hx hb d_Steps_checkClose_71 (by decide) ?_
      refine lv_aload_n hx hb d_Steps_checkClose_73 rfl (lv_at hl 0 rfl) ?_
      refine rd_Steps_9 hx hb hT hown hK hP d_Steps_checkClose_74 ?_
      refine lv_iload_n hx hb d_Steps_checkClose_77 rfl (lv_at hl 1 rfl) ?_
      replace hR := bi_e hR
      obtain ⟨r12, l12, T12, hc12, hR⟩ := hR
      refine gcV_i (rest := [.int (8 : Int32), .ref (ad 3)]) ⟨hx, hb, hml, hown, hT⟩ (h_Source_startOf _ _ _ _ _ hc12) (cwV 1 hT (gV ml_Steps_87 im_Source_startOf se_Source_startOf ini_Source co_Source_startOf) rfl rfl rfl pd_Source_startOf ⟨rm_hi, rm_lo (Nat.le_of_ble_eq_true rfl)⟩) hK hP hD hS hA hnw henv (Nat.le_of_ble_eq_true rfl) rfl rfl hl.1 rfl (Nat.le_of_ble_eq_true rfl) d_Steps_checkClose_78 ⟨Nat.le_refl _, Nat.le_refl _⟩ (fun H locs hP hD hS => ?_)
      clear hc12
      replace hR := bi_e hR
      obtain ⟨r13, l13, T13, hc13, hR⟩ := hR
      refine gcV_v (rest := []) ⟨hx, hb, hml, hown, hT⟩ (h_Code_note _ _ _ _ _ _ hc13) (cwV 2 hT (gV ml_Steps_93 im_Code_note se_Code_note ini_Code co_Code_note) rfl rfl rfl pd_Code_note ⟨rm_hi, rm_lo (Nat.le_of_ble_eq_true rfl)⟩) hK hP hD hS hA hnw henv (Nat.le_of_ble_eq_true rfl) rfl rfl hl.1 rfl (Nat.le_of_ble_eq_true rfl) d_Steps_checkClose_81 ⟨Nat.le_refl _, Nat.le_refl _⟩ (fun H locs hP hD hS => ?_)
      clear hc13
      obtain ⟨-, -, e3⟩ := re_e hR
      subst e3
      exact W.vret hx hb hr (fun t ht hW => ⟨⟨(), rfl, trivial, by rw [ht]; exact hP, va_K.moved hW.alike hK, hD⟩, hS.F ht⟩) hS.2.2 d_Steps_checkClose_84
  unfold rb_Steps_checkClose at hR
  refine lv_aload_n hx hb d_Steps_checkClose_0 rfl (lv_at hl 0 rfl) ?_
  refine rd_Steps_9 hx hb hT hown hK hP d_Steps_checkClose_1 ?_
  refine rd_Steps_103 hx hb hT hown hK hP d_Steps_checkClose_4 ?_
  refine lv_iload_n hx hb d_Steps_checkClose_7 rfl (lv_at hl 1 rfl) ?_
  replace hR := gd_e hR
  obtain ⟨b1, hR⟩ := hR
  refine laH_2 hx hb hK hP b1 d_Steps_checkClose_8 ?_
  refine lv_topi (fun z2 e2 => ?_)
  replace hR := vK_e e2 hR
  refine lv_istore_n (lv' := [(2, .int z2), (0, .ref (ad 9)), (1, .int p1)]) hx hb d_Steps_checkClose_9 rfl hl (by decide) rfl (fun ls hl => ?_)
  refine lv_aload_n hx hb d_Steps_checkClose_10 rfl (lv_at hl 1 rfl) ?_
  refine rd_Steps_34 hx hb hT hown hK hP d_Steps_checkClose_11 ?_
  refine lv_aload_n hx hb d_Steps_checkClose_14 rfl (lv_at hl 1 rfl) ?_
  refine rd_Steps_9 hx hb hT hown hK hP d_Steps_checkClose_15 ?_
  refine lv_iload_n hx hb d_Steps_checkClose_18 rfl (lv_at hl 0 rfl) ?_
  refine lv_iconst (v := 1) hx hb d_Steps_checkClose_19 (by decide) ?_
  refine lv_iadd hx hb d_Steps_checkClose_20 ?_
  replace hR := bi_e hR
  obtain ⟨r3, l3, T3, hc3, hR⟩ := hR
  refine gcV_l (rest := [.ref (ad 6)]) ⟨hx, hb, hml, hown, hT⟩ (h_Source_nameAt _ _ _ _ _ hc3) (cwV 1 hT (gV ml_Steps_183 im_Source_nameAt se_Source_nameAt ini_Source co_Source_nameAt) rfl rfl rfl pd_Source_nameAt ⟨rm_hi, rm_lo (Nat.le_of_ble_eq_true rfl)⟩) hK hP hD hS hA hnw henv (Nat.le_of_ble_eq_true rfl) rfl rfl hl.1 rfl (Nat.le_of_ble_eq_true rfl) d_Steps_checkClose_21 ⟨Nat.le_refl _, Nat.le_refl _⟩ (fun H locs hP hD hS => ?_)
  clear hc3
  replace hR := bi_e hR
  obtain ⟨r4, l4, T4, hc4, hR⟩ := hR
  refine gcV_i (rest := []) ⟨hx, hb, hml, hown, hT⟩ (h_Scope_findRegion _ _ _ _ _ hc4) (cwV 1 hT (gV ml_Steps_247 im_Scope_findRegion se_Scope_findRegion ini_Scope co_Scope_findRegion) rfl rfl rfl pd_Scope_findRegion ⟨rm_hi, rm_lo (Nat.le_of_ble_eq_true rfl)⟩) hK hP hD hS hA hnw henv (Nat.le_of_ble_eq_true rfl) rfl rfl hl.1 rfl (Nat.le_of_ble_eq_true rfl) d_Steps_checkClose_24 ⟨Nat.le_refl _, Nat.le_refl _⟩ (fun H locs hP hD hS => ?_)
  clear hc4
  refine lv_istore_n (lv' := [(3, .int r4), (2, .int z2), (0, .ref (ad 9)), (1, .int p1)]) hx hb d_Steps_checkClose_27 rfl hl (by decide) rfl (fun ls hl => ?_)
  refine lv_aload_n hx hb d_Steps_checkClose_28 rfl (lv_at hl 2 rfl) ?_
  refine rd_Steps_35 hx hb hT hown hK hP d_Steps_checkClose_29 ?_
  refine lv_iload_n hx hb d_Steps_checkClose_32 rfl (lv_at hl 0 rfl) ?_
  refine lv_iconst (v := (-1)) hx hb d_Steps_checkClose_33 (by decide) ?_
  refine lv_icmp_eq (tgt := 41) hx hb d_Steps_checkClose_34 (by decide) (fun c5 => ?_) (fun c5 => ?_)
  · replace hR := if_p c5 hR
    refine lv_iconst (v := 0) hx hb d_Steps_checkClose_41 (by decide) ?_
    have g := lb_42 T4 z2 r4 (0 : Int32) hR
    rw [hG] at g
    exact g _ _ hP hD hS _ (lv_sub hl [2, 1, 0] rfl)
  · replace hR := if_n c5 hR
    refine lv_iconst (v := 1) hx hb d_Steps_checkClose_37 (by decide) ?_
    refine lv_goto (tgt := 42) hx hb d_Steps_checkClose_38 (by decide) ?_
    have g := lb_42 T4 z2 r4 (1 : Int32) hR
    rw [hG] at g
    exact g _ _ hP hD hS _ (lv_sub hl [2, 1, 0] rfl)
