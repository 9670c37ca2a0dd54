abbrev b_Types_wordsOf : ByteArray := prog_12_method_13_code
abbrev y_Types_wordsOf : MethodName := ⟨R_Types, "wordsOf", "(I)I"⟩
theorem co_Types_wordsOf : Cond.code y_Types_wordsOf b_Types_wordsOf 2 (some .int) ∈ lw_good := lg_in (tin_5 _ (List.mem_of_getElem? (i := 130) rfl)) rfl
abbrev w_Types_wordsOf : List Cond := Cond.code y_Types_wordsOf b_Types_wordsOf 2 (some .int) :: lw_good
theorem im_Types_wordsOf : Cond.instanceMethod y_Types_wordsOf ∈ lw_good := lg_right (i := 1088) (by decide +kernel) rfl
theorem se_Types_wordsOf : Cond.selects R_Types y_Types_wordsOf y_Types_wordsOf ∈ lw_good := lg_right (i := 1089) (by decide +kernel) rfl
theorem d_Types_wordsOf_0 : decode b_Types_wordsOf 0 = .ok (.iload_n 1, 1) := by decide +kernel
theorem d_Types_wordsOf_1 : decode b_Types_wordsOf 1 = .ok (.ifCond .ne 7, 3) := by decide +kernel
theorem d_Types_wordsOf_4 : decode b_Types_wordsOf 4 = .ok (.iconst 0, 1) := by decide +kernel
theorem d_Types_wordsOf_5 : decode b_Types_wordsOf 5 = .ok (.goto 20, 3) := by decide +kernel
theorem d_Types_wordsOf_8 : decode b_Types_wordsOf 8 = .ok (.aload_n 0, 1) := by decide +kernel
theorem d_Types_wordsOf_9 : decode b_Types_wordsOf 9 = .ok (.iload_n 1, 1) := by decide +kernel
theorem d_Types_wordsOf_10 : decode b_Types_wordsOf 10 = .ok (.invokevirtual 26, 3) := by decide +kernel
theorem d_Types_wordsOf_13 : decode b_Types_wordsOf 13 = .ok (.bipush 7, 2) := by decide +kernel
theorem d_Types_wordsOf_15 : decode b_Types_wordsOf 15 = .ok (.iand, 1) := by decide +kernel
theorem d_Types_wordsOf_16 : decode b_Types_wordsOf 16 = .ok (.iconst 5, 1) := by decide +kernel
theorem d_Types_wordsOf_17 : decode b_Types_wordsOf 17 = .ok (.if_icmp .ne 7, 3) := by decide +kernel
theorem d_Types_wordsOf_20 : decode b_Types_wordsOf 20 = .ok (.iconst 3, 1) := by decide +kernel
theorem d_Types_wordsOf_21 : decode b_Types_wordsOf 21 = .ok (.goto 4, 3) := by decide +kernel
theorem d_Types_wordsOf_24 : decode b_Types_wordsOf 24 = .ok (.iconst 1, 1) := by decide +kernel
theorem d_Types_wordsOf_25 : decode b_Types_wordsOf 25 = .ok (.ireturn, 1) := by decide +kernel
abbrev b_Types_told : ByteArray := prog_12_method_14_code
abbrev y_Types_told : MethodName := ⟨R_Types, "told", "(III)I"⟩
theorem co_Types_told : Cond.code y_Types_told b_Types_told 6 (some .int) ∈ lw_good := lg_in (tin_6 _ (List.mem_of_getElem? (i := 80) rfl)) rfl
abbrev w_Types_told : List Cond := Cond.code y_Types_told b_Types_told 6 (some .int) :: lw_good
theorem im_Types_told : Cond.instanceMethod y_Types_told ∈ lw_good := lg_right (i := 1278) (by decide +kernel) rfl
theorem se_Types_told : Cond.selects R_Types y_Types_told y_Types_told ∈ lw_good := lg_right (i := 1279) (by decide +kernel) rfl
theorem d_Types_told_0 : decode b_Types_told 0 = .ok (.aload_n 0, 1) := by decide +kernel
theorem d_Types_told_1 : decode b_Types_told 1 = .ok (.iload_n 1, 1) := by decide +kernel
theorem d_Types_told_2 : decode b_Types_told 2 = .ok (.invokevirtual 37, 3) := by decide +kernel
theorem ml_Types_37 : Cond.methodLink R_Types 37 ⟨"PointerHouse$Types", "kindOf", "(I)I"⟩ ∈ lw_good := lg_right (i := 1281) (by decide +kernel) rfl
theorem d_Types_told_5 : decode b_Types_told 5 = .ok (.istore 4, 2) := by decide +kernel
theorem d_Types_told_7 : decode b_Types_told 7 = .ok (.iload 4, 2) := by decide +kernel
theorem d_Types_told_9 : decode b_Types_told 9 = .ok (.iconst 2, 1) := by decide +kernel
theorem d_Types_told_10 : decode b_Types_told 10 = .ok (.if_icmp .le 9, 3) := by decide +kernel
theorem d_Types_told_13 : decode b_Types_told 13 = .ok (.iload_n 3, 1) := by decide +kernel
theorem d_Types_told_14 : decode b_Types_told 14 = .ok (.bipush 6, 2) := by decide +kernel
theorem d_Types_told_16 : decode b_Types_told 16 = .ok (.if_icmp .le 5, 3) := by decide +kernel
theorem d_Types_told_19 : decode b_Types_told 19 = .ok (.iload_n 1, 1) := by decide +kernel
theorem d_Types_told_20 : decode b_Types_told 20 = .ok (.ireturn, 1) := by decide +kernel
theorem d_Types_told_21 : decode b_Types_told 21 = .ok (.iload 4, 2) := by decide +kernel
theorem d_Types_told_23 : decode b_Types_told 23 = .ok (.bipush 6, 2) := by decide +kernel
theorem d_Types_told_25 : decode b_Types_told 25 = .ok (.if_icmp .ne 35, 3) := by decide +kernel
theorem d_Types_told_28 : decode b_Types_told 28 = .ok (.aload_n 0, 1) := by decide +kernel
theorem d_Types_told_29 : decode b_Types_told 29 = .ok (.iload_n 1, 1) := by decide +kernel
theorem d_Types_told_30 : decode b_Types_told 30 = .ok (.invokevirtual 26, 3) := by decide +kernel
theorem d_Types_told_33 : decode b_Types_told 33 = .ok (.istore 5, 2) := by decide +kernel
theorem d_Types_told_35 : decode b_Types_told 35 = .ok (.aload_n 0, 1) := by decide +kernel
theorem d_Types_told_36 : decode b_Types_told 36 = .ok (.iload 5, 2) := by decide +kernel
theorem d_Types_told_38 : decode b_Types_told 38 = .ok (.iconst 3, 1) := by decide +kernel
theorem d_Types_told_39 : decode b_Types_told 39 = .ok (.ishr, 1) := by decide +kernel
theorem d_Types_told_40 : decode b_Types_told 40 = .ok (.bipush 31, 2) := by decide +kernel
theorem d_Types_told_42 : decode b_Types_told 42 = .ok (.iand, 1) := by decide +kernel
theorem d_Types_told_43 : decode b_Types_told 43 = .ok (.iload 5, 2) := by decide +kernel
theorem d_Types_told_45 : decode b_Types_told 45 = .ok (.bipush 8, 2) := by decide +kernel
theorem d_Types_told_47 : decode b_Types_told 47 = .ok (.ishr, 1) := by decide +kernel
theorem d_Types_told_48 : decode b_Types_told 48 = .ok (.sipush 4095, 3) := by decide +kernel
theorem d_Types_told_51 : decode b_Types_told 51 = .ok (.iand, 1) := by decide +kernel
theorem d_Types_told_52 : decode b_Types_told 52 = .ok (.iload_n 2, 1) := by decide +kernel
theorem d_Types_told_53 : decode b_Types_told 53 = .ok (.invokestatic 40, 3) := by decide +kernel
theorem ml_Types_40 : Cond.methodLink R_Types 40 ⟨"PointerHouse$Types", "toldAll", "(II)I"⟩ ∈ lw_good := lg_right (i := 1282) (by decide +kernel) rfl
theorem d_Types_told_56 : decode b_Types_told 56 = .ok (.invokevirtual 44, 3) := by decide +kernel
theorem ml_Types_44 : Cond.methodLink R_Types 44 ⟨"PointerHouse$Types", "thing", "(II)I"⟩ ∈ lw_good := lg_right (i := 1288) (by decide +kernel) rfl
theorem d_Types_told_59 : decode b_Types_told 59 = .ok (.ireturn, 1) := by decide +kernel
theorem d_Types_told_60 : decode b_Types_told 60 = .ok (.aload_n 0, 1) := by decide +kernel
theorem d_Types_told_61 : decode b_Types_told 61 = .ok (.iload 4, 2) := by decide +kernel
theorem d_Types_told_63 : decode b_Types_told 63 = .ok (.aload_n 0, 1) := by decide +kernel
theorem d_Types_told_64 : decode b_Types_told 64 = .ok (.iload_n 1, 1) := by decide +kernel
theorem d_Types_told_65 : decode b_Types_told 65 = .ok (.invokevirtual 47, 3) := by decide +kernel
theorem ml_Types_47 : Cond.methodLink R_Types 47 ⟨"PointerHouse$Types", "regionOf", "(I)I"⟩ ∈ lw_good := lg_right (i := 1289) (by decide +kernel) rfl
theorem d_Types_told_68 : decode b_Types_told 68 = .ok (.iload_n 2, 1) := by decide +kernel
theorem d_Types_told_69 : decode b_Types_told 69 = .ok (.invokestatic 50, 3) := by decide +kernel
theorem ml_Types_50 : Cond.methodLink R_Types 50 ⟨"PointerHouse$Types", "toldOne", "(II)I"⟩ ∈ lw_good := lg_right (i := 1285) (by decide +kernel) rfl
theorem d_Types_told_72 : decode b_Types_told 72 = .ok (.aload_n 0, 1) := by decide +kernel
theorem d_Types_told_73 : decode b_Types_told 73 = .ok (.aload_n 0, 1) := by decide +kernel
theorem d_Types_told_74 : decode b_Types_told 74 = .ok (.iload_n 1, 1) := by decide +kernel
theorem d_Types_told_75 : decode b_Types_told 75 = .ok (.invokevirtual 34, 3) := by decide +kernel
theorem d_Types_told_78 : decode b_Types_told 78 = .ok (.iload_n 2, 1) := by decide +kernel
theorem d_Types_told_79 : decode b_Types_told 79 = .ok (.iload_n 3, 1) := by decide +kernel
theorem d_Types_told_80 : decode b_Types_told 80 = .ok (.iconst 1, 1) := by decide +kernel
theorem d_Types_told_81 : decode b_Types_told 81 = .ok (.iadd, 1) := by decide +kernel
theorem d_Types_told_82 : decode b_Types_told 82 = .ok (.invokevirtual 53, 3) := by decide +kernel
theorem ml_Types_53 : Cond.methodLink R_Types 53 ⟨"PointerHouse$Types", "told", "(III)I"⟩ ∈ lw_good := lg_right (i := 1291) (by decide +kernel) rfl
theorem d_Types_told_85 : decode b_Types_told 85 = .ok (.invokevirtual 57, 3) := by decide +kernel
theorem ml_Types_57 : Cond.methodLink R_Types 57 ⟨"PointerHouse$Types", "pointer", "(III)I"⟩ ∈ lw_good := lg_right (i := 1292) (by decide +kernel) rfl
theorem d_Types_told_88 : decode b_Types_told 88 = .ok (.ireturn, 1) := by decide +kernel
abbrev b_Types_toldOne : ByteArray := prog_12_method_16_code
abbrev y_Types_toldOne : MethodName := ⟨R_Types, "toldOne", "(II)I"⟩
theorem co_Types_toldOne : Cond.code y_Types_toldOne b_Types_toldOne 2 (some .int) ∈ lw_good := lg_in (tin_6 _ (List.mem_of_getElem? (i := 87) rfl)) rfl
abbrev w_Types_toldOne : List Cond := Cond.code y_Types_toldOne b_Types_toldOne 2 (some .int) :: lw_good
theorem st_Types_toldOne : Cond.static y_Types_toldOne ∈ lw_good := lg_right (i := 1286) (by decide +kernel) rfl
theorem d_Types_toldOne_0 : decode b_Types_toldOne 0 = .ok (.iload_n 0, 1) := by decide +kernel
theorem d_Types_toldOne_1 : decode b_Types_toldOne 1 = .ok (.iconst 1, 1) := by decide +kernel
theorem d_Types_toldOne_2 : decode b_Types_toldOne 2 = .ok (.if_icmp .lt 8, 3) := by decide +kernel
theorem d_Types_toldOne_5 : decode b_Types_toldOne 5 = .ok (.iload_n 0, 1) := by decide +kernel
theorem d_Types_toldOne_6 : decode b_Types_toldOne 6 = .ok (.iconst 3, 1) := by decide +kernel
theorem d_Types_toldOne_7 : decode b_Types_toldOne 7 = .ok (.if_icmp .le 7, 3) := by decide +kernel
theorem d_Types_toldOne_10 : decode b_Types_toldOne 10 = .ok (.iload_n 0, 1) := by decide +kernel
theorem d_Types_toldOne_11 : decode b_Types_toldOne 11 = .ok (.goto 13, 3) := by decide +kernel
theorem d_Types_toldOne_14 : decode b_Types_toldOne 14 = .ok (.iload_n 1, 1) := by decide +kernel
theorem d_Types_toldOne_15 : decode b_Types_toldOne 15 = .ok (.iconst 4, 1) := by decide +kernel
theorem d_Types_toldOne_16 : decode b_Types_toldOne 16 = .ok (.iload_n 0, 1) := by decide +kernel
theorem d_Types_toldOne_17 : decode b_Types_toldOne 17 = .ok (.iconst 1, 1) := by decide +kernel
theorem d_Types_toldOne_18 : decode b_Types_toldOne 18 = .ok (.isub, 1) := by decide +kernel
theorem d_Types_toldOne_19 : decode b_Types_toldOne 19 = .ok (.imul, 1) := by decide +kernel
theorem d_Types_toldOne_20 : decode b_Types_toldOne 20 = .ok (.ishr, 1) := by decide +kernel
theorem d_Types_toldOne_21 : decode b_Types_toldOne 21 = .ok (.bipush 15, 2) := by decide +kernel
theorem d_Types_toldOne_23 : decode b_Types_toldOne 23 = .ok (.iand, 1) := by decide +kernel
theorem d_Types_toldOne_24 : decode b_Types_toldOne 24 = .ok (.ireturn, 1) := by decide +kernel
abbrev b_Types_toldAll : ByteArray := prog_12_method_15_code
abbrev y_Types_toldAll : MethodName := ⟨R_Types, "toldAll", "(II)I"⟩
theorem co_Types_toldAll : Cond.code y_Types_toldAll b_Types_toldAll 4 (some .int) ∈ lw_good := lg_in (tin_6 _ (List.mem_of_getElem? (i := 84) rfl)) rfl
abbrev w_Types_toldAll : List Cond := Cond.code y_Types_toldAll b_Types_toldAll 4 (some .int) :: lw_good
theorem st_Types_toldAll : Cond.static y_Types_toldAll ∈ lw_good := lg_right (i := 1283) (by decide +kernel) rfl
theorem d_Types_toldAll_0 : decode b_Types_toldAll 0 = .ok (.iconst 0, 1) := by decide +kernel
theorem d_Types_toldAll_1 : decode b_Types_toldAll 1 = .ok (.istore_n 2, 1) := by decide +kernel
theorem d_Types_toldAll_2 : decode b_Types_toldAll 2 = .ok (.iconst 0, 1) := by decide +kernel
theorem d_Types_toldAll_3 : decode b_Types_toldAll 3 = .ok (.istore_n 3, 1) := by decide +kernel
theorem d_Types_toldAll_4 : decode b_Types_toldAll 4 = .ok (.iload_n 3, 1) := by decide +kernel
theorem d_Types_toldAll_5 : decode b_Types_toldAll 5 = .ok (.iconst 3, 1) := by decide +kernel
theorem d_Types_toldAll_6 : decode b_Types_toldAll 6 = .ok (.if_icmp .ge 28, 3) := by decide +kernel
theorem d_Types_toldAll_9 : decode b_Types_toldAll 9 = .ok (.iload_n 2, 1) := by decide +kernel
theorem d_Types_toldAll_10 : decode b_Types_toldAll 10 = .ok (.iload_n 0, 1) := by decide +kernel
theorem d_Types_toldAll_11 : decode b_Types_toldAll 11 = .ok (.iconst 4, 1) := by decide +kernel
theorem d_Types_toldAll_12 : decode b_Types_toldAll 12 = .ok (.iload_n 3, 1) := by decide +kernel
theorem d_Types_toldAll_13 : decode b_Types_toldAll 13 = .ok (.imul, 1) := by decide +kernel
theorem d_Types_toldAll_14 : decode b_Types_toldAll 14 = .ok (.ishr, 1) := by decide +kernel
theorem d_Types_toldAll_15 : decode b_Types_toldAll 15 = .ok (.bipush 15, 2) := by decide +kernel
theorem d_Types_toldAll_17 : decode b_Types_toldAll 17 = .ok (.iand, 1) := by decide +kernel
theorem d_Types_toldAll_18 : decode b_Types_toldAll 18 = .ok (.iload_n 1, 1) := by decide +kernel
theorem d_Types_toldAll_19 : decode b_Types_toldAll 19 = .ok (.invokestatic 50, 3) := by decide +kernel
theorem d_Types_toldAll_22 : decode b_Types_toldAll 22 = .ok (.iconst 4, 1) := by decide +kernel
theorem d_Types_toldAll_23 : decode b_Types_toldAll 23 = .ok (.iload_n 3, 1) := by decide +kernel
theorem d_Types_toldAll_24 : decode b_Types_toldAll 24 = .ok (.imul, 1) := by decide +kernel
theorem d_Types_toldAll_25 : decode b_Types_toldAll 25 = .ok (.ishl, 1) := by decide +kernel
theorem d_Types_toldAll_26 : decode b_Types_toldAll 26 = .ok (.ior, 1) := by decide +kernel
theorem d_Types_toldAll_27 : decode b_Types_toldAll 27 = .ok (.istore_n 2, 1) := by decide +kernel
theorem d_Types_toldAll_28 : decode b_Types_toldAll 28 = .ok (.iinc 3 1, 3) := by decide +kernel
theorem d_Types_toldAll_31 : decode b_Types_toldAll 31 = .ok (.goto (-27), 3) := by decide +kernel
theorem d_Types_toldAll_34 : decode b_Types_toldAll 34 = .ok (.iload_n 2, 1) := by decide +kernel
theorem d_Types_toldAll_35 : decode b_Types_toldAll 35 = .ok (.ireturn, 1) := by decide +kernel
abbrev b_Scope_enterHead : ByteArray := prog_9_method_2_code
abbrev y_Scope_enterHead : MethodName := ⟨R_Scope, "enterHead", "(I)V"⟩
theorem co_Scope_enterHead : Cond.code y_Scope_enterHead b_Scope_enterHead 3 none ∈ lw_good := lg_in (tin_5 _ (List.mem_of_getElem? (i := 64) rfl)) rfl
abbrev w_Scope_enterHead : List Cond := Cond.code y_Scope_enterHead b_Scope_enterHead 3 none :: lw_good
theorem im_Scope_enterHead : Cond.instanceMethod y_Scope_enterHead ∈ lw_good := lg_right (i := 1022) (by decide +kernel) rfl
theorem se_Scope_enterHead : Cond.selects R_Scope y_Scope_enterHead y_Scope_enterHead ∈ lw_good := lg_right (i := 1023) (by decide +kernel) rfl
theorem d_Scope_enterHead_0 : decode b_Scope_enterHead 0 = .ok (.aload_n 0, 1) := by decide +kernel
theorem d_Scope_enterHead_1 : decode b_Scope_enterHead 1 = .ok (.iload_n 1, 1) := by decide +kernel
theorem d_Scope_enterHead_2 : decode b_Scope_enterHead 2 = .ok (.putfield 40, 3) := by decide +kernel
theorem fl_Scope_40 : Cond.fieldLink R_Scope 40 "PointerHouse$Scope" "item" "I" ∈ lw_good := lg_right (i := 463) (by decide +kernel) rfl
theorem d_Scope_enterHead_5 : decode b_Scope_enterHead 5 = .ok (.aload_n 0, 1) := by decide +kernel
theorem d_Scope_enterHead_6 : decode b_Scope_enterHead 6 = .ok (.iconst 0, 1) := by decide +kernel
theorem d_Scope_enterHead_7 : decode b_Scope_enterHead 7 = .ok (.putfield 44, 3) := by decide +kernel
theorem fl_Scope_44 : Cond.fieldLink R_Scope 44 "PointerHouse$Scope" "varCount" "I" ∈ lw_good := lg_right (i := 465) (by decide +kernel) rfl
theorem d_Scope_enterHead_10 : decode b_Scope_enterHead 10 = .ok (.aload_n 0, 1) := by decide +kernel
theorem d_Scope_enterHead_11 : decode b_Scope_enterHead 11 = .ok (.iconst 4, 1) := by decide +kernel
theorem d_Scope_enterHead_12 : decode b_Scope_enterHead 12 = .ok (.putfield 47, 3) := by decide +kernel
theorem fl_Scope_47 : Cond.fieldLink R_Scope 47 "PointerHouse$Scope" "regionStop" "I" ∈ lw_good := lg_right (i := 469) (by decide +kernel) rfl
theorem d_Scope_enterHead_15 : decode b_Scope_enterHead 15 = .ok (.aload_n 0, 1) := by decide +kernel
theorem d_Scope_enterHead_16 : decode b_Scope_enterHead 16 = .ok (.iconst 0, 1) := by decide +kernel
theorem d_Scope_enterHead_17 : decode b_Scope_enterHead 17 = .ok (.putfield 50, 3) := by decide +kernel
theorem fl_Scope_50 : Cond.fieldLink R_Scope 50 "PointerHouse$Scope" "tries" "I" ∈ lw_good := lg_right (i := 472) (by decide +kernel) rfl
theorem d_Scope_enterHead_20 : decode b_Scope_enterHead 20 = .ok (.aload_n 0, 1) := by decide +kernel
theorem d_Scope_enterHead_21 : decode b_Scope_enterHead 21 = .ok (.iconst 0, 1) := by decide +kernel
theorem d_Scope_enterHead_22 : decode b_Scope_enterHead 22 = .ok (.putfield 53, 3) := by decide +kernel
theorem fl_Scope_53 : Cond.fieldLink R_Scope 53 "PointerHouse$Scope" "catches" "I" ∈ lw_good := lg_right (i := 474) (by decide +kernel) rfl
theorem d_Scope_enterHead_25 : decode b_Scope_enterHead 25 = .ok (.aload_n 0, 1) := by decide +kernel
theorem d_Scope_enterHead_26 : decode b_Scope_enterHead 26 = .ok (.lconst 0, 1) := by decide +kernel
theorem d_Scope_enterHead_27 : decode b_Scope_enterHead 27 = .ok (.putfield 56, 3) := by decide +kernel
theorem fl_Scope_56 : Cond.fieldLink R_Scope 56 "PointerHouse$Scope" "flow" "J" ∈ lw_good := lg_right (i := 477) (by decide +kernel) rfl
theorem d_Scope_enterHead_30 : decode b_Scope_enterHead 30 = .ok (.iconst 1, 1) := by decide +kernel
theorem d_Scope_enterHead_31 : decode b_Scope_enterHead 31 = .ok (.istore_n 2, 1) := by decide +kernel
theorem d_Scope_enterHead_32 : decode b_Scope_enterHead 32 = .ok (.iload_n 2, 1) := by decide +kernel
theorem d_Scope_enterHead_33 : decode b_Scope_enterHead 33 = .ok (.iconst 3, 1) := by decide +kernel
theorem d_Scope_enterHead_34 : decode b_Scope_enterHead 34 = .ok (.if_icmp .gt 56, 3) := by decide +kernel
theorem d_Scope_enterHead_37 : decode b_Scope_enterHead 37 = .ok (.aload_n 0, 1) := by decide +kernel
theorem d_Scope_enterHead_38 : decode b_Scope_enterHead 38 = .ok (.getfield 22, 3) := by decide +kernel
theorem fl_Scope_22 : Cond.fieldLink R_Scope 22 "PointerHouse$Scope" "regionName" "[J" ∈ lw_good := lg_right (i := 470) (by decide +kernel) rfl
theorem d_Scope_enterHead_41 : decode b_Scope_enterHead 41 = .ok (.iload_n 2, 1) := by decide +kernel
theorem d_Scope_enterHead_42 : decode b_Scope_enterHead 42 = .ok (.iload_n 2, 1) := by decide +kernel
theorem d_Scope_enterHead_43 : decode b_Scope_enterHead 43 = .ok (.aload_n 0, 1) := by decide +kernel
theorem d_Scope_enterHead_44 : decode b_Scope_enterHead 44 = .ok (.getfield 32, 3) := by decide +kernel
theorem fl_Scope_32 : Cond.fieldLink R_Scope 32 "PointerHouse$Scope" "items" "LPointerHouse$Items;" ∈ lw_good := lg_right (i := 461) (by decide +kernel) rfl
theorem d_Scope_enterHead_47 : decode b_Scope_enterHead 47 = .ok (.getfield 60, 3) := by decide +kernel
theorem fl_Scope_60 : Cond.fieldLink R_Scope 60 "PointerHouse$Items" "rsCount" "[I" ∈ lw_good := lg_right (i := 288) (by decide +kernel) rfl
theorem d_Scope_enterHead_50 : decode b_Scope_enterHead 50 = .ok (.aload_n 0, 1) := by decide +kernel
theorem d_Scope_enterHead_51 : decode b_Scope_enterHead 51 = .ok (.getfield 40, 3) := by decide +kernel
theorem d_Scope_enterHead_54 : decode b_Scope_enterHead 54 = .ok (.iaload, 1) := by decide +kernel
theorem d_Scope_enterHead_55 : decode b_Scope_enterHead 55 = .ok (.if_icmp .gt 27, 3) := by decide +kernel
theorem d_Scope_enterHead_58 : decode b_Scope_enterHead 58 = .ok (.aload_n 0, 1) := by decide +kernel
theorem d_Scope_enterHead_59 : decode b_Scope_enterHead 59 = .ok (.getfield 28, 3) := by decide +kernel
theorem fl_Scope_28 : Cond.fieldLink R_Scope 28 "PointerHouse$Scope" "source" "LPointerHouse$Source;" ∈ lw_good := lg_right (i := 460) (by decide +kernel) rfl
theorem d_Scope_enterHead_62 : decode b_Scope_enterHead 62 = .ok (.aload_n 0, 1) := by decide +kernel
theorem d_Scope_enterHead_63 : decode b_Scope_enterHead 63 = .ok (.getfield 32, 3) := by decide +kernel
theorem d_Scope_enterHead_66 : decode b_Scope_enterHead 66 = .ok (.getfield 65, 3) := by decide +kernel
theorem fl_Scope_65 : Cond.fieldLink R_Scope 65 "PointerHouse$Items" "nameTok" "[I" ∈ lw_good := lg_right (i := 281) (by decide +kernel) rfl
theorem d_Scope_enterHead_69 : decode b_Scope_enterHead 69 = .ok (.aload_n 0, 1) := by decide +kernel
theorem d_Scope_enterHead_70 : decode b_Scope_enterHead 70 = .ok (.getfield 40, 3) := by decide +kernel
theorem d_Scope_enterHead_73 : decode b_Scope_enterHead 73 = .ok (.iaload, 1) := by decide +kernel
theorem d_Scope_enterHead_74 : decode b_Scope_enterHead 74 = .ok (.iload_n 2, 1) := by decide +kernel
theorem d_Scope_enterHead_75 : decode b_Scope_enterHead 75 = .ok (.iadd, 1) := by decide +kernel
theorem d_Scope_enterHead_76 : decode b_Scope_enterHead 76 = .ok (.invokevirtual 68, 3) := by decide +kernel
theorem ml_Scope_68 : Cond.methodLink R_Scope 68 ⟨"PointerHouse$Source", "nameAt", "(I)J"⟩ ∈ lw_good := lg_right (i := 1025) (by decide +kernel) rfl
theorem d_Scope_enterHead_79 : decode b_Scope_enterHead 79 = .ok (.goto 4, 3) := by decide +kernel
theorem d_Scope_enterHead_82 : decode b_Scope_enterHead 82 = .ok (.lconst 0, 1) := by decide +kernel
theorem d_Scope_enterHead_83 : decode b_Scope_enterHead 83 = .ok (.lastore, 1) := by decide +kernel
theorem d_Scope_enterHead_84 : decode b_Scope_enterHead 84 = .ok (.iinc 2 1, 3) := by decide +kernel
theorem d_Scope_enterHead_87 : decode b_Scope_enterHead 87 = .ok (.goto (-55), 3) := by decide +kernel
theorem d_Scope_enterHead_90 : decode b_Scope_enterHead 90 = .ok (.return_, 1) := by decide +kernel
abbrev b_Scope_enterFun : ByteArray := prog_9_method_3_code
abbrev y_Scope_enterFun : MethodName := ⟨R_Scope, "enterFun", "(I)V"⟩
theorem co_Scope_enterFun : Cond.code y_Scope_enterFun b_Scope_enterFun 3 none ∈ lw_good := lg_in (tin_5 _ (List.mem_of_getElem? (i := 178) rfl)) rfl
abbrev w_Scope_enterFun : List Cond := Cond.code y_Scope_enterFun b_Scope_enterFun 3 none :: lw_good
theorem im_Scope_enterFun : Cond.instanceMethod y_Scope_enterFun ∈ lw_good := lg_right (i := 1136) (by decide +kernel) rfl
theorem se_Scope_enterFun : Cond.selects R_Scope y_Scope_enterFun y_Scope_enterFun ∈ lw_good := lg_right (i := 1137) (by decide +kernel) rfl
theorem d_Scope_enterFun_0 : decode b_Scope_enterFun 0 = .ok (.aload_n 0, 1) := by decide +kernel
theorem d_Scope_enterFun_1 : decode b_Scope_enterFun 1 = .ok (.iload_n 1, 1) := by decide +kernel
theorem d_Scope_enterFun_2 : decode b_Scope_enterFun 2 = .ok (.invokevirtual 74, 3) := by decide +kernel
theorem ml_Scope_74 : Cond.methodLink R_Scope 74 ⟨"PointerHouse$Scope", "enterHead", "(I)V"⟩ ∈ lw_good := lg_right (i := 1139) (by decide +kernel) rfl
theorem d_Scope_enterFun_5 : decode b_Scope_enterFun 5 = .ok (.aload_n 0, 1) := by decide +kernel
theorem d_Scope_enterFun_6 : decode b_Scope_enterFun 6 = .ok (.ldc2_w 78, 3) := by decide +kernel
theorem k_Scope_78 : Cond.constantLong R_Scope 78 (4504699138998272) ∈ lw_good := lg_right (i := 1140) (by decide +kernel) rfl
theorem d_Scope_enterFun_9 : decode b_Scope_enterFun 9 = .ok (.putfield 56, 3) := by decide +kernel
theorem d_Scope_enterFun_12 : decode b_Scope_enterFun 12 = .ok (.iconst 1, 1) := by decide +kernel
theorem d_Scope_enterFun_13 : decode b_Scope_enterFun 13 = .ok (.istore_n 2, 1) := by decide +kernel
theorem d_Scope_enterFun_14 : decode b_Scope_enterFun 14 = .ok (.iload_n 2, 1) := by decide +kernel
theorem d_Scope_enterFun_15 : decode b_Scope_enterFun 15 = .ok (.aload_n 0, 1) := by decide +kernel
theorem d_Scope_enterFun_16 : decode b_Scope_enterFun 16 = .ok (.getfield 32, 3) := by decide +kernel
theorem d_Scope_enterFun_19 : decode b_Scope_enterFun 19 = .ok (.getfield 60, 3) := by decide +kernel
theorem d_Scope_enterFun_22 : decode b_Scope_enterFun 22 = .ok (.aload_n 0, 1) := by decide +kernel
theorem d_Scope_enterFun_23 : decode b_Scope_enterFun 23 = .ok (.getfield 40, 3) := by decide +kernel
theorem d_Scope_enterFun_26 : decode b_Scope_enterFun 26 = .ok (.iaload, 1) := by decide +kernel
theorem d_Scope_enterFun_27 : decode b_Scope_enterFun 27 = .ok (.if_icmp .gt 38, 3) := by decide +kernel
theorem d_Scope_enterFun_30 : decode b_Scope_enterFun 30 = .ok (.aload_n 0, 1) := by decide +kernel
theorem d_Scope_enterFun_31 : decode b_Scope_enterFun 31 = .ok (.iload_n 2, 1) := by decide +kernel
theorem d_Scope_enterFun_32 : decode b_Scope_enterFun 32 = .ok (.aload_n 0, 1) := by decide +kernel
theorem d_Scope_enterFun_33 : decode b_Scope_enterFun 33 = .ok (.getfield 32, 3) := by decide +kernel
theorem d_Scope_enterFun_36 : decode b_Scope_enterFun 36 = .ok (.getfield 80, 3) := by decide +kernel
theorem fl_Scope_80 : Cond.fieldLink R_Scope 80 "PointerHouse$Items" "dead" "[I" ∈ lw_good := lg_right (i := 317) (by decide +kernel) rfl
theorem d_Scope_enterFun_39 : decode b_Scope_enterFun 39 = .ok (.aload_n 0, 1) := by decide +kernel
theorem d_Scope_enterFun_40 : decode b_Scope_enterFun 40 = .ok (.getfield 40, 3) := by decide +kernel
theorem d_Scope_enterFun_43 : decode b_Scope_enterFun 43 = .ok (.iaload, 1) := by decide +kernel
theorem d_Scope_enterFun_44 : decode b_Scope_enterFun 44 = .ok (.iload_n 2, 1) := by decide +kernel
theorem d_Scope_enterFun_45 : decode b_Scope_enterFun 45 = .ok (.ishr, 1) := by decide +kernel
theorem d_Scope_enterFun_46 : decode b_Scope_enterFun 46 = .ok (.iconst 1, 1) := by decide +kernel
theorem d_Scope_enterFun_47 : decode b_Scope_enterFun 47 = .ok (.iand, 1) := by decide +kernel
theorem d_Scope_enterFun_48 : decode b_Scope_enterFun 48 = .ok (.ifCond .ne 7, 3) := by decide +kernel
theorem d_Scope_enterFun_51 : decode b_Scope_enterFun 51 = .ok (.iconst 1, 1) := by decide +kernel
theorem d_Scope_enterFun_52 : decode b_Scope_enterFun 52 = .ok (.goto 4, 3) := by decide +kernel
theorem d_Scope_enterFun_55 : decode b_Scope_enterFun 55 = .ok (.iconst 0, 1) := by decide +kernel
theorem d_Scope_enterFun_56 : decode b_Scope_enterFun 56 = .ok (.invokevirtual 83, 3) := by decide +kernel
theorem ml_Scope_83 : Cond.methodLink R_Scope 83 ⟨"PointerHouse$Scope", "setLive", "(IZ)V"⟩ ∈ lw_good := lg_right (i := 1141) (by decide +kernel) rfl
theorem d_Scope_enterFun_59 : decode b_Scope_enterFun 59 = .ok (.iinc 2 1, 3) := by decide +kernel
theorem d_Scope_enterFun_62 : decode b_Scope_enterFun 62 = .ok (.goto (-48), 3) := by decide +kernel
theorem d_Scope_enterFun_65 : decode b_Scope_enterFun 65 = .ok (.iconst 0, 1) := by decide +kernel
theorem d_Scope_enterFun_66 : decode b_Scope_enterFun 66 = .ok (.istore_n 2, 1) := by decide +kernel
theorem d_Scope_enterFun_67 : decode b_Scope_enterFun 67 = .ok (.iload_n 2, 1) := by decide +kernel
theorem d_Scope_enterFun_68 : decode b_Scope_enterFun 68 = .ok (.aload_n 0, 1) := by decide +kernel
theorem d_Scope_enterFun_69 : decode b_Scope_enterFun 69 = .ok (.getfield 32, 3) := by decide +kernel
theorem d_Scope_enterFun_72 : decode b_Scope_enterFun 72 = .ok (.getfield 87, 3) := by decide +kernel
theorem fl_Scope_87 : Cond.fieldLink R_Scope 87 "PointerHouse$Items" "partCount" "[I" ∈ lw_good := lg_right (i := 294) (by decide +kernel) rfl
theorem d_Scope_enterFun_75 : decode b_Scope_enterFun 75 = .ok (.aload_n 0, 1) := by decide +kernel
theorem d_Scope_enterFun_76 : decode b_Scope_enterFun 76 = .ok (.getfield 40, 3) := by decide +kernel
theorem d_Scope_enterFun_79 : decode b_Scope_enterFun 79 = .ok (.iaload, 1) := by decide +kernel
theorem d_Scope_enterFun_80 : decode b_Scope_enterFun 80 = .ok (.if_icmp .ge 49, 3) := by decide +kernel
theorem d_Scope_enterFun_83 : decode b_Scope_enterFun 83 = .ok (.aload_n 0, 1) := by decide +kernel
theorem d_Scope_enterFun_84 : decode b_Scope_enterFun 84 = .ok (.aload_n 0, 1) := by decide +kernel
theorem d_Scope_enterFun_85 : decode b_Scope_enterFun 85 = .ok (.aload_n 0, 1) := by decide +kernel
theorem d_Scope_enterFun_86 : decode b_Scope_enterFun 86 = .ok (.getfield 28, 3) := by decide +kernel
theorem d_Scope_enterFun_89 : decode b_Scope_enterFun 89 = .ok (.aload_n 0, 1) := by decide +kernel
theorem d_Scope_enterFun_90 : decode b_Scope_enterFun 90 = .ok (.getfield 32, 3) := by decide +kernel
theorem d_Scope_enterFun_93 : decode b_Scope_enterFun 93 = .ok (.aload_n 0, 1) := by decide +kernel
theorem d_Scope_enterFun_94 : decode b_Scope_enterFun 94 = .ok (.getfield 40, 3) := by decide +kernel
theorem d_Scope_enterFun_97 : decode b_Scope_enterFun 97 = .ok (.iload_n 2, 1) := by decide +kernel
theorem d_Scope_enterFun_98 : decode b_Scope_enterFun 98 = .ok (.invokevirtual 90, 3) := by decide +kernel
theorem ml_Scope_90 : Cond.methodLink R_Scope 90 ⟨"PointerHouse$Items", "tokOfPart", "(II)I"⟩ ∈ lw_good := lg_right (i := 1146) (by decide +kernel) rfl
theorem d_Scope_enterFun_101 : decode b_Scope_enterFun 101 = .ok (.invokevirtual 68, 3) := by decide +kernel
theorem d_Scope_enterFun_104 : decode b_Scope_enterFun 104 = .ok (.aload_n 0, 1) := by decide +kernel
theorem d_Scope_enterFun_105 : decode b_Scope_enterFun 105 = .ok (.getfield 32, 3) := by decide +kernel
theorem d_Scope_enterFun_108 : decode b_Scope_enterFun 108 = .ok (.aload_n 0, 1) := by decide +kernel
theorem d_Scope_enterFun_109 : decode b_Scope_enterFun 109 = .ok (.getfield 40, 3) := by decide +kernel
theorem d_Scope_enterFun_112 : decode b_Scope_enterFun 112 = .ok (.iload_n 2, 1) := by decide +kernel
theorem d_Scope_enterFun_113 : decode b_Scope_enterFun 113 = .ok (.invokevirtual 94, 3) := by decide +kernel
theorem ml_Scope_94 : Cond.methodLink R_Scope 94 ⟨"PointerHouse$Items", "typeOfPart", "(II)I"⟩ ∈ lw_good := lg_right (i := 1147) (by decide +kernel) rfl
theorem d_Scope_enterFun_116 : decode b_Scope_enterFun 116 = .ok (.invokevirtual 97, 3) := by decide +kernel
theorem ml_Scope_97 : Cond.methodLink R_Scope 97 ⟨"PointerHouse$Scope", "addVar", "(JI)I"⟩ ∈ lw_good := lg_right (i := 1151) (by decide +kernel) rfl
theorem d_Scope_enterFun_119 : decode b_Scope_enterFun 119 = .ok (.iconst 0, 1) := by decide +kernel
theorem d_Scope_enterFun_120 : decode b_Scope_enterFun 120 = .ok (.invokevirtual 101, 3) := by decide +kernel
theorem ml_Scope_101 : Cond.methodLink R_Scope 101 ⟨"PointerHouse$Scope", "give", "(IZ)V"⟩ ∈ lw_good := lg_right (i := 1160) (by decide +kernel) rfl
theorem d_Scope_enterFun_123 : decode b_Scope_enterFun 123 = .ok (.iinc 2 1, 3) := by decide +kernel
theorem d_Scope_enterFun_126 : decode b_Scope_enterFun 126 = .ok (.goto (-59), 3) := by decide +kernel
theorem d_Scope_enterFun_129 : decode b_Scope_enterFun 129 = .ok (.return_, 1) := by decide +kernel
abbrev b_Scope_setLive : ByteArray := prog_9_method_9_code
abbrev y_Scope_setLive : MethodName := ⟨R_Scope, "setLive", "(IZ)V"⟩
theorem co_Scope_setLive : Cond.code y_Scope_setLive b_Scope_setLive 5 none ∈ lw_good := lg_in (tin_5 _ (List.mem_of_getElem? (i := 184) rfl)) rfl
abbrev w_Scope_setLive : List Cond := Cond.code y_Scope_setLive b_Scope_setLive 5 none :: lw_good
theorem im_Scope_setLive : Cond.instanceMethod y_Scope_setLive ∈ lw_good := lg_right (i := 1142) (by decide +kernel) rfl
theorem se_Scope_setLive : Cond.selects R_Scope y_Scope_setLive y_Scope_setLive ∈ lw_good := lg_right (i := 1143) (by decide +kernel) rfl
theorem d_Scope_setLive_0 : decode b_Scope_setLive 0 = .ok (.lconst 1, 1) := by decide +kernel
theorem d_Scope_setLive_1 : decode b_Scope_setLive 1 = .ok (.bipush 40, 2) := by decide +kernel
theorem d_Scope_setLive_3 : decode b_Scope_setLive 3 = .ok (.iload_n 1, 1) := by decide +kernel
theorem d_Scope_setLive_4 : decode b_Scope_setLive 4 = .ok (.iadd, 1) := by decide +kernel
theorem d_Scope_setLive_5 : decode b_Scope_setLive 5 = .ok (.lshl, 1) := by decide +kernel
theorem d_Scope_setLive_6 : decode b_Scope_setLive 6 = .ok (.lstore_n 3, 1) := by decide +kernel
theorem d_Scope_setLive_7 : decode b_Scope_setLive 7 = .ok (.aload_n 0, 1) := by decide +kernel
theorem d_Scope_setLive_8 : decode b_Scope_setLive 8 = .ok (.iload_n 2, 1) := by decide +kernel
theorem d_Scope_setLive_9 : decode b_Scope_setLive 9 = .ok (.ifCond .eq 12, 3) := by decide +kernel
theorem d_Scope_setLive_12 : decode b_Scope_setLive 12 = .ok (.aload_n 0, 1) := by decide +kernel
theorem d_Scope_setLive_13 : decode b_Scope_setLive 13 = .ok (.getfield 56, 3) := by decide +kernel
theorem d_Scope_setLive_16 : decode b_Scope_setLive 16 = .ok (.lload_n 3, 1) := by decide +kernel
theorem d_Scope_setLive_17 : decode b_Scope_setLive 17 = .ok (.lor, 1) := by decide +kernel
theorem d_Scope_setLive_18 : decode b_Scope_setLive 18 = .ok (.goto 13, 3) := by decide +kernel
theorem d_Scope_setLive_21 : decode b_Scope_setLive 21 = .ok (.aload_n 0, 1) := by decide +kernel
theorem d_Scope_setLive_22 : decode b_Scope_setLive 22 = .ok (.getfield 56, 3) := by decide +kernel
theorem d_Scope_setLive_25 : decode b_Scope_setLive 25 = .ok (.lload_n 3, 1) := by decide +kernel
theorem d_Scope_setLive_26 : decode b_Scope_setLive 26 = .ok (.ldc2_w 110, 3) := by decide +kernel
theorem k_Scope_110 : Cond.constantLong R_Scope 110 (-1) ∈ lw_good := lg_right (i := 1145) (by decide +kernel) rfl
theorem d_Scope_setLive_29 : decode b_Scope_setLive 29 = .ok (.lxor, 1) := by decide +kernel
theorem d_Scope_setLive_30 : decode b_Scope_setLive 30 = .ok (.land, 1) := by decide +kernel
theorem d_Scope_setLive_31 : decode b_Scope_setLive 31 = .ok (.putfield 56, 3) := by decide +kernel
theorem d_Scope_setLive_34 : decode b_Scope_setLive 34 = .ok (.return_, 1) := by decide +kernel
abbrev b_Scope_addVar : ByteArray := prog_9_method_15_code
abbrev y_Scope_addVar : MethodName := ⟨R_Scope, "addVar", "(JI)I"⟩
theorem co_Scope_addVar : Cond.code y_Scope_addVar b_Scope_addVar 4 (some .int) ∈ lw_good := lg_in (tin_5 _ (List.mem_of_getElem? (i := 194) rfl)) rfl
abbrev w_Scope_addVar : List Cond := Cond.code y_Scope_addVar b_Scope_addVar 4 (some .int) :: lw_good
theorem im_Scope_addVar : Cond.instanceMethod y_Scope_addVar ∈ lw_good := lg_right (i := 1152) (by decide +kernel) rfl
theorem se_Scope_addVar : Cond.selects R_Scope y_Scope_addVar y_Scope_addVar ∈ lw_good := lg_right (i := 1153) (by decide +kernel) rfl
theorem d_Scope_addVar_0 : decode b_Scope_addVar 0 = .ok (.aload_n 0, 1) := by decide +kernel
theorem d_Scope_addVar_1 : decode b_Scope_addVar 1 = .ok (.getfield 44, 3) := by decide +kernel
theorem d_Scope_addVar_4 : decode b_Scope_addVar 4 = .ok (.bipush 20, 2) := by decide +kernel
theorem d_Scope_addVar_6 : decode b_Scope_addVar 6 = .ok (.if_icmp .lt 5, 3) := by decide +kernel
theorem d_Scope_addVar_9 : decode b_Scope_addVar 9 = .ok (.iconst (-1), 1) := by decide +kernel
theorem d_Scope_addVar_10 : decode b_Scope_addVar 10 = .ok (.ireturn, 1) := by decide +kernel
theorem d_Scope_addVar_11 : decode b_Scope_addVar 11 = .ok (.aload_n 0, 1) := by decide +kernel
theorem d_Scope_addVar_12 : decode b_Scope_addVar 12 = .ok (.getfield 11, 3) := by decide +kernel
theorem fl_Scope_11 : Cond.fieldLink R_Scope 11 "PointerHouse$Scope" "varName" "[J" ∈ lw_good := lg_right (i := 466) (by decide +kernel) rfl
theorem d_Scope_addVar_15 : decode b_Scope_addVar 15 = .ok (.aload_n 0, 1) := by decide +kernel
theorem d_Scope_addVar_16 : decode b_Scope_addVar 16 = .ok (.getfield 44, 3) := by decide +kernel
theorem d_Scope_addVar_19 : decode b_Scope_addVar 19 = .ok (.lload_n 1, 1) := by decide +kernel
theorem d_Scope_addVar_20 : decode b_Scope_addVar 20 = .ok (.lastore, 1) := by decide +kernel
theorem d_Scope_addVar_21 : decode b_Scope_addVar 21 = .ok (.aload_n 0, 1) := by decide +kernel
theorem d_Scope_addVar_22 : decode b_Scope_addVar 22 = .ok (.getfield 15, 3) := by decide +kernel
theorem fl_Scope_15 : Cond.fieldLink R_Scope 15 "PointerHouse$Scope" "varType" "[I" ∈ lw_good := lg_right (i := 467) (by decide +kernel) rfl
theorem d_Scope_addVar_25 : decode b_Scope_addVar 25 = .ok (.aload_n 0, 1) := by decide +kernel
theorem d_Scope_addVar_26 : decode b_Scope_addVar 26 = .ok (.getfield 44, 3) := by decide +kernel
theorem d_Scope_addVar_29 : decode b_Scope_addVar 29 = .ok (.iload_n 3, 1) := by decide +kernel
theorem d_Scope_addVar_30 : decode b_Scope_addVar 30 = .ok (.iastore, 1) := by decide +kernel
theorem d_Scope_addVar_31 : decode b_Scope_addVar 31 = .ok (.aload_n 0, 1) := by decide +kernel
theorem d_Scope_addVar_32 : decode b_Scope_addVar 32 = .ok (.getfield 19, 3) := by decide +kernel
theorem fl_Scope_19 : Cond.fieldLink R_Scope 19 "PointerHouse$Scope" "varSlot" "[I" ∈ lw_good := lg_right (i := 468) (by decide +kernel) rfl
theorem d_Scope_addVar_35 : decode b_Scope_addVar 35 = .ok (.aload_n 0, 1) := by decide +kernel
theorem d_Scope_addVar_36 : decode b_Scope_addVar 36 = .ok (.getfield 44, 3) := by decide +kernel
theorem d_Scope_addVar_39 : decode b_Scope_addVar 39 = .ok (.iconst 1, 1) := by decide +kernel
theorem d_Scope_addVar_40 : decode b_Scope_addVar 40 = .ok (.iadd, 1) := by decide +kernel
theorem d_Scope_addVar_41 : decode b_Scope_addVar 41 = .ok (.aload_n 0, 1) := by decide +kernel
theorem d_Scope_addVar_42 : decode b_Scope_addVar 42 = .ok (.getfield 19, 3) := by decide +kernel
theorem d_Scope_addVar_45 : decode b_Scope_addVar 45 = .ok (.aload_n 0, 1) := by decide +kernel
theorem d_Scope_addVar_46 : decode b_Scope_addVar 46 = .ok (.getfield 44, 3) := by decide +kernel
theorem d_Scope_addVar_49 : decode b_Scope_addVar 49 = .ok (.iaload, 1) := by decide +kernel
theorem d_Scope_addVar_50 : decode b_Scope_addVar 50 = .ok (.aload_n 0, 1) := by decide +kernel
theorem d_Scope_addVar_51 : decode b_Scope_addVar 51 = .ok (.getfield 36, 3) := by decide +kernel
theorem fl_Scope_36 : Cond.fieldLink R_Scope 36 "PointerHouse$Scope" "types" "LPointerHouse$Types;" ∈ lw_good := lg_right (i := 462) (by decide +kernel) rfl
theorem d_Scope_addVar_54 : decode b_Scope_addVar 54 = .ok (.iload_n 3, 1) := by decide +kernel
theorem d_Scope_addVar_55 : decode b_Scope_addVar 55 = .ok (.invokevirtual 123, 3) := by decide +kernel
theorem ml_Scope_123 : Cond.methodLink R_Scope 123 ⟨"PointerHouse$Types", "wordsOf", "(I)I"⟩ ∈ lw_good := lg_right (i := 1155) (by decide +kernel) rfl
theorem d_Scope_addVar_58 : decode b_Scope_addVar 58 = .ok (.iadd, 1) := by decide +kernel
theorem d_Scope_addVar_59 : decode b_Scope_addVar 59 = .ok (.iastore, 1) := by decide +kernel
theorem d_Scope_addVar_60 : decode b_Scope_addVar 60 = .ok (.aload_n 0, 1) := by decide +kernel
theorem d_Scope_addVar_61 : decode b_Scope_addVar 61 = .ok (.iconst 1, 1) := by decide +kernel
theorem d_Scope_addVar_62 : decode b_Scope_addVar 62 = .ok (.aload_n 0, 1) := by decide +kernel
theorem d_Scope_addVar_63 : decode b_Scope_addVar 63 = .ok (.getfield 44, 3) := by decide +kernel
theorem d_Scope_addVar_66 : decode b_Scope_addVar 66 = .ok (.ishl, 1) := by decide +kernel
theorem d_Scope_addVar_67 : decode b_Scope_addVar 67 = .ok (.invokevirtual 129, 3) := by decide +kernel
theorem ml_Scope_129 : Cond.methodLink R_Scope 129 ⟨"PointerHouse$Scope", "forgetKnown", "(I)V"⟩ ∈ lw_good := lg_right (i := 1156) (by decide +kernel) rfl
theorem d_Scope_addVar_70 : decode b_Scope_addVar 70 = .ok (.aload_n 0, 1) := by decide +kernel
theorem d_Scope_addVar_71 : decode b_Scope_addVar 71 = .ok (.dup, 1) := by decide +kernel
theorem d_Scope_addVar_72 : decode b_Scope_addVar 72 = .ok (.getfield 56, 3) := by decide +kernel
theorem d_Scope_addVar_75 : decode b_Scope_addVar 75 = .ok (.lconst 1, 1) := by decide +kernel
theorem d_Scope_addVar_76 : decode b_Scope_addVar 76 = .ok (.aload_n 0, 1) := by decide +kernel
theorem d_Scope_addVar_77 : decode b_Scope_addVar 77 = .ok (.getfield 44, 3) := by decide +kernel
theorem d_Scope_addVar_80 : decode b_Scope_addVar 80 = .ok (.lshl, 1) := by decide +kernel
theorem d_Scope_addVar_81 : decode b_Scope_addVar 81 = .ok (.ldc2_w 110, 3) := by decide +kernel
theorem d_Scope_addVar_84 : decode b_Scope_addVar 84 = .ok (.lxor, 1) := by decide +kernel
theorem d_Scope_addVar_85 : decode b_Scope_addVar 85 = .ok (.land, 1) := by decide +kernel
theorem d_Scope_addVar_86 : decode b_Scope_addVar 86 = .ok (.putfield 56, 3) := by decide +kernel
theorem d_Scope_addVar_89 : decode b_Scope_addVar 89 = .ok (.aload_n 0, 1) := by decide +kernel
theorem d_Scope_addVar_90 : decode b_Scope_addVar 90 = .ok (.dup, 1) := by decide +kernel
theorem d_Scope_addVar_91 : decode b_Scope_addVar 91 = .ok (.getfield 44, 3) := by decide +kernel
theorem d_Scope_addVar_94 : decode b_Scope_addVar 94 = .ok (.iconst 1, 1) := by decide +kernel
theorem d_Scope_addVar_95 : decode b_Scope_addVar 95 = .ok (.iadd, 1) := by decide +kernel
theorem d_Scope_addVar_96 : decode b_Scope_addVar 96 = .ok (.putfield 44, 3) := by decide +kernel
theorem d_Scope_addVar_99 : decode b_Scope_addVar 99 = .ok (.aload_n 0, 1) := by decide +kernel
theorem d_Scope_addVar_100 : decode b_Scope_addVar 100 = .ok (.getfield 44, 3) := by decide +kernel
theorem d_Scope_addVar_103 : decode b_Scope_addVar 103 = .ok (.iconst 1, 1) := by decide +kernel
theorem d_Scope_addVar_104 : decode b_Scope_addVar 104 = .ok (.isub, 1) := by decide +kernel
theorem d_Scope_addVar_105 : decode b_Scope_addVar 105 = .ok (.ireturn, 1) := by decide +kernel
abbrev b_Scope_give : ByteArray := prog_9_method_22_code
abbrev y_Scope_give : MethodName := ⟨R_Scope, "give", "(IZ)V"⟩
theorem co_Scope_give : Cond.code y_Scope_give b_Scope_give 3 none ∈ lw_good := lg_in (tin_5 _ (List.mem_of_getElem? (i := 203) rfl)) rfl
abbrev w_Scope_give : List Cond := Cond.code y_Scope_give b_Scope_give 3 none :: lw_good
theorem im_Scope_give : Cond.instanceMethod y_Scope_give ∈ lw_good := lg_right (i := 1161) (by decide +kernel) rfl
theorem se_Scope_give : Cond.selects R_Scope y_Scope_give y_Scope_give ∈ lw_good := lg_right (i := 1162) (by decide +kernel) rfl
theorem d_Scope_give_0 : decode b_Scope_give 0 = .ok (.iload_n 1, 1) := by decide +kernel
theorem d_Scope_give_1 : decode b_Scope_give 1 = .ok (.ifCond .lt 31, 3) := by decide +kernel
theorem d_Scope_give_4 : decode b_Scope_give 4 = .ok (.aload_n 0, 1) := by decide +kernel
theorem d_Scope_give_5 : decode b_Scope_give 5 = .ok (.iconst 1, 1) := by decide +kernel
theorem d_Scope_give_6 : decode b_Scope_give 6 = .ok (.iload_n 1, 1) := by decide +kernel
theorem d_Scope_give_7 : decode b_Scope_give 7 = .ok (.ishl, 1) := by decide +kernel
theorem d_Scope_give_8 : decode b_Scope_give 8 = .ok (.invokevirtual 129, 3) := by decide +kernel
theorem d_Scope_give_11 : decode b_Scope_give 11 = .ok (.aload_n 0, 1) := by decide +kernel
theorem d_Scope_give_12 : decode b_Scope_give 12 = .ok (.dup, 1) := by decide +kernel
theorem d_Scope_give_13 : decode b_Scope_give 13 = .ok (.getfield 56, 3) := by decide +kernel
theorem d_Scope_give_16 : decode b_Scope_give 16 = .ok (.lconst 1, 1) := by decide +kernel
theorem d_Scope_give_17 : decode b_Scope_give 17 = .ok (.iload_n 1, 1) := by decide +kernel
theorem d_Scope_give_18 : decode b_Scope_give 18 = .ok (.lshl, 1) := by decide +kernel
theorem d_Scope_give_19 : decode b_Scope_give 19 = .ok (.lor, 1) := by decide +kernel
theorem d_Scope_give_20 : decode b_Scope_give 20 = .ok (.putfield 56, 3) := by decide +kernel
theorem d_Scope_give_23 : decode b_Scope_give 23 = .ok (.iload_n 2, 1) := by decide +kernel
theorem d_Scope_give_24 : decode b_Scope_give 24 = .ok (.ifCond .eq 8, 3) := by decide +kernel
theorem d_Scope_give_27 : decode b_Scope_give 27 = .ok (.aload_n 0, 1) := by decide +kernel
theorem d_Scope_give_28 : decode b_Scope_give 28 = .ok (.iload_n 1, 1) := by decide +kernel
theorem d_Scope_give_29 : decode b_Scope_give 29 = .ok (.invokevirtual 140, 3) := by decide +kernel
theorem ml_Scope_140 : Cond.methodLink R_Scope 140 ⟨"PointerHouse$Scope", "know", "(I)V"⟩ ∈ lw_good := lg_right (i := 1164) (by decide +kernel) rfl
theorem d_Scope_give_32 : decode b_Scope_give 32 = .ok (.return_, 1) := by decide +kernel
abbrev b_Scope_findRegion : ByteArray := prog_9_method_4_code
abbrev y_Scope_findRegion : MethodName := ⟨R_Scope, "findRegion", "(J)I"⟩
theorem co_Scope_findRegion : Cond.code y_Scope_findRegion b_Scope_findRegion 4 (some .int) ∈ lw_good := lg_in (tin_5 _ (List.mem_of_getElem? (i := 70) rfl)) rfl
abbrev w_Scope_findRegion : List Cond := Cond.code y_Scope_findRegion b_Scope_findRegion 4 (some .int) :: lw_good
theorem im_Scope_findRegion : Cond.instanceMethod y_Scope_findRegion ∈ lw_good := lg_right (i := 1028) (by decide +kernel) rfl
theorem se_Scope_findRegion : Cond.selects R_Scope y_Scope_findRegion y_Scope_findRegion ∈ lw_good := lg_right (i := 1029) (by decide +kernel) rfl
theorem d_Scope_findRegion_0 : decode b_Scope_findRegion 0 = .ok (.lload_n 1, 1) := by decide +kernel
theorem d_Scope_findRegion_1 : decode b_Scope_findRegion 1 = .ok (.ldc2_w 104, 3) := by decide +kernel
theorem k_Scope_104 : Cond.constantLong R_Scope 104 (72) ∈ lw_good := lg_right (i := 1031) (by decide +kernel) rfl
theorem d_Scope_findRegion_4 : decode b_Scope_findRegion 4 = .ok (.lcmp, 1) := by decide +kernel
theorem d_Scope_findRegion_5 : decode b_Scope_findRegion 5 = .ok (.ifCond .ne 5, 3) := by decide +kernel
theorem d_Scope_findRegion_8 : decode b_Scope_findRegion 8 = .ok (.iconst 0, 1) := by decide +kernel
theorem d_Scope_findRegion_9 : decode b_Scope_findRegion 9 = .ok (.ireturn, 1) := by decide +kernel
theorem d_Scope_findRegion_10 : decode b_Scope_findRegion 10 = .ok (.iconst 1, 1) := by decide +kernel
theorem d_Scope_findRegion_11 : decode b_Scope_findRegion 11 = .ok (.istore_n 3, 1) := by decide +kernel
theorem d_Scope_findRegion_12 : decode b_Scope_findRegion 12 = .ok (.iload_n 3, 1) := by decide +kernel
theorem d_Scope_findRegion_13 : decode b_Scope_findRegion 13 = .ok (.aload_n 0, 1) := by decide +kernel
theorem d_Scope_findRegion_14 : decode b_Scope_findRegion 14 = .ok (.getfield 47, 3) := by decide +kernel
theorem d_Scope_findRegion_17 : decode b_Scope_findRegion 17 = .ok (.if_icmp .ge 22, 3) := by decide +kernel
theorem d_Scope_findRegion_20 : decode b_Scope_findRegion 20 = .ok (.aload_n 0, 1) := by decide +kernel
theorem d_Scope_findRegion_21 : decode b_Scope_findRegion 21 = .ok (.getfield 22, 3) := by decide +kernel
theorem d_Scope_findRegion_24 : decode b_Scope_findRegion 24 = .ok (.iload_n 3, 1) := by decide +kernel
theorem d_Scope_findRegion_25 : decode b_Scope_findRegion 25 = .ok (.laload, 1) := by decide +kernel
theorem d_Scope_findRegion_26 : decode b_Scope_findRegion 26 = .ok (.lload_n 1, 1) := by decide +kernel
theorem d_Scope_findRegion_27 : decode b_Scope_findRegion 27 = .ok (.lcmp, 1) := by decide +kernel
theorem d_Scope_findRegion_28 : decode b_Scope_findRegion 28 = .ok (.ifCond .ne 5, 3) := by decide +kernel
theorem d_Scope_findRegion_31 : decode b_Scope_findRegion 31 = .ok (.iload_n 3, 1) := by decide +kernel
theorem d_Scope_findRegion_32 : decode b_Scope_findRegion 32 = .ok (.ireturn, 1) := by decide +kernel
theorem d_Scope_findRegion_33 : decode b_Scope_findRegion 33 = .ok (.iinc 3 1, 3) := by decide +kernel
theorem d_Scope_findRegion_36 : decode b_Scope_findRegion 36 = .ok (.goto (-24), 3) := by decide +kernel
theorem d_Scope_findRegion_39 : decode b_Scope_findRegion 39 = .ok (.iconst (-1), 1) := by decide +kernel
theorem d_Scope_findRegion_40 : decode b_Scope_findRegion 40 = .ok (.ireturn, 1) := by decide +kernel
abbrev b_Scope_openRegion : ByteArray := prog_9_method_5_code
abbrev y_Scope_openRegion : MethodName := ⟨R_Scope, "openRegion", "(J)I"⟩
theorem co_Scope_openRegion : Cond.code y_Scope_openRegion b_Scope_openRegion 4 (some .int) ∈ lw_good := lg_in (tin_7 _ (List.mem_of_getElem? (i := 103) rfl)) rfl
abbrev w_Scope_openRegion : List Cond := Cond.code y_Scope_openRegion b_Scope_openRegion 4 (some .int) :: lw_good
theorem im_Scope_openRegion : Cond.instanceMethod y_Scope_openRegion ∈ lw_good := lg_right (i := 1541) (by decide +kernel) rfl
theorem se_Scope_openRegion : Cond.selects R_Scope y_Scope_openRegion y_Scope_openRegion ∈ lw_good := lg_right (i := 1542) (by decide +kernel) rfl
theorem d_Scope_openRegion_0 : decode b_Scope_openRegion 0 = .ok (.aload_n 0, 1) := by decide +kernel
theorem d_Scope_openRegion_1 : decode b_Scope_openRegion 1 = .ok (.getfield 47, 3) := by decide +kernel
theorem d_Scope_openRegion_4 : decode b_Scope_openRegion 4 = .ok (.bipush 12, 2) := by decide +kernel
theorem d_Scope_openRegion_6 : decode b_Scope_openRegion 6 = .ok (.if_icmp .lt 5, 3) := by decide +kernel
theorem d_Scope_openRegion_9 : decode b_Scope_openRegion 9 = .ok (.iconst 0, 1) := by decide +kernel
theorem d_Scope_openRegion_10 : decode b_Scope_openRegion 10 = .ok (.ireturn, 1) := by decide +kernel
theorem d_Scope_openRegion_11 : decode b_Scope_openRegion 11 = .ok (.aload_n 0, 1) := by decide +kernel
theorem d_Scope_openRegion_12 : decode b_Scope_openRegion 12 = .ok (.getfield 47, 3) := by decide +kernel
theorem d_Scope_openRegion_15 : decode b_Scope_openRegion 15 = .ok (.istore_n 3, 1) := by decide +kernel
theorem d_Scope_openRegion_16 : decode b_Scope_openRegion 16 = .ok (.aload_n 0, 1) := by decide +kernel
theorem d_Scope_openRegion_17 : decode b_Scope_openRegion 17 = .ok (.getfield 22, 3) := by decide +kernel
theorem d_Scope_openRegion_20 : decode b_Scope_openRegion 20 = .ok (.iload_n 3, 1) := by decide +kernel
theorem d_Scope_openRegion_21 : decode b_Scope_openRegion 21 = .ok (.lload_n 1, 1) := by decide +kernel
theorem d_Scope_openRegion_22 : decode b_Scope_openRegion 22 = .ok (.lastore, 1) := by decide +kernel
theorem d_Scope_openRegion_23 : decode b_Scope_openRegion 23 = .ok (.aload_n 0, 1) := by decide +kernel
theorem d_Scope_openRegion_24 : decode b_Scope_openRegion 24 = .ok (.getfield 25, 3) := by decide +kernel
theorem fl_Scope_25 : Cond.fieldLink R_Scope 25 "PointerHouse$Scope" "regionTries" "[I" ∈ lw_good := lg_right (i := 471) (by decide +kernel) rfl
theorem d_Scope_openRegion_27 : decode b_Scope_openRegion 27 = .ok (.iload_n 3, 1) := by decide +kernel
theorem d_Scope_openRegion_28 : decode b_Scope_openRegion 28 = .ok (.aload_n 0, 1) := by decide +kernel
theorem d_Scope_openRegion_29 : decode b_Scope_openRegion 29 = .ok (.getfield 50, 3) := by decide +kernel
theorem d_Scope_openRegion_32 : decode b_Scope_openRegion 32 = .ok (.iastore, 1) := by decide +kernel
theorem d_Scope_openRegion_33 : decode b_Scope_openRegion 33 = .ok (.aload_n 0, 1) := by decide +kernel
theorem d_Scope_openRegion_34 : decode b_Scope_openRegion 34 = .ok (.dup, 1) := by decide +kernel
theorem d_Scope_openRegion_35 : decode b_Scope_openRegion 35 = .ok (.getfield 47, 3) := by decide +kernel
theorem d_Scope_openRegion_38 : decode b_Scope_openRegion 38 = .ok (.iconst 1, 1) := by decide +kernel
theorem d_Scope_openRegion_39 : decode b_Scope_openRegion 39 = .ok (.iadd, 1) := by decide +kernel
theorem d_Scope_openRegion_40 : decode b_Scope_openRegion 40 = .ok (.putfield 47, 3) := by decide +kernel
theorem d_Scope_openRegion_43 : decode b_Scope_openRegion 43 = .ok (.aload_n 0, 1) := by decide +kernel
theorem d_Scope_openRegion_44 : decode b_Scope_openRegion 44 = .ok (.iload_n 3, 1) := by decide +kernel
theorem d_Scope_openRegion_45 : decode b_Scope_openRegion 45 = .ok (.iconst 1, 1) := by decide +kernel
theorem d_Scope_openRegion_46 : decode b_Scope_openRegion 46 = .ok (.invokevirtual 83, 3) := by decide +kernel
theorem d_Scope_openRegion_49 : decode b_Scope_openRegion 49 = .ok (.iload_n 3, 1) := by decide +kernel
theorem d_Scope_openRegion_50 : decode b_Scope_openRegion 50 = .ok (.ireturn, 1) := by decide +kernel
abbrev b_Scope_leaveRegion : ByteArray := prog_9_method_6_code
abbrev y_Scope_leaveRegion : MethodName := ⟨R_Scope, "leaveRegion", "(I)V"⟩
theorem co_Scope_leaveRegion : Cond.code y_Scope_leaveRegion b_Scope_leaveRegion 2 none ∈ lw_good := lg_in (tin_7 _ (List.mem_of_getElem? (i := 108) rfl)) rfl
abbrev w_Scope_leaveRegion : List Cond := Cond.code y_Scope_leaveRegion b_Scope_leaveRegion 2 none :: lw_good
theorem im_Scope_leaveRegion : Cond.instanceMethod y_Scope_leaveRegion ∈ lw_good := lg_right (i := 1546) (by decide +kernel) rfl
theorem se_Scope_leaveRegion : Cond.selects R_Scope y_Scope_leaveRegion y_Scope_leaveRegion ∈ lw_good := lg_right (i := 1547) (by decide +kernel) rfl
theorem d_Scope_leaveRegion_0 : decode b_Scope_leaveRegion 0 = .ok (.iload_n 1, 1) := by decide +kernel
theorem d_Scope_leaveRegion_1 : decode b_Scope_leaveRegion 1 = .ok (.iconst 4, 1) := by decide +kernel
theorem d_Scope_leaveRegion_2 : decode b_Scope_leaveRegion 2 = .ok (.if_icmp .lt 14, 3) := by decide +kernel
theorem d_Scope_leaveRegion_5 : decode b_Scope_leaveRegion 5 = .ok (.aload_n 0, 1) := by decide +kernel
theorem d_Scope_leaveRegion_6 : decode b_Scope_leaveRegion 6 = .ok (.iload_n 1, 1) := by decide +kernel
theorem d_Scope_leaveRegion_7 : decode b_Scope_leaveRegion 7 = .ok (.iconst 0, 1) := by decide +kernel
theorem d_Scope_leaveRegion_8 : decode b_Scope_leaveRegion 8 = .ok (.invokevirtual 83, 3) := by decide +kernel
theorem d_Scope_leaveRegion_11 : decode b_Scope_leaveRegion 11 = .ok (.aload_n 0, 1) := by decide +kernel
theorem d_Scope_leaveRegion_12 : decode b_Scope_leaveRegion 12 = .ok (.iload_n 1, 1) := by decide +kernel
theorem d_Scope_leaveRegion_13 : decode b_Scope_leaveRegion 13 = .ok (.putfield 47, 3) := by decide +kernel
theorem d_Scope_leaveRegion_16 : decode b_Scope_leaveRegion 16 = .ok (.return_, 1) := by decide +kernel
abbrev b_Scope_mayClose : ByteArray := prog_9_method_7_code
abbrev y_Scope_mayClose : MethodName := ⟨R_Scope, "mayClose", "(I)Z"⟩
theorem co_Scope_mayClose : Cond.code y_Scope_mayClose b_Scope_mayClose 4 (some .boolean) ∈ lw_good := lg_in (tin_7 _ (List.mem_of_getElem? (i := 116) rfl)) rfl
abbrev w_Scope_mayClose : List Cond := Cond.code y_Scope_mayClose b_Scope_mayClose 4 (some .boolean) :: lw_good
theorem im_Scope_mayClose : Cond.instanceMethod y_Scope_mayClose ∈ lw_good := lg_right (i := 1554) (by decide +kernel) rfl
theorem se_Scope_mayClose : Cond.selects R_Scope y_Scope_mayClose y_Scope_mayClose ∈ lw_good := lg_right (i := 1555) (by decide +kernel) rfl
theorem d_Scope_mayClose_0 : decode b_Scope_mayClose 0 = .ok (.iload_n 1, 1) := by decide +kernel
theorem d_Scope_mayClose_1 : decode b_Scope_mayClose 1 = .ok (.iconst 4, 1) := by decide +kernel
theorem d_Scope_mayClose_2 : decode b_Scope_mayClose 2 = .ok (.if_icmp .lt 19, 3) := by decide +kernel
theorem d_Scope_mayClose_5 : decode b_Scope_mayClose 5 = .ok (.iload_n 1, 1) := by decide +kernel
theorem d_Scope_mayClose_6 : decode b_Scope_mayClose 6 = .ok (.aload_n 0, 1) := by decide +kernel
theorem d_Scope_mayClose_7 : decode b_Scope_mayClose 7 = .ok (.getfield 47, 3) := by decide +kernel
theorem d_Scope_mayClose_10 : decode b_Scope_mayClose 10 = .ok (.if_icmp .ge 11, 3) := by decide +kernel
theorem d_Scope_mayClose_13 : decode b_Scope_mayClose 13 = .ok (.aload_n 0, 1) := by decide +kernel
theorem d_Scope_mayClose_14 : decode b_Scope_mayClose 14 = .ok (.iload_n 1, 1) := by decide +kernel
theorem d_Scope_mayClose_15 : decode b_Scope_mayClose 15 = .ok (.invokevirtual 106, 3) := by decide +kernel
theorem ml_Scope_106 : Cond.methodLink R_Scope 106 ⟨"PointerHouse$Scope", "isLive", "(I)Z"⟩ ∈ lw_good := lg_right (i := 1310) (by decide +kernel) rfl
theorem d_Scope_mayClose_18 : decode b_Scope_mayClose 18 = .ok (.ifCond .ne 5, 3) := by decide +kernel
theorem d_Scope_mayClose_21 : decode b_Scope_mayClose 21 = .ok (.iconst 0, 1) := by decide +kernel
theorem d_Scope_mayClose_22 : decode b_Scope_mayClose 22 = .ok (.ireturn, 1) := by decide +kernel
theorem d_Scope_mayClose_23 : decode b_Scope_mayClose 23 = .ok (.iconst 0, 1) := by decide +kernel
theorem d_Scope_mayClose_24 : decode b_Scope_mayClose 24 = .ok (.istore_n 2, 1) := by decide +kernel
theorem d_Scope_mayClose_25 : decode b_Scope_mayClose 25 = .ok (.iload_n 1, 1) := by decide +kernel
theorem d_Scope_mayClose_26 : decode b_Scope_mayClose 26 = .ok (.iconst 1, 1) := by decide +kernel
theorem d_Scope_mayClose_27 : decode b_Scope_mayClose 27 = .ok (.iadd, 1) := by decide +kernel
theorem d_Scope_mayClose_28 : decode b_Scope_mayClose 28 = .ok (.istore_n 3, 1) := by decide +kernel
theorem d_Scope_mayClose_29 : decode b_Scope_mayClose 29 = .ok (.iload_n 3, 1) := by decide +kernel
theorem d_Scope_mayClose_30 : decode b_Scope_mayClose 30 = .ok (.aload_n 0, 1) := by decide +kernel
theorem d_Scope_mayClose_31 : decode b_Scope_mayClose 31 = .ok (.getfield 47, 3) := by decide +kernel
theorem d_Scope_mayClose_34 : decode b_Scope_mayClose 34 = .ok (.if_icmp .ge 17, 3) := by decide +kernel
theorem d_Scope_mayClose_37 : decode b_Scope_mayClose 37 = .ok (.iload_n 2, 1) := by decide +kernel
theorem d_Scope_mayClose_38 : decode b_Scope_mayClose 38 = .ok (.aload_n 0, 1) := by decide +kernel
theorem d_Scope_mayClose_39 : decode b_Scope_mayClose 39 = .ok (.iload_n 3, 1) := by decide +kernel
theorem d_Scope_mayClose_40 : decode b_Scope_mayClose 40 = .ok (.invokevirtual 106, 3) := by decide +kernel
theorem d_Scope_mayClose_43 : decode b_Scope_mayClose 43 = .ok (.ior, 1) := by decide +kernel
theorem d_Scope_mayClose_44 : decode b_Scope_mayClose 44 = .ok (.istore_n 2, 1) := by decide +kernel
theorem d_Scope_mayClose_45 : decode b_Scope_mayClose 45 = .ok (.iinc 3 1, 3) := by decide +kernel
theorem d_Scope_mayClose_48 : decode b_Scope_mayClose 48 = .ok (.goto (-19), 3) := by decide +kernel
theorem d_Scope_mayClose_51 : decode b_Scope_mayClose 51 = .ok (.iload_n 2, 1) := by decide +kernel
theorem d_Scope_mayClose_52 : decode b_Scope_mayClose 52 = .ok (.ifCond .ne 20, 3) := by decide +kernel
theorem d_Scope_mayClose_55 : decode b_Scope_mayClose 55 = .ok (.aload_n 0, 1) := by decide +kernel
theorem d_Scope_mayClose_56 : decode b_Scope_mayClose 56 = .ok (.getfield 25, 3) := by decide +kernel
theorem d_Scope_mayClose_59 : decode b_Scope_mayClose 59 = .ok (.iload_n 1, 1) := by decide +kernel
theorem d_Scope_mayClose_60 : decode b_Scope_mayClose 60 = .ok (.iaload, 1) := by decide +kernel
theorem d_Scope_mayClose_61 : decode b_Scope_mayClose 61 = .ok (.aload_n 0, 1) := by decide +kernel
theorem d_Scope_mayClose_62 : decode b_Scope_mayClose 62 = .ok (.getfield 50, 3) := by decide +kernel
theorem d_Scope_mayClose_65 : decode b_Scope_mayClose 65 = .ok (.if_icmp .ne 7, 3) := by decide +kernel
theorem d_Scope_mayClose_68 : decode b_Scope_mayClose 68 = .ok (.iconst 1, 1) := by decide +kernel
theorem d_Scope_mayClose_69 : decode b_Scope_mayClose 69 = .ok (.goto 4, 3) := by decide +kernel
theorem d_Scope_mayClose_72 : decode b_Scope_mayClose 72 = .ok (.iconst 0, 1) := by decide +kernel
theorem d_Scope_mayClose_73 : decode b_Scope_mayClose 73 = .ok (.ireturn, 1) := by decide +kernel
abbrev b_Scope_isLive : ByteArray := prog_9_method_8_code
abbrev y_Scope_isLive : MethodName := ⟨R_Scope, "isLive", "(I)Z"⟩
theorem co_Scope_isLive : Cond.code y_Scope_isLive b_Scope_isLive 2 (some .boolean) ∈ lw_good := lg_in (tin_6 _ (List.mem_of_getElem? (i := 113) rfl)) rfl
abbrev w_Scope_isLive : List Cond := Cond.code y_Scope_isLive b_Scope_isLive 2 (some .boolean) :: lw_good
theorem im_Scope_isLive : Cond.instanceMethod y_Scope_isLive ∈ lw_good := lg_right (i := 1311) (by decide +kernel) rfl
theorem se_Scope_isLive : Cond.selects R_Scope y_Scope_isLive y_Scope_isLive ∈ lw_good := lg_right (i := 1312) (by decide +kernel) rfl
theorem d_Scope_isLive_0 : decode b_Scope_isLive 0 = .ok (.aload_n 0, 1) := by decide +kernel
theorem d_Scope_isLive_1 : decode b_Scope_isLive 1 = .ok (.getfield 56, 3) := by decide +kernel
theorem d_Scope_isLive_4 : decode b_Scope_isLive 4 = .ok (.bipush 40, 2) := by decide +kernel
theorem d_Scope_isLive_6 : decode b_Scope_isLive 6 = .ok (.iload_n 1, 1) := by decide +kernel
theorem d_Scope_isLive_7 : decode b_Scope_isLive 7 = .ok (.iadd, 1) := by decide +kernel
theorem d_Scope_isLive_8 : decode b_Scope_isLive 8 = .ok (.lshr, 1) := by decide +kernel
theorem d_Scope_isLive_9 : decode b_Scope_isLive 9 = .ok (.lconst 1, 1) := by decide +kernel
theorem d_Scope_isLive_10 : decode b_Scope_isLive 10 = .ok (.land, 1) := by decide +kernel
theorem d_Scope_isLive_11 : decode b_Scope_isLive 11 = .ok (.lconst 0, 1) := by decide +kernel
theorem d_Scope_isLive_12 : decode b_Scope_isLive 12 = .ok (.lcmp, 1) := by decide +kernel
theorem d_Scope_isLive_13 : decode b_Scope_isLive 13 = .ok (.ifCond .eq 7, 3) := by decide +kernel
theorem d_Scope_isLive_16 : decode b_Scope_isLive 16 = .ok (.iconst 1, 1) := by decide +kernel
theorem d_Scope_isLive_17 : decode b_Scope_isLive 17 = .ok (.goto 4, 3) := by decide +kernel
theorem d_Scope_isLive_20 : decode b_Scope_isLive 20 = .ok (.iconst 0, 1) := by decide +kernel
theorem d_Scope_isLive_21 : decode b_Scope_isLive 21 = .ok (.ireturn, 1) := by decide +kernel
abbrev b_Scope_outlives : ByteArray := prog_9_method_10_code
abbrev y_Scope_outlives : MethodName := ⟨R_Scope, "outlives", "(II)Z"⟩
theorem co_Scope_outlives : Cond.code y_Scope_outlives b_Scope_outlives 3 (some .boolean) ∈ lw_good := lg_in (tin_6 _ (List.mem_of_getElem? (i := 109) rfl)) rfl
abbrev w_Scope_outlives : List Cond := Cond.code y_Scope_outlives b_Scope_outlives 3 (some .boolean) :: lw_good
theorem im_Scope_outlives : Cond.instanceMethod y_Scope_outlives ∈ lw_good := lg_right (i := 1307) (by decide +kernel) rfl
theorem se_Scope_outlives : Cond.selects R_Scope y_Scope_outlives y_Scope_outlives ∈ lw_good := lg_right (i := 1308) (by decide +kernel) rfl
theorem d_Scope_outlives_0 : decode b_Scope_outlives 0 = .ok (.iload_n 1, 1) := by decide +kernel
theorem d_Scope_outlives_1 : decode b_Scope_outlives 1 = .ok (.iload_n 2, 1) := by decide +kernel
theorem d_Scope_outlives_2 : decode b_Scope_outlives 2 = .ok (.if_icmp .eq 7, 3) := by decide +kernel
theorem d_Scope_outlives_5 : decode b_Scope_outlives 5 = .ok (.iload_n 1, 1) := by decide +kernel
theorem d_Scope_outlives_6 : decode b_Scope_outlives 6 = .ok (.ifCond .ne 5, 3) := by decide +kernel
theorem d_Scope_outlives_9 : decode b_Scope_outlives 9 = .ok (.iconst 1, 1) := by decide +kernel
theorem d_Scope_outlives_10 : decode b_Scope_outlives 10 = .ok (.ireturn, 1) := by decide +kernel
theorem d_Scope_outlives_11 : decode b_Scope_outlives 11 = .ok (.iload_n 2, 1) := by decide +kernel
theorem d_Scope_outlives_12 : decode b_Scope_outlives 12 = .ok (.iconst 4, 1) := by decide +kernel
theorem d_Scope_outlives_13 : decode b_Scope_outlives 13 = .ok (.if_icmp .lt 27, 3) := by decide +kernel
theorem d_Scope_outlives_16 : decode b_Scope_outlives 16 = .ok (.aload_n 0, 1) := by decide +kernel
theorem d_Scope_outlives_17 : decode b_Scope_outlives 17 = .ok (.iload_n 1, 1) := by decide +kernel
theorem d_Scope_outlives_18 : decode b_Scope_outlives 18 = .ok (.invokevirtual 106, 3) := by decide +kernel
theorem d_Scope_outlives_21 : decode b_Scope_outlives 21 = .ok (.ifCond .eq 17, 3) := by decide +kernel
theorem d_Scope_outlives_24 : decode b_Scope_outlives 24 = .ok (.iload_n 1, 1) := by decide +kernel
theorem d_Scope_outlives_25 : decode b_Scope_outlives 25 = .ok (.iconst 4, 1) := by decide +kernel
theorem d_Scope_outlives_26 : decode b_Scope_outlives 26 = .ok (.if_icmp .lt 8, 3) := by decide +kernel
theorem d_Scope_outlives_29 : decode b_Scope_outlives 29 = .ok (.iload_n 1, 1) := by decide +kernel
theorem d_Scope_outlives_30 : decode b_Scope_outlives 30 = .ok (.iload_n 2, 1) := by decide +kernel
theorem d_Scope_outlives_31 : decode b_Scope_outlives 31 = .ok (.if_icmp .ge 7, 3) := by decide +kernel
theorem d_Scope_outlives_34 : decode b_Scope_outlives 34 = .ok (.iconst 1, 1) := by decide +kernel
theorem d_Scope_outlives_35 : decode b_Scope_outlives 35 = .ok (.goto 4, 3) := by decide +kernel
theorem d_Scope_outlives_38 : decode b_Scope_outlives 38 = .ok (.iconst 0, 1) := by decide +kernel
theorem d_Scope_outlives_39 : decode b_Scope_outlives 39 = .ok (.ireturn, 1) := by decide +kernel
theorem d_Scope_outlives_40 : decode b_Scope_outlives 40 = .ok (.iload_n 1, 1) := by decide +kernel
theorem d_Scope_outlives_41 : decode b_Scope_outlives 41 = .ok (.iconst 4, 1) := by decide +kernel
theorem d_Scope_outlives_42 : decode b_Scope_outlives 42 = .ok (.if_icmp .ge 34, 3) := by decide +kernel
theorem d_Scope_outlives_45 : decode b_Scope_outlives 45 = .ok (.iload_n 2, 1) := by decide +kernel
theorem d_Scope_outlives_46 : decode b_Scope_outlives 46 = .ok (.ifCond .eq 30, 3) := by decide +kernel
theorem d_Scope_outlives_49 : decode b_Scope_outlives 49 = .ok (.aload_n 0, 1) := by decide +kernel
theorem d_Scope_outlives_50 : decode b_Scope_outlives 50 = .ok (.getfield 32, 3) := by decide +kernel
theorem d_Scope_outlives_53 : decode b_Scope_outlives 53 = .ok (.getfield 112, 3) := by decide +kernel
theorem fl_Scope_112 : Cond.fieldLink R_Scope 112 "PointerHouse$Items" "above" "[I" ∈ lw_good := lg_right (i := 322) (by decide +kernel) rfl
theorem d_Scope_outlives_56 : decode b_Scope_outlives 56 = .ok (.aload_n 0, 1) := by decide +kernel
theorem d_Scope_outlives_57 : decode b_Scope_outlives 57 = .ok (.getfield 40, 3) := by decide +kernel
theorem d_Scope_outlives_60 : decode b_Scope_outlives 60 = .ok (.iaload, 1) := by decide +kernel
theorem d_Scope_outlives_61 : decode b_Scope_outlives 61 = .ok (.iload_n 1, 1) := by decide +kernel
theorem d_Scope_outlives_62 : decode b_Scope_outlives 62 = .ok (.iload_n 2, 1) := by decide +kernel
theorem d_Scope_outlives_63 : decode b_Scope_outlives 63 = .ok (.invokestatic 115, 3) := by decide +kernel
theorem ml_Scope_115 : Cond.methodLink R_Scope 115 ⟨"PointerHouse$Scope", "aboveBit", "(II)I"⟩ ∈ lw_good := lg_right (i := 1314) (by decide +kernel) rfl
theorem d_Scope_outlives_66 : decode b_Scope_outlives 66 = .ok (.ishr, 1) := by decide +kernel
theorem d_Scope_outlives_67 : decode b_Scope_outlives 67 = .ok (.iconst 1, 1) := by decide +kernel
theorem d_Scope_outlives_68 : decode b_Scope_outlives 68 = .ok (.iand, 1) := by decide +kernel
theorem d_Scope_outlives_69 : decode b_Scope_outlives 69 = .ok (.ifCond .eq 7, 3) := by decide +kernel
theorem d_Scope_outlives_72 : decode b_Scope_outlives 72 = .ok (.iconst 1, 1) := by decide +kernel
theorem d_Scope_outlives_73 : decode b_Scope_outlives 73 = .ok (.goto 4, 3) := by decide +kernel
theorem d_Scope_outlives_76 : decode b_Scope_outlives 76 = .ok (.iconst 0, 1) := by decide +kernel
theorem d_Scope_outlives_77 : decode b_Scope_outlives 77 = .ok (.ireturn, 1) := by decide +kernel
abbrev b_Scope_aboveBit : ByteArray := prog_9_method_11_code
abbrev y_Scope_aboveBit : MethodName := ⟨R_Scope, "aboveBit", "(II)I"⟩
theorem co_Scope_aboveBit : Cond.code y_Scope_aboveBit b_Scope_aboveBit 2 (some .int) ∈ lw_good := lg_in (tin_5 _ (List.mem_of_getElem? (i := 151) rfl)) rfl
abbrev w_Scope_aboveBit : List Cond := Cond.code y_Scope_aboveBit b_Scope_aboveBit 2 (some .int) :: lw_good
theorem st_Scope_aboveBit : Cond.static y_Scope_aboveBit ∈ lw_good := lg_right (i := 1110) (by decide +kernel) rfl
theorem d_Scope_aboveBit_0 : decode b_Scope_aboveBit 0 = .ok (.iload_n 0, 1) := by decide +kernel
theorem d_Scope_aboveBit_1 : decode b_Scope_aboveBit 1 = .ok (.iconst 1, 1) := by decide +kernel
theorem d_Scope_aboveBit_2 : decode b_Scope_aboveBit 2 = .ok (.isub, 1) := by decide +kernel
theorem d_Scope_aboveBit_3 : decode b_Scope_aboveBit 3 = .ok (.iconst 3, 1) := by decide +kernel
theorem d_Scope_aboveBit_4 : decode b_Scope_aboveBit 4 = .ok (.imul, 1) := by decide +kernel
theorem d_Scope_aboveBit_5 : decode b_Scope_aboveBit 5 = .ok (.iload_n 1, 1) := by decide +kernel
theorem d_Scope_aboveBit_6 : decode b_Scope_aboveBit 6 = .ok (.iadd, 1) := by decide +kernel
theorem d_Scope_aboveBit_7 : decode b_Scope_aboveBit 7 = .ok (.iconst 1, 1) := by decide +kernel
theorem d_Scope_aboveBit_8 : decode b_Scope_aboveBit 8 = .ok (.isub, 1) := by decide +kernel
theorem d_Scope_aboveBit_9 : decode b_Scope_aboveBit 9 = .ok (.ireturn, 1) := by decide +kernel
abbrev b_Scope_varsSeen : ByteArray := prog_9_method_12_code
abbrev y_Scope_varsSeen : MethodName := ⟨R_Scope, "varsSeen", "()I"⟩
theorem co_Scope_varsSeen : Cond.code y_Scope_varsSeen b_Scope_varsSeen 1 (some .int) ∈ lw_good := lg_in (tin_5 _ (List.mem_of_getElem? (i := 219) rfl)) rfl
abbrev w_Scope_varsSeen : List Cond := Cond.code y_Scope_varsSeen b_Scope_varsSeen 1 (some .int) :: lw_good
theorem im_Scope_varsSeen : Cond.instanceMethod y_Scope_varsSeen ∈ lw_good := lg_right (i := 1177) (by decide +kernel) rfl
theorem se_Scope_varsSeen : Cond.selects R_Scope y_Scope_varsSeen y_Scope_varsSeen ∈ lw_good := lg_right (i := 1178) (by decide +kernel) rfl
theorem d_Scope_varsSeen_0 : decode b_Scope_varsSeen 0 = .ok (.aload_n 0, 1) := by decide +kernel
theorem d_Scope_varsSeen_1 : decode b_Scope_varsSeen 1 = .ok (.getfield 44, 3) := by decide +kernel
theorem d_Scope_varsSeen_4 : decode b_Scope_varsSeen 4 = .ok (.ireturn, 1) := by decide +kernel
abbrev b_Scope_forgetVars : ByteArray := prog_9_method_13_code
abbrev y_Scope_forgetVars : MethodName := ⟨R_Scope, "forgetVars", "(I)V"⟩
theorem co_Scope_forgetVars : Cond.code y_Scope_forgetVars b_Scope_forgetVars 2 none ∈ lw_good := lg_in (tin_7 _ (List.mem_of_getElem? (i := 136) rfl)) rfl
abbrev w_Scope_forgetVars : List Cond := Cond.code y_Scope_forgetVars b_Scope_forgetVars 2 none :: lw_good
theorem im_Scope_forgetVars : Cond.instanceMethod y_Scope_forgetVars ∈ lw_good := lg_right (i := 1574) (by decide +kernel) rfl
theorem se_Scope_forgetVars : Cond.selects R_Scope y_Scope_forgetVars y_Scope_forgetVars ∈ lw_good := lg_right (i := 1575) (by decide +kernel) rfl
theorem d_Scope_forgetVars_0 : decode b_Scope_forgetVars 0 = .ok (.aload_n 0, 1) := by decide +kernel
theorem d_Scope_forgetVars_1 : decode b_Scope_forgetVars 1 = .ok (.aload_n 0, 1) := by decide +kernel
theorem d_Scope_forgetVars_2 : decode b_Scope_forgetVars 2 = .ok (.getfield 44, 3) := by decide +kernel
theorem d_Scope_forgetVars_5 : decode b_Scope_forgetVars 5 = .ok (.iload_n 1, 1) := by decide +kernel
theorem d_Scope_forgetVars_6 : decode b_Scope_forgetVars 6 = .ok (.invokestatic 118, 3) := by decide +kernel
theorem ml_Scope_118 : Cond.methodLink R_Scope 118 ⟨"java/lang/Math", "min", "(II)I"⟩ ∈ lw_good := lg_right (i := 1577) (by decide +kernel) rfl
theorem d_Scope_forgetVars_9 : decode b_Scope_forgetVars 9 = .ok (.putfield 44, 3) := by decide +kernel
theorem d_Scope_forgetVars_12 : decode b_Scope_forgetVars 12 = .ok (.return_, 1) := by decide +kernel
abbrev b_Math_min : ByteArray := prog_17_method_69_code
abbrev y_Math_min : MethodName := ⟨R_Math, "min", "(II)I"⟩
theorem co_Math_min : Cond.code y_Math_min b_Math_min 2 (some .int) ∈ lw_good := lg_in (tin_1 _ (List.mem_of_getElem? (i := 113) rfl)) rfl
abbrev w_Math_min : List Cond := Cond.code y_Math_min b_Math_min 2 (some .int) :: lw_good
theorem st_Math_min : Cond.static y_Math_min ∈ lw_good := lg_right (i := 112) (by decide +kernel) rfl
theorem d_Math_min_0 : decode b_Math_min 0 = .ok (.iload_n 0, 1) := by decide +kernel
theorem d_Math_min_1 : decode b_Math_min 1 = .ok (.iload_n 1, 1) := by decide +kernel
theorem d_Math_min_2 : decode b_Math_min 2 = .ok (.if_icmp .gt 7, 3) := by decide +kernel
theorem d_Math_min_5 : decode b_Math_min 5 = .ok (.iload_n 0, 1) := by decide +kernel
theorem d_Math_min_6 : decode b_Math_min 6 = .ok (.goto 4, 3) := by decide +kernel
theorem d_Math_min_9 : decode b_Math_min 9 = .ok (.iload_n 1, 1) := by decide +kernel
theorem d_Math_min_10 : decode b_Math_min 10 = .ok (.ireturn, 1) := by decide +kernel
abbrev b_Scope_findVar : ByteArray := prog_9_method_14_code
abbrev y_Scope_findVar : MethodName := ⟨R_Scope, "findVar", "(J)I"⟩
theorem co_Scope_findVar : Cond.code y_Scope_findVar b_Scope_findVar 4 (some .int) ∈ lw_good := lg_in (tin_6 _ (List.mem_of_getElem? (i := 22) rfl)) rfl
abbrev w_Scope_findVar : List Cond := Cond.code y_Scope_findVar b_Scope_findVar 4 (some .int) :: lw_good
theorem im_Scope_findVar : Cond.instanceMethod y_Scope_findVar ∈ lw_good := lg_right (i := 1220) (by decide +kernel) rfl
theorem se_Scope_findVar : Cond.selects R_Scope y_Scope_findVar y_Scope_findVar ∈ lw_good := lg_right (i := 1221) (by decide +kernel) rfl
theorem d_Scope_findVar_0 : decode b_Scope_findVar 0 = .ok (.iconst 0, 1) := by decide +kernel
theorem d_Scope_findVar_1 : decode b_Scope_findVar 1 = .ok (.istore_n 3, 1) := by decide +kernel
theorem d_Scope_findVar_2 : decode b_Scope_findVar 2 = .ok (.iload_n 3, 1) := by decide +kernel
theorem d_Scope_findVar_3 : decode b_Scope_findVar 3 = .ok (.aload_n 0, 1) := by decide +kernel
theorem d_Scope_findVar_4 : decode b_Scope_findVar 4 = .ok (.getfield 44, 3) := by decide +kernel
theorem d_Scope_findVar_7 : decode b_Scope_findVar 7 = .ok (.if_icmp .ge 22, 3) := by decide +kernel
theorem d_Scope_findVar_10 : decode b_Scope_findVar 10 = .ok (.aload_n 0, 1) := by decide +kernel
theorem d_Scope_findVar_11 : decode b_Scope_findVar 11 = .ok (.getfield 11, 3) := by decide +kernel
theorem d_Scope_findVar_14 : decode b_Scope_findVar 14 = .ok (.iload_n 3, 1) := by decide +kernel
theorem d_Scope_findVar_15 : decode b_Scope_findVar 15 = .ok (.laload, 1) := by decide +kernel
theorem d_Scope_findVar_16 : decode b_Scope_findVar 16 = .ok (.lload_n 1, 1) := by decide +kernel
theorem d_Scope_findVar_17 : decode b_Scope_findVar 17 = .ok (.lcmp, 1) := by decide +kernel
theorem d_Scope_findVar_18 : decode b_Scope_findVar 18 = .ok (.ifCond .ne 5, 3) := by decide +kernel
theorem d_Scope_findVar_21 : decode b_Scope_findVar 21 = .ok (.iload_n 3, 1) := by decide +kernel
theorem d_Scope_findVar_22 : decode b_Scope_findVar 22 = .ok (.ireturn, 1) := by decide +kernel
theorem d_Scope_findVar_23 : decode b_Scope_findVar 23 = .ok (.iinc 3 1, 3) := by decide +kernel
theorem d_Scope_findVar_26 : decode b_Scope_findVar 26 = .ok (.goto (-24), 3) := by decide +kernel
theorem d_Scope_findVar_29 : decode b_Scope_findVar 29 = .ok (.iconst (-1), 1) := by decide +kernel
theorem d_Scope_findVar_30 : decode b_Scope_findVar 30 = .ok (.ireturn, 1) := by decide +kernel
abbrev b_Scope_forgetKnown : ByteArray := prog_9_method_24_code
abbrev y_Scope_forgetKnown : MethodName := ⟨R_Scope, "forgetKnown", "(I)V"⟩
theorem co_Scope_forgetKnown : Cond.code y_Scope_forgetKnown b_Scope_forgetKnown 2 none ∈ lw_good := lg_in (tin_5 _ (List.mem_of_getElem? (i := 199) rfl)) rfl
abbrev w_Scope_forgetKnown : List Cond := Cond.code y_Scope_forgetKnown b_Scope_forgetKnown 2 none :: lw_good
theorem im_Scope_forgetKnown : Cond.instanceMethod y_Scope_forgetKnown ∈ lw_good := lg_right (i := 1157) (by decide +kernel) rfl
theorem se_Scope_forgetKnown : Cond.selects R_Scope y_Scope_forgetKnown y_Scope_forgetKnown ∈ lw_good := lg_right (i := 1158) (by decide +kernel) rfl
theorem d_Scope_forgetKnown_0 : decode b_Scope_forgetKnown 0 = .ok (.aload_n 0, 1) := by decide +kernel
theorem d_Scope_forgetKnown_1 : decode b_Scope_forgetKnown 1 = .ok (.dup, 1) := by decide +kernel
theorem d_Scope_forgetKnown_2 : decode b_Scope_forgetKnown 2 = .ok (.getfield 56, 3) := by decide +kernel
theorem d_Scope_forgetKnown_5 : decode b_Scope_forgetKnown 5 = .ok (.iload_n 1, 1) := by decide +kernel
theorem d_Scope_forgetKnown_6 : decode b_Scope_forgetKnown 6 = .ok (.i2l, 1) := by decide +kernel
theorem d_Scope_forgetKnown_7 : decode b_Scope_forgetKnown 7 = .ok (.bipush 20, 2) := by decide +kernel
theorem d_Scope_forgetKnown_9 : decode b_Scope_forgetKnown 9 = .ok (.lshl, 1) := by decide +kernel
theorem d_Scope_forgetKnown_10 : decode b_Scope_forgetKnown 10 = .ok (.ldc2_w 110, 3) := by decide +kernel
theorem d_Scope_forgetKnown_13 : decode b_Scope_forgetKnown 13 = .ok (.lxor, 1) := by decide +kernel
theorem d_Scope_forgetKnown_14 : decode b_Scope_forgetKnown 14 = .ok (.land, 1) := by decide +kernel
theorem d_Scope_forgetKnown_15 : decode b_Scope_forgetKnown 15 = .ok (.putfield 56, 3) := by decide +kernel
theorem d_Scope_forgetKnown_18 : decode b_Scope_forgetKnown 18 = .ok (.return_, 1) := by decide +kernel
abbrev b_Scope_typeOf : ByteArray := prog_9_method_16_code
abbrev y_Scope_typeOf : MethodName := ⟨R_Scope, "typeOf", "(I)I"⟩
theorem co_Scope_typeOf : Cond.code y_Scope_typeOf b_Scope_typeOf 2 (some .int) ∈ lw_good := lg_in (tin_6 _ (List.mem_of_getElem? (i := 35) rfl)) rfl
abbrev w_Scope_typeOf : List Cond := Cond.code y_Scope_typeOf b_Scope_typeOf 2 (some .int) :: lw_good
theorem im_Scope_typeOf : Cond.instanceMethod y_Scope_typeOf ∈ lw_good := lg_right (i := 1233) (by decide +kernel) rfl
theorem se_Scope_typeOf : Cond.selects R_Scope y_Scope_typeOf y_Scope_typeOf ∈ lw_good := lg_right (i := 1234) (by decide +kernel) rfl
theorem d_Scope_typeOf_0 : decode b_Scope_typeOf 0 = .ok (.iload_n 1, 1) := by decide +kernel
theorem d_Scope_typeOf_1 : decode b_Scope_typeOf 1 = .ok (.ifCond .lt 11, 3) := by decide +kernel
theorem d_Scope_typeOf_4 : decode b_Scope_typeOf 4 = .ok (.iload_n 1, 1) := by decide +kernel
theorem d_Scope_typeOf_5 : decode b_Scope_typeOf 5 = .ok (.aload_n 0, 1) := by decide +kernel
theorem d_Scope_typeOf_6 : decode b_Scope_typeOf 6 = .ok (.getfield 44, 3) := by decide +kernel
theorem d_Scope_typeOf_9 : decode b_Scope_typeOf 9 = .ok (.if_icmp .lt 7, 3) := by decide +kernel
theorem d_Scope_typeOf_12 : decode b_Scope_typeOf 12 = .ok (.iconst 1, 1) := by decide +kernel
theorem d_Scope_typeOf_13 : decode b_Scope_typeOf 13 = .ok (.goto 9, 3) := by decide +kernel
theorem d_Scope_typeOf_16 : decode b_Scope_typeOf 16 = .ok (.aload_n 0, 1) := by decide +kernel
theorem d_Scope_typeOf_17 : decode b_Scope_typeOf 17 = .ok (.getfield 15, 3) := by decide +kernel
theorem d_Scope_typeOf_20 : decode b_Scope_typeOf 20 = .ok (.iload_n 1, 1) := by decide +kernel
theorem d_Scope_typeOf_21 : decode b_Scope_typeOf 21 = .ok (.iaload, 1) := by decide +kernel
theorem d_Scope_typeOf_22 : decode b_Scope_typeOf 22 = .ok (.ireturn, 1) := by decide +kernel
abbrev b_Scope_slotOf : ByteArray := prog_9_method_17_code
abbrev y_Scope_slotOf : MethodName := ⟨R_Scope, "slotOf", "(I)I"⟩
theorem co_Scope_slotOf : Cond.code y_Scope_slotOf b_Scope_slotOf 2 (some .int) ∈ lw_good := lg_in (tin_6 _ (List.mem_of_getElem? (i := 39) rfl)) rfl
abbrev w_Scope_slotOf : List Cond := Cond.code y_Scope_slotOf b_Scope_slotOf 2 (some .int) :: lw_good
theorem im_Scope_slotOf : Cond.instanceMethod y_Scope_slotOf ∈ lw_good := lg_right (i := 1237) (by decide +kernel) rfl
theorem se_Scope_slotOf : Cond.selects R_Scope y_Scope_slotOf y_Scope_slotOf ∈ lw_good := lg_right (i := 1238) (by decide +kernel) rfl
theorem d_Scope_slotOf_0 : decode b_Scope_slotOf 0 = .ok (.iload_n 1, 1) := by decide +kernel
theorem d_Scope_slotOf_1 : decode b_Scope_slotOf 1 = .ok (.ifCond .lt 11, 3) := by decide +kernel
theorem d_Scope_slotOf_4 : decode b_Scope_slotOf 4 = .ok (.iload_n 1, 1) := by decide +kernel
theorem d_Scope_slotOf_5 : decode b_Scope_slotOf 5 = .ok (.aload_n 0, 1) := by decide +kernel
theorem d_Scope_slotOf_6 : decode b_Scope_slotOf 6 = .ok (.getfield 44, 3) := by decide +kernel
theorem d_Scope_slotOf_9 : decode b_Scope_slotOf 9 = .ok (.if_icmp .lt 7, 3) := by decide +kernel
theorem d_Scope_slotOf_12 : decode b_Scope_slotOf 12 = .ok (.iconst 0, 1) := by decide +kernel
theorem d_Scope_slotOf_13 : decode b_Scope_slotOf 13 = .ok (.goto 9, 3) := by decide +kernel
theorem d_Scope_slotOf_16 : decode b_Scope_slotOf 16 = .ok (.aload_n 0, 1) := by decide +kernel
theorem d_Scope_slotOf_17 : decode b_Scope_slotOf 17 = .ok (.getfield 19, 3) := by decide +kernel
theorem d_Scope_slotOf_20 : decode b_Scope_slotOf 20 = .ok (.iload_n 1, 1) := by decide +kernel
theorem d_Scope_slotOf_21 : decode b_Scope_slotOf 21 = .ok (.iaload, 1) := by decide +kernel
theorem d_Scope_slotOf_22 : decode b_Scope_slotOf 22 = .ok (.ireturn, 1) := by decide +kernel
abbrev b_Scope_isReached : ByteArray := prog_9_method_18_code
abbrev y_Scope_isReached : MethodName := ⟨R_Scope, "isReached", "()Z"⟩
theorem co_Scope_isReached : Cond.code y_Scope_isReached b_Scope_isReached 1 (some .boolean) ∈ lw_good := lg_in (tin_6 _ (List.mem_of_getElem? (i := 30) rfl)) rfl
abbrev w_Scope_isReached : List Cond := Cond.code y_Scope_isReached b_Scope_isReached 1 (some .boolean) :: lw_good
theorem im_Scope_isReached : Cond.instanceMethod y_Scope_isReached ∈ lw_good := lg_right (i := 1228) (by decide +kernel) rfl
theorem se_Scope_isReached : Cond.selects R_Scope y_Scope_isReached y_Scope_isReached ∈ lw_good := lg_right (i := 1229) (by decide +kernel) rfl
theorem d_Scope_isReached_0 : decode b_Scope_isReached 0 = .ok (.aload_n 0, 1) := by decide +kernel
theorem d_Scope_isReached_1 : decode b_Scope_isReached 1 = .ok (.getfield 56, 3) := by decide +kernel
theorem d_Scope_isReached_4 : decode b_Scope_isReached 4 = .ok (.ldc2_w 132, 3) := by decide +kernel
theorem k_Scope_132 : Cond.constantLong R_Scope 132 (4503599627370496) ∈ lw_good := lg_right (i := 1231) (by decide +kernel) rfl
theorem d_Scope_isReached_7 : decode b_Scope_isReached 7 = .ok (.land, 1) := by decide +kernel
theorem d_Scope_isReached_8 : decode b_Scope_isReached 8 = .ok (.lconst 0, 1) := by decide +kernel
theorem d_Scope_isReached_9 : decode b_Scope_isReached 9 = .ok (.lcmp, 1) := by decide +kernel
theorem d_Scope_isReached_10 : decode b_Scope_isReached 10 = .ok (.ifCond .eq 7, 3) := by decide +kernel
theorem d_Scope_isReached_13 : decode b_Scope_isReached 13 = .ok (.iconst 1, 1) := by decide +kernel
theorem d_Scope_isReached_14 : decode b_Scope_isReached 14 = .ok (.goto 4, 3) := by decide +kernel
theorem d_Scope_isReached_17 : decode b_Scope_isReached 17 = .ok (.iconst 0, 1) := by decide +kernel
theorem d_Scope_isReached_18 : decode b_Scope_isReached 18 = .ok (.ireturn, 1) := by decide +kernel
abbrev b_Scope_leave : ByteArray := prog_9_method_19_code
abbrev y_Scope_leave : MethodName := ⟨R_Scope, "leave", "()V"⟩
theorem co_Scope_leave : Cond.code y_Scope_leave b_Scope_leave 1 none ∈ lw_good := lg_in (tin_7 _ (List.mem_of_getElem? (i := 89) rfl)) rfl
abbrev w_Scope_leave : List Cond := Cond.code y_Scope_leave b_Scope_leave 1 none :: lw_good
theorem im_Scope_leave : Cond.instanceMethod y_Scope_leave ∈ lw_good := lg_right (i := 1527) (by decide +kernel) rfl
theorem se_Scope_leave : Cond.selects R_Scope y_Scope_leave y_Scope_leave ∈ lw_good := lg_right (i := 1528) (by decide +kernel) rfl
theorem d_Scope_leave_0 : decode b_Scope_leave 0 = .ok (.aload_n 0, 1) := by decide +kernel
theorem d_Scope_leave_1 : decode b_Scope_leave 1 = .ok (.dup, 1) := by decide +kernel
theorem d_Scope_leave_2 : decode b_Scope_leave 2 = .ok (.getfield 56, 3) := by decide +kernel
theorem d_Scope_leave_5 : decode b_Scope_leave 5 = .ok (.ldc2_w 134, 3) := by decide +kernel
theorem k_Scope_134 : Cond.constantLong R_Scope 134 (-4503599627370497) ∈ lw_good := lg_right (i := 1530) (by decide +kernel) rfl
theorem d_Scope_leave_8 : decode b_Scope_leave 8 = .ok (.land, 1) := by decide +kernel
theorem d_Scope_leave_9 : decode b_Scope_leave 9 = .ok (.putfield 56, 3) := by decide +kernel
theorem d_Scope_leave_12 : decode b_Scope_leave 12 = .ok (.return_, 1) := by decide +kernel
abbrev b_Scope_isSet : ByteArray := prog_9_method_20_code
abbrev y_Scope_isSet : MethodName := ⟨R_Scope, "isSet", "(I)Z"⟩
theorem co_Scope_isSet : Cond.code y_Scope_isSet b_Scope_isSet 2 (some .boolean) ∈ lw_good := lg_in (tin_6 _ (List.mem_of_getElem? (i := 26) rfl)) rfl
abbrev w_Scope_isSet : List Cond := Cond.code y_Scope_isSet b_Scope_isSet 2 (some .boolean) :: lw_good
theorem im_Scope_isSet : Cond.instanceMethod y_Scope_isSet ∈ lw_good := lg_right (i := 1224) (by decide +kernel) rfl
theorem se_Scope_isSet : Cond.selects R_Scope y_Scope_isSet y_Scope_isSet ∈ lw_good := lg_right (i := 1225) (by decide +kernel) rfl
theorem d_Scope_isSet_0 : decode b_Scope_isSet 0 = .ok (.aload_n 0, 1) := by decide +kernel
theorem d_Scope_isSet_1 : decode b_Scope_isSet 1 = .ok (.invokevirtual 136, 3) := by decide +kernel
theorem ml_Scope_136 : Cond.methodLink R_Scope 136 ⟨"PointerHouse$Scope", "isReached", "()Z"⟩ ∈ lw_good := lg_right (i := 1227) (by decide +kernel) rfl
theorem d_Scope_isSet_4 : decode b_Scope_isSet 4 = .ok (.ifCond .eq 16, 3) := by decide +kernel
theorem d_Scope_isSet_7 : decode b_Scope_isSet 7 = .ok (.aload_n 0, 1) := by decide +kernel
theorem d_Scope_isSet_8 : decode b_Scope_isSet 8 = .ok (.getfield 56, 3) := by decide +kernel
theorem d_Scope_isSet_11 : decode b_Scope_isSet 11 = .ok (.iload_n 1, 1) := by decide +kernel
theorem d_Scope_isSet_12 : decode b_Scope_isSet 12 = .ok (.lshr, 1) := by decide +kernel
theorem d_Scope_isSet_13 : decode b_Scope_isSet 13 = .ok (.lconst 1, 1) := by decide +kernel
theorem d_Scope_isSet_14 : decode b_Scope_isSet 14 = .ok (.land, 1) := by decide +kernel
theorem d_Scope_isSet_15 : decode b_Scope_isSet 15 = .ok (.lconst 0, 1) := by decide +kernel
theorem d_Scope_isSet_16 : decode b_Scope_isSet 16 = .ok (.lcmp, 1) := by decide +kernel
theorem d_Scope_isSet_17 : decode b_Scope_isSet 17 = .ok (.ifCond .eq 7, 3) := by decide +kernel
theorem d_Scope_isSet_20 : decode b_Scope_isSet 20 = .ok (.iconst 1, 1) := by decide +kernel
theorem d_Scope_isSet_21 : decode b_Scope_isSet 21 = .ok (.goto 4, 3) := by decide +kernel
theorem d_Scope_isSet_24 : decode b_Scope_isSet 24 = .ok (.iconst 0, 1) := by decide +kernel
theorem d_Scope_isSet_25 : decode b_Scope_isSet 25 = .ok (.ireturn, 1) := by decide +kernel
abbrev b_Scope_isKnown : ByteArray := prog_9_method_21_code
abbrev y_Scope_isKnown : MethodName := ⟨R_Scope, "isKnown", "(I)Z"⟩
theorem co_Scope_isKnown : Cond.code y_Scope_isKnown b_Scope_isKnown 2 (some .boolean) ∈ lw_good := lg_in (tin_6 _ (List.mem_of_getElem? (i := 48) rfl)) rfl
abbrev w_Scope_isKnown : List Cond := Cond.code y_Scope_isKnown b_Scope_isKnown 2 (some .boolean) :: lw_good
theorem im_Scope_isKnown : Cond.instanceMethod y_Scope_isKnown ∈ lw_good := lg_right (i := 1246) (by decide +kernel) rfl
theorem se_Scope_isKnown : Cond.selects R_Scope y_Scope_isKnown y_Scope_isKnown ∈ lw_good := lg_right (i := 1247) (by decide +kernel) rfl
theorem d_Scope_isKnown_0 : decode b_Scope_isKnown 0 = .ok (.aload_n 0, 1) := by decide +kernel
theorem d_Scope_isKnown_1 : decode b_Scope_isKnown 1 = .ok (.invokevirtual 136, 3) := by decide +kernel
theorem d_Scope_isKnown_4 : decode b_Scope_isKnown 4 = .ok (.ifCond .eq 19, 3) := by decide +kernel
theorem d_Scope_isKnown_7 : decode b_Scope_isKnown 7 = .ok (.aload_n 0, 1) := by decide +kernel
theorem d_Scope_isKnown_8 : decode b_Scope_isKnown 8 = .ok (.getfield 56, 3) := by decide +kernel
theorem d_Scope_isKnown_11 : decode b_Scope_isKnown 11 = .ok (.bipush 20, 2) := by decide +kernel
theorem d_Scope_isKnown_13 : decode b_Scope_isKnown 13 = .ok (.iload_n 1, 1) := by decide +kernel
theorem d_Scope_isKnown_14 : decode b_Scope_isKnown 14 = .ok (.iadd, 1) := by decide +kernel
theorem d_Scope_isKnown_15 : decode b_Scope_isKnown 15 = .ok (.lshr, 1) := by decide +kernel
theorem d_Scope_isKnown_16 : decode b_Scope_isKnown 16 = .ok (.lconst 1, 1) := by decide +kernel
theorem d_Scope_isKnown_17 : decode b_Scope_isKnown 17 = .ok (.land, 1) := by decide +kernel
theorem d_Scope_isKnown_18 : decode b_Scope_isKnown 18 = .ok (.lconst 0, 1) := by decide +kernel
theorem d_Scope_isKnown_19 : decode b_Scope_isKnown 19 = .ok (.lcmp, 1) := by decide +kernel
theorem d_Scope_isKnown_20 : decode b_Scope_isKnown 20 = .ok (.ifCond .eq 7, 3) := by decide +kernel
theorem d_Scope_isKnown_23 : decode b_Scope_isKnown 23 = .ok (.iconst 1, 1) := by decide +kernel
theorem d_Scope_isKnown_24 : decode b_Scope_isKnown 24 = .ok (.goto 4, 3) := by decide +kernel
theorem d_Scope_isKnown_27 : decode b_Scope_isKnown 27 = .ok (.iconst 0, 1) := by decide +kernel
theorem d_Scope_isKnown_28 : decode b_Scope_isKnown 28 = .ok (.ireturn, 1) := by decide +kernel
abbrev b_Scope_know : ByteArray := prog_9_method_23_code
abbrev y_Scope_know : MethodName := ⟨R_Scope, "know", "(I)V"⟩
theorem co_Scope_know : Cond.code y_Scope_know b_Scope_know 2 none ∈ lw_good := lg_in (tin_5 _ (List.mem_of_getElem? (i := 207) rfl)) rfl
abbrev w_Scope_know : List Cond := Cond.code y_Scope_know b_Scope_know 2 none :: lw_good
theorem im_Scope_know : Cond.instanceMethod y_Scope_know ∈ lw_good := lg_right (i := 1165) (by decide +kernel) rfl
theorem se_Scope_know : Cond.selects R_Scope y_Scope_know y_Scope_know ∈ lw_good := lg_right (i := 1166) (by decide +kernel) rfl
theorem d_Scope_know_0 : decode b_Scope_know 0 = .ok (.iload_n 1, 1) := by decide +kernel
theorem d_Scope_know_1 : decode b_Scope_know 1 = .ok (.ifCond .lt 18, 3) := by decide +kernel
theorem d_Scope_know_4 : decode b_Scope_know 4 = .ok (.aload_n 0, 1) := by decide +kernel
theorem d_Scope_know_5 : decode b_Scope_know 5 = .ok (.dup, 1) := by decide +kernel
theorem d_Scope_know_6 : decode b_Scope_know 6 = .ok (.getfield 56, 3) := by decide +kernel
theorem d_Scope_know_9 : decode b_Scope_know 9 = .ok (.lconst 1, 1) := by decide +kernel
theorem d_Scope_know_10 : decode b_Scope_know 10 = .ok (.bipush 20, 2) := by decide +kernel
theorem d_Scope_know_12 : decode b_Scope_know 12 = .ok (.iload_n 1, 1) := by decide +kernel
theorem d_Scope_know_13 : decode b_Scope_know 13 = .ok (.iadd, 1) := by decide +kernel
theorem d_Scope_know_14 : decode b_Scope_know 14 = .ok (.lshl, 1) := by decide +kernel
theorem d_Scope_know_15 : decode b_Scope_know 15 = .ok (.lor, 1) := by decide +kernel
theorem d_Scope_know_16 : decode b_Scope_know 16 = .ok (.putfield 56, 3) := by decide +kernel
theorem d_Scope_know_19 : decode b_Scope_know 19 = .ok (.return_, 1) := by decide +kernel
abbrev b_Scope_sameLive : ByteArray := prog_9_method_25_code
abbrev y_Scope_sameLive : MethodName := ⟨R_Scope, "sameLive", "(JJ)Z"⟩
theorem co_Scope_sameLive : Cond.code y_Scope_sameLive b_Scope_sameLive 4 (some .boolean) ∈ lw_good := lg_in (tin_7 _ (List.mem_of_getElem? (i := 67) rfl)) rfl
abbrev w_Scope_sameLive : List Cond := Cond.code y_Scope_sameLive b_Scope_sameLive 4 (some .boolean) :: lw_good
theorem st_Scope_sameLive : Cond.static y_Scope_sameLive ∈ lw_good := lg_right (i := 1506) (by decide +kernel) rfl
theorem d_Scope_sameLive_0 : decode b_Scope_sameLive 0 = .ok (.lload_n 0, 1) := by decide +kernel
theorem d_Scope_sameLive_1 : decode b_Scope_sameLive 1 = .ok (.lload_n 2, 1) := by decide +kernel
theorem d_Scope_sameLive_2 : decode b_Scope_sameLive 2 = .ok (.lxor, 1) := by decide +kernel
theorem d_Scope_sameLive_3 : decode b_Scope_sameLive 3 = .ok (.ldc2_w 143, 3) := by decide +kernel
theorem k_Scope_143 : Cond.constantLong R_Scope 143 (4502500115742720) ∈ lw_good := lg_right (i := 1508) (by decide +kernel) rfl
theorem d_Scope_sameLive_6 : decode b_Scope_sameLive 6 = .ok (.land, 1) := by decide +kernel
theorem d_Scope_sameLive_7 : decode b_Scope_sameLive 7 = .ok (.lconst 0, 1) := by decide +kernel
theorem d_Scope_sameLive_8 : decode b_Scope_sameLive 8 = .ok (.lcmp, 1) := by decide +kernel
theorem d_Scope_sameLive_9 : decode b_Scope_sameLive 9 = .ok (.ifCond .ne 7, 3) := by decide +kernel
theorem d_Scope_sameLive_12 : decode b_Scope_sameLive 12 = .ok (.iconst 1, 1) := by decide +kernel
theorem d_Scope_sameLive_13 : decode b_Scope_sameLive 13 = .ok (.goto 4, 3) := by decide +kernel
theorem d_Scope_sameLive_16 : decode b_Scope_sameLive 16 = .ok (.iconst 0, 1) := by decide +kernel
theorem d_Scope_sameLive_17 : decode b_Scope_sameLive 17 = .ok (.ireturn, 1) := by decide +kernel
abbrev b_Scope_meet : ByteArray := prog_9_method_26_code
abbrev y_Scope_meet : MethodName := ⟨R_Scope, "meet", "(JJ)Z"⟩
theorem co_Scope_meet : Cond.code y_Scope_meet b_Scope_meet 6 (some .boolean) ∈ lw_good := lg_in (tin_7 _ (List.mem_of_getElem? (i := 64) rfl)) rfl
abbrev w_Scope_meet : List Cond := Cond.code y_Scope_meet b_Scope_meet 6 (some .boolean) :: lw_good
theorem im_Scope_meet : Cond.instanceMethod y_Scope_meet ∈ lw_good := lg_right (i := 1502) (by decide +kernel) rfl
theorem se_Scope_meet : Cond.selects R_Scope y_Scope_meet y_Scope_meet ∈ lw_good := lg_right (i := 1503) (by decide +kernel) rfl
theorem d_Scope_meet_0 : decode b_Scope_meet 0 = .ok (.lload_n 1, 1) := by decide +kernel
theorem d_Scope_meet_1 : decode b_Scope_meet 1 = .ok (.lload_n 3, 1) := by decide +kernel
theorem d_Scope_meet_2 : decode b_Scope_meet 2 = .ok (.land, 1) := by decide +kernel
theorem d_Scope_meet_3 : decode b_Scope_meet 3 = .ok (.ldc2_w 132, 3) := by decide +kernel
theorem d_Scope_meet_6 : decode b_Scope_meet 6 = .ok (.land, 1) := by decide +kernel
theorem d_Scope_meet_7 : decode b_Scope_meet 7 = .ok (.lconst 0, 1) := by decide +kernel
theorem d_Scope_meet_8 : decode b_Scope_meet 8 = .ok (.lcmp, 1) := by decide +kernel
theorem d_Scope_meet_9 : decode b_Scope_meet 9 = .ok (.ifCond .eq 7, 3) := by decide +kernel
theorem d_Scope_meet_12 : decode b_Scope_meet 12 = .ok (.iconst 1, 1) := by decide +kernel
theorem d_Scope_meet_13 : decode b_Scope_meet 13 = .ok (.goto 4, 3) := by decide +kernel
theorem d_Scope_meet_16 : decode b_Scope_meet 16 = .ok (.iconst 0, 1) := by decide +kernel
theorem d_Scope_meet_17 : decode b_Scope_meet 17 = .ok (.istore 5, 2) := by decide +kernel
theorem d_Scope_meet_19 : decode b_Scope_meet 19 = .ok (.iload 5, 2) := by decide +kernel
theorem d_Scope_meet_21 : decode b_Scope_meet 21 = .ok (.ifCond .eq 16, 3) := by decide +kernel
theorem d_Scope_meet_24 : decode b_Scope_meet 24 = .ok (.aload_n 0, 1) := by decide +kernel
theorem d_Scope_meet_25 : decode b_Scope_meet 25 = .ok (.lload_n 1, 1) := by decide +kernel
theorem d_Scope_meet_26 : decode b_Scope_meet 26 = .ok (.lload_n 3, 1) := by decide +kernel
theorem d_Scope_meet_27 : decode b_Scope_meet 27 = .ok (.land, 1) := by decide +kernel
theorem d_Scope_meet_28 : decode b_Scope_meet 28 = .ok (.putfield 56, 3) := by decide +kernel
theorem d_Scope_meet_31 : decode b_Scope_meet 31 = .ok (.lload_n 1, 1) := by decide +kernel
theorem d_Scope_meet_32 : decode b_Scope_meet 32 = .ok (.lload_n 3, 1) := by decide +kernel
theorem d_Scope_meet_33 : decode b_Scope_meet 33 = .ok (.invokestatic 145, 3) := by decide +kernel
theorem ml_Scope_145 : Cond.methodLink R_Scope 145 ⟨"PointerHouse$Scope", "sameLive", "(JJ)Z"⟩ ∈ lw_good := lg_right (i := 1505) (by decide +kernel) rfl
theorem d_Scope_meet_36 : decode b_Scope_meet 36 = .ok (.ireturn, 1) := by decide +kernel
theorem d_Scope_meet_37 : decode b_Scope_meet 37 = .ok (.aload_n 0, 1) := by decide +kernel
theorem d_Scope_meet_38 : decode b_Scope_meet 38 = .ok (.lload_n 1, 1) := by decide +kernel
theorem d_Scope_meet_39 : decode b_Scope_meet 39 = .ok (.ldc2_w 132, 3) := by decide +kernel
theorem d_Scope_meet_42 : decode b_Scope_meet 42 = .ok (.land, 1) := by decide +kernel
theorem d_Scope_meet_43 : decode b_Scope_meet 43 = .ok (.lconst 0, 1) := by decide +kernel
theorem d_Scope_meet_44 : decode b_Scope_meet 44 = .ok (.lcmp, 1) := by decide +kernel
theorem d_Scope_meet_45 : decode b_Scope_meet 45 = .ok (.ifCond .ne 17, 3) := by decide +kernel
theorem d_Scope_meet_48 : decode b_Scope_meet 48 = .ok (.lload_n 3, 1) := by decide +kernel
theorem d_Scope_meet_49 : decode b_Scope_meet 49 = .ok (.ldc2_w 132, 3) := by decide +kernel
theorem d_Scope_meet_52 : decode b_Scope_meet 52 = .ok (.land, 1) := by decide +kernel
theorem d_Scope_meet_53 : decode b_Scope_meet 53 = .ok (.lconst 0, 1) := by decide +kernel
theorem d_Scope_meet_54 : decode b_Scope_meet 54 = .ok (.lcmp, 1) := by decide +kernel
theorem d_Scope_meet_55 : decode b_Scope_meet 55 = .ok (.ifCond .eq 7, 3) := by decide +kernel
theorem d_Scope_meet_58 : decode b_Scope_meet 58 = .ok (.lload_n 3, 1) := by decide +kernel
theorem d_Scope_meet_59 : decode b_Scope_meet 59 = .ok (.goto 4, 3) := by decide +kernel
theorem d_Scope_meet_62 : decode b_Scope_meet 62 = .ok (.lload_n 1, 1) := by decide +kernel
theorem d_Scope_meet_63 : decode b_Scope_meet 63 = .ok (.putfield 56, 3) := by decide +kernel
theorem d_Scope_meet_66 : decode b_Scope_meet 66 = .ok (.iconst 1, 1) := by decide +kernel
theorem d_Scope_meet_67 : decode b_Scope_meet 67 = .ok (.ireturn, 1) := by decide +kernel
abbrev b_Heads_mainName : ByteArray := prog_4_method_3_code
abbrev y_Heads_mainName : MethodName := ⟨R_Heads, "mainName", "()J"⟩
theorem co_Heads_mainName : Cond.code y_Heads_mainName b_Heads_mainName 0 (some .long) ∈ lw_good := lg_in (tin_5 _ (List.mem_of_getElem? (i := 165) rfl)) rfl
abbrev w_Heads_mainName : List Cond := Cond.code y_Heads_mainName b_Heads_mainName 0 (some .long) :: lw_good
theorem st_Heads_mainName : Cond.static y_Heads_mainName ∈ lw_good := lg_right (i := 1124) (by decide +kernel) rfl
theorem d_Heads_mainName_0 : decode b_Heads_mainName 0 = .ok (.ldc2_w 81, 3) := by decide +kernel
theorem k_Heads_81 : Cond.constantLong R_Heads 81 (1835100526) ∈ lw_good := lg_right (i := 1126) (by decide +kernel) rfl
theorem d_Heads_mainName_3 : decode b_Heads_mainName 3 = .ok (.lreturn, 1) := by decide +kernel
abbrev b_Heads_checkHead : ByteArray := prog_4_method_4_code
abbrev y_Heads_checkHead : MethodName := ⟨R_Heads, "checkHead", "(I)V"⟩
theorem co_Heads_checkHead : Cond.code y_Heads_checkHead b_Heads_checkHead 4 none ∈ lw_good := lg_in (tin_5 _ (List.mem_of_getElem? (i := 54) rfl)) rfl
abbrev w_Heads_checkHead : List Cond := Cond.code y_Heads_checkHead b_Heads_checkHead 4 none :: lw_good
theorem im_Heads_checkHead : Cond.instanceMethod y_Heads_checkHead ∈ lw_good := lg_right (i := 1013) (by decide +kernel) rfl
theorem se_Heads_checkHead : Cond.selects R_Heads y_Heads_checkHead y_Heads_checkHead ∈ lw_good := lg_left (i := 36) (by decide +kernel) rfl
theorem d_Heads_checkHead_0 : decode b_Heads_checkHead 0 = .ok (.aload_n 0, 1) := by decide +kernel
theorem d_Heads_checkHead_1 : decode b_Heads_checkHead 1 = .ok (.getfield 15, 3) := by decide +kernel
theorem d_Heads_checkHead_4 : decode b_Heads_checkHead 4 = .ok (.getfield 83, 3) := by decide +kernel
theorem fl_Heads_83 : Cond.fieldLink R_Heads 83 "PointerHouse$Items" "nameTok" "[I" ∈ lw_good := lg_right (i := 282) (by decide +kernel) rfl
theorem d_Heads_checkHead_7 : decode b_Heads_checkHead 7 = .ok (.iload_n 1, 1) := by decide +kernel
theorem d_Heads_checkHead_8 : decode b_Heads_checkHead 8 = .ok (.iaload, 1) := by decide +kernel
theorem d_Heads_checkHead_9 : decode b_Heads_checkHead 9 = .ok (.istore_n 2, 1) := by decide +kernel
theorem d_Heads_checkHead_10 : decode b_Heads_checkHead 10 = .ok (.aload_n 0, 1) := by decide +kernel
theorem d_Heads_checkHead_11 : decode b_Heads_checkHead 11 = .ok (.getfield 15, 3) := by decide +kernel
theorem d_Heads_checkHead_14 : decode b_Heads_checkHead 14 = .ok (.aload_n 0, 1) := by decide +kernel
theorem d_Heads_checkHead_15 : decode b_Heads_checkHead 15 = .ok (.getfield 15, 3) := by decide +kernel
theorem d_Heads_checkHead_18 : decode b_Heads_checkHead 18 = .ok (.getfield 86, 3) := by decide +kernel
theorem fl_Heads_86 : Cond.fieldLink R_Heads 86 "PointerHouse$Items" "name" "[J" ∈ lw_good := lg_right (i := 285) (by decide +kernel) rfl
theorem d_Heads_checkHead_21 : decode b_Heads_checkHead 21 = .ok (.iload_n 1, 1) := by decide +kernel
theorem d_Heads_checkHead_22 : decode b_Heads_checkHead 22 = .ok (.laload, 1) := by decide +kernel
theorem d_Heads_checkHead_23 : decode b_Heads_checkHead 23 = .ok (.aload_n 0, 1) := by decide +kernel
theorem d_Heads_checkHead_24 : decode b_Heads_checkHead 24 = .ok (.getfield 15, 3) := by decide +kernel
theorem d_Heads_checkHead_27 : decode b_Heads_checkHead 27 = .ok (.getfield 46, 3) := by decide +kernel
theorem d_Heads_checkHead_30 : decode b_Heads_checkHead 30 = .ok (.iload_n 1, 1) := by decide +kernel
theorem d_Heads_checkHead_31 : decode b_Heads_checkHead 31 = .ok (.iaload, 1) := by decide +kernel
theorem d_Heads_checkHead_32 : decode b_Heads_checkHead 32 = .ok (.bipush 12, 2) := by decide +kernel
theorem d_Heads_checkHead_34 : decode b_Heads_checkHead 34 = .ok (.if_icmp .ne 7, 3) := by decide +kernel
theorem d_Heads_checkHead_37 : decode b_Heads_checkHead 37 = .ok (.iconst 1, 1) := by decide +kernel
theorem d_Heads_checkHead_38 : decode b_Heads_checkHead 38 = .ok (.goto 4, 3) := by decide +kernel
theorem d_Heads_checkHead_41 : decode b_Heads_checkHead 41 = .ok (.iconst 0, 1) := by decide +kernel
theorem d_Heads_checkHead_42 : decode b_Heads_checkHead 42 = .ok (.invokevirtual 59, 3) := by decide +kernel
theorem d_Heads_checkHead_45 : decode b_Heads_checkHead 45 = .ok (.iload_n 1, 1) := by decide +kernel
theorem d_Heads_checkHead_46 : decode b_Heads_checkHead 46 = .ok (.if_icmp .eq 19, 3) := by decide +kernel
theorem d_Heads_checkHead_49 : decode b_Heads_checkHead 49 = .ok (.aload_n 0, 1) := by decide +kernel
theorem d_Heads_checkHead_50 : decode b_Heads_checkHead 50 = .ok (.getfield 27, 3) := by decide +kernel
theorem d_Heads_checkHead_53 : decode b_Heads_checkHead 53 = .ok (.iconst 2, 1) := by decide +kernel
theorem d_Heads_checkHead_54 : decode b_Heads_checkHead 54 = .ok (.aload_n 0, 1) := by decide +kernel
theorem d_Heads_checkHead_55 : decode b_Heads_checkHead 55 = .ok (.getfield 9, 3) := by decide +kernel
theorem d_Heads_checkHead_58 : decode b_Heads_checkHead 58 = .ok (.iload_n 2, 1) := by decide +kernel
theorem d_Heads_checkHead_59 : decode b_Heads_checkHead 59 = .ok (.invokevirtual 90, 3) := by decide +kernel
theorem ml_Heads_90 : Cond.methodLink R_Heads 90 ⟨"PointerHouse$Source", "startOf", "(I)I"⟩ ∈ lw_good := lg_right (i := 1019) (by decide +kernel) rfl
theorem d_Heads_checkHead_62 : decode b_Heads_checkHead 62 = .ok (.invokevirtual 77, 3) := by decide +kernel
theorem d_Heads_checkHead_65 : decode b_Heads_checkHead 65 = .ok (.aload_n 0, 1) := by decide +kernel
theorem d_Heads_checkHead_66 : decode b_Heads_checkHead 66 = .ok (.getfield 23, 3) := by decide +kernel
theorem fl_Heads_23 : Cond.fieldLink R_Heads 23 "PointerHouse$Heads" "scope" "LPointerHouse$Scope;" ∈ lw_good := lg_right (i := 519) (by decide +kernel) rfl
theorem d_Heads_checkHead_69 : decode b_Heads_checkHead 69 = .ok (.iload_n 1, 1) := by decide +kernel
theorem d_Heads_checkHead_70 : decode b_Heads_checkHead 70 = .ok (.invokevirtual 94, 3) := by decide +kernel
theorem ml_Heads_94 : Cond.methodLink R_Heads 94 ⟨"PointerHouse$Scope", "enterHead", "(I)V"⟩ ∈ lw_good := lg_right (i := 1021) (by decide +kernel) rfl
theorem d_Heads_checkHead_73 : decode b_Heads_checkHead 73 = .ok (.iconst 1, 1) := by decide +kernel
theorem d_Heads_checkHead_74 : decode b_Heads_checkHead 74 = .ok (.istore_n 3, 1) := by decide +kernel
theorem d_Heads_checkHead_75 : decode b_Heads_checkHead 75 = .ok (.iload_n 3, 1) := by decide +kernel
theorem d_Heads_checkHead_76 : decode b_Heads_checkHead 76 = .ok (.aload_n 0, 1) := by decide +kernel
theorem d_Heads_checkHead_77 : decode b_Heads_checkHead 77 = .ok (.getfield 15, 3) := by decide +kernel
theorem d_Heads_checkHead_80 : decode b_Heads_checkHead 80 = .ok (.getfield 63, 3) := by decide +kernel
theorem d_Heads_checkHead_83 : decode b_Heads_checkHead 83 = .ok (.iload_n 1, 1) := by decide +kernel
theorem d_Heads_checkHead_84 : decode b_Heads_checkHead 84 = .ok (.iaload, 1) := by decide +kernel
theorem d_Heads_checkHead_85 : decode b_Heads_checkHead 85 = .ok (.if_icmp .gt 48, 3) := by decide +kernel
theorem d_Heads_checkHead_88 : decode b_Heads_checkHead 88 = .ok (.aload_n 0, 1) := by decide +kernel
theorem d_Heads_checkHead_89 : decode b_Heads_checkHead 89 = .ok (.getfield 23, 3) := by decide +kernel
theorem d_Heads_checkHead_92 : decode b_Heads_checkHead 92 = .ok (.aload_n 0, 1) := by decide +kernel
theorem d_Heads_checkHead_93 : decode b_Heads_checkHead 93 = .ok (.getfield 9, 3) := by decide +kernel
theorem d_Heads_checkHead_96 : decode b_Heads_checkHead 96 = .ok (.iload_n 2, 1) := by decide +kernel
theorem d_Heads_checkHead_97 : decode b_Heads_checkHead 97 = .ok (.iload_n 3, 1) := by decide +kernel
theorem d_Heads_checkHead_98 : decode b_Heads_checkHead 98 = .ok (.iadd, 1) := by decide +kernel
theorem d_Heads_checkHead_99 : decode b_Heads_checkHead 99 = .ok (.invokevirtual 99, 3) := by decide +kernel
theorem ml_Heads_99 : Cond.methodLink R_Heads 99 ⟨"PointerHouse$Source", "nameAt", "(I)J"⟩ ∈ lw_good := lg_right (i := 1026) (by decide +kernel) rfl
theorem d_Heads_checkHead_102 : decode b_Heads_checkHead 102 = .ok (.invokevirtual 103, 3) := by decide +kernel
theorem ml_Heads_103 : Cond.methodLink R_Heads 103 ⟨"PointerHouse$Scope", "findRegion", "(J)I"⟩ ∈ lw_good := lg_right (i := 1027) (by decide +kernel) rfl
theorem d_Heads_checkHead_105 : decode b_Heads_checkHead 105 = .ok (.iload_n 3, 1) := by decide +kernel
theorem d_Heads_checkHead_106 : decode b_Heads_checkHead 106 = .ok (.if_icmp .eq 21, 3) := by decide +kernel
theorem d_Heads_checkHead_109 : decode b_Heads_checkHead 109 = .ok (.aload_n 0, 1) := by decide +kernel
theorem d_Heads_checkHead_110 : decode b_Heads_checkHead 110 = .ok (.getfield 27, 3) := by decide +kernel
theorem d_Heads_checkHead_113 : decode b_Heads_checkHead 113 = .ok (.iconst 2, 1) := by decide +kernel
theorem d_Heads_checkHead_114 : decode b_Heads_checkHead 114 = .ok (.aload_n 0, 1) := by decide +kernel
theorem d_Heads_checkHead_115 : decode b_Heads_checkHead 115 = .ok (.getfield 9, 3) := by decide +kernel
theorem d_Heads_checkHead_118 : decode b_Heads_checkHead 118 = .ok (.iload_n 2, 1) := by decide +kernel
theorem d_Heads_checkHead_119 : decode b_Heads_checkHead 119 = .ok (.iload_n 3, 1) := by decide +kernel
theorem d_Heads_checkHead_120 : decode b_Heads_checkHead 120 = .ok (.iadd, 1) := by decide +kernel
theorem d_Heads_checkHead_121 : decode b_Heads_checkHead 121 = .ok (.invokevirtual 90, 3) := by decide +kernel
theorem d_Heads_checkHead_124 : decode b_Heads_checkHead 124 = .ok (.invokevirtual 77, 3) := by decide +kernel
theorem d_Heads_checkHead_127 : decode b_Heads_checkHead 127 = .ok (.iinc 3 1, 3) := by decide +kernel
theorem d_Heads_checkHead_130 : decode b_Heads_checkHead 130 = .ok (.goto (-55), 3) := by decide +kernel
theorem d_Heads_checkHead_133 : decode b_Heads_checkHead 133 = .ok (.aload_n 0, 1) := by decide +kernel
theorem d_Heads_checkHead_134 : decode b_Heads_checkHead 134 = .ok (.iload_n 1, 1) := by decide +kernel
theorem d_Heads_checkHead_135 : decode b_Heads_checkHead 135 = .ok (.invokevirtual 107, 3) := by decide +kernel
theorem ml_Heads_107 : Cond.methodLink R_Heads 107 ⟨"PointerHouse$Heads", "checkParts", "(I)V"⟩ ∈ lw_good := lg_right (i := 1032) (by decide +kernel) rfl
theorem d_Heads_checkHead_138 : decode b_Heads_checkHead 138 = .ok (.aload_n 0, 1) := by decide +kernel
theorem d_Heads_checkHead_139 : decode b_Heads_checkHead 139 = .ok (.getfield 15, 3) := by decide +kernel
theorem d_Heads_checkHead_142 : decode b_Heads_checkHead 142 = .ok (.getfield 110, 3) := by decide +kernel
theorem fl_Heads_110 : Cond.fieldLink R_Heads 110 "PointerHouse$Items" "gives" "[I" ∈ lw_good := lg_right (i := 314) (by decide +kernel) rfl
theorem d_Heads_checkHead_145 : decode b_Heads_checkHead 145 = .ok (.iload_n 1, 1) := by decide +kernel
theorem d_Heads_checkHead_146 : decode b_Heads_checkHead 146 = .ok (.aload_n 0, 1) := by decide +kernel
theorem d_Heads_checkHead_147 : decode b_Heads_checkHead 147 = .ok (.getfield 15, 3) := by decide +kernel
theorem d_Heads_checkHead_150 : decode b_Heads_checkHead 150 = .ok (.getfield 69, 3) := by decide +kernel
theorem d_Heads_checkHead_153 : decode b_Heads_checkHead 153 = .ok (.iload_n 1, 1) := by decide +kernel
theorem d_Heads_checkHead_154 : decode b_Heads_checkHead 154 = .ok (.iaload, 1) := by decide +kernel
theorem d_Heads_checkHead_155 : decode b_Heads_checkHead 155 = .ok (.ifCond .ne 7, 3) := by decide +kernel
theorem d_Heads_checkHead_158 : decode b_Heads_checkHead 158 = .ok (.iconst 0, 1) := by decide +kernel
theorem d_Heads_checkHead_159 : decode b_Heads_checkHead 159 = .ok (.goto 17, 3) := by decide +kernel
theorem d_Heads_checkHead_162 : decode b_Heads_checkHead 162 = .ok (.aload_n 0, 1) := by decide +kernel
theorem d_Heads_checkHead_163 : decode b_Heads_checkHead 163 = .ok (.aload_n 0, 1) := by decide +kernel
theorem d_Heads_checkHead_164 : decode b_Heads_checkHead 164 = .ok (.getfield 15, 3) := by decide +kernel
theorem d_Heads_checkHead_167 : decode b_Heads_checkHead 167 = .ok (.getfield 69, 3) := by decide +kernel
theorem d_Heads_checkHead_170 : decode b_Heads_checkHead 170 = .ok (.iload_n 1, 1) := by decide +kernel
theorem d_Heads_checkHead_171 : decode b_Heads_checkHead 171 = .ok (.iaload, 1) := by decide +kernel
theorem d_Heads_checkHead_172 : decode b_Heads_checkHead 172 = .ok (.iconst 1, 1) := by decide +kernel
theorem d_Heads_checkHead_173 : decode b_Heads_checkHead 173 = .ok (.invokevirtual 113, 3) := by decide +kernel
theorem ml_Heads_113 : Cond.methodLink R_Heads 113 ⟨"PointerHouse$Heads", "readType", "(II)I"⟩ ∈ lw_good := lg_right (i := 1048) (by decide +kernel) rfl
theorem d_Heads_checkHead_176 : decode b_Heads_checkHead 176 = .ok (.iastore, 1) := by decide +kernel
theorem d_Heads_checkHead_177 : decode b_Heads_checkHead 177 = .ok (.aload_n 0, 1) := by decide +kernel
theorem d_Heads_checkHead_178 : decode b_Heads_checkHead 178 = .ok (.iload_n 1, 1) := by decide +kernel
theorem d_Heads_checkHead_179 : decode b_Heads_checkHead 179 = .ok (.invokevirtual 117, 3) := by decide +kernel
theorem ml_Heads_117 : Cond.methodLink R_Heads 117 ⟨"PointerHouse$Heads", "readDead", "(I)V"⟩ ∈ lw_good := lg_right (i := 1097) (by decide +kernel) rfl
theorem d_Heads_checkHead_182 : decode b_Heads_checkHead 182 = .ok (.aload_n 0, 1) := by decide +kernel
theorem d_Heads_checkHead_183 : decode b_Heads_checkHead 183 = .ok (.iload_n 1, 1) := by decide +kernel
theorem d_Heads_checkHead_184 : decode b_Heads_checkHead 184 = .ok (.invokevirtual 120, 3) := by decide +kernel
theorem ml_Heads_120 : Cond.methodLink R_Heads 120 ⟨"PointerHouse$Heads", "readWhere", "(I)V"⟩ ∈ lw_good := lg_right (i := 1105) (by decide +kernel) rfl
theorem d_Heads_checkHead_187 : decode b_Heads_checkHead 187 = .ok (.return_, 1) := by decide +kernel
abbrev b_Heads_checkParts : ByteArray := prog_4_method_5_code
abbrev y_Heads_checkParts : MethodName := ⟨R_Heads, "checkParts", "(I)V"⟩
theorem co_Heads_checkParts : Cond.code y_Heads_checkParts b_Heads_checkParts 8 none ∈ lw_good := lg_in (tin_5 _ (List.mem_of_getElem? (i := 75) rfl)) rfl
abbrev w_Heads_checkParts : List Cond := Cond.code y_Heads_checkParts b_Heads_checkParts 8 none :: lw_good
theorem im_Heads_checkParts : Cond.instanceMethod y_Heads_checkParts ∈ lw_good := lg_right (i := 1034) (by decide +kernel) rfl
theorem se_Heads_checkParts : Cond.selects R_Heads y_Heads_checkParts y_Heads_checkParts ∈ lw_good := lg_left (i := 37) (by decide +kernel) rfl
theorem d_Heads_checkParts_0 : decode b_Heads_checkParts 0 = .ok (.aload_n 0, 1) := by decide +kernel
theorem d_Heads_checkParts_1 : decode b_Heads_checkParts 1 = .ok (.getfield 15, 3) := by decide +kernel
theorem d_Heads_checkParts_4 : decode b_Heads_checkParts 4 = .ok (.getfield 46, 3) := by decide +kernel
theorem d_Heads_checkParts_7 : decode b_Heads_checkParts 7 = .ok (.iload_n 1, 1) := by decide +kernel
theorem d_Heads_checkParts_8 : decode b_Heads_checkParts 8 = .ok (.iaload, 1) := by decide +kernel
theorem d_Heads_checkParts_9 : decode b_Heads_checkParts 9 = .ok (.bipush 11, 2) := by decide +kernel
theorem d_Heads_checkParts_11 : decode b_Heads_checkParts 11 = .ok (.if_icmp .ne 7, 3) := by decide +kernel
theorem d_Heads_checkParts_14 : decode b_Heads_checkParts 14 = .ok (.iconst 1, 1) := by decide +kernel
theorem d_Heads_checkParts_15 : decode b_Heads_checkParts 15 = .ok (.goto 4, 3) := by decide +kernel
theorem d_Heads_checkParts_18 : decode b_Heads_checkParts 18 = .ok (.iconst 0, 1) := by decide +kernel
theorem d_Heads_checkParts_19 : decode b_Heads_checkParts 19 = .ok (.istore_n 2, 1) := by decide +kernel
theorem d_Heads_checkParts_20 : decode b_Heads_checkParts 20 = .ok (.iconst 0, 1) := by decide +kernel
theorem d_Heads_checkParts_21 : decode b_Heads_checkParts 21 = .ok (.istore_n 3, 1) := by decide +kernel
theorem d_Heads_checkParts_22 : decode b_Heads_checkParts 22 = .ok (.iconst 0, 1) := by decide +kernel
theorem d_Heads_checkParts_23 : decode b_Heads_checkParts 23 = .ok (.istore 4, 2) := by decide +kernel
theorem d_Heads_checkParts_25 : decode b_Heads_checkParts 25 = .ok (.iconst 0, 1) := by decide +kernel
theorem d_Heads_checkParts_26 : decode b_Heads_checkParts 26 = .ok (.istore 5, 2) := by decide +kernel
theorem d_Heads_checkParts_28 : decode b_Heads_checkParts 28 = .ok (.iload 5, 2) := by decide +kernel
theorem d_Heads_checkParts_30 : decode b_Heads_checkParts 30 = .ok (.aload_n 0, 1) := by decide +kernel
theorem d_Heads_checkParts_31 : decode b_Heads_checkParts 31 = .ok (.getfield 15, 3) := by decide +kernel
theorem d_Heads_checkParts_34 : decode b_Heads_checkParts 34 = .ok (.getfield 66, 3) := by decide +kernel
theorem d_Heads_checkParts_37 : decode b_Heads_checkParts 37 = .ok (.iload_n 1, 1) := by decide +kernel
theorem d_Heads_checkParts_38 : decode b_Heads_checkParts 38 = .ok (.iaload, 1) := by decide +kernel
theorem d_Heads_checkParts_39 : decode b_Heads_checkParts 39 = .ok (.if_icmp .ge 117, 3) := by decide +kernel
theorem d_Heads_checkParts_42 : decode b_Heads_checkParts 42 = .ok (.aload_n 0, 1) := by decide +kernel
theorem d_Heads_checkParts_43 : decode b_Heads_checkParts 43 = .ok (.getfield 15, 3) := by decide +kernel
theorem d_Heads_checkParts_46 : decode b_Heads_checkParts 46 = .ok (.iload_n 1, 1) := by decide +kernel
theorem d_Heads_checkParts_47 : decode b_Heads_checkParts 47 = .ok (.iload 5, 2) := by decide +kernel
theorem d_Heads_checkParts_49 : decode b_Heads_checkParts 49 = .ok (.invokevirtual 123, 3) := by decide +kernel
theorem ml_Heads_123 : Cond.methodLink R_Heads 123 ⟨"PointerHouse$Items", "tokOfPart", "(II)I"⟩ ∈ lw_good := lg_right (i := 1036) (by decide +kernel) rfl
theorem d_Heads_checkParts_52 : decode b_Heads_checkParts 52 = .ok (.istore 6, 2) := by decide +kernel
theorem d_Heads_checkParts_54 : decode b_Heads_checkParts 54 = .ok (.aload_n 0, 1) := by decide +kernel
theorem d_Heads_checkParts_55 : decode b_Heads_checkParts 55 = .ok (.iload_n 1, 1) := by decide +kernel
theorem d_Heads_checkParts_56 : decode b_Heads_checkParts 56 = .ok (.aload_n 0, 1) := by decide +kernel
theorem d_Heads_checkParts_57 : decode b_Heads_checkParts 57 = .ok (.getfield 9, 3) := by decide +kernel
theorem d_Heads_checkParts_60 : decode b_Heads_checkParts 60 = .ok (.iload 6, 2) := by decide +kernel
theorem d_Heads_checkParts_62 : decode b_Heads_checkParts 62 = .ok (.invokevirtual 99, 3) := by decide +kernel
theorem d_Heads_checkParts_65 : decode b_Heads_checkParts 65 = .ok (.invokevirtual 126, 3) := by decide +kernel
theorem ml_Heads_126 : Cond.methodLink R_Heads 126 ⟨"PointerHouse$Heads", "findPart", "(IJ)I"⟩ ∈ lw_good := lg_right (i := 1044) (by decide +kernel) rfl
theorem d_Heads_checkParts_68 : decode b_Heads_checkParts 68 = .ok (.iload 5, 2) := by decide +kernel
theorem d_Heads_checkParts_70 : decode b_Heads_checkParts 70 = .ok (.if_icmp .eq 20, 3) := by decide +kernel
theorem d_Heads_checkParts_73 : decode b_Heads_checkParts 73 = .ok (.aload_n 0, 1) := by decide +kernel
theorem d_Heads_checkParts_74 : decode b_Heads_checkParts 74 = .ok (.getfield 27, 3) := by decide +kernel
theorem d_Heads_checkParts_77 : decode b_Heads_checkParts 77 = .ok (.iconst 2, 1) := by decide +kernel
theorem d_Heads_checkParts_78 : decode b_Heads_checkParts 78 = .ok (.aload_n 0, 1) := by decide +kernel
theorem d_Heads_checkParts_79 : decode b_Heads_checkParts 79 = .ok (.getfield 9, 3) := by decide +kernel
theorem d_Heads_checkParts_82 : decode b_Heads_checkParts 82 = .ok (.iload 6, 2) := by decide +kernel
theorem d_Heads_checkParts_84 : decode b_Heads_checkParts 84 = .ok (.invokevirtual 90, 3) := by decide +kernel
theorem d_Heads_checkParts_87 : decode b_Heads_checkParts 87 = .ok (.invokevirtual 77, 3) := by decide +kernel
theorem d_Heads_checkParts_90 : decode b_Heads_checkParts 90 = .ok (.aload_n 0, 1) := by decide +kernel
theorem d_Heads_checkParts_91 : decode b_Heads_checkParts 91 = .ok (.iload 6, 2) := by decide +kernel
theorem d_Heads_checkParts_93 : decode b_Heads_checkParts 93 = .ok (.iconst 2, 1) := by decide +kernel
theorem d_Heads_checkParts_94 : decode b_Heads_checkParts 94 = .ok (.iadd, 1) := by decide +kernel
theorem d_Heads_checkParts_95 : decode b_Heads_checkParts 95 = .ok (.iconst 1, 1) := by decide +kernel
theorem d_Heads_checkParts_96 : decode b_Heads_checkParts 96 = .ok (.invokevirtual 113, 3) := by decide +kernel
theorem d_Heads_checkParts_99 : decode b_Heads_checkParts 99 = .ok (.istore 7, 2) := by decide +kernel
theorem d_Heads_checkParts_101 : decode b_Heads_checkParts 101 = .ok (.aload_n 0, 1) := by decide +kernel
theorem d_Heads_checkParts_102 : decode b_Heads_checkParts 102 = .ok (.getfield 15, 3) := by decide +kernel
theorem d_Heads_checkParts_105 : decode b_Heads_checkParts 105 = .ok (.iload_n 1, 1) := by decide +kernel
theorem d_Heads_checkParts_106 : decode b_Heads_checkParts 106 = .ok (.iload 5, 2) := by decide +kernel
theorem d_Heads_checkParts_108 : decode b_Heads_checkParts 108 = .ok (.iload 7, 2) := by decide +kernel
theorem d_Heads_checkParts_110 : decode b_Heads_checkParts 110 = .ok (.iload_n 2, 1) := by decide +kernel
theorem d_Heads_checkParts_111 : decode b_Heads_checkParts 111 = .ok (.ifCond .eq 7, 3) := by decide +kernel
theorem d_Heads_checkParts_114 : decode b_Heads_checkParts 114 = .ok (.iconst 1, 1) := by decide +kernel
theorem d_Heads_checkParts_115 : decode b_Heads_checkParts 115 = .ok (.goto 4, 3) := by decide +kernel
theorem d_Heads_checkParts_118 : decode b_Heads_checkParts 118 = .ok (.iload_n 3, 1) := by decide +kernel
theorem d_Heads_checkParts_119 : decode b_Heads_checkParts 119 = .ok (.invokevirtual 130, 3) := by decide +kernel
theorem ml_Heads_130 : Cond.methodLink R_Heads 130 ⟨"PointerHouse$Items", "setPart", "(IIII)V"⟩ ∈ lw_good := lg_right (i := 1083) (by decide +kernel) rfl
theorem d_Heads_checkParts_122 : decode b_Heads_checkParts 122 = .ok (.iload_n 3, 1) := by decide +kernel
theorem d_Heads_checkParts_123 : decode b_Heads_checkParts 123 = .ok (.aload_n 0, 1) := by decide +kernel
theorem d_Heads_checkParts_124 : decode b_Heads_checkParts 124 = .ok (.getfield 19, 3) := by decide +kernel
theorem d_Heads_checkParts_127 : decode b_Heads_checkParts 127 = .ok (.iload 7, 2) := by decide +kernel
theorem d_Heads_checkParts_129 : decode b_Heads_checkParts 129 = .ok (.invokevirtual 134, 3) := by decide +kernel
theorem ml_Heads_134 : Cond.methodLink R_Heads 134 ⟨"PointerHouse$Types", "wordsOf", "(I)I"⟩ ∈ lw_good := lg_right (i := 1087) (by decide +kernel) rfl
theorem d_Heads_checkParts_132 : decode b_Heads_checkParts 132 = .ok (.iadd, 1) := by decide +kernel
theorem d_Heads_checkParts_133 : decode b_Heads_checkParts 133 = .ok (.istore_n 3, 1) := by decide +kernel
theorem d_Heads_checkParts_134 : decode b_Heads_checkParts 134 = .ok (.iload 4, 2) := by decide +kernel
theorem d_Heads_checkParts_136 : decode b_Heads_checkParts 136 = .ok (.aload_n 0, 1) := by decide +kernel
theorem d_Heads_checkParts_137 : decode b_Heads_checkParts 137 = .ok (.getfield 19, 3) := by decide +kernel
theorem d_Heads_checkParts_140 : decode b_Heads_checkParts 140 = .ok (.iload 7, 2) := by decide +kernel
theorem d_Heads_checkParts_142 : decode b_Heads_checkParts 142 = .ok (.invokevirtual 134, 3) := by decide +kernel
theorem d_Heads_checkParts_145 : decode b_Heads_checkParts 145 = .ok (.invokestatic 137, 3) := by decide +kernel
theorem ml_Heads_137 : Cond.methodLink R_Heads 137 ⟨"java/lang/Math", "max", "(II)I"⟩ ∈ lw_good := lg_right (i := 1096) (by decide +kernel) rfl
theorem d_Heads_checkParts_148 : decode b_Heads_checkParts 148 = .ok (.istore 4, 2) := by decide +kernel
theorem d_Heads_checkParts_150 : decode b_Heads_checkParts 150 = .ok (.iinc 5 1, 3) := by decide +kernel
theorem d_Heads_checkParts_153 : decode b_Heads_checkParts 153 = .ok (.goto (-125), 3) := by decide +kernel
theorem d_Heads_checkParts_156 : decode b_Heads_checkParts 156 = .ok (.aload_n 0, 1) := by decide +kernel
theorem d_Heads_checkParts_157 : decode b_Heads_checkParts 157 = .ok (.getfield 15, 3) := by decide +kernel
theorem d_Heads_checkParts_160 : decode b_Heads_checkParts 160 = .ok (.getfield 142, 3) := by decide +kernel
theorem fl_Heads_142 : Cond.fieldLink R_Heads 142 "PointerHouse$Items" "words" "[I" ∈ lw_good := lg_right (i := 324) (by decide +kernel) rfl
theorem d_Heads_checkParts_163 : decode b_Heads_checkParts 163 = .ok (.iload_n 1, 1) := by decide +kernel
theorem d_Heads_checkParts_164 : decode b_Heads_checkParts 164 = .ok (.iload_n 2, 1) := by decide +kernel
theorem d_Heads_checkParts_165 : decode b_Heads_checkParts 165 = .ok (.ifCond .eq 10, 3) := by decide +kernel
theorem d_Heads_checkParts_168 : decode b_Heads_checkParts 168 = .ok (.iconst 1, 1) := by decide +kernel
theorem d_Heads_checkParts_169 : decode b_Heads_checkParts 169 = .ok (.iload 4, 2) := by decide +kernel
theorem d_Heads_checkParts_171 : decode b_Heads_checkParts 171 = .ok (.iadd, 1) := by decide +kernel
theorem d_Heads_checkParts_172 : decode b_Heads_checkParts 172 = .ok (.goto 4, 3) := by decide +kernel
theorem d_Heads_checkParts_175 : decode b_Heads_checkParts 175 = .ok (.iload_n 3, 1) := by decide +kernel
theorem d_Heads_checkParts_176 : decode b_Heads_checkParts 176 = .ok (.iastore, 1) := by decide +kernel
theorem d_Heads_checkParts_177 : decode b_Heads_checkParts 177 = .ok (.return_, 1) := by decide +kernel
abbrev b_Heads_readType : ByteArray := prog_4_method_13_code
abbrev y_Heads_readType : MethodName := ⟨R_Heads, "readType", "(II)I"⟩
theorem co_Heads_readType : Cond.code y_Heads_readType b_Heads_readType 6 (some .int) ∈ lw_good := lg_in (tin_5 _ (List.mem_of_getElem? (i := 91) rfl)) rfl
abbrev w_Heads_readType : List Cond := Cond.code y_Heads_readType b_Heads_readType 6 (some .int) :: lw_good
theorem im_Heads_readType : Cond.instanceMethod y_Heads_readType ∈ lw_good := lg_right (i := 1049) (by decide +kernel) rfl
theorem se_Heads_readType : Cond.selects R_Heads y_Heads_readType y_Heads_readType ∈ lw_good := lg_right (i := 1050) (by decide +kernel) rfl
theorem d_Heads_readType_0 : decode b_Heads_readType 0 = .ok (.aload_n 0, 1) := by decide +kernel
theorem d_Heads_readType_1 : decode b_Heads_readType 1 = .ok (.getfield 9, 3) := by decide +kernel
theorem d_Heads_readType_4 : decode b_Heads_readType 4 = .ok (.iload_n 1, 1) := by decide +kernel
theorem d_Heads_readType_5 : decode b_Heads_readType 5 = .ok (.invokevirtual 173, 3) := by decide +kernel
theorem ml_Heads_173 : Cond.methodLink R_Heads 173 ⟨"PointerHouse$Source", "kindAt", "(I)I"⟩ ∈ lw_good := lg_right (i := 1052) (by decide +kernel) rfl
theorem d_Heads_readType_8 : decode b_Heads_readType 8 = .ok (.istore_n 3, 1) := by decide +kernel
theorem d_Heads_readType_9 : decode b_Heads_readType 9 = .ok (.iload_n 3, 1) := by decide +kernel
theorem d_Heads_readType_10 : decode b_Heads_readType 10 = .ok (.bipush 26, 2) := by decide +kernel
theorem d_Heads_readType_12 : decode b_Heads_readType 12 = .ok (.if_icmp .eq 9, 3) := by decide +kernel
theorem d_Heads_readType_15 : decode b_Heads_readType 15 = .ok (.iload_n 2, 1) := by decide +kernel
theorem d_Heads_readType_16 : decode b_Heads_readType 16 = .ok (.bipush 6, 2) := by decide +kernel
theorem d_Heads_readType_18 : decode b_Heads_readType 18 = .ok (.if_icmp .le 5, 3) := by decide +kernel
theorem d_Heads_readType_21 : decode b_Heads_readType 21 = .ok (.iconst 1, 1) := by decide +kernel
theorem d_Heads_readType_22 : decode b_Heads_readType 22 = .ok (.ireturn, 1) := by decide +kernel
theorem d_Heads_readType_23 : decode b_Heads_readType 23 = .ok (.iload_n 3, 1) := by decide +kernel
theorem d_Heads_readType_24 : decode b_Heads_readType 24 = .ok (.iconst 3, 1) := by decide +kernel
theorem d_Heads_readType_25 : decode b_Heads_readType 25 = .ok (.if_icmp .ne 9, 3) := by decide +kernel
theorem d_Heads_readType_28 : decode b_Heads_readType 28 = .ok (.aload_n 0, 1) := by decide +kernel
theorem d_Heads_readType_29 : decode b_Heads_readType 29 = .ok (.iload_n 1, 1) := by decide +kernel
theorem d_Heads_readType_30 : decode b_Heads_readType 30 = .ok (.invokevirtual 182, 3) := by decide +kernel
theorem ml_Heads_182 : Cond.methodLink R_Heads 182 ⟨"PointerHouse$Heads", "readTitle", "(I)I"⟩ ∈ lw_good := lg_right (i := 1053) (by decide +kernel) rfl
theorem d_Heads_readType_33 : decode b_Heads_readType 33 = .ok (.ireturn, 1) := by decide +kernel
theorem d_Heads_readType_34 : decode b_Heads_readType 34 = .ok (.aload_n 0, 1) := by decide +kernel
theorem d_Heads_readType_35 : decode b_Heads_readType 35 = .ok (.iload_n 1, 1) := by decide +kernel
theorem d_Heads_readType_36 : decode b_Heads_readType 36 = .ok (.iconst 1, 1) := by decide +kernel
theorem d_Heads_readType_37 : decode b_Heads_readType 37 = .ok (.iadd, 1) := by decide +kernel
theorem d_Heads_readType_38 : decode b_Heads_readType 38 = .ok (.invokevirtual 179, 3) := by decide +kernel
theorem ml_Heads_179 : Cond.methodLink R_Heads 179 ⟨"PointerHouse$Heads", "readRegion", "(I)I"⟩ ∈ lw_good := lg_right (i := 1066) (by decide +kernel) rfl
theorem d_Heads_readType_41 : decode b_Heads_readType 41 = .ok (.istore 4, 2) := by decide +kernel
theorem d_Heads_readType_43 : decode b_Heads_readType 43 = .ok (.aload_n 0, 1) := by decide +kernel
theorem d_Heads_readType_44 : decode b_Heads_readType 44 = .ok (.iload_n 1, 1) := by decide +kernel
theorem d_Heads_readType_45 : decode b_Heads_readType 45 = .ok (.iconst 2, 1) := by decide +kernel
theorem d_Heads_readType_46 : decode b_Heads_readType 46 = .ok (.iadd, 1) := by decide +kernel
theorem d_Heads_readType_47 : decode b_Heads_readType 47 = .ok (.iload_n 2, 1) := by decide +kernel
theorem d_Heads_readType_48 : decode b_Heads_readType 48 = .ok (.iconst 1, 1) := by decide +kernel
theorem d_Heads_readType_49 : decode b_Heads_readType 49 = .ok (.iadd, 1) := by decide +kernel
theorem d_Heads_readType_50 : decode b_Heads_readType 50 = .ok (.invokevirtual 113, 3) := by decide +kernel
theorem d_Heads_readType_53 : decode b_Heads_readType 53 = .ok (.istore 5, 2) := by decide +kernel
theorem d_Heads_readType_55 : decode b_Heads_readType 55 = .ok (.aload_n 0, 1) := by decide +kernel
theorem d_Heads_readType_56 : decode b_Heads_readType 56 = .ok (.getfield 19, 3) := by decide +kernel
theorem d_Heads_readType_59 : decode b_Heads_readType 59 = .ok (.iload_n 3, 1) := by decide +kernel
theorem d_Heads_readType_60 : decode b_Heads_readType 60 = .ok (.bipush 59, 2) := by decide +kernel
theorem d_Heads_readType_62 : decode b_Heads_readType 62 = .ok (.if_icmp .ne 7, 3) := by decide +kernel
theorem d_Heads_readType_65 : decode b_Heads_readType 65 = .ok (.iconst 3, 1) := by decide +kernel
theorem d_Heads_readType_66 : decode b_Heads_readType 66 = .ok (.goto 14, 3) := by decide +kernel
theorem d_Heads_readType_69 : decode b_Heads_readType 69 = .ok (.iload_n 3, 1) := by decide +kernel
theorem d_Heads_readType_70 : decode b_Heads_readType 70 = .ok (.bipush 55, 2) := by decide +kernel
theorem d_Heads_readType_72 : decode b_Heads_readType 72 = .ok (.if_icmp .ne 7, 3) := by decide +kernel
theorem d_Heads_readType_75 : decode b_Heads_readType 75 = .ok (.iconst 4, 1) := by decide +kernel
theorem d_Heads_readType_76 : decode b_Heads_readType 76 = .ok (.goto 4, 3) := by decide +kernel
theorem d_Heads_readType_79 : decode b_Heads_readType 79 = .ok (.iconst 5, 1) := by decide +kernel
theorem d_Heads_readType_80 : decode b_Heads_readType 80 = .ok (.iload 4, 2) := by decide +kernel
theorem d_Heads_readType_82 : decode b_Heads_readType 82 = .ok (.iload 5, 2) := by decide +kernel
theorem d_Heads_readType_84 : decode b_Heads_readType 84 = .ok (.invokevirtual 185, 3) := by decide +kernel
theorem ml_Heads_185 : Cond.methodLink R_Heads 185 ⟨"PointerHouse$Types", "pointer", "(III)I"⟩ ∈ lw_good := lg_right (i := 1079) (by decide +kernel) rfl
theorem d_Heads_readType_87 : decode b_Heads_readType 87 = .ok (.ireturn, 1) := by decide +kernel
abbrev b_Heads_readDead : ByteArray := prog_4_method_7_code
abbrev y_Heads_readDead : MethodName := ⟨R_Heads, "readDead", "(I)V"⟩
theorem co_Heads_readDead : Cond.code y_Heads_readDead b_Heads_readDead 6 none ∈ lw_good := lg_in (tin_5 _ (List.mem_of_getElem? (i := 140) rfl)) rfl
abbrev w_Heads_readDead : List Cond := Cond.code y_Heads_readDead b_Heads_readDead 6 none :: lw_good
theorem im_Heads_readDead : Cond.instanceMethod y_Heads_readDead ∈ lw_good := lg_right (i := 1099) (by decide +kernel) rfl
theorem se_Heads_readDead : Cond.selects R_Heads y_Heads_readDead y_Heads_readDead ∈ lw_good := lg_left (i := 41) (by decide +kernel) rfl
theorem d_Heads_readDead_0 : decode b_Heads_readDead 0 = .ok (.aload_n 0, 1) := by decide +kernel
theorem d_Heads_readDead_1 : decode b_Heads_readDead 1 = .ok (.getfield 15, 3) := by decide +kernel
theorem d_Heads_readDead_4 : decode b_Heads_readDead 4 = .ok (.getfield 145, 3) := by decide +kernel
theorem fl_Heads_145 : Cond.fieldLink R_Heads 145 "PointerHouse$Items" "deadTok" "[I" ∈ lw_good := lg_right (i := 301) (by decide +kernel) rfl
theorem d_Heads_readDead_7 : decode b_Heads_readDead 7 = .ok (.iload_n 1, 1) := by decide +kernel
theorem d_Heads_readDead_8 : decode b_Heads_readDead 8 = .ok (.iaload, 1) := by decide +kernel
theorem d_Heads_readDead_9 : decode b_Heads_readDead 9 = .ok (.iconst 1, 1) := by decide +kernel
theorem d_Heads_readDead_10 : decode b_Heads_readDead 10 = .ok (.iadd, 1) := by decide +kernel
theorem d_Heads_readDead_11 : decode b_Heads_readDead 11 = .ok (.istore_n 2, 1) := by decide +kernel
theorem d_Heads_readDead_12 : decode b_Heads_readDead 12 = .ok (.aload_n 0, 1) := by decide +kernel
theorem d_Heads_readDead_13 : decode b_Heads_readDead 13 = .ok (.getfield 15, 3) := by decide +kernel
theorem d_Heads_readDead_16 : decode b_Heads_readDead 16 = .ok (.getfield 145, 3) := by decide +kernel
theorem d_Heads_readDead_19 : decode b_Heads_readDead 19 = .ok (.iload_n 1, 1) := by decide +kernel
theorem d_Heads_readDead_20 : decode b_Heads_readDead 20 = .ok (.iaload, 1) := by decide +kernel
theorem d_Heads_readDead_21 : decode b_Heads_readDead 21 = .ok (.ifCond .ne 7, 3) := by decide +kernel
theorem d_Heads_readDead_24 : decode b_Heads_readDead 24 = .ok (.iconst 0, 1) := by decide +kernel
theorem d_Heads_readDead_25 : decode b_Heads_readDead 25 = .ok (.goto 11, 3) := by decide +kernel
theorem d_Heads_readDead_28 : decode b_Heads_readDead 28 = .ok (.aload_n 0, 1) := by decide +kernel
theorem d_Heads_readDead_29 : decode b_Heads_readDead 29 = .ok (.getfield 9, 3) := by decide +kernel
theorem d_Heads_readDead_32 : decode b_Heads_readDead 32 = .ok (.iload_n 2, 1) := by decide +kernel
theorem d_Heads_readDead_33 : decode b_Heads_readDead 33 = .ok (.invokevirtual 148, 3) := by decide +kernel
theorem ml_Heads_148 : Cond.methodLink R_Heads 148 ⟨"PointerHouse$Source", "countRegions", "(I)I"⟩ ∈ lw_good := lg_right (i := 1057) (by decide +kernel) rfl
theorem d_Heads_readDead_36 : decode b_Heads_readDead 36 = .ok (.istore_n 3, 1) := by decide +kernel
theorem d_Heads_readDead_37 : decode b_Heads_readDead 37 = .ok (.aload_n 0, 1) := by decide +kernel
theorem d_Heads_readDead_38 : decode b_Heads_readDead 38 = .ok (.getfield 15, 3) := by decide +kernel
theorem d_Heads_readDead_41 : decode b_Heads_readDead 41 = .ok (.getfield 151, 3) := by decide +kernel
theorem fl_Heads_151 : Cond.fieldLink R_Heads 151 "PointerHouse$Items" "dead" "[I" ∈ lw_good := lg_right (i := 318) (by decide +kernel) rfl
theorem d_Heads_readDead_44 : decode b_Heads_readDead 44 = .ok (.iload_n 1, 1) := by decide +kernel
theorem d_Heads_readDead_45 : decode b_Heads_readDead 45 = .ok (.iconst 0, 1) := by decide +kernel
theorem d_Heads_readDead_46 : decode b_Heads_readDead 46 = .ok (.iastore, 1) := by decide +kernel
theorem d_Heads_readDead_47 : decode b_Heads_readDead 47 = .ok (.iconst 0, 1) := by decide +kernel
theorem d_Heads_readDead_48 : decode b_Heads_readDead 48 = .ok (.istore 4, 2) := by decide +kernel
theorem d_Heads_readDead_50 : decode b_Heads_readDead 50 = .ok (.iload 4, 2) := by decide +kernel
theorem d_Heads_readDead_52 : decode b_Heads_readDead 52 = .ok (.iload_n 3, 1) := by decide +kernel
theorem d_Heads_readDead_53 : decode b_Heads_readDead 53 = .ok (.if_icmp .ge 69, 3) := by decide +kernel
theorem d_Heads_readDead_56 : decode b_Heads_readDead 56 = .ok (.iconst 1, 1) := by decide +kernel
theorem d_Heads_readDead_57 : decode b_Heads_readDead 57 = .ok (.aload_n 0, 1) := by decide +kernel
theorem d_Heads_readDead_58 : decode b_Heads_readDead 58 = .ok (.iload_n 2, 1) := by decide +kernel
theorem d_Heads_readDead_59 : decode b_Heads_readDead 59 = .ok (.iload 4, 2) := by decide +kernel
theorem d_Heads_readDead_61 : decode b_Heads_readDead 61 = .ok (.iadd, 1) := by decide +kernel
theorem d_Heads_readDead_62 : decode b_Heads_readDead 62 = .ok (.invokevirtual 154, 3) := by decide +kernel
theorem ml_Heads_154 : Cond.methodLink R_Heads 154 ⟨"PointerHouse$Heads", "ownRegion", "(I)I"⟩ ∈ lw_good := lg_right (i := 1101) (by decide +kernel) rfl
theorem d_Heads_readDead_65 : decode b_Heads_readDead 65 = .ok (.ishl, 1) := by decide +kernel
theorem d_Heads_readDead_66 : decode b_Heads_readDead 66 = .ok (.istore 5, 2) := by decide +kernel
theorem d_Heads_readDead_68 : decode b_Heads_readDead 68 = .ok (.aload_n 0, 1) := by decide +kernel
theorem d_Heads_readDead_69 : decode b_Heads_readDead 69 = .ok (.getfield 15, 3) := by decide +kernel
theorem d_Heads_readDead_72 : decode b_Heads_readDead 72 = .ok (.getfield 151, 3) := by decide +kernel
theorem d_Heads_readDead_75 : decode b_Heads_readDead 75 = .ok (.iload_n 1, 1) := by decide +kernel
theorem d_Heads_readDead_76 : decode b_Heads_readDead 76 = .ok (.iaload, 1) := by decide +kernel
theorem d_Heads_readDead_77 : decode b_Heads_readDead 77 = .ok (.iload 5, 2) := by decide +kernel
theorem d_Heads_readDead_79 : decode b_Heads_readDead 79 = .ok (.iand, 1) := by decide +kernel
theorem d_Heads_readDead_80 : decode b_Heads_readDead 80 = .ok (.ifCond .eq 22, 3) := by decide +kernel
theorem d_Heads_readDead_83 : decode b_Heads_readDead 83 = .ok (.aload_n 0, 1) := by decide +kernel
theorem d_Heads_readDead_84 : decode b_Heads_readDead 84 = .ok (.getfield 27, 3) := by decide +kernel
theorem d_Heads_readDead_87 : decode b_Heads_readDead 87 = .ok (.iconst 2, 1) := by decide +kernel
theorem d_Heads_readDead_88 : decode b_Heads_readDead 88 = .ok (.aload_n 0, 1) := by decide +kernel
theorem d_Heads_readDead_89 : decode b_Heads_readDead 89 = .ok (.getfield 9, 3) := by decide +kernel
theorem d_Heads_readDead_92 : decode b_Heads_readDead 92 = .ok (.iload_n 2, 1) := by decide +kernel
theorem d_Heads_readDead_93 : decode b_Heads_readDead 93 = .ok (.iload 4, 2) := by decide +kernel
theorem d_Heads_readDead_95 : decode b_Heads_readDead 95 = .ok (.iadd, 1) := by decide +kernel
theorem d_Heads_readDead_96 : decode b_Heads_readDead 96 = .ok (.invokevirtual 90, 3) := by decide +kernel
theorem d_Heads_readDead_99 : decode b_Heads_readDead 99 = .ok (.invokevirtual 77, 3) := by decide +kernel
theorem d_Heads_readDead_102 : decode b_Heads_readDead 102 = .ok (.aload_n 0, 1) := by decide +kernel
theorem d_Heads_readDead_103 : decode b_Heads_readDead 103 = .ok (.getfield 15, 3) := by decide +kernel
theorem d_Heads_readDead_106 : decode b_Heads_readDead 106 = .ok (.getfield 151, 3) := by decide +kernel
theorem d_Heads_readDead_109 : decode b_Heads_readDead 109 = .ok (.iload_n 1, 1) := by decide +kernel
theorem d_Heads_readDead_110 : decode b_Heads_readDead 110 = .ok (.dup2, 1) := by decide +kernel
theorem d_Heads_readDead_111 : decode b_Heads_readDead 111 = .ok (.iaload, 1) := by decide +kernel
theorem d_Heads_readDead_112 : decode b_Heads_readDead 112 = .ok (.iload 5, 2) := by decide +kernel
theorem d_Heads_readDead_114 : decode b_Heads_readDead 114 = .ok (.ior, 1) := by decide +kernel
theorem d_Heads_readDead_115 : decode b_Heads_readDead 115 = .ok (.iastore, 1) := by decide +kernel
theorem d_Heads_readDead_116 : decode b_Heads_readDead 116 = .ok (.iinc 4 1, 3) := by decide +kernel
theorem d_Heads_readDead_119 : decode b_Heads_readDead 119 = .ok (.goto (-69), 3) := by decide +kernel
theorem d_Heads_readDead_122 : decode b_Heads_readDead 122 = .ok (.return_, 1) := by decide +kernel
abbrev b_Heads_readWhere : ByteArray := prog_4_method_8_code
abbrev y_Heads_readWhere : MethodName := ⟨R_Heads, "readWhere", "(I)V"⟩
theorem co_Heads_readWhere : Cond.code y_Heads_readWhere b_Heads_readWhere 7 none ∈ lw_good := lg_in (tin_5 _ (List.mem_of_getElem? (i := 148) rfl)) rfl
abbrev w_Heads_readWhere : List Cond := Cond.code y_Heads_readWhere b_Heads_readWhere 7 none :: lw_good
theorem im_Heads_readWhere : Cond.instanceMethod y_Heads_readWhere ∈ lw_good := lg_right (i := 1107) (by decide +kernel) rfl
theorem se_Heads_readWhere : Cond.selects R_Heads y_Heads_readWhere y_Heads_readWhere ∈ lw_good := lg_left (i := 43) (by decide +kernel) rfl
theorem d_Heads_readWhere_0 : decode b_Heads_readWhere 0 = .ok (.aload_n 0, 1) := by decide +kernel
theorem d_Heads_readWhere_1 : decode b_Heads_readWhere 1 = .ok (.getfield 15, 3) := by decide +kernel
theorem d_Heads_readWhere_4 : decode b_Heads_readWhere 4 = .ok (.getfield 157, 3) := by decide +kernel
theorem fl_Heads_157 : Cond.fieldLink R_Heads 157 "PointerHouse$Items" "above" "[I" ∈ lw_good := lg_right (i := 321) (by decide +kernel) rfl
theorem d_Heads_readWhere_7 : decode b_Heads_readWhere 7 = .ok (.iload_n 1, 1) := by decide +kernel
theorem d_Heads_readWhere_8 : decode b_Heads_readWhere 8 = .ok (.iconst 0, 1) := by decide +kernel
theorem d_Heads_readWhere_9 : decode b_Heads_readWhere 9 = .ok (.iastore, 1) := by decide +kernel
theorem d_Heads_readWhere_10 : decode b_Heads_readWhere 10 = .ok (.aload_n 0, 1) := by decide +kernel
theorem d_Heads_readWhere_11 : decode b_Heads_readWhere 11 = .ok (.getfield 15, 3) := by decide +kernel
theorem d_Heads_readWhere_14 : decode b_Heads_readWhere 14 = .ok (.getfield 160, 3) := by decide +kernel
theorem d_Heads_readWhere_17 : decode b_Heads_readWhere 17 = .ok (.iload_n 1, 1) := by decide +kernel
theorem d_Heads_readWhere_18 : decode b_Heads_readWhere 18 = .ok (.iconst 0, 1) := by decide +kernel
theorem d_Heads_readWhere_19 : decode b_Heads_readWhere 19 = .ok (.iastore, 1) := by decide +kernel
theorem d_Heads_readWhere_20 : decode b_Heads_readWhere 20 = .ok (.aload_n 0, 1) := by decide +kernel
theorem d_Heads_readWhere_21 : decode b_Heads_readWhere 21 = .ok (.getfield 15, 3) := by decide +kernel
theorem d_Heads_readWhere_24 : decode b_Heads_readWhere 24 = .ok (.getfield 163, 3) := by decide +kernel
theorem fl_Heads_163 : Cond.fieldLink R_Heads 163 "PointerHouse$Items" "whereTok" "[I" ∈ lw_good := lg_right (i := 305) (by decide +kernel) rfl
theorem d_Heads_readWhere_27 : decode b_Heads_readWhere 27 = .ok (.iload_n 1, 1) := by decide +kernel
theorem d_Heads_readWhere_28 : decode b_Heads_readWhere 28 = .ok (.iaload, 1) := by decide +kernel
theorem d_Heads_readWhere_29 : decode b_Heads_readWhere 29 = .ok (.iconst 1, 1) := by decide +kernel
theorem d_Heads_readWhere_30 : decode b_Heads_readWhere 30 = .ok (.iadd, 1) := by decide +kernel
theorem d_Heads_readWhere_31 : decode b_Heads_readWhere 31 = .ok (.istore_n 2, 1) := by decide +kernel
theorem d_Heads_readWhere_32 : decode b_Heads_readWhere 32 = .ok (.aload_n 0, 1) := by decide +kernel
theorem d_Heads_readWhere_33 : decode b_Heads_readWhere 33 = .ok (.getfield 15, 3) := by decide +kernel
theorem d_Heads_readWhere_36 : decode b_Heads_readWhere 36 = .ok (.getfield 163, 3) := by decide +kernel
theorem d_Heads_readWhere_39 : decode b_Heads_readWhere 39 = .ok (.iload_n 1, 1) := by decide +kernel
theorem d_Heads_readWhere_40 : decode b_Heads_readWhere 40 = .ok (.iaload, 1) := by decide +kernel
theorem d_Heads_readWhere_41 : decode b_Heads_readWhere 41 = .ok (.ifCond .eq 7, 3) := by decide +kernel
theorem d_Heads_readWhere_44 : decode b_Heads_readWhere 44 = .ok (.iconst 1, 1) := by decide +kernel
theorem d_Heads_readWhere_45 : decode b_Heads_readWhere 45 = .ok (.goto 4, 3) := by decide +kernel
theorem d_Heads_readWhere_48 : decode b_Heads_readWhere 48 = .ok (.iconst 0, 1) := by decide +kernel
theorem d_Heads_readWhere_49 : decode b_Heads_readWhere 49 = .ok (.istore_n 3, 1) := by decide +kernel
theorem d_Heads_readWhere_50 : decode b_Heads_readWhere 50 = .ok (.iconst 0, 1) := by decide +kernel
theorem d_Heads_readWhere_51 : decode b_Heads_readWhere 51 = .ok (.istore 4, 2) := by decide +kernel
theorem d_Heads_readWhere_53 : decode b_Heads_readWhere 53 = .ok (.iload 4, 2) := by decide +kernel
theorem d_Heads_readWhere_55 : decode b_Heads_readWhere 55 = .ok (.iconst 3, 1) := by decide +kernel
theorem d_Heads_readWhere_56 : decode b_Heads_readWhere 56 = .ok (.if_icmp .ge 86, 3) := by decide +kernel
theorem d_Heads_readWhere_59 : decode b_Heads_readWhere 59 = .ok (.iload_n 3, 1) := by decide +kernel
theorem d_Heads_readWhere_60 : decode b_Heads_readWhere 60 = .ok (.ifCond .eq 82, 3) := by decide +kernel
theorem d_Heads_readWhere_63 : decode b_Heads_readWhere 63 = .ok (.aload_n 0, 1) := by decide +kernel
theorem d_Heads_readWhere_64 : decode b_Heads_readWhere 64 = .ok (.iload_n 2, 1) := by decide +kernel
theorem d_Heads_readWhere_65 : decode b_Heads_readWhere 65 = .ok (.invokevirtual 154, 3) := by decide +kernel
theorem d_Heads_readWhere_68 : decode b_Heads_readWhere 68 = .ok (.istore 5, 2) := by decide +kernel
theorem d_Heads_readWhere_70 : decode b_Heads_readWhere 70 = .ok (.aload_n 0, 1) := by decide +kernel
theorem d_Heads_readWhere_71 : decode b_Heads_readWhere 71 = .ok (.iload_n 2, 1) := by decide +kernel
theorem d_Heads_readWhere_72 : decode b_Heads_readWhere 72 = .ok (.iconst 2, 1) := by decide +kernel
theorem d_Heads_readWhere_73 : decode b_Heads_readWhere 73 = .ok (.iadd, 1) := by decide +kernel
theorem d_Heads_readWhere_74 : decode b_Heads_readWhere 74 = .ok (.invokevirtual 154, 3) := by decide +kernel
theorem d_Heads_readWhere_77 : decode b_Heads_readWhere 77 = .ok (.istore 6, 2) := by decide +kernel
theorem d_Heads_readWhere_79 : decode b_Heads_readWhere 79 = .ok (.aload_n 0, 1) := by decide +kernel
theorem d_Heads_readWhere_80 : decode b_Heads_readWhere 80 = .ok (.getfield 15, 3) := by decide +kernel
theorem d_Heads_readWhere_83 : decode b_Heads_readWhere 83 = .ok (.getfield 157, 3) := by decide +kernel
theorem d_Heads_readWhere_86 : decode b_Heads_readWhere 86 = .ok (.iload_n 1, 1) := by decide +kernel
theorem d_Heads_readWhere_87 : decode b_Heads_readWhere 87 = .ok (.dup2, 1) := by decide +kernel
theorem d_Heads_readWhere_88 : decode b_Heads_readWhere 88 = .ok (.iaload, 1) := by decide +kernel
theorem d_Heads_readWhere_89 : decode b_Heads_readWhere 89 = .ok (.iconst 1, 1) := by decide +kernel
theorem d_Heads_readWhere_90 : decode b_Heads_readWhere 90 = .ok (.iload 5, 2) := by decide +kernel
theorem d_Heads_readWhere_92 : decode b_Heads_readWhere 92 = .ok (.iload 6, 2) := by decide +kernel
theorem d_Heads_readWhere_94 : decode b_Heads_readWhere 94 = .ok (.invokestatic 166, 3) := by decide +kernel
theorem ml_Heads_166 : Cond.methodLink R_Heads 166 ⟨"PointerHouse$Scope", "aboveBit", "(II)I"⟩ ∈ lw_good := lg_right (i := 1109) (by decide +kernel) rfl
theorem d_Heads_readWhere_97 : decode b_Heads_readWhere 97 = .ok (.ishl, 1) := by decide +kernel
theorem d_Heads_readWhere_98 : decode b_Heads_readWhere 98 = .ok (.ior, 1) := by decide +kernel
theorem d_Heads_readWhere_99 : decode b_Heads_readWhere 99 = .ok (.iastore, 1) := by decide +kernel
theorem d_Heads_readWhere_100 : decode b_Heads_readWhere 100 = .ok (.aload_n 0, 1) := by decide +kernel
theorem d_Heads_readWhere_101 : decode b_Heads_readWhere 101 = .ok (.getfield 15, 3) := by decide +kernel
theorem d_Heads_readWhere_104 : decode b_Heads_readWhere 104 = .ok (.iload_n 1, 1) := by decide +kernel
theorem d_Heads_readWhere_105 : decode b_Heads_readWhere 105 = .ok (.iload 5, 2) := by decide +kernel
theorem d_Heads_readWhere_107 : decode b_Heads_readWhere 107 = .ok (.iload 6, 2) := by decide +kernel
theorem d_Heads_readWhere_109 : decode b_Heads_readWhere 109 = .ok (.invokevirtual 169, 3) := by decide +kernel
theorem ml_Heads_169 : Cond.methodLink R_Heads 169 ⟨"PointerHouse$Items", "addPair", "(III)V"⟩ ∈ lw_good := lg_right (i := 1112) (by decide +kernel) rfl
theorem d_Heads_readWhere_112 : decode b_Heads_readWhere 112 = .ok (.aload_n 0, 1) := by decide +kernel
theorem d_Heads_readWhere_113 : decode b_Heads_readWhere 113 = .ok (.getfield 9, 3) := by decide +kernel
theorem d_Heads_readWhere_116 : decode b_Heads_readWhere 116 = .ok (.iload_n 2, 1) := by decide +kernel
theorem d_Heads_readWhere_117 : decode b_Heads_readWhere 117 = .ok (.iconst 3, 1) := by decide +kernel
theorem d_Heads_readWhere_118 : decode b_Heads_readWhere 118 = .ok (.iadd, 1) := by decide +kernel
theorem d_Heads_readWhere_119 : decode b_Heads_readWhere 119 = .ok (.invokevirtual 173, 3) := by decide +kernel
theorem d_Heads_readWhere_122 : decode b_Heads_readWhere 122 = .ok (.bipush 47, 2) := by decide +kernel
theorem d_Heads_readWhere_124 : decode b_Heads_readWhere 124 = .ok (.if_icmp .ne 7, 3) := by decide +kernel
theorem d_Heads_readWhere_127 : decode b_Heads_readWhere 127 = .ok (.iconst 1, 1) := by decide +kernel
theorem d_Heads_readWhere_128 : decode b_Heads_readWhere 128 = .ok (.goto 4, 3) := by decide +kernel
theorem d_Heads_readWhere_131 : decode b_Heads_readWhere 131 = .ok (.iconst 0, 1) := by decide +kernel
theorem d_Heads_readWhere_132 : decode b_Heads_readWhere 132 = .ok (.istore_n 3, 1) := by decide +kernel
theorem d_Heads_readWhere_133 : decode b_Heads_readWhere 133 = .ok (.iinc 2 4, 3) := by decide +kernel
theorem d_Heads_readWhere_136 : decode b_Heads_readWhere 136 = .ok (.iinc 4 1, 3) := by decide +kernel
theorem d_Heads_readWhere_139 : decode b_Heads_readWhere 139 = .ok (.goto (-86), 3) := by decide +kernel
theorem d_Heads_readWhere_142 : decode b_Heads_readWhere 142 = .ok (.aload_n 0, 1) := by decide +kernel
theorem d_Heads_readWhere_143 : decode b_Heads_readWhere 143 = .ok (.getfield 15, 3) := by decide +kernel
theorem d_Heads_readWhere_146 : decode b_Heads_readWhere 146 = .ok (.getfield 157, 3) := by decide +kernel
theorem d_Heads_readWhere_149 : decode b_Heads_readWhere 149 = .ok (.iload_n 1, 1) := by decide +kernel
theorem d_Heads_readWhere_150 : decode b_Heads_readWhere 150 = .ok (.aload_n 0, 1) := by decide +kernel
theorem d_Heads_readWhere_151 : decode b_Heads_readWhere 151 = .ok (.getfield 15, 3) := by decide +kernel
theorem d_Heads_readWhere_154 : decode b_Heads_readWhere 154 = .ok (.getfield 157, 3) := by decide +kernel
theorem d_Heads_readWhere_157 : decode b_Heads_readWhere 157 = .ok (.iload_n 1, 1) := by decide +kernel
theorem d_Heads_readWhere_158 : decode b_Heads_readWhere 158 = .ok (.iaload, 1) := by decide +kernel
theorem d_Heads_readWhere_159 : decode b_Heads_readWhere 159 = .ok (.invokestatic 176, 3) := by decide +kernel
theorem ml_Heads_176 : Cond.methodLink R_Heads 176 ⟨"PointerHouse$Heads", "closed", "(I)I"⟩ ∈ lw_good := lg_right (i := 1116) (by decide +kernel) rfl
theorem d_Heads_readWhere_162 : decode b_Heads_readWhere 162 = .ok (.iastore, 1) := by decide +kernel
theorem d_Heads_readWhere_163 : decode b_Heads_readWhere 163 = .ok (.return_, 1) := by decide +kernel
abbrev b_Heads_findPart : ByteArray := prog_4_method_6_code
abbrev y_Heads_findPart : MethodName := ⟨R_Heads, "findPart", "(IJ)I"⟩
theorem co_Heads_findPart : Cond.code y_Heads_findPart b_Heads_findPart 5 (some .int) ∈ lw_good := lg_in (tin_5 _ (List.mem_of_getElem? (i := 87) rfl)) rfl
abbrev w_Heads_findPart : List Cond := Cond.code y_Heads_findPart b_Heads_findPart 5 (some .int) :: lw_good
theorem im_Heads_findPart : Cond.instanceMethod y_Heads_findPart ∈ lw_good := lg_right (i := 1045) (by decide +kernel) rfl
theorem se_Heads_findPart : Cond.selects R_Heads y_Heads_findPart y_Heads_findPart ∈ lw_good := lg_right (i := 1046) (by decide +kernel) rfl
theorem d_Heads_findPart_0 : decode b_Heads_findPart 0 = .ok (.iconst 0, 1) := by decide +kernel
theorem d_Heads_findPart_1 : decode b_Heads_findPart 1 = .ok (.istore 4, 2) := by decide +kernel
theorem d_Heads_findPart_3 : decode b_Heads_findPart 3 = .ok (.iload 4, 2) := by decide +kernel
theorem d_Heads_findPart_5 : decode b_Heads_findPart 5 = .ok (.aload_n 0, 1) := by decide +kernel
theorem d_Heads_findPart_6 : decode b_Heads_findPart 6 = .ok (.getfield 15, 3) := by decide +kernel
theorem d_Heads_findPart_9 : decode b_Heads_findPart 9 = .ok (.getfield 66, 3) := by decide +kernel
theorem d_Heads_findPart_12 : decode b_Heads_findPart 12 = .ok (.iload_n 1, 1) := by decide +kernel
theorem d_Heads_findPart_13 : decode b_Heads_findPart 13 = .ok (.iaload, 1) := by decide +kernel
theorem d_Heads_findPart_14 : decode b_Heads_findPart 14 = .ok (.if_icmp .ge 34, 3) := by decide +kernel
theorem d_Heads_findPart_17 : decode b_Heads_findPart 17 = .ok (.aload_n 0, 1) := by decide +kernel
theorem d_Heads_findPart_18 : decode b_Heads_findPart 18 = .ok (.getfield 9, 3) := by decide +kernel
theorem d_Heads_findPart_21 : decode b_Heads_findPart 21 = .ok (.aload_n 0, 1) := by decide +kernel
theorem d_Heads_findPart_22 : decode b_Heads_findPart 22 = .ok (.getfield 15, 3) := by decide +kernel
theorem d_Heads_findPart_25 : decode b_Heads_findPart 25 = .ok (.iload_n 1, 1) := by decide +kernel
theorem d_Heads_findPart_26 : decode b_Heads_findPart 26 = .ok (.iload 4, 2) := by decide +kernel
theorem d_Heads_findPart_28 : decode b_Heads_findPart 28 = .ok (.invokevirtual 123, 3) := by decide +kernel
theorem d_Heads_findPart_31 : decode b_Heads_findPart 31 = .ok (.invokevirtual 99, 3) := by decide +kernel
theorem d_Heads_findPart_34 : decode b_Heads_findPart 34 = .ok (.lload_n 2, 1) := by decide +kernel
theorem d_Heads_findPart_35 : decode b_Heads_findPart 35 = .ok (.lcmp, 1) := by decide +kernel
theorem d_Heads_findPart_36 : decode b_Heads_findPart 36 = .ok (.ifCond .ne 6, 3) := by decide +kernel
theorem d_Heads_findPart_39 : decode b_Heads_findPart 39 = .ok (.iload 4, 2) := by decide +kernel
theorem d_Heads_findPart_41 : decode b_Heads_findPart 41 = .ok (.ireturn, 1) := by decide +kernel
theorem d_Heads_findPart_42 : decode b_Heads_findPart 42 = .ok (.iinc 4 1, 3) := by decide +kernel
theorem d_Heads_findPart_45 : decode b_Heads_findPart 45 = .ok (.goto (-42), 3) := by decide +kernel
theorem d_Heads_findPart_48 : decode b_Heads_findPart 48 = .ok (.iconst (-1), 1) := by decide +kernel
theorem d_Heads_findPart_49 : decode b_Heads_findPart 49 = .ok (.ireturn, 1) := by decide +kernel
abbrev b_Math_max : ByteArray := prog_17_method_65_code
abbrev y_Math_max : MethodName := ⟨R_Math, "max", "(II)I"⟩
theorem co_Math_max : Cond.code y_Math_max b_Math_max 2 (some .int) ∈ lw_good := lg_in (tin_4 _ (List.mem_of_getElem? (i := 102) rfl)) rfl
abbrev w_Math_max : List Cond := Cond.code y_Math_max b_Math_max 2 (some .int) :: lw_good
theorem st_Math_max : Cond.static y_Math_max ∈ lw_good := lg_right (i := 821) (by decide +kernel) rfl
theorem d_Math_max_0 : decode b_Math_max 0 = .ok (.iload_n 0, 1) := by decide +kernel
theorem d_Math_max_1 : decode b_Math_max 1 = .ok (.iload_n 1, 1) := by decide +kernel
theorem d_Math_max_2 : decode b_Math_max 2 = .ok (.if_icmp .lt 7, 3) := by decide +kernel
theorem d_Math_max_5 : decode b_Math_max 5 = .ok (.iload_n 0, 1) := by decide +kernel
theorem d_Math_max_6 : decode b_Math_max 6 = .ok (.goto 4, 3) := by decide +kernel
theorem d_Math_max_9 : decode b_Math_max 9 = .ok (.iload_n 1, 1) := by decide +kernel
theorem d_Math_max_10 : decode b_Math_max 10 = .ok (.ireturn, 1) := by decide +kernel
abbrev b_Heads_ownRegion : ByteArray := prog_4_method_10_code
abbrev y_Heads_ownRegion : MethodName := ⟨R_Heads, "ownRegion", "(I)I"⟩
theorem co_Heads_ownRegion : Cond.code y_Heads_ownRegion b_Heads_ownRegion 3 (some .int) ∈ lw_good := lg_in (tin_5 _ (List.mem_of_getElem? (i := 144) rfl)) rfl
abbrev w_Heads_ownRegion : List Cond := Cond.code y_Heads_ownRegion b_Heads_ownRegion 3 (some .int) :: lw_good
theorem im_Heads_ownRegion : Cond.instanceMethod y_Heads_ownRegion ∈ lw_good := lg_right (i := 1103) (by decide +kernel) rfl
theorem se_Heads_ownRegion : Cond.selects R_Heads y_Heads_ownRegion y_Heads_ownRegion ∈ lw_good := lg_left (i := 42) (by decide +kernel) rfl
theorem d_Heads_ownRegion_0 : decode b_Heads_ownRegion 0 = .ok (.aload_n 0, 1) := by decide +kernel
theorem d_Heads_ownRegion_1 : decode b_Heads_ownRegion 1 = .ok (.getfield 23, 3) := by decide +kernel
theorem d_Heads_ownRegion_4 : decode b_Heads_ownRegion 4 = .ok (.aload_n 0, 1) := by decide +kernel
theorem d_Heads_ownRegion_5 : decode b_Heads_ownRegion 5 = .ok (.getfield 9, 3) := by decide +kernel
theorem d_Heads_ownRegion_8 : decode b_Heads_ownRegion 8 = .ok (.iload_n 1, 1) := by decide +kernel
theorem d_Heads_ownRegion_9 : decode b_Heads_ownRegion 9 = .ok (.invokevirtual 99, 3) := by decide +kernel
theorem d_Heads_ownRegion_12 : decode b_Heads_ownRegion 12 = .ok (.invokevirtual 103, 3) := by decide +kernel
theorem d_Heads_ownRegion_15 : decode b_Heads_ownRegion 15 = .ok (.istore_n 2, 1) := by decide +kernel
theorem d_Heads_ownRegion_16 : decode b_Heads_ownRegion 16 = .ok (.iload_n 2, 1) := by decide +kernel
theorem d_Heads_ownRegion_17 : decode b_Heads_ownRegion 17 = .ok (.iconst 1, 1) := by decide +kernel
theorem d_Heads_ownRegion_18 : decode b_Heads_ownRegion 18 = .ok (.if_icmp .ge 21, 3) := by decide +kernel
theorem d_Heads_ownRegion_21 : decode b_Heads_ownRegion 21 = .ok (.aload_n 0, 1) := by decide +kernel
theorem d_Heads_ownRegion_22 : decode b_Heads_ownRegion 22 = .ok (.getfield 27, 3) := by decide +kernel
theorem d_Heads_ownRegion_25 : decode b_Heads_ownRegion 25 = .ok (.iconst 3, 1) := by decide +kernel
theorem d_Heads_ownRegion_26 : decode b_Heads_ownRegion 26 = .ok (.aload_n 0, 1) := by decide +kernel
theorem d_Heads_ownRegion_27 : decode b_Heads_ownRegion 27 = .ok (.getfield 9, 3) := by decide +kernel
theorem d_Heads_ownRegion_30 : decode b_Heads_ownRegion 30 = .ok (.iload_n 1, 1) := by decide +kernel
theorem d_Heads_ownRegion_31 : decode b_Heads_ownRegion 31 = .ok (.invokevirtual 90, 3) := by decide +kernel
theorem d_Heads_ownRegion_34 : decode b_Heads_ownRegion 34 = .ok (.invokevirtual 77, 3) := by decide +kernel
theorem d_Heads_ownRegion_37 : decode b_Heads_ownRegion 37 = .ok (.iconst 1, 1) := by decide +kernel
theorem d_Heads_ownRegion_38 : decode b_Heads_ownRegion 38 = .ok (.ireturn, 1) := by decide +kernel
theorem d_Heads_ownRegion_39 : decode b_Heads_ownRegion 39 = .ok (.iload_n 2, 1) := by decide +kernel
theorem d_Heads_ownRegion_40 : decode b_Heads_ownRegion 40 = .ok (.ireturn, 1) := by decide +kernel
section GV
variable {p : Program} {l : Launch} {e : Env} {R : Room} {s : State} {m : MethodId} {args : Array Value} {below : List Frame} {meth : Method} {c : Code} {H : Heap} {locs : List Loc} {cells slots : Nat} {Q : State → Prop}
variable {cc : ByteArray} {pc : Nat} {ls : Array Slot} {rest st0 : List Value} {dC : Nat → ClassId} {dI : Nat → Nat → Nat} {A : Nat → Prop} {ad ea ev : Nat → Nat} {km : Nat → ClassId} {T T' : gSt} {H0 : Heap}
theorem wr_Scope_40 (hx : p.tables.exec = Jvm.exec) (hb : c.code = cc) (hT : ∀ w ∈ lw_good, w.before args s = true) (hown : s.vm.findClass R_Scope = some m.cls) (hK : va_K (dC, dI) cls_all (gT LH km) s) (hP : va_P (dC, dI) cls_all (gW LH ad km T) H) (hD : va_D A (gW LH ad km T)) (hS : va_S A H0 H locs) {v : Int32} (hdg : decode cc pc = .ok (.putfield 40, 3)) (kk : ∀ (T1 : gSt), T1 = sI T 67 0 v → ∀ (H1 : Heap) (locs1 : List Loc), va_P (dC, dI) cls_all (gW LH ad km T1) H1 → va_D A (gW LH ad km T1) → va_S A H0 H1 locs1 → W p l e R s m args below meth c H1 locs1 cells slots Q (F0 m (pc + 3) ls rest)) : W p l e R s m args below meth c H locs cells slots Q (F0 m pc ls (.int v :: .ref (ad 6) :: rest)) := gw_puti okH hx hb hT i_Scope t_Scope t_Scope_ok n_Scope hown hK hP hD hS 6 3 67 (Nat.le_of_ble_eq_true rfl) rfl rfl (Nat.le_of_ble_eq_true rfl) rfl rfl (hT _ fl_Scope_40) (fun _ h9 => h9) rfl (ty := .int) (by decide +kernel) rfl rfl hdg kk
theorem wr_Scope_44 (hx : p.tables.exec = Jvm.exec) (hb : c.code = cc) (hT : ∀ w ∈ lw_good, w.before args s = true) (hown : s.vm.findClass R_Scope = some m.cls) (hK : va_K (dC, dI) cls_all (gT LH km) s) (hP : va_P (dC, dI) cls_all (gW LH ad km T) H) (hD : va_D A (gW LH ad km T)) (hS : va_S A H0 H locs) {v : Int32} (hdg : decode cc pc = .ok (.putfield 44, 3)) (kk : ∀ (T1 : gSt), T1 = sI T 68 0 v → ∀ (H1 : Heap) (locs1 : List Loc), va_P (dC, dI) cls_all (gW LH ad km T1) H1 → va_D A (gW LH ad km T1) → va_S A H0 H1 locs1 → W p l e R s m args below meth c H1 locs1 cells slots Q (F0 m (pc + 3) ls rest)) : W p l e R s m args below meth c H locs cells slots Q (F0 m pc ls (.int v :: .ref (ad 6) :: rest)) := gw_puti okH hx hb hT i_Scope t_Scope t_Scope_ok n_Scope hown hK hP hD hS 6 4 68 (Nat.le_of_ble_eq_true rfl) rfl rfl (Nat.le_of_ble_eq_true rfl) rfl rfl (hT _ fl_Scope_44) (fun _ h9 => h9) rfl (ty := .int) (by decide +kernel) rfl rfl hdg kk
theorem wr_Scope_47 (hx : p.tables.exec = Jvm.exec) (hb : c.code = cc) (hT : ∀ w ∈ lw_good, w.before args s = true) (hown : s.vm.findClass R_Scope = some m.cls) (hK : va_K (dC, dI) cls_all (gT LH km) s) (hP : va_P (dC, dI) cls_all (gW LH ad km T) H) (hD : va_D A (gW LH ad km T)) (hS : va_S A H0 H locs) {v : Int32} (hdg : decode cc pc = .ok (.putfield 47, 3)) (kk : ∀ (T1 : gSt), T1 = sI T 72 0 v → ∀ (H1 : Heap) (locs1 : List Loc), va_P (dC, dI) cls_all (gW LH ad km T1) H1 → va_D A (gW LH ad km T1) → va_S A H0 H1 locs1 → W p l e R s m args below meth c H1 locs1 cells slots Q (F0 m (pc + 3) ls rest)) : W p l e R s m args below meth c H locs cells slots Q (F0 m pc ls (.int v :: .ref (ad 6) :: rest)) := gw_puti okH hx hb hT i_Scope t_Scope t_Scope_ok n_Scope hown hK hP hD hS 6 8 72 (Nat.le_of_ble_eq_true rfl) rfl rfl (Nat.le_of_ble_eq_true rfl) rfl rfl (hT _ fl_Scope_47) (fun _ h9 => h9) rfl (ty := .int) (by decide +kernel) rfl rfl hdg kk
theorem wr_Scope_50 (hx : p.tables.exec = Jvm.exec) (hb : c.code = cc) (hT : ∀ w ∈ lw_good, w.before args s = true) (hown : s.vm.findClass R_Scope = some m.cls) (hK : va_K (dC, dI) cls_all (gT LH km) s) (hP : va_P (dC, dI) cls_all (gW LH ad km T) H) (hD : va_D A (gW LH ad km T)) (hS : va_S A H0 H locs) {v : Int32} (hdg : decode cc pc = .ok (.putfield 50, 3)) (kk : ∀ (T1 : gSt), T1 = sI T 75 0 v → ∀ (H1 : Heap) (locs1 : List Loc), va_P (dC, dI) cls_all (gW LH ad km T1) H1 → va_D A (gW LH ad km T1) → va_S A H0 H1 locs1 → W p l e R s m args below meth c H1 locs1 cells slots Q (F0 m (pc + 3) ls rest)) : W p l e R s m args below meth c H locs cells slots Q (F0 m pc ls (.int v :: .ref (ad 6) :: rest)) := gw_puti okH hx hb hT i_Scope t_Scope t_Scope_ok n_Scope hown hK hP hD hS 6 11 75 (Nat.le_of_ble_eq_true rfl) rfl rfl (Nat.le_of_ble_eq_true rfl) rfl rfl (hT _ fl_Scope_50) (fun _ h9 => h9) rfl (ty := .int) (by decide +kernel) rfl rfl hdg kk
theorem wr_Scope_53 (hx : p.tables.exec = Jvm.exec) (hb : c.code = cc) (hT : ∀ w ∈ lw_good, w.before args s = true) (hown : s.vm.findClass R_Scope = some m.cls) (hK : va_K (dC, dI) cls_all (gT LH km) s) (hP : va_P (dC, dI) cls_all (gW LH ad km T) H) (hD : va_D A (gW LH ad km T)) (hS : va_S A H0 H locs) {v : Int32} (hdg : decode cc pc = .ok (.putfield 53, 3)) (kk : ∀ (T1 : gSt), T1 = sI T 76 0 v → ∀ (H1 : Heap) (locs1 : List Loc), va_P (dC, dI) cls_all (gW LH ad km T1) H1 → va_D A (gW LH ad km T1) → va_S A H0 H1 locs1 → W p l e R s m args below meth c H1 locs1 cells slots Q (F0 m (pc + 3) ls rest)) : W p l e R s m args below meth c H locs cells slots Q (F0 m pc ls (.int v :: .ref (ad 6) :: rest)) := gw_puti okH hx hb hT i_Scope t_Scope t_Scope_ok n_Scope hown hK hP hD hS 6 12 76 (Nat.le_of_ble_eq_true rfl) rfl rfl (Nat.le_of_ble_eq_true rfl) rfl rfl (hT _ fl_Scope_53) (fun _ h9 => h9) rfl (ty := .int) (by decide +kernel) rfl rfl hdg kk
theorem wr_Scope_56 (hx : p.tables.exec = Jvm.exec) (hb : c.code = cc) (hT : ∀ w ∈ lw_good, w.before args s = true) (hown : s.vm.findClass R_Scope = some m.cls) (hK : va_K (dC, dI) cls_all (gT LH km) s) (hP : va_P (dC, dI) cls_all (gW LH ad km T) H) (hD : va_D A (gW LH ad km T)) (hS : va_S A H0 H locs) {v : Int64} (hdg : decode cc pc = .ok (.putfield 56, 3)) (kk : ∀ (T1 : gSt), T1 = sJ T 77 0 v → ∀ (H1 : Heap) (locs1 : List Loc), va_P (dC, dI) cls_all (gW LH ad km T1) H1 → va_D A (gW LH ad km T1) → va_S A H0 H1 locs1 → W p l e R s m args below meth c H1 locs1 cells slots Q (F0 m (pc + 3) ls rest)) : W p l e R s m args below meth c H locs cells slots Q (F0 m pc ls (.long v :: .ref (ad 6) :: rest)) := gw_putj okH hx hb hT i_Scope t_Scope t_Scope_ok n_Scope hown hK hP hD hS 6 13 77 (Nat.le_of_ble_eq_true rfl) rfl rfl (Nat.le_of_ble_eq_true rfl) rfl rfl (hT _ fl_Scope_56) (fun _ h9 => h9) rfl (ty := .long) (by decide +kernel) rfl rfl hdg kk
theorem rd_Scope_22 (hx : p.tables.exec = Jvm.exec) (hb : c.code = cc) (hT : ∀ w ∈ lw_good, w.before args s = true) (hown : s.vm.findClass R_Scope = some m.cls) (hK : va_K (dC, dI) cls_all (gT LH km) s) (hP : va_P (dC, dI) cls_all (gW LH ad km T) H) (hdg : decode cc pc = .ok (.getfield 22, 3)) (kk : W p l e R s m args below meth c H locs cells slots Q (F0 m (pc + 3) ls (.ref (ad 53) :: rest))) : W p l e R s m args below meth c H locs cells slots Q (F0 m pc ls (.ref (ad 6) :: rest)) := gw_get hx hb hT i_Scope hown hK hP 6 9 73 (Nat.le_of_ble_eq_true rfl) rfl rfl (Nat.le_of_ble_eq_true rfl) rfl (gv_a rfl) (hT _ fl_Scope_22) (fun _ h9 => h9) hdg kk
theorem rd_Scope_32 (hx : p.tables.exec = Jvm.exec) (hb : c.code = cc) (hT : ∀ w ∈ lw_good, w.before args s = true) (hown : s.vm.findClass R_Scope = some m.cls) (hK : va_K (dC, dI) cls_all (gT LH km) s) (hP : va_P (dC, dI) cls_all (gW LH ad km T) H) (hdg : decode cc pc = .ok (.getfield 32, 3)) (kk : W p l e R s m args below meth c H locs cells slots Q (F0 m (pc + 3) ls (.ref (ad 2) :: rest))) : W p l e R s m args below meth c H locs cells slots Q (F0 m pc ls (.ref (ad 6) :: rest)) := gw_get hx hb hT i_Scope hown hK hP 6 1 65 (Nat.le_of_ble_eq_true rfl) rfl rfl (Nat.le_of_ble_eq_true rfl) rfl (gv_o rfl) (hT _ fl_Scope_32) (fun _ h9 => h9) hdg kk
theorem rd_Scope_60 (hx : p.tables.exec = Jvm.exec) (hb : c.code = cc) (hT : ∀ w ∈ lw_good, w.before args s = true) (hown : s.vm.findClass R_Scope = some m.cls) (hK : va_K (dC, dI) cls_all (gT LH km) s) (hP : va_P (dC, dI) cls_all (gW LH ad km T) H) (hdg : decode cc pc = .ok (.getfield 60, 3)) (kk : W p l e R s m args below meth c H locs cells slots Q (F0 m (pc + 3) ls (.ref (ad 28) :: rest))) : W p l e R s m args below meth c H locs cells slots Q (F0 m pc ls (.ref (ad 2) :: rest)) := gw_get hx hb hT i_Items hown hK hP 2 4 31 (Nat.le_of_ble_eq_true rfl) rfl rfl (Nat.le_of_ble_eq_true rfl) rfl (gv_a rfl) (hT _ fl_Scope_60) (fun _ h9 => h9) hdg kk
theorem rd_Scope_40 (hx : p.tables.exec = Jvm.exec) (hb : c.code = cc) (hT : ∀ w ∈ lw_good, w.before args s = true) (hown : s.vm.findClass R_Scope = some m.cls) (hK : va_K (dC, dI) cls_all (gT LH km) s) (hP : va_P (dC, dI) cls_all (gW LH ad km T) H) (hdg : decode cc pc = .ok (.getfield 40, 3)) (kk : W p l e R s m args below meth c H locs cells slots Q (F0 m (pc + 3) ls (.int (T.1 67 0) :: rest))) : W p l e R s m args below meth c H locs cells slots Q (F0 m pc ls (.ref (ad 6) :: rest)) := gw_get hx hb hT i_Scope hown hK hP 6 3 67 (Nat.le_of_ble_eq_true rfl) rfl rfl (Nat.le_of_ble_eq_true rfl) rfl (gv_i rfl) (hT _ fl_Scope_40) (fun _ h9 => h9) hdg kk
theorem laH_41 (hx : p.tables.exec = Jvm.exec) (hb : c.code = cc) (hK : va_K (dC, dI) cls_all (gT LH km) s) (hP : va_P (dC, dI) cls_all (gW LH ad km T) H) {x : Int32} (hin : inb x 12) (hdg : decode cc pc = .ok (.laload, 1)) (kk : W p l e R s m args below meth c H locs cells slots Q (F0 m (pc + 1) ls (.long (T.2 73 x.toNatClampNeg) :: rest))) : W p l e R s m args below meth c H locs cells slots Q (F0 m pc ls (.int x :: .ref (ad 53) :: rest)) := gw_lald hx hb hK hP 41 73 12 53 (Nat.le_of_ble_eq_true rfl) rfl rfl rfl rfl rfl hin hdg kk
theorem saH_41 (hx : p.tables.exec = Jvm.exec) (hb : c.code = cc) (hK : va_K (dC, dI) cls_all (gT LH km) s) (hP : va_P (dC, dI) cls_all (gW LH ad km T) H) (hD : va_D A (gW LH ad km T)) (hS : va_S A H0 H locs) {x : Int32} {v : Int64} (hin : inb x 12) (hdg : decode cc pc = .ok (.lastore, 1)) (kk : ∀ (T1 : gSt), T1 = sJ T 73 x.toNatClampNeg v → ∀ (H1 : Heap) (locs1 : List Loc), va_P (dC, dI) cls_all (gW LH ad km T1) H1 → va_D A (gW LH ad km T1) → va_S A H0 H1 locs1 → W p l e R s m args below meth c H1 locs1 cells slots Q (F0 m (pc + 1) ls rest)) : W p l e R s m args below meth c H locs cells slots Q (F0 m pc ls (.long v :: .int x :: .ref (ad 53) :: rest)) := gw_last okH hx hb hK hP hD hS 41 73 12 53 (Nat.le_of_ble_eq_true rfl) rfl rfl rfl rfl rfl hin hdg kk
theorem rd_Scope_28 (hx : p.tables.exec = Jvm.exec) (hb : c.code = cc) (hT : ∀ w ∈ lw_good, w.before args s = true) (hown : s.vm.findClass R_Scope = some m.cls) (hK : va_K (dC, dI) cls_all (gT LH km) s) (hP : va_P (dC, dI) cls_all (gW LH ad km T) H) (hdg : decode cc pc = .ok (.getfield 28, 3)) (kk : W p l e R s m args below meth c H locs cells slots Q (F0 m (pc + 3) ls (.ref (ad 1) :: rest))) : W p l e R s m args below meth c H locs cells slots Q (F0 m pc ls (.ref (ad 6) :: rest)) := gw_get hx hb hT i_Scope hown hK hP 6 0 64 (Nat.le_of_ble_eq_true rfl) rfl rfl (Nat.le_of_ble_eq_true rfl) rfl (gv_o rfl) (hT _ fl_Scope_28) (fun _ h9 => h9) hdg kk
theorem rd_Scope_65 (hx : p.tables.exec = Jvm.exec) (hb : c.code = cc) (hT : ∀ w ∈ lw_good, w.before args s = true) (hown : s.vm.findClass R_Scope = some m.cls) (hK : va_K (dC, dI) cls_all (gT LH km) s) (hP : va_P (dC, dI) cls_all (gW LH ad km T) H) (hdg : decode cc pc = .ok (.getfield 65, 3)) (kk : W p l e R s m args below meth c H locs cells slots Q (F0 m (pc + 3) ls (.ref (ad 26) :: rest))) : W p l e R s m args below meth c H locs cells slots Q (F0 m pc ls (.ref (ad 2) :: rest)) := gw_get hx hb hT i_Items hown hK hP 2 2 29 (Nat.le_of_ble_eq_true rfl) rfl rfl (Nat.le_of_ble_eq_true rfl) rfl (gv_a rfl) (hT _ fl_Scope_65) (fun _ h9 => h9) hdg kk
theorem rd_Scope_80 (hx : p.tables.exec = Jvm.exec) (hb : c.code = cc) (hT : ∀ w ∈ lw_good, w.before args s = true) (hown : s.vm.findClass R_Scope = some m.cls) (hK : va_K (dC, dI) cls_all (gT LH km) s) (hP : va_P (dC, dI) cls_all (gW LH ad km T) H) (hdg : decode cc pc = .ok (.getfield 80, 3)) (kk : W p l e R s m args below meth c H locs cells slots Q (F0 m (pc + 3) ls (.ref (ad 36) :: rest))) : W p l e R s m args below meth c H locs cells slots Q (F0 m pc ls (.ref (ad 2) :: rest)) := gw_get hx hb hT i_Items hown hK hP 2 12 39 (Nat.le_of_ble_eq_true rfl) rfl rfl (Nat.le_of_ble_eq_true rfl) rfl (gv_a rfl) (hT _ fl_Scope_80) (fun _ h9 => h9) hdg kk
theorem laH_24 (hx : p.tables.exec = Jvm.exec) (hb : c.code = cc) (hK : va_K (dC, dI) cls_all (gT LH km) s) (hP : va_P (dC, dI) cls_all (gW LH ad km T) H) {x : Int32} (hin : inb x 24) (hdg : decode cc pc = .ok (.iaload, 1)) (kk : W p l e R s m args below meth c H locs cells slots Q (F0 m (pc + 1) ls (.int (T.1 39 x.toNatClampNeg) :: rest))) : W p l e R s m args below meth c H locs cells slots Q (F0 m pc ls (.int x :: .ref (ad 36) :: rest)) := gw_iald hx hb hK hP 24 39 24 36 (Nat.le_of_ble_eq_true rfl) rfl rfl rfl rfl rfl hin hdg kk
theorem saH_24 (hx : p.tables.exec = Jvm.exec) (hb : c.code = cc) (hK : va_K (dC, dI) cls_all (gT LH km) s) (hP : va_P (dC, dI) cls_all (gW LH ad km T) H) (hD : va_D A (gW LH ad km T)) (hS : va_S A H0 H locs) {x : Int32} {v : Int32} (hin : inb x 24) (hdg : decode cc pc = .ok (.iastore, 1)) (kk : ∀ (T1 : gSt), T1 = sI T 39 x.toNatClampNeg v → ∀ (H1 : Heap) (locs1 : List Loc), va_P (dC, dI) cls_all (gW LH ad km T1) H1 → va_D A (gW LH ad km T1) → va_S A H0 H1 locs1 → W p l e R s m args below meth c H1 locs1 cells slots Q (F0 m (pc + 1) ls rest)) : W p l e R s m args below meth c H locs cells slots Q (F0 m pc ls (.int v :: .int x :: .ref (ad 36) :: rest)) := gw_iast okH hx hb hK hP hD hS 24 39 24 36 (Nat.le_of_ble_eq_true rfl) rfl rfl rfl rfl rfl hin hdg kk
theorem rd_Scope_87 (hx : p.tables.exec = Jvm.exec) (hb : c.code = cc) (hT : ∀ w ∈ lw_good, w.before args s = true) (hown : s.vm.findClass R_Scope = some m.cls) (hK : va_K (dC, dI) cls_all (gT LH km) s) (hP : va_P (dC, dI) cls_all (gW LH ad km T) H) (hdg : decode cc pc = .ok (.getfield 87, 3)) (kk : W p l e R s m args below meth c H locs cells slots Q (F0 m (pc + 3) ls (.ref (ad 29) :: rest))) : W p l e R s m args below meth c H locs cells slots Q (F0 m pc ls (.ref (ad 2) :: rest)) := gw_get hx hb hT i_Items hown hK hP 2 5 32 (Nat.le_of_ble_eq_true rfl) rfl rfl (Nat.le_of_ble_eq_true rfl) rfl (gv_a rfl) (hT _ fl_Scope_87) (fun _ h9 => h9) hdg kk
theorem rd_Scope_47 (hx : p.tables.exec = Jvm.exec) (hb : c.code = cc) (hT : ∀ w ∈ lw_good, w.before args s = true) (hown : s.vm.findClass R_Scope = some m.cls) (hK : va_K (dC, dI) cls_all (gT LH km) s) (hP : va_P (dC, dI) cls_all (gW LH ad km T) H) (hdg : decode cc pc = .ok (.getfield 47, 3)) (kk : W p l e R s m args below meth c H locs cells slots Q (F0 m (pc + 3) ls (.int (T.1 72 0) :: rest))) : W p l e R s m args below meth c H locs cells slots Q (F0 m pc ls (.ref (ad 6) :: rest)) := gw_get hx hb hT i_Scope hown hK hP 6 8 72 (Nat.le_of_ble_eq_true rfl) rfl rfl (Nat.le_of_ble_eq_true rfl) rfl (gv_i rfl) (hT _ fl_Scope_47) (fun _ h9 => h9) hdg kk
theorem rd_Scope_25 (hx : p.tables.exec = Jvm.exec) (hb : c.code = cc) (hT : ∀ w ∈ lw_good, w.before args s = true) (hown : s.vm.findClass R_Scope = some m.cls) (hK : va_K (dC, dI) cls_all (gT LH km) s) (hP : va_P (dC, dI) cls_all (gW LH ad km T) H) (hdg : decode cc pc = .ok (.getfield 25, 3)) (kk : W p l e R s m args below meth c H locs cells slots Q (F0 m (pc + 3) ls (.ref (ad 54) :: rest))) : W p l e R s m args below meth c H locs cells slots Q (F0 m pc ls (.ref (ad 6) :: rest)) := gw_get hx hb hT i_Scope hown hK hP 6 10 74 (Nat.le_of_ble_eq_true rfl) rfl rfl (Nat.le_of_ble_eq_true rfl) rfl (gv_a rfl) (hT _ fl_Scope_25) (fun _ h9 => h9) hdg kk
theorem rd_Scope_50 (hx : p.tables.exec = Jvm.exec) (hb : c.code = cc) (hT : ∀ w ∈ lw_good, w.before args s = true) (hown : s.vm.findClass R_Scope = some m.cls) (hK : va_K (dC, dI) cls_all (gT LH km) s) (hP : va_P (dC, dI) cls_all (gW LH ad km T) H) (hdg : decode cc pc = .ok (.getfield 50, 3)) (kk : W p l e R s m args below meth c H locs cells slots Q (F0 m (pc + 3) ls (.int (T.1 75 0) :: rest))) : W p l e R s m args below meth c H locs cells slots Q (F0 m pc ls (.ref (ad 6) :: rest)) := gw_get hx hb hT i_Scope hown hK hP 6 11 75 (Nat.le_of_ble_eq_true rfl) rfl rfl (Nat.le_of_ble_eq_true rfl) rfl (gv_i rfl) (hT _ fl_Scope_50) (fun _ h9 => h9) hdg kk
theorem laH_42 (hx : p.tables.exec = Jvm.exec) (hb : c.code = cc) (hK : va_K (dC, dI) cls_all (gT LH km) s) (hP : va_P (dC, dI) cls_all (gW LH ad km T) H) {x : Int32} (hin : inb x 12) (hdg : decode cc pc = .ok (.iaload, 1)) (kk : W p l e R s m args below meth c H locs cells slots Q (F0 m (pc + 1) ls (.int (T.1 74 x.toNatClampNeg) :: rest))) : W p l e R s m args below meth c H locs cells slots Q (F0 m pc ls (.int x :: .ref (ad 54) :: rest)) := gw_iald hx hb hK hP 42 74 12 54 (Nat.le_of_ble_eq_true rfl) rfl rfl rfl rfl rfl hin hdg kk
theorem saH_42 (hx : p.tables.exec = Jvm.exec) (hb : c.code = cc) (hK : va_K (dC, dI) cls_all (gT LH km) s) (hP : va_P (dC, dI) cls_all (gW LH ad km T) H) (hD : va_D A (gW LH ad km T)) (hS : va_S A H0 H locs) {x : Int32} {v : Int32} (hin : inb x 12) (hdg : decode cc pc = .ok (.iastore, 1)) (kk : ∀ (T1 : gSt), T1 = sI T 74 x.toNatClampNeg v → ∀ (H1 : Heap) (locs1 : List Loc), va_P (dC, dI) cls_all (gW LH ad km T1) H1 → va_D A (gW LH ad km T1) → va_S A H0 H1 locs1 → W p l e R s m args below meth c H1 locs1 cells slots Q (F0 m (pc + 1) ls rest)) : W p l e R s m args below meth c H locs cells slots Q (F0 m pc ls (.int v :: .int x :: .ref (ad 54) :: rest)) := gw_iast okH hx hb hK hP hD hS 42 74 12 54 (Nat.le_of_ble_eq_true rfl) rfl rfl rfl rfl rfl hin hdg kk
theorem rd_Scope_56 (hx : p.tables.exec = Jvm.exec) (hb : c.code = cc) (hT : ∀ w ∈ lw_good, w.before args s = true) (hown : s.vm.findClass R_Scope = some m.cls) (hK : va_K (dC, dI) cls_all (gT LH km) s) (hP : va_P (dC, dI) cls_all (gW LH ad km T) H) (hdg : decode cc pc = .ok (.getfield 56, 3)) (kk : W p l e R s m args below meth c H locs cells slots Q (F0 m (pc + 3) ls (.long (T.2 77 0) :: rest))) : W p l e R s m args below meth c H locs cells slots Q (F0 m pc ls (.ref (ad 6) :: rest)) := gw_get hx hb hT i_Scope hown hK hP 6 13 77 (Nat.le_of_ble_eq_true rfl) rfl rfl (Nat.le_of_ble_eq_true rfl) rfl (gv_l rfl) (hT _ fl_Scope_56) (fun _ h9 => h9) hdg kk
theorem rd_Scope_112 (hx : p.tables.exec = Jvm.exec) (hb : c.code = cc) (hT : ∀ w ∈ lw_good, w.before args s = true) (hown : s.vm.findClass R_Scope = some m.cls) (hK : va_K (dC, dI) cls_all (gT LH km) s) (hP : va_P (dC, dI) cls_all (gW LH ad km T) H) (hdg : decode cc pc = .ok (.getfield 112, 3)) (kk : W p l e R s m args below meth c H locs cells slots Q (F0 m (pc + 3) ls (.ref (ad 37) :: rest))) : W p l e R s m args below meth c H locs cells slots Q (F0 m pc ls (.ref (ad 2) :: rest)) := gw_get hx hb hT i_Items hown hK hP 2 13 40 (Nat.le_of_ble_eq_true rfl) rfl rfl (Nat.le_of_ble_eq_true rfl) rfl (gv_a rfl) (hT _ fl_Scope_112) (fun _ h9 => h9) hdg kk
theorem laH_25 (hx : p.tables.exec = Jvm.exec) (hb : c.code = cc) (hK : va_K (dC, dI) cls_all (gT LH km) s) (hP : va_P (dC, dI) cls_all (gW LH ad km T) H) {x : Int32} (hin : inb x 24) (hdg : decode cc pc = .ok (.iaload, 1)) (kk : W p l e R s m args below meth c H locs cells slots Q (F0 m (pc + 1) ls (.int (T.1 40 x.toNatClampNeg) :: rest))) : W p l e R s m args below meth c H locs cells slots Q (F0 m pc ls (.int x :: .ref (ad 37) :: rest)) := gw_iald hx hb hK hP 25 40 24 37 (Nat.le_of_ble_eq_true rfl) rfl rfl rfl rfl rfl hin hdg kk
theorem saH_25 (hx : p.tables.exec = Jvm.exec) (hb : c.code = cc) (hK : va_K (dC, dI) cls_all (gT LH km) s) (hP : va_P (dC, dI) cls_all (gW LH ad km T) H) (hD : va_D A (gW LH ad km T)) (hS : va_S A H0 H locs) {x : Int32} {v : Int32} (hin : inb x 24) (hdg : decode cc pc = .ok (.iastore, 1)) (kk : ∀ (T1 : gSt), T1 = sI T 40 x.toNatClampNeg v → ∀ (H1 : Heap) (locs1 : List Loc), va_P (dC, dI) cls_all (gW LH ad km T1) H1 → va_D A (gW LH ad km T1) → va_S A H0 H1 locs1 → W p l e R s m args below meth c H1 locs1 cells slots Q (F0 m (pc + 1) ls rest)) : W p l e R s m args below meth c H locs cells slots Q (F0 m pc ls (.int v :: .int x :: .ref (ad 37) :: rest)) := gw_iast okH hx hb hK hP hD hS 25 40 24 37 (Nat.le_of_ble_eq_true rfl) rfl rfl rfl rfl rfl hin hdg kk
theorem rd_Scope_44 (hx : p.tables.exec = Jvm.exec) (hb : c.code = cc) (hT : ∀ w ∈ lw_good, w.before args s = true) (hown : s.vm.findClass R_Scope = some m.cls) (hK : va_K (dC, dI) cls_all (gT LH km) s) (hP : va_P (dC, dI) cls_all (gW LH ad km T) H) (hdg : decode cc pc = .ok (.getfield 44, 3)) (kk : W p l e R s m args below meth c H locs cells slots Q (F0 m (pc + 3) ls (.int (T.1 68 0) :: rest))) : W p l e R s m args below meth c H locs cells slots Q (F0 m pc ls (.ref (ad 6) :: rest)) := gw_get hx hb hT i_Scope hown hK hP 6 4 68 (Nat.le_of_ble_eq_true rfl) rfl rfl (Nat.le_of_ble_eq_true rfl) rfl (gv_i rfl) (hT _ fl_Scope_44) (fun _ h9 => h9) hdg kk
theorem rd_Scope_11 (hx : p.tables.exec = Jvm.exec) (hb : c.code = cc) (hT : ∀ w ∈ lw_good, w.before args s = true) (hown : s.vm.findClass R_Scope = some m.cls) (hK : va_K (dC, dI) cls_all (gT LH km) s) (hP : va_P (dC, dI) cls_all (gW LH ad km T) H) (hdg : decode cc pc = .ok (.getfield 11, 3)) (kk : W p l e R s m args below meth c H locs cells slots Q (F0 m (pc + 3) ls (.ref (ad 50) :: rest))) : W p l e R s m args below meth c H locs cells slots Q (F0 m pc ls (.ref (ad 6) :: rest)) := gw_get hx hb hT i_Scope hown hK hP 6 5 69 (Nat.le_of_ble_eq_true rfl) rfl rfl (Nat.le_of_ble_eq_true rfl) rfl (gv_a rfl) (hT _ fl_Scope_11) (fun _ h9 => h9) hdg kk
theorem laH_38 (hx : p.tables.exec = Jvm.exec) (hb : c.code = cc) (hK : va_K (dC, dI) cls_all (gT LH km) s) (hP : va_P (dC, dI) cls_all (gW LH ad km T) H) {x : Int32} (hin : inb x 20) (hdg : decode cc pc = .ok (.laload, 1)) (kk : W p l e R s m args below meth c H locs cells slots Q (F0 m (pc + 1) ls (.long (T.2 69 x.toNatClampNeg) :: rest))) : W p l e R s m args below meth c H locs cells slots Q (F0 m pc ls (.int x :: .ref (ad 50) :: rest)) := gw_lald hx hb hK hP 38 69 20 50 (Nat.le_of_ble_eq_true rfl) rfl rfl rfl rfl rfl hin hdg kk
theorem saH_38 (hx : p.tables.exec = Jvm.exec) (hb : c.code = cc) (hK : va_K (dC, dI) cls_all (gT LH km) s) (hP : va_P (dC, dI) cls_all (gW LH ad km T) H) (hD : va_D A (gW LH ad km T)) (hS : va_S A H0 H locs) {x : Int32} {v : Int64} (hin : inb x 20) (hdg : decode cc pc = .ok (.lastore, 1)) (kk : ∀ (T1 : gSt), T1 = sJ T 69 x.toNatClampNeg v → ∀ (H1 : Heap) (locs1 : List Loc), va_P (dC, dI) cls_all (gW LH ad km T1) H1 → va_D A (gW LH ad km T1) → va_S A H0 H1 locs1 → W p l e R s m args below meth c H1 locs1 cells slots Q (F0 m (pc + 1) ls rest)) : W p l e R s m args below meth c H locs cells slots Q (F0 m pc ls (.long v :: .int x :: .ref (ad 50) :: rest)) := gw_last okH hx hb hK hP hD hS 38 69 20 50 (Nat.le_of_ble_eq_true rfl) rfl rfl rfl rfl rfl hin hdg kk
theorem rd_Scope_15 (hx : p.tables.exec = Jvm.exec) (hb : c.code = cc) (hT : ∀ w ∈ lw_good, w.before args s = true) (hown : s.vm.findClass R_Scope = some m.cls) (hK : va_K (dC, dI) cls_all (gT LH km) s) (hP : va_P (dC, dI) cls_all (gW LH ad km T) H) (hdg : decode cc pc = .ok (.getfield 15, 3)) (kk : W p l e R s m args below meth c H locs cells slots Q (F0 m (pc + 3) ls (.ref (ad 51) :: rest))) : W p l e R s m args below meth c H locs cells slots Q (F0 m pc ls (.ref (ad 6) :: rest)) := gw_get hx hb hT i_Scope hown hK hP 6 6 70 (Nat.le_of_ble_eq_true rfl) rfl rfl (Nat.le_of_ble_eq_true rfl) rfl (gv_a rfl) (hT _ fl_Scope_15) (fun _ h9 => h9) hdg kk
theorem laH_39 (hx : p.tables.exec = Jvm.exec) (hb : c.code = cc) (hK : va_K (dC, dI) cls_all (gT LH km) s) (hP : va_P (dC, dI) cls_all (gW LH ad km T) H) {x : Int32} (hin : inb x 20) (hdg : decode cc pc = .ok (.iaload, 1)) (kk : W p l e R s m args below meth c H locs cells slots Q (F0 m (pc + 1) ls (.int (T.1 70 x.toNatClampNeg) :: rest))) : W p l e R s m args below meth c H locs cells slots Q (F0 m pc ls (.int x :: .ref (ad 51) :: rest)) := gw_iald hx hb hK hP 39 70 20 51 (Nat.le_of_ble_eq_true rfl) rfl rfl rfl rfl rfl hin hdg kk
theorem saH_39 (hx : p.tables.exec = Jvm.exec) (hb : c.code = cc) (hK : va_K (dC, dI) cls_all (gT LH km) s) (hP : va_P (dC, dI) cls_all (gW LH ad km T) H) (hD : va_D A (gW LH ad km T)) (hS : va_S A H0 H locs) {x : Int32} {v : Int32} (hin : inb x 20) (hdg : decode cc pc = .ok (.iastore, 1)) (kk : ∀ (T1 : gSt), T1 = sI T 70 x.toNatClampNeg v → ∀ (H1 : Heap) (locs1 : List Loc), va_P (dC, dI) cls_all (gW LH ad km T1) H1 → va_D A (gW LH ad km T1) → va_S A H0 H1 locs1 → W p l e R s m args below meth c H1 locs1 cells slots Q (F0 m (pc + 1) ls rest)) : W p l e R s m args below meth c H locs cells slots Q (F0 m pc ls (.int v :: .int x :: .ref (ad 51) :: rest)) := gw_iast okH hx hb hK hP hD hS 39 70 20 51 (Nat.le_of_ble_eq_true rfl) rfl rfl rfl rfl rfl hin hdg kk
theorem rd_Scope_19 (hx : p.tables.exec = Jvm.exec) (hb : c.code = cc) (hT : ∀ w ∈ lw_good, w.before args s = true) (hown : s.vm.findClass R_Scope = some m.cls) (hK : va_K (dC, dI) cls_all (gT LH km) s) (hP : va_P (dC, dI) cls_all (gW LH ad km T) H) (hdg : decode cc pc = .ok (.getfield 19, 3)) (kk : W p l e R s m args below meth c H locs cells slots Q (F0 m (pc + 3) ls (.ref (ad 52) :: rest))) : W p l e R s m args below meth c H locs cells slots Q (F0 m pc ls (.ref (ad 6) :: rest)) := gw_get hx hb hT i_Scope hown hK hP 6 7 71 (Nat.le_of_ble_eq_true rfl) rfl rfl (Nat.le_of_ble_eq_true rfl) rfl (gv_a rfl) (hT _ fl_Scope_19) (fun _ h9 => h9) hdg kk
theorem laH_40 (hx : p.tables.exec = Jvm.exec) (hb : c.code = cc) (hK : va_K (dC, dI) cls_all (gT LH km) s) (hP : va_P (dC, dI) cls_all (gW LH ad km T) H) {x : Int32} (hin : inb x 21) (hdg : decode cc pc = .ok (.iaload, 1)) (kk : W p l e R s m args below meth c H locs cells slots Q (F0 m (pc + 1) ls (.int (T.1 71 x.toNatClampNeg) :: rest))) : W p l e R s m args below meth c H locs cells slots Q (F0 m pc ls (.int x :: .ref (ad 52) :: rest)) := gw_iald hx hb hK hP 40 71 21 52 (Nat.le_of_ble_eq_true rfl) rfl rfl rfl rfl rfl hin hdg kk
theorem saH_40 (hx : p.tables.exec = Jvm.exec) (hb : c.code = cc) (hK : va_K (dC, dI) cls_all (gT LH km) s) (hP : va_P (dC, dI) cls_all (gW LH ad km T) H) (hD : va_D A (gW LH ad km T)) (hS : va_S A H0 H locs) {x : Int32} {v : Int32} (hin : inb x 21) (hdg : decode cc pc = .ok (.iastore, 1)) (kk : ∀ (T1 : gSt), T1 = sI T 71 x.toNatClampNeg v → ∀ (H1 : Heap) (locs1 : List Loc), va_P (dC, dI) cls_all (gW LH ad km T1) H1 → va_D A (gW LH ad km T1) → va_S A H0 H1 locs1 → W p l e R s m args below meth c H1 locs1 cells slots Q (F0 m (pc + 1) ls rest)) : W p l e R s m args below meth c H locs cells slots Q (F0 m pc ls (.int v :: .int x :: .ref (ad 52) :: rest)) := gw_iast okH hx hb hK hP hD hS 40 71 21 52 (Nat.le_of_ble_eq_true rfl) rfl rfl rfl rfl rfl hin hdg kk
theorem rd_Scope_36 (hx : p.tables.exec = Jvm.exec) (hb : c.code = cc) (hT : ∀ w ∈ lw_good, w.before args s = true) (hown : s.vm.findClass R_Scope = some m.cls) (hK : va_K (dC, dI) cls_all (gT LH km) s) (hP : va_P (dC, dI) cls_all (gW LH ad km T) H) (hdg : decode cc pc = .ok (.getfield 36, 3)) (kk : W p l e R s m args below meth c H locs cells slots Q (F0 m (pc + 3) ls (.ref (ad 5) :: rest))) : W p l e R s m args below meth c H locs cells slots Q (F0 m pc ls (.ref (ad 6) :: rest)) := gw_get hx hb hT i_Scope hown hK hP 6 2 66 (Nat.le_of_ble_eq_true rfl) rfl rfl (Nat.le_of_ble_eq_true rfl) rfl (gv_o rfl) (hT _ fl_Scope_36) (fun _ h9 => h9) hdg kk
theorem rd_Heads_19 (hx : p.tables.exec = Jvm.exec) (hb : c.code = cc) (hT : ∀ w ∈ lw_good, w.before args s = true) (hown : s.vm.findClass R_Heads = some m.cls) (hK : va_K (dC, dI) cls_all (gT LH km) s) (hP : va_P (dC, dI) cls_all (gW LH ad km T) H) (hdg : decode cc pc = .ok (.getfield 19, 3)) (kk : W p l e R s m args below meth c H locs cells slots Q (F0 m (pc + 3) ls (.ref (ad 5) :: rest))) : W p l e R s m args below meth c H locs cells slots Q (F0 m pc ls (.ref (ad 7) :: rest)) := gw_get hx hb hT i_Heads hown hK hP 7 2 80 (Nat.le_of_ble_eq_true rfl) rfl rfl (Nat.le_of_ble_eq_true rfl) rfl (gv_o rfl) (hT _ fl_Heads_19) (fun _ h9 => h9) hdg kk
theorem rd_Heads_15 (hx : p.tables.exec = Jvm.exec) (hb : c.code = cc) (hT : ∀ w ∈ lw_good, w.before args s = true) (hown : s.vm.findClass R_Heads = some m.cls) (hK : va_K (dC, dI) cls_all (gT LH km) s) (hP : va_P (dC, dI) cls_all (gW LH ad km T) H) (hdg : decode cc pc = .ok (.getfield 15, 3)) (kk : W p l e R s m args below meth c H locs cells slots Q (F0 m (pc + 3) ls (.ref (ad 2) :: rest))) : W p l e R s m args below meth c H locs cells slots Q (F0 m pc ls (.ref (ad 7) :: rest)) := gw_get hx hb hT i_Heads hown hK hP 7 1 79 (Nat.le_of_ble_eq_true rfl) rfl rfl (Nat.le_of_ble_eq_true rfl) rfl (gv_o rfl) (hT _ fl_Heads_15) (fun _ h9 => h9) hdg kk
theorem rd_Heads_36 (hx : p.tables.exec = Jvm.exec) (hb : c.code = cc) (hT : ∀ w ∈ lw_good, w.before args s = true) (hown : s.vm.findClass R_Heads = some m.cls) (hK : va_K (dC, dI) cls_all (gT LH km) s) (hP : va_P (dC, dI) cls_all (gW LH ad km T) H) (hdg : decode cc pc = .ok (.getfield 36, 3)) (kk : W p l e R s m args below meth c H locs cells slots Q (F0 m (pc + 3) ls (.int (T.1 27 0) :: rest))) : W p l e R s m args below meth c H locs cells slots Q (F0 m pc ls (.ref (ad 2) :: rest)) := gw_get hx hb hT i_Items hown hK hP 2 0 27 (Nat.le_of_ble_eq_true rfl) rfl rfl (Nat.le_of_ble_eq_true rfl) rfl (gv_i rfl) (hT _ fl_Heads_36) (fun _ h9 => h9) hdg kk
theorem rd_Heads_27 (hx : p.tables.exec = Jvm.exec) (hb : c.code = cc) (hT : ∀ w ∈ lw_good, w.before args s = true) (hown : s.vm.findClass R_Heads = some m.cls) (hK : va_K (dC, dI) cls_all (gT LH km) s) (hP : va_P (dC, dI) cls_all (gW LH ad km T) H) (hdg : decode cc pc = .ok (.getfield 27, 3)) (kk : W p l e R s m args below meth c H locs cells slots Q (F0 m (pc + 3) ls (.ref (ad 3) :: rest))) : W p l e R s m args below meth c H locs cells slots Q (F0 m pc ls (.ref (ad 7) :: rest)) := gw_get hx hb hT i_Heads hown hK hP 7 4 82 (Nat.le_of_ble_eq_true rfl) rfl rfl (Nat.le_of_ble_eq_true rfl) rfl (gv_o rfl) (hT _ fl_Heads_27) (fun _ h9 => h9) hdg kk
theorem rd_Heads_9 (hx : p.tables.exec = Jvm.exec) (hb : c.code = cc) (hT : ∀ w ∈ lw_good, w.before args s = true) (hown : s.vm.findClass R_Heads = some m.cls) (hK : va_K (dC, dI) cls_all (gT LH km) s) (hP : va_P (dC, dI) cls_all (gW LH ad km T) H) (hdg : decode cc pc = .ok (.getfield 9, 3)) (kk : W p l e R s m args below meth c H locs cells slots Q (F0 m (pc + 3) ls (.ref (ad 1) :: rest))) : W p l e R s m args below meth c H locs cells slots Q (F0 m pc ls (.ref (ad 7) :: rest)) := gw_get hx hb hT i_Heads hown hK hP 7 0 78 (Nat.le_of_ble_eq_true rfl) rfl rfl (Nat.le_of_ble_eq_true rfl) rfl (gv_o rfl) (hT _ fl_Heads_9) (fun _ h9 => h9) hdg kk
theorem rd_Heads_72 (hx : p.tables.exec = Jvm.exec) (hb : c.code = cc) (hT : ∀ w ∈ lw_good, w.before args s = true) (hown : s.vm.findClass R_Heads = some m.cls) (hK : va_K (dC, dI) cls_all (gT LH km) s) (hP : va_P (dC, dI) cls_all (gW LH ad km T) H) (hnw : nw_all s) (hdg : decode cc pc = .ok (.getfield 72, 3)) (kk : W p l e R s m args below meth c H locs cells slots Q (F0 m (pc + 3) ls (.int (T.1 21 0) :: rest))) : W p l e R s m args below meth c H locs cells slots Q (F0 m pc ls (.ref (ad 1) :: rest)) := gw_getN hx hb hT i_Source hown hK hP 1 10 21 (Nat.le_of_ble_eq_true rfl) rfl rfl (Nat.le_of_ble_eq_true rfl) rfl (gv_i rfl) (va_Nw.use rfl hnw.1) (fun _ h9 => h9) hdg kk
theorem rd_Heads_63 (hx : p.tables.exec = Jvm.exec) (hb : c.code = cc) (hT : ∀ w ∈ lw_good, w.before args s = true) (hown : s.vm.findClass R_Heads = some m.cls) (hK : va_K (dC, dI) cls_all (gT LH km) s) (hP : va_P (dC, dI) cls_all (gW LH ad km T) H) (hdg : decode cc pc = .ok (.getfield 63, 3)) (kk : W p l e R s m args below meth c H locs cells slots Q (F0 m (pc + 3) ls (.ref (ad 28) :: rest))) : W p l e R s m args below meth c H locs cells slots Q (F0 m pc ls (.ref (ad 2) :: rest)) := gw_get hx hb hT i_Items hown hK hP 2 4 31 (Nat.le_of_ble_eq_true rfl) rfl rfl (Nat.le_of_ble_eq_true rfl) rfl (gv_a rfl) (hT _ fl_Heads_63) (fun _ h9 => h9) hdg kk
theorem rd_Heads_66 (hx : p.tables.exec = Jvm.exec) (hb : c.code = cc) (hT : ∀ w ∈ lw_good, w.before args s = true) (hown : s.vm.findClass R_Heads = some m.cls) (hK : va_K (dC, dI) cls_all (gT LH km) s) (hP : va_P (dC, dI) cls_all (gW LH ad km T) H) (hdg : decode cc pc = .ok (.getfield 66, 3)) (kk : W p l e R s m args below meth c H locs cells slots Q (F0 m (pc + 3) ls (.ref (ad 29) :: rest))) : W p l e R s m args below meth c H locs cells slots Q (F0 m pc ls (.ref (ad 2) :: rest)) := gw_get hx hb hT i_Items hown hK hP 2 5 32 (Nat.le_of_ble_eq_true rfl) rfl rfl (Nat.le_of_ble_eq_true rfl) rfl (gv_a rfl) (hT _ fl_Heads_66) (fun _ h9 => h9) hdg kk
theorem rd_Heads_69 (hx : p.tables.exec = Jvm.exec) (hb : c.code = cc) (hT : ∀ w ∈ lw_good, w.before args s = true) (hown : s.vm.findClass R_Heads = some m.cls) (hK : va_K (dC, dI) cls_all (gT LH km) s) (hP : va_P (dC, dI) cls_all (gW LH ad km T) H) (hdg : decode cc pc = .ok (.getfield 69, 3)) (kk : W p l e R s m args below meth c H locs cells slots Q (F0 m (pc + 3) ls (.ref (ad 30) :: rest))) : W p l e R s m args below meth c H locs cells slots Q (F0 m pc ls (.ref (ad 2) :: rest)) := gw_get hx hb hT i_Items hown hK hP 2 6 33 (Nat.le_of_ble_eq_true rfl) rfl rfl (Nat.le_of_ble_eq_true rfl) rfl (gv_a rfl) (hT _ fl_Heads_69) (fun _ h9 => h9) hdg kk
theorem rd_Heads_46 (hx : p.tables.exec = Jvm.exec) (hb : c.code = cc) (hT : ∀ w ∈ lw_good, w.before args s = true) (hown : s.vm.findClass R_Heads = some m.cls) (hK : va_K (dC, dI) cls_all (gT LH km) s) (hP : va_P (dC, dI) cls_all (gW LH ad km T) H) (hdg : decode cc pc = .ok (.getfield 46, 3)) (kk : W p l e R s m args below meth c H locs cells slots Q (F0 m (pc + 3) ls (.ref (ad 25) :: rest))) : W p l e R s m args below meth c H locs cells slots Q (F0 m pc ls (.ref (ad 2) :: rest)) := gw_get hx hb hT i_Items hown hK hP 2 1 28 (Nat.le_of_ble_eq_true rfl) rfl rfl (Nat.le_of_ble_eq_true rfl) rfl (gv_a rfl) (hT _ fl_Heads_46) (fun _ h9 => h9) hdg kk
theorem rd_Heads_83 (hx : p.tables.exec = Jvm.exec) (hb : c.code = cc) (hT : ∀ w ∈ lw_good, w.before args s = true) (hown : s.vm.findClass R_Heads = some m.cls) (hK : va_K (dC, dI) cls_all (gT LH km) s) (hP : va_P (dC, dI) cls_all (gW LH ad km T) H) (hdg : decode cc pc = .ok (.getfield 83, 3)) (kk : W p l e R s m args below meth c H locs cells slots Q (F0 m (pc + 3) ls (.ref (ad 26) :: rest))) : W p l e R s m args below meth c H locs cells slots Q (F0 m pc ls (.ref (ad 2) :: rest)) := gw_get hx hb hT i_Items hown hK hP 2 2 29 (Nat.le_of_ble_eq_true rfl) rfl rfl (Nat.le_of_ble_eq_true rfl) rfl (gv_a rfl) (hT _ fl_Heads_83) (fun _ h9 => h9) hdg kk
theorem rd_Heads_86 (hx : p.tables.exec = Jvm.exec) (hb : c.code = cc) (hT : ∀ w ∈ lw_good, w.before args s = true) (hown : s.vm.findClass R_Heads = some m.cls) (hK : va_K (dC, dI) cls_all (gT LH km) s) (hP : va_P (dC, dI) cls_all (gW LH ad km T) H) (hdg : decode cc pc = .ok (.getfield 86, 3)) (kk : W p l e R s m args below meth c H locs cells slots Q (F0 m (pc + 3) ls (.ref (ad 27) :: rest))) : W p l e R s m args below meth c H locs cells slots Q (F0 m pc ls (.ref (ad 2) :: rest)) := gw_get hx hb hT i_Items hown hK hP 2 3 30 (Nat.le_of_ble_eq_true rfl) rfl rfl (Nat.le_of_ble_eq_true rfl) rfl (gv_a rfl) (hT _ fl_Heads_86) (fun _ h9 => h9) hdg kk
theorem rd_Heads_23 (hx : p.tables.exec = Jvm.exec) (hb : c.code = cc) (hT : ∀ w ∈ lw_good, w.before args s = true) (hown : s.vm.findClass R_Heads = some m.cls) (hK : va_K (dC, dI) cls_all (gT LH km) s) (hP : va_P (dC, dI) cls_all (gW LH ad km T) H) (hdg : decode cc pc = .ok (.getfield 23, 3)) (kk : W p l e R s m args below meth c H locs cells slots Q (F0 m (pc + 3) ls (.ref (ad 6) :: rest))) : W p l e R s m args below meth c H locs cells slots Q (F0 m pc ls (.ref (ad 7) :: rest)) := gw_get hx hb hT i_Heads hown hK hP 7 3 81 (Nat.le_of_ble_eq_true rfl) rfl rfl (Nat.le_of_ble_eq_true rfl) rfl (gv_o rfl) (hT _ fl_Heads_23) (fun _ h9 => h9) hdg kk
theorem rd_Heads_110 (hx : p.tables.exec = Jvm.exec) (hb : c.code = cc) (hT : ∀ w ∈ lw_good, w.before args s = true) (hown : s.vm.findClass R_Heads = some m.cls) (hK : va_K (dC, dI) cls_all (gT LH km) s) (hP : va_P (dC, dI) cls_all (gW LH ad km T) H) (hdg : decode cc pc = .ok (.getfield 110, 3)) (kk : W p l e R s m args below meth c H locs cells slots Q (F0 m (pc + 3) ls (.ref (ad 35) :: rest))) : W p l e R s m args below meth c H locs cells slots Q (F0 m pc ls (.ref (ad 2) :: rest)) := gw_get hx hb hT i_Items hown hK hP 2 11 38 (Nat.le_of_ble_eq_true rfl) rfl rfl (Nat.le_of_ble_eq_true rfl) rfl (gv_a rfl) (hT _ fl_Heads_110) (fun _ h9 => h9) hdg kk
theorem laH_23 (hx : p.tables.exec = Jvm.exec) (hb : c.code = cc) (hK : va_K (dC, dI) cls_all (gT LH km) s) (hP : va_P (dC, dI) cls_all (gW LH ad km T) H) {x : Int32} (hin : inb x 24) (hdg : decode cc pc = .ok (.iaload, 1)) (kk : W p l e R s m args below meth c H locs cells slots Q (F0 m (pc + 1) ls (.int (T.1 38 x.toNatClampNeg) :: rest))) : W p l e R s m args below meth c H locs cells slots Q (F0 m pc ls (.int x :: .ref (ad 35) :: rest)) := gw_iald hx hb hK hP 23 38 24 35 (Nat.le_of_ble_eq_true rfl) rfl rfl rfl rfl rfl hin hdg kk
theorem saH_23 (hx : p.tables.exec = Jvm.exec) (hb : c.code = cc) (hK : va_K (dC, dI) cls_all (gT LH km) s) (hP : va_P (dC, dI) cls_all (gW LH ad km T) H) (hD : va_D A (gW LH ad km T)) (hS : va_S A H0 H locs) {x : Int32} {v : Int32} (hin : inb x 24) (hdg : decode cc pc = .ok (.iastore, 1)) (kk : ∀ (T1 : gSt), T1 = sI T 38 x.toNatClampNeg v → ∀ (H1 : Heap) (locs1 : List Loc), va_P (dC, dI) cls_all (gW LH ad km T1) H1 → va_D A (gW LH ad km T1) → va_S A H0 H1 locs1 → W p l e R s m args below meth c H1 locs1 cells slots Q (F0 m (pc + 1) ls rest)) : W p l e R s m args below meth c H locs cells slots Q (F0 m pc ls (.int v :: .int x :: .ref (ad 35) :: rest)) := gw_iast okH hx hb hK hP hD hS 23 38 24 35 (Nat.le_of_ble_eq_true rfl) rfl rfl rfl rfl rfl hin hdg kk
theorem rd_Heads_142 (hx : p.tables.exec = Jvm.exec) (hb : c.code = cc) (hT : ∀ w ∈ lw_good, w.before args s = true) (hown : s.vm.findClass R_Heads = some m.cls) (hK : va_K (dC, dI) cls_all (gT LH km) s) (hP : va_P (dC, dI) cls_all (gW LH ad km T) H) (hdg : decode cc pc = .ok (.getfield 142, 3)) (kk : W p l e R s m args below meth c H locs cells slots Q (F0 m (pc + 3) ls (.ref (ad 38) :: rest))) : W p l e R s m args below meth c H locs cells slots Q (F0 m pc ls (.ref (ad 2) :: rest)) := gw_get hx hb hT i_Items hown hK hP 2 14 41 (Nat.le_of_ble_eq_true rfl) rfl rfl (Nat.le_of_ble_eq_true rfl) rfl (gv_a rfl) (hT _ fl_Heads_142) (fun _ h9 => h9) hdg kk
theorem laH_26 (hx : p.tables.exec = Jvm.exec) (hb : c.code = cc) (hK : va_K (dC, dI) cls_all (gT LH km) s) (hP : va_P (dC, dI) cls_all (gW LH ad km T) H) {x : Int32} (hin : inb x 24) (hdg : decode cc pc = .ok (.iaload, 1)) (kk : W p l e R s m args below meth c H locs cells slots Q (F0 m (pc + 1) ls (.int (T.1 41 x.toNatClampNeg) :: rest))) : W p l e R s m args below meth c H locs cells slots Q (F0 m pc ls (.int x :: .ref (ad 38) :: rest)) := gw_iald hx hb hK hP 26 41 24 38 (Nat.le_of_ble_eq_true rfl) rfl rfl rfl rfl rfl hin hdg kk
theorem saH_26 (hx : p.tables.exec = Jvm.exec) (hb : c.code = cc) (hK : va_K (dC, dI) cls_all (gT LH km) s) (hP : va_P (dC, dI) cls_all (gW LH ad km T) H) (hD : va_D A (gW LH ad km T)) (hS : va_S A H0 H locs) {x : Int32} {v : Int32} (hin : inb x 24) (hdg : decode cc pc = .ok (.iastore, 1)) (kk : ∀ (T1 : gSt), T1 = sI T 41 x.toNatClampNeg v → ∀ (H1 : Heap) (locs1 : List Loc), va_P (dC, dI) cls_all (gW LH ad km T1) H1 → va_D A (gW LH ad km T1) → va_S A H0 H1 locs1 → W p l e R s m args below meth c H1 locs1 cells slots Q (F0 m (pc + 1) ls rest)) : W p l e R s m args below meth c H locs cells slots Q (F0 m pc ls (.int v :: .int x :: .ref (ad 38) :: rest)) := gw_iast okH hx hb hK hP hD hS 26 41 24 38 (Nat.le_of_ble_eq_true rfl) rfl rfl rfl rfl rfl hin hdg kk
theorem rd_Heads_145 (hx : p.tables.exec = Jvm.exec) (hb : c.code = cc) (hT : ∀ w ∈ lw_good, w.before args s = true) (hown : s.vm.findClass R_Heads = some m.cls) (hK : va_K (dC, dI) cls_all (gT LH km) s) (hP : va_P (dC, dI) cls_all (gW LH ad km T) H) (hdg : decode cc pc = .ok (.getfield 145, 3)) (kk : W p l e R s m args below meth c H locs cells slots Q (F0 m (pc + 3) ls (.ref (ad 31) :: rest))) : W p l e R s m args below meth c H locs cells slots Q (F0 m pc ls (.ref (ad 2) :: rest)) := gw_get hx hb hT i_Items hown hK hP 2 7 34 (Nat.le_of_ble_eq_true rfl) rfl rfl (Nat.le_of_ble_eq_true rfl) rfl (gv_a rfl) (hT _ fl_Heads_145) (fun _ h9 => h9) hdg kk
theorem rd_Heads_151 (hx : p.tables.exec = Jvm.exec) (hb : c.code = cc) (hT : ∀ w ∈ lw_good, w.before args s = true) (hown : s.vm.findClass R_Heads = some m.cls) (hK : va_K (dC, dI) cls_all (gT LH km) s) (hP : va_P (dC, dI) cls_all (gW LH ad km T) H) (hdg : decode cc pc = .ok (.getfield 151, 3)) (kk : W p l e R s m args below meth c H locs cells slots Q (F0 m (pc + 3) ls (.ref (ad 36) :: rest))) : W p l e R s m args below meth c H locs cells slots Q (F0 m pc ls (.ref (ad 2) :: rest)) := gw_get hx hb hT i_Items hown hK hP 2 12 39 (Nat.le_of_ble_eq_true rfl) rfl rfl (Nat.le_of_ble_eq_true rfl) rfl (gv_a rfl) (hT _ fl_Heads_151) (fun _ h9 => h9) hdg kk
end GV
def mt_Types_wordsOf (l : Launch) (dC : Nat → ClassId) (dI : Nat → Nat → Nat) (ea ev ad : Nat → Nat) (km : Nat → ClassId) (F : gF) (d : Nat) : Prop := ∀ (T : gSt) (p1 : Int32) (r : Int32) (rl : Int64) (T' : gSt), F 97 T [p1] [] = some (r, rl, T') → GMi l dC dI LH ad km ea ev y_Types_wordsOf w_Types_wordsOf (rmD d) [.ref (ad 5), .int p1] T r T'
theorem pd_Types_wordsOf : (y_Types_wordsOf).cls = R_Types ∧ (y_Types_wordsOf).cls ≠ "java/lang/invoke/MethodHandle" ∧ (y_Types_wordsOf).cls ≠ "java/lang/invoke/VarHandle" ∧ (parseMethodDescriptor (y_Types_wordsOf).desc).map (fun d => d.parameters.length) = some 1 := by decide +kernel
def mt_Types_toldOne (l : Launch) (dC : Nat → ClassId) (dI : Nat → Nat → Nat) (ea ev ad : Nat → Nat) (km : Nat → ClassId) (F : gF) (d : Nat) : Prop := ∀ (T : gSt) (p1 : Int32) (p2 : Int32) (r : Int32) (rl : Int64) (T' : gSt), F 100 T [p1, p2] [] = some (r, rl, T') → GMi l dC dI LH ad km ea ev y_Types_toldOne w_Types_toldOne (rmD d) [.int p1, .int p2] T r T'
theorem pd_Types_toldOne : (y_Types_toldOne).cls ≠ "java/lang/invoke/MethodHandle" ∧ (y_Types_toldOne).cls ≠ "java/lang/invoke/VarHandle" ∧ (parseMethodDescriptor (y_Types_toldOne).desc).map (fun d => d.parameters.length) = some 2 := by decide +kernel
def mt_Types_told (l : Launch) (dC : Nat → ClassId) (dI : Nat → Nat → Nat) (ea ev ad : Nat → Nat) (km : Nat → ClassId) (F : gF) (d : Nat) : Prop := ∀ (T : gSt) (p1 : Int32) (p2 : Int32) (p3 : Int32) (r : Int32) (rl : Int64) (T' : gSt), F 98 T [p1, p2, p3] [] = some (r, rl, T') → GMi l dC dI LH ad km ea ev y_Types_told w_Types_told (rmD d) [.ref (ad 5), .int p1, .int p2, .int p3] T r T'
theorem pd_Types_told : (y_Types_told).cls = R_Types ∧ (y_Types_told).cls ≠ "java/lang/invoke/MethodHandle" ∧ (y_Types_told).cls ≠ "java/lang/invoke/VarHandle" ∧ (parseMethodDescriptor (y_Types_told).desc).map (fun d => d.parameters.length) = some 3 := by decide +kernel
def mt_Types_toldAll (l : Launch) (dC : Nat → ClassId) (dI : Nat → Nat → Nat) (ea ev ad : Nat → Nat) (km : Nat → ClassId) (F : gF) (d : Nat) : Prop := ∀ (T : gSt) (p1 : Int32) (p2 : Int32) (r : Int32) (rl : Int64) (T' : gSt), F 99 T [p1, p2] [] = some (r, rl, T') → GMi l dC dI LH ad km ea ev y_Types_toldAll w_Types_toldAll (rmD d) [.int p1, .int p2] T r T'
theorem pd_Types_toldAll : (y_Types_toldAll).cls ≠ "java/lang/invoke/MethodHandle" ∧ (y_Types_toldAll).cls ≠ "java/lang/invoke/VarHandle" ∧ (parseMethodDescriptor (y_Types_toldAll).desc).map (fun d => d.parameters.length) = some 2 := by decide +kernel
def mt_Scope_enterHead (l : Launch) (dC : Nat → ClassId) (dI : Nat → Nat → Nat) (ea ev ad : Nat → Nat) (km : Nat → ClassId) (F : gF) (d : Nat) : Prop := ∀ (T : gSt) (p1 : Int32) (r : Int32) (rl : Int64) (T' : gSt), F 101 T [p1] [] = some (r, rl, T') → GMv l dC dI LH ad km ea ev y_Scope_enterHead w_Scope_enterHead (rmD d) [.ref (ad 6), .int p1] T T'
theorem pd_Scope_enterHead : (y_Scope_enterHead).cls = R_Scope ∧ (y_Scope_enterHead).cls ≠ "java/lang/invoke/MethodHandle" ∧ (y_Scope_enterHead).cls ≠ "java/lang/invoke/VarHandle" ∧ (parseMethodDescriptor (y_Scope_enterHead).desc).map (fun d => d.parameters.length) = some 1 := by decide +kernel
def mt_Scope_setLive (l : Launch) (dC : Nat → ClassId) (dI : Nat → Nat → Nat) (ea ev ad : Nat → Nat) (km : Nat → ClassId) (F : gF) (d : Nat) : Prop := ∀ (T : gSt) (p1 : Int32) (p2 : Int32) (r : Int32) (rl : Int64) (T' : gSt), F 108 T [p1, p2] [] = some (r, rl, T') → GMv l dC dI LH ad km ea ev y_Scope_setLive w_Scope_setLive (rmD d) [.ref (ad 6), .int p1, .int p2] T T'
theorem pd_Scope_setLive : (y_Scope_setLive).cls = R_Scope ∧ (y_Scope_setLive).cls ≠ "java/lang/invoke/MethodHandle" ∧ (y_Scope_setLive).cls ≠ "java/lang/invoke/VarHandle" ∧ (parseMethodDescriptor (y_Scope_setLive).desc).map (fun d => d.parameters.length) = some 2 := by decide +kernel
def mt_Scope_addVar (l : Launch) (dC : Nat → ClassId) (dI : Nat → Nat → Nat) (ea ev ad : Nat → Nat) (km : Nat → ClassId) (F : gF) (d : Nat) : Prop := ∀ (T : gSt) (p1 : Int64) (p2 : Int32) (r : Int32) (rl : Int64) (T' : gSt), F 114 T [p2] [p1] = some (r, rl, T') → GMi l dC dI LH ad km ea ev y_Scope_addVar w_Scope_addVar (rmD d) [.ref (ad 6), .long p1, .int p2] T r T'
theorem pd_Scope_addVar : (y_Scope_addVar).cls = R_Scope ∧ (y_Scope_addVar).cls ≠ "java/lang/invoke/MethodHandle" ∧ (y_Scope_addVar).cls ≠ "java/lang/invoke/VarHandle" ∧ (parseMethodDescriptor (y_Scope_addVar).desc).map (fun d => d.parameters.length) = some 2 := by decide +kernel
def mt_Scope_give (l : Launch) (dC : Nat → ClassId) (dI : Nat → Nat → Nat) (ea ev ad : Nat → Nat) (km : Nat → ClassId) (F : gF) (d : Nat) : Prop := ∀ (T : gSt) (p1 : Int32) (p2 : Int32) (r : Int32) (rl : Int64) (T' : gSt), F 121 T [p1, p2] [] = some (r, rl, T') → GMv l dC dI LH ad km ea ev y_Scope_give w_Scope_give (rmD d) [.ref (ad 6), .int p1, .int p2] T T'
theorem pd_Scope_give : (y_Scope_give).cls = R_Scope ∧ (y_Scope_give).cls ≠ "java/lang/invoke/MethodHandle" ∧ (y_Scope_give).cls ≠ "java/lang/invoke/VarHandle" ∧ (parseMethodDescriptor (y_Scope_give).desc).map (fun d => d.parameters.length) = some 2 := by decide +kernel
def mt_Scope_enterFun (l : Launch) (dC : Nat → ClassId) (dI : Nat → Nat → Nat) (ea ev ad : Nat → Nat) (km : Nat → ClassId) (F : gF) (d : Nat) : Prop := ∀ (T : gSt) (p1 : Int32) (r : Int32) (rl : Int64) (T' : gSt), F 102 T [p1] [] = some (r, rl, T') → GMv l dC dI LH ad km ea ev y_Scope_enterFun w_Scope_enterFun (rmD d) [.ref (ad 6), .int p1] T T'
theorem pd_Scope_enterFun : (y_Scope_enterFun).cls = R_Scope ∧ (y_Scope_enterFun).cls ≠ "java/lang/invoke/MethodHandle" ∧ (y_Scope_enterFun).cls ≠ "java/lang/invoke/VarHandle" ∧ (parseMethodDescriptor (y_Scope_enterFun).desc).map (fun d => d.parameters.length) = some 1 := by decide +kernel
def mt_Scope_findRegion (l : Launch) (dC : Nat → ClassId) (dI : Nat → Nat → Nat) (ea ev ad : Nat → Nat) (km : Nat → ClassId) (F : gF) (d : Nat) : Prop := ∀ (T : gSt) (p1 : Int64) (r : Int32) (rl : Int64) (T' : gSt), F 103 T [] [p1] = some (r, rl, T') → GMi l dC dI LH ad km ea ev y_Scope_findRegion w_Scope_findRegion (rmD d) [.ref (ad 6), .long p1] T r T'
theorem pd_Scope_findRegion : (y_Scope_findRegion).cls = R_Scope ∧ (y_Scope_findRegion).cls ≠ "java/lang/invoke/MethodHandle" ∧ (y_Scope_findRegion).cls ≠ "java/lang/invoke/VarHandle" ∧ (parseMethodDescriptor (y_Scope_findRegion).desc).map (fun d => d.parameters.length) = some 1 := by decide +kernel
def mt_Scope_openRegion (l : Launch) (dC : Nat → ClassId) (dI : Nat → Nat → Nat) (ea ev ad : Nat → Nat) (km : Nat → ClassId) (F : gF) (d : Nat) : Prop := ∀ (T : gSt) (p1 : Int64) (r : Int32) (rl : Int64) (T' : gSt), F 104 T [] [p1] = some (r, rl, T') → GMi l dC dI LH ad km ea ev y_Scope_openRegion w_Scope_openRegion (rmD d) [.ref (ad 6), .long p1] T r T'
theorem pd_Scope_openRegion : (y_Scope_openRegion).cls = R_Scope ∧ (y_Scope_openRegion).cls ≠ "java/lang/invoke/MethodHandle" ∧ (y_Scope_openRegion).cls ≠ "java/lang/invoke/VarHandle" ∧ (parseMethodDescriptor (y_Scope_openRegion).desc).map (fun d => d.parameters.length) = some 1 := by decide +kernel
def mt_Scope_leaveRegion (l : Launch) (dC : Nat → ClassId) (dI : Nat → Nat → Nat) (ea ev ad : Nat → Nat) (km : Nat → ClassId) (F : gF) (d : Nat) : Prop := ∀ (T : gSt) (p1 : Int32) (r : Int32) (rl : Int64) (T' : gSt), F 105 T [p1] [] = some (r, rl, T') → GMv l dC dI LH ad km ea ev y_Scope_leaveRegion w_Scope_leaveRegion (rmD d) [.ref (ad 6), .int p1] T T'
theorem pd_Scope_leaveRegion : (y_Scope_leaveRegion).cls = R_Scope ∧ (y_Scope_leaveRegion).cls ≠ "java/lang/invoke/MethodHandle" ∧ (y_Scope_leaveRegion).cls ≠ "java/lang/invoke/VarHandle" ∧ (parseMethodDescriptor (y_Scope_leaveRegion).desc).map (fun d => d.parameters.length) = some 1 := by decide +kernel
def mt_Scope_isLive (l : Launch) (dC : Nat → ClassId) (dI : Nat → Nat → Nat) (ea ev ad : Nat → Nat) (km : Nat → ClassId) (F : gF) (d : Nat) : Prop := ∀ (T : gSt) (p1 : Int32) (r : Int32) (rl : Int64) (T' : gSt), F 107 T [p1] [] = some (r, rl, T') → GMi l dC dI LH ad km ea ev y_Scope_isLive w_Scope_isLive (rmD d) [.ref (ad 6), .int p1] T r T'
theorem pd_Scope_isLive : (y_Scope_isLive).cls = R_Scope ∧ (y_Scope_isLive).cls ≠ "java/lang/invoke/MethodHandle" ∧ (y_Scope_isLive).cls ≠ "java/lang/invoke/VarHandle" ∧ (parseMethodDescriptor (y_Scope_isLive).desc).map (fun d => d.parameters.length) = some 1 := by decide +kernel
def mt_Scope_mayClose (l : Launch) (dC : Nat → ClassId) (dI : Nat → Nat → Nat) (ea ev ad : Nat → Nat) (km : Nat → ClassId) (F : gF) (d : Nat) : Prop := ∀ (T : gSt) (p1 : Int32) (r : Int32) (rl : Int64) (T' : gSt), F 106 T [p1] [] = some (r, rl, T') → GMi l dC dI LH ad km ea ev y_Scope_mayClose w_Scope_mayClose (rmD d) [.ref (ad 6), .int p1] T r T'
theorem pd_Scope_mayClose : (y_Scope_mayClose).cls = R_Scope ∧ (y_Scope_mayClose).cls ≠ "java/lang/invoke/MethodHandle" ∧ (y_Scope_mayClose).cls ≠ "java/lang/invoke/VarHandle" ∧ (parseMethodDescriptor (y_Scope_mayClose).desc).map (fun d => d.parameters.length) = some 1 := by decide +kernel
def mt_Scope_aboveBit (l : Launch) (dC : Nat → ClassId) (dI : Nat → Nat → Nat) (ea ev ad : Nat → Nat) (km : Nat → ClassId) (F : gF) (d : Nat) : Prop := ∀ (T : gSt) (p1 : Int32) (p2 : Int32) (r : Int32) (rl : Int64) (T' : gSt), F 110 T [p1, p2] [] = some (r, rl, T') → GMi l dC dI LH ad km ea ev y_Scope_aboveBit w_Scope_aboveBit (rmD d) [.int p1, .int p2] T r T'
theorem pd_Scope_aboveBit : (y_Scope_aboveBit).cls ≠ "java/lang/invoke/MethodHandle" ∧ (y_Scope_aboveBit).cls ≠ "java/lang/invoke/VarHandle" ∧ (parseMethodDescriptor (y_Scope_aboveBit).desc).map (fun d => d.parameters.length) = some 2 := by decide +kernel
def mt_Scope_outlives (l : Launch) (dC : Nat → ClassId) (dI : Nat → Nat → Nat) (ea ev ad : Nat → Nat) (km : Nat → ClassId) (F : gF) (d : Nat) : Prop := ∀ (T : gSt) (p1 : Int32) (p2 : Int32) (r : Int32) (rl : Int64) (T' : gSt), F 109 T [p1, p2] [] = some (r, rl, T') → GMi l dC dI LH ad km ea ev y_Scope_outlives w_Scope_outlives (rmD d) [.ref (ad 6), .int p1, .int p2] T r T'
theorem pd_Scope_outlives : (y_Scope_outlives).cls = R_Scope ∧ (y_Scope_outlives).cls ≠ "java/lang/invoke/MethodHandle" ∧ (y_Scope_outlives).cls ≠ "java/lang/invoke/VarHandle" ∧ (parseMethodDescriptor (y_Scope_outlives).desc).map (fun d => d.parameters.length) = some 2 := by decide +kernel
def mt_Scope_varsSeen (l : Launch) (dC : Nat → ClassId) (dI : Nat → Nat → Nat) (ea ev ad : Nat → Nat) (km : Nat → ClassId) (F : gF) (d : Nat) : Prop := ∀ (T : gSt)  (r : Int32) (rl : Int64) (T' : gSt), F 111 T [] [] = some (r, rl, T') → GMi l dC dI LH ad km ea ev y_Scope_varsSeen w_Scope_varsSeen (rmD d) [.ref (ad 6)] T r T'
theorem pd_Scope_varsSeen : (y_Scope_varsSeen).cls = R_Scope ∧ (y_Scope_varsSeen).cls ≠ "java/lang/invoke/MethodHandle" ∧ (y_Scope_varsSeen).cls ≠ "java/lang/invoke/VarHandle" ∧ (parseMethodDescriptor (y_Scope_varsSeen).desc).map (fun d => d.parameters.length) = some 0 := by decide +kernel
def mt_Scope_forgetVars (l : Launch) (dC : Nat → ClassId) (dI : Nat → Nat → Nat) (ea ev ad : Nat → Nat) (km : Nat → ClassId) (F : gF) (d : Nat) : Prop := ∀ (T : gSt) (p1 : Int32) (r : Int32) (rl : Int64) (T' : gSt), F 112 T [p1] [] = some (r, rl, T') → GMv l dC dI LH ad km ea ev y_Scope_forgetVars w_Scope_forgetVars (rmD d) [.ref (ad 6), .int p1] T T'
theorem pd_Scope_forgetVars : (y_Scope_forgetVars).cls = R_Scope ∧ (y_Scope_forgetVars).cls ≠ "java/lang/invoke/MethodHandle" ∧ (y_Scope_forgetVars).cls ≠ "java/lang/invoke/VarHandle" ∧ (parseMethodDescriptor (y_Scope_forgetVars).desc).map (fun d => d.parameters.length) = some 1 := by decide +kernel
def mt_Scope_findVar (l : Launch) (dC : Nat → ClassId) (dI : Nat → Nat → Nat) (ea ev ad : Nat → Nat) (km : Nat → ClassId) (F : gF) (d : Nat) : Prop := ∀ (T : gSt) (p1 : Int64) (r : Int32) (rl : Int64) (T' : gSt), F 113 T [] [p1] = some (r, rl, T') → GMi l dC dI LH ad km ea ev y_Scope_findVar w_Scope_findVar (rmD d) [.ref (ad 6), .long p1] T r T'
theorem pd_Scope_findVar : (y_Scope_findVar).cls = R_Scope ∧ (y_Scope_findVar).cls ≠ "java/lang/invoke/MethodHandle" ∧ (y_Scope_findVar).cls ≠ "java/lang/invoke/VarHandle" ∧ (parseMethodDescriptor (y_Scope_findVar).desc).map (fun d => d.parameters.length) = some 1 := by decide +kernel
def mt_Scope_forgetKnown (l : Launch) (dC : Nat → ClassId) (dI : Nat → Nat → Nat) (ea ev ad : Nat → Nat) (km : Nat → ClassId) (F : gF) (d : Nat) : Prop := ∀ (T : gSt) (p1 : Int32) (r : Int32) (rl : Int64) (T' : gSt), F 123 T [p1] [] = some (r, rl, T') → GMv l dC dI LH ad km ea ev y_Scope_forgetKnown w_Scope_forgetKnown (rmD d) [.ref (ad 6), .int p1] T T'
theorem pd_Scope_forgetKnown : (y_Scope_forgetKnown).cls = R_Scope ∧ (y_Scope_forgetKnown).cls ≠ "java/lang/invoke/MethodHandle" ∧ (y_Scope_forgetKnown).cls ≠ "java/lang/invoke/VarHandle" ∧ (parseMethodDescriptor (y_Scope_forgetKnown).desc).map (fun d => d.parameters.length) = some 1 := by decide +kernel
def mt_Scope_typeOf (l : Launch) (dC : Nat → ClassId) (dI : Nat → Nat → Nat) (ea ev ad : Nat → Nat) (km : Nat → ClassId) (F : gF) (d : Nat) : Prop := ∀ (T : gSt) (p1 : Int32) (r : Int32) (rl : Int64) (T' : gSt), F 115 T [p1] [] = some (r, rl, T') → GMi l dC dI LH ad km ea ev y_Scope_typeOf w_Scope_typeOf (rmD d) [.ref (ad 6), .int p1] T r T'
theorem pd_Scope_typeOf : (y_Scope_typeOf).cls = R_Scope ∧ (y_Scope_typeOf).cls ≠ "java/lang/invoke/MethodHandle" ∧ (y_Scope_typeOf).cls ≠ "java/lang/invoke/VarHandle" ∧ (parseMethodDescriptor (y_Scope_typeOf).desc).map (fun d => d.parameters.length) = some 1 := by decide +kernel
def mt_Scope_slotOf (l : Launch) (dC : Nat → ClassId) (dI : Nat → Nat → Nat) (ea ev ad : Nat → Nat) (km : Nat → ClassId) (F : gF) (d : Nat) : Prop := ∀ (T : gSt) (p1 : Int32) (r : Int32) (rl : Int64) (T' : gSt), F 116 T [p1] [] = some (r, rl, T') → GMi l dC dI LH ad km ea ev y_Scope_slotOf w_Scope_slotOf (rmD d) [.ref (ad 6), .int p1] T r T'
theorem pd_Scope_slotOf : (y_Scope_slotOf).cls = R_Scope ∧ (y_Scope_slotOf).cls ≠ "java/lang/invoke/MethodHandle" ∧ (y_Scope_slotOf).cls ≠ "java/lang/invoke/VarHandle" ∧ (parseMethodDescriptor (y_Scope_slotOf).desc).map (fun d => d.parameters.length) = some 1 := by decide +kernel
def mt_Scope_isReached (l : Launch) (dC : Nat → ClassId) (dI : Nat → Nat → Nat) (ea ev ad : Nat → Nat) (km : Nat → ClassId) (F : gF) (d : Nat) : Prop := ∀ (T : gSt)  (r : Int32) (rl : Int64) (T' : gSt), F 117 T [] [] = some (r, rl, T') → GMi l dC dI LH ad km ea ev y_Scope_isReached w_Scope_isReached (rmD d) [.ref (ad 6)] T r T'
theorem pd_Scope_isReached : (y_Scope_isReached).cls = R_Scope ∧ (y_Scope_isReached).cls ≠ "java/lang/invoke/MethodHandle" ∧ (y_Scope_isReached).cls ≠ "java/lang/invoke/VarHandle" ∧ (parseMethodDescriptor (y_Scope_isReached).desc).map (fun d => d.parameters.length) = some 0 := by decide +kernel
def mt_Scope_leave (l : Launch) (dC : Nat → ClassId) (dI : Nat → Nat → Nat) (ea ev ad : Nat → Nat) (km : Nat → ClassId) (F : gF) (d : Nat) : Prop := ∀ (T : gSt)  (r : Int32) (rl : Int64) (T' : gSt), F 118 T [] [] = some (r, rl, T') → GMv l dC dI LH ad km ea ev y_Scope_leave w_Scope_leave (rmD d) [.ref (ad 6)] T T'
theorem pd_Scope_leave : (y_Scope_leave).cls = R_Scope ∧ (y_Scope_leave).cls ≠ "java/lang/invoke/MethodHandle" ∧ (y_Scope_leave).cls ≠ "java/lang/invoke/VarHandle" ∧ (parseMethodDescriptor (y_Scope_leave).desc).map (fun d => d.parameters.length) = some 0 := by decide +kernel
def mt_Scope_isSet (l : Launch) (dC : Nat → ClassId) (dI : Nat → Nat → Nat) (ea ev ad : Nat → Nat) (km : Nat → ClassId) (F : gF) (d : Nat) : Prop := ∀ (T : gSt) (p1 : Int32) (r : Int32) (rl : Int64) (T' : gSt), F 119 T [p1] [] = some (r, rl, T') → GMi l dC dI LH ad km ea ev y_Scope_isSet w_Scope_isSet (rmD d) [.ref (ad 6), .int p1] T r T'
theorem pd_Scope_isSet : (y_Scope_isSet).cls = R_Scope ∧ (y_Scope_isSet).cls ≠ "java/lang/invoke/MethodHandle" ∧ (y_Scope_isSet).cls ≠ "java/lang/invoke/VarHandle" ∧ (parseMethodDescriptor (y_Scope_isSet).desc).map (fun d => d.parameters.length) = some 1 := by decide +kernel
def mt_Scope_isKnown (l : Launch) (dC : Nat → ClassId) (dI : Nat → Nat → Nat) (ea ev ad : Nat → Nat) (km : Nat → ClassId) (F : gF) (d : Nat) : Prop := ∀ (T : gSt) (p1 : Int32) (r : Int32) (rl : Int64) (T' : gSt), F 120 T [p1] [] = some (r, rl, T') → GMi l dC dI LH ad km ea ev y_Scope_isKnown w_Scope_isKnown (rmD d) [.ref (ad 6), .int p1] T r T'
theorem pd_Scope_isKnown : (y_Scope_isKnown).cls = R_Scope ∧ (y_Scope_isKnown).cls ≠ "java/lang/invoke/MethodHandle" ∧ (y_Scope_isKnown).cls ≠ "java/lang/invoke/VarHandle" ∧ (parseMethodDescriptor (y_Scope_isKnown).desc).map (fun d => d.parameters.length) = some 1 := by decide +kernel
def mt_Scope_know (l : Launch) (dC : Nat → ClassId) (dI : Nat → Nat → Nat) (ea ev ad : Nat → Nat) (km : Nat → ClassId) (F : gF) (d : Nat) : Prop := ∀ (T : gSt) (p1 : Int32) (r : Int32) (rl : Int64) (T' : gSt), F 122 T [p1] [] = some (r, rl, T') → GMv l dC dI LH ad km ea ev y_Scope_know w_Scope_know (rmD d) [.ref (ad 6), .int p1] T T'
theorem pd_Scope_know : (y_Scope_know).cls = R_Scope ∧ (y_Scope_know).cls ≠ "java/lang/invoke/MethodHandle" ∧ (y_Scope_know).cls ≠ "java/lang/invoke/VarHandle" ∧ (parseMethodDescriptor (y_Scope_know).desc).map (fun d => d.parameters.length) = some 1 := by decide +kernel
def mt_Scope_sameLive (l : Launch) (dC : Nat → ClassId) (dI : Nat → Nat → Nat) (ea ev ad : Nat → Nat) (km : Nat → ClassId) (F : gF) (d : Nat) : Prop := ∀ (T : gSt) (p1 : Int64) (p2 : Int64) (r : Int32) (rl : Int64) (T' : gSt), F 124 T [] [p1, p2] = some (r, rl, T') → GMi l dC dI LH ad km ea ev y_Scope_sameLive w_Scope_sameLive (rmD d) [.long p1, .long p2] T r T'
theorem pd_Scope_sameLive : (y_Scope_sameLive).cls ≠ "java/lang/invoke/MethodHandle" ∧ (y_Scope_sameLive).cls ≠ "java/lang/invoke/VarHandle" ∧ (parseMethodDescriptor (y_Scope_sameLive).desc).map (fun d => d.parameters.length) = some 2 := by decide +kernel
def mt_Scope_meet (l : Launch) (dC : Nat → ClassId) (dI : Nat → Nat → Nat) (ea ev ad : Nat → Nat) (km : Nat → ClassId) (F : gF) (d : Nat) : Prop := ∀ (T : gSt) (p1 : Int64) (p2 : Int64) (r : Int32) (rl : Int64) (T' : gSt), F 125 T [] [p1, p2] = some (r, rl, T') → GMi l dC dI LH ad km ea ev y_Scope_meet w_Scope_meet (rmD d) [.ref (ad 6), .long p1, .long p2] T r T'
theorem pd_Scope_meet : (y_Scope_meet).cls = R_Scope ∧ (y_Scope_meet).cls ≠ "java/lang/invoke/MethodHandle" ∧ (y_Scope_meet).cls ≠ "java/lang/invoke/VarHandle" ∧ (parseMethodDescriptor (y_Scope_meet).desc).map (fun d => d.parameters.length) = some 2 := by decide +kernel
def mt_Heads_mainName (l : Launch) (dC : Nat → ClassId) (dI : Nat → Nat → Nat) (ea ev ad : Nat → Nat) (km : Nat → ClassId) (F : gF) (d : Nat) : Prop := ∀ (T : gSt)  (r : Int32) (rl : Int64) (T' : gSt), F 127 T [] [] = some (r, rl, T') → GMl l dC dI LH ad km ea ev y_Heads_mainName w_Heads_mainName (rmD d) [] T rl T'
theorem pd_Heads_mainName : (y_Heads_mainName).cls ≠ "java/lang/invoke/MethodHandle" ∧ (y_Heads_mainName).cls ≠ "java/lang/invoke/VarHandle" ∧ (parseMethodDescriptor (y_Heads_mainName).desc).map (fun d => d.parameters.length) = some 0 := by decide +kernel
def mt_Heads_checkHead (l : Launch) (dC : Nat → ClassId) (dI : Nat → Nat → Nat) (ea ev ad : Nat → Nat) (km : Nat → ClassId) (F : gF) (d : Nat) : Prop := ∀ (T : gSt) (p1 : Int32) (r : Int32) (rl : Int64) (T' : gSt), F 128 T [p1] [] = some (r, rl, T') → GMv l dC dI LH ad km ea ev y_Heads_checkHead w_Heads_checkHead (rmD d) [.ref (ad 7), .int p1] T T'
theorem pd_Heads_checkHead : (y_Heads_checkHead).cls = R_Heads ∧ (y_Heads_checkHead).cls ≠ "java/lang/invoke/MethodHandle" ∧ (y_Heads_checkHead).cls ≠ "java/lang/invoke/VarHandle" ∧ (parseMethodDescriptor (y_Heads_checkHead).desc).map (fun d => d.parameters.length) = some 1 := by decide +kernel
def mt_Heads_checkParts (l : Launch) (dC : Nat → ClassId) (dI : Nat → Nat → Nat) (ea ev ad : Nat → Nat) (km : Nat → ClassId) (F : gF) (d : Nat) : Prop := ∀ (T : gSt) (p1 : Int32) (r : Int32) (rl : Int64) (T' : gSt), F 129 T [p1] [] = some (r, rl, T') → GMv l dC dI LH ad km ea ev y_Heads_checkParts w_Heads_checkParts (rmD d) [.ref (ad 7), .int p1] T T'
theorem pd_Heads_checkParts : (y_Heads_checkParts).cls = R_Heads ∧ (y_Heads_checkParts).cls ≠ "java/lang/invoke/MethodHandle" ∧ (y_Heads_checkParts).cls ≠ "java/lang/invoke/VarHandle" ∧ (parseMethodDescriptor (y_Heads_checkParts).desc).map (fun d => d.parameters.length) = some 1 := by decide +kernel
def mt_Heads_readType (l : Launch) (dC : Nat → ClassId) (dI : Nat → Nat → Nat) (ea ev ad : Nat → Nat) (km : Nat → ClassId) (F : gF) (d : Nat) : Prop := ∀ (T : gSt) (p1 : Int32) (p2 : Int32) (r : Int32) (rl : Int64) (T' : gSt), F 137 T [p1, p2] [] = some (r, rl, T') → GMi l dC dI LH ad km ea ev y_Heads_readType w_Heads_readType (rmD d) [.ref (ad 7), .int p1, .int p2] T r T'
theorem pd_Heads_readType : (y_Heads_readType).cls = R_Heads ∧ (y_Heads_readType).cls ≠ "java/lang/invoke/MethodHandle" ∧ (y_Heads_readType).cls ≠ "java/lang/invoke/VarHandle" ∧ (parseMethodDescriptor (y_Heads_readType).desc).map (fun d => d.parameters.length) = some 2 := by decide +kernel
def mt_Heads_readDead (l : Launch) (dC : Nat → ClassId) (dI : Nat → Nat → Nat) (ea ev ad : Nat → Nat) (km : Nat → ClassId) (F : gF) (d : Nat) : Prop := ∀ (T : gSt) (p1 : Int32) (r : Int32) (rl : Int64) (T' : gSt), F 131 T [p1] [] = some (r, rl, T') → GMv l dC dI LH ad km ea ev y_Heads_readDead w_Heads_readDead (rmD d) [.ref (ad 7), .int p1] T T'
theorem pd_Heads_readDead : (y_Heads_readDead).cls = R_Heads ∧ (y_Heads_readDead).cls ≠ "java/lang/invoke/MethodHandle" ∧ (y_Heads_readDead).cls ≠ "java/lang/invoke/VarHandle" ∧ (parseMethodDescriptor (y_Heads_readDead).desc).map (fun d => d.parameters.length) = some 1 := by decide +kernel
def mt_Heads_readWhere (l : Launch) (dC : Nat → ClassId) (dI : Nat → Nat → Nat) (ea ev ad : Nat → Nat) (km : Nat → ClassId) (F : gF) (d : Nat) : Prop := ∀ (T : gSt) (p1 : Int32) (r : Int32) (rl : Int64) (T' : gSt), F 132 T [p1] [] = some (r, rl, T') → GMv l dC dI LH ad km ea ev y_Heads_readWhere w_Heads_readWhere (rmD d) [.ref (ad 7), .int p1] T T'
theorem pd_Heads_readWhere : (y_Heads_readWhere).cls = R_Heads ∧ (y_Heads_readWhere).cls ≠ "java/lang/invoke/MethodHandle" ∧ (y_Heads_readWhere).cls ≠ "java/lang/invoke/VarHandle" ∧ (parseMethodDescriptor (y_Heads_readWhere).desc).map (fun d => d.parameters.length) = some 1 := by decide +kernel
def mt_Heads_findPart (l : Launch) (dC : Nat → ClassId) (dI : Nat → Nat → Nat) (ea ev ad : Nat → Nat) (km : Nat → ClassId) (F : gF) (d : Nat) : Prop := ∀ (T : gSt) (p1 : Int32) (p2 : Int64) (r : Int32) (rl : Int64) (T' : gSt), F 130 T [p1] [p2] = some (r, rl, T') → GMi l dC dI LH ad km ea ev y_Heads_findPart w_Heads_findPart (rmD d) [.ref (ad 7), .int p1, .long p2] T r T'
theorem pd_Heads_findPart : (y_Heads_findPart).cls = R_Heads ∧ (y_Heads_findPart).cls ≠ "java/lang/invoke/MethodHandle" ∧ (y_Heads_findPart).cls ≠ "java/lang/invoke/VarHandle" ∧ (parseMethodDescriptor (y_Heads_findPart).desc).map (fun d => d.parameters.length) = some 2 := by decide +kernel
def mt_Heads_ownRegion (l : Launch) (dC : Nat → ClassId) (dI : Nat → Nat → Nat) (ea ev ad : Nat → Nat) (km : Nat → ClassId) (F : gF) (d : Nat) : Prop := ∀ (T : gSt) (p1 : Int32) (r : Int32) (rl : Int64) (T' : gSt), F 134 T [p1] [] = some (r, rl, T') → GMi l dC dI LH ad km ea ev y_Heads_ownRegion w_Heads_ownRegion (rmD d) [.ref (ad 7), .int p1] T r T'
theorem pd_Heads_ownRegion : (y_Heads_ownRegion).cls = R_Heads ∧ (y_Heads_ownRegion).cls ≠ "java/lang/invoke/MethodHandle" ∧ (y_Heads_ownRegion).cls ≠ "java/lang/invoke/VarHandle" ∧ (parseMethodDescriptor (y_Heads_ownRegion).desc).map (fun d => d.parameters.length) = some 1 := by decide +kernel
set_option maxHeartbeats 4000000 in
set_option maxRecDepth 100000 in
theorem sp_Types_isPointed (l : Launch) (dC : Nat → ClassId) (dI : Nat → Nat → Nat) (ea ev ad : Nat → Nat) (km : Nat → ClassId) (F : gF) (nf d : Nat) (h_Types_keyOf : mt_Types_keyOf l dC dI ea ev ad km F d) (T0 : gSt) (p1 : Int32) (r0 : Int32) (rl0 : Int64) (T9 : gSt) (hR : rb_Types_isPointed F nf T0 p1 = some (r0, rl0, T9)) : GMi l dC dI LH ad km ea ev y_Types_isPointed w_Types_isPointed (rmD (d + 1)) [.ref (ad 5), .int p1] T0 r0 T9 := by
  intro sz
  refine Met.ofW (cc := b_Types_isPointed) (maxL := 3) (ret := (some .boolean)) (by decide) rfl ?_
  intro p e s m args below meth c s₁ B hml hv
  obtain ⟨rfl, hsz, hP, hK, hD0, hnw, henv⟩ := hv
  have hx := B.exec
  have hb := B.bytes
  have hr := B.returns
  have hT : ∀ w ∈ lw_good, w.before _ s = true := fun w h => atoms_spec (ws := w_Types_isPointed) B.pre w (List.mem_cons_of_mem _ h)
  have hown : s.vm.findClass R_Types = some m.cls := findClass_of_methodNamed B.named
  subst hsz
  have hD := hD0.self (sz := s.heap.size)
  clear hD0
  generalize hAe : va_A (gW LH ad km T0) s.heap.size = A at hD henv ⊢
  have hA : ∀ q : Nat, s.heap.size ≤ q → A q := fun q h => by rw [← hAe]; exact Or.inr h
  have hS : va_S A s.heap s.heap [] := va_S.rf
  have hl := lv_entry ([.ref (ad 5), .int p1]) (n := 3) (Nat.le_of_ble_eq_true rfl)
  rw [lg_entry_eq]
  generalize (lg_sl ([.ref (ad 5), .int p1]) ++ List.replicate (3 - (lg_sl ([.ref (ad 5), .int p1])).length) Slot.unset).toArray = ls at hl ⊢
  have hl : lv_has ls 3 [(0, .ref (ad 5)), (1, .int p1)] := hl
  unfold rb_Types_isPointed at hR
  refine lv_aload_n hx hb d_Types_isPointed_0 rfl (lv_at hl 0 rfl) ?_
  refine lv_iload_n hx hb d_Types_isPointed_1 rfl (lv_at hl 1 rfl) ?_
  replace hR := bi_e hR
  obtain ⟨r1, l1, T1, hc1, hR⟩ := hR
  refine gcV_i (rest := []) ⟨hx, hb, hml, hown, hT⟩ (h_Types_keyOf _ _ _ _ _ hc1) (cwV 1 hT (gV ml_Types_26 im_Types_keyOf se_Types_keyOf ini_Types co_Types_keyOf) rfl rfl rfl pd_Types_keyOf ⟨rm_hi, rm_lo (Nat.le_of_ble_eq_true rfl)⟩) hK hP hD hS hA hnw henv (Nat.le_of_ble_eq_true rfl) rfl rfl hl.1 rfl (Nat.le_of_ble_eq_true rfl) d_Types_isPointed_2 ⟨Nat.le_refl _, Nat.le_refl _⟩ (fun H locs hP hD hS => ?_)
  clear hc1
  refine lv_bipush (v := 7) hx hb d_Types_isPointed_5 (by decide) ?_
  refine lv_iand hx hb d_Types_isPointed_7 ?_
  refine lv_topi (fun z2 e2 => ?_)
  replace hR := vK_e e2 hR
  refine lv_istore_n (lv' := [(2, .int z2), (0, .ref (ad 5)), (1, .int p1)]) hx hb d_Types_isPointed_8 rfl hl (by decide) rfl (fun ls hl => ?_)
  refine lv_iload_n hx hb d_Types_isPointed_9 rfl (lv_at hl 0 rfl) ?_
  refine lv_iconst (v := 3) hx hb d_Types_isPointed_10 (by decide) ?_
  refine lv_icmp_eq (tgt := 19) hx hb d_Types_isPointed_11 (by decide) (fun c3 => ?_) (fun c3 => ?_)
  · replace hR := if_p c3 hR
    refine lv_iconst (v := 1) hx hb d_Types_isPointed_19 (by decide) ?_
    refine lv_goto (tgt := 24) hx hb d_Types_isPointed_20 (by decide) ?_
    obtain ⟨e1, -, e3⟩ := re_e hR
    subst e1; subst e3
    exact W.zret (v := (1 : Int32)) hx hb hr (by first | rfl | decide) (fun t ht hW => ⟨⟨(1 : Int32), (), rfl, rfl, by rw [ht]; exact hP, va_K.moved hW.alike hK, hD⟩, hS.F ht⟩) hS.2.2 d_Types_isPointed_24
  · replace hR := if_n c3 hR
    refine lv_iload_n hx hb d_Types_isPointed_14 rfl (lv_at hl 0 rfl) ?_
    refine lv_iconst (v := 4) hx hb d_Types_isPointed_15 (by decide) ?_
    refine lv_icmp_ne (tgt := 23) hx hb d_Types_isPointed_16 (by decide) (fun c5 => ?_) (fun c5 => ?_)
    · replace hR := if_n c5 hR
      refine lv_iconst (v := 0) hx hb d_Types_isPointed_23 (by decide) ?_
      obtain ⟨e1, -, e3⟩ := re_e hR
      subst e1; subst e3
      exact W.zret (v := (0 : Int32)) hx hb hr (by first | rfl | decide) (fun t ht hW => ⟨⟨(0 : Int32), (), rfl, rfl, by rw [ht]; exact hP, va_K.moved hW.alike hK, hD⟩, hS.F ht⟩) hS.2.2 d_Types_isPointed_24
    · replace hR := if_p c5 hR
      refine lv_iconst (v := 1) hx hb d_Types_isPointed_19 (by decide) ?_
      refine lv_goto (tgt := 24) hx hb d_Types_isPointed_20 (by decide) ?_
      obtain ⟨e1, -, e3⟩ := re_e hR
      subst e1; subst e3
      exact W.zret (v := (1 : Int32)) hx hb hr (by first | rfl | decide) (fun t ht hW => ⟨⟨(1 : Int32), (), rfl, rfl, by rw [ht]; exact hP, va_K.moved hW.alike hK, hD⟩, hS.F ht⟩) hS.2.2 d_Types_isPointed_24
set_option maxHeartbeats 4000000 in
set_option maxRecDepth 100000 in
theorem sp_Types_wordsOf (l : Launch) (dC : Nat → ClassId) (dI : Nat → Nat → Nat) (ea ev ad : Nat → Nat) (km : Nat → ClassId) (F : gF) (nf d : Nat) (h_Types_keyOf : mt_Types_keyOf l dC dI ea ev ad km F d) (T0 : gSt) (p1 : Int32) (r0 : Int32) (rl0 : Int64) (T9 : gSt) (hR : rb_Types_wordsOf F nf T0 p1 = some (r0, rl0, T9)) : GMi l dC dI LH ad km ea ev y_Types_wordsOf w_Types_wordsOf (rmD (d + 1)) [.ref (ad 5), .int p1] T0 r0 T9 := by
  intro sz
  refine Met.ofW (cc := b_Types_wordsOf) (maxL := 2) (ret := (some .int)) (by decide) rfl ?_
  intro p e s m args below meth c s₁ B hml hv
  obtain ⟨rfl, hsz, hP, hK, hD0, hnw, henv⟩ := hv
  have hx := B.exec
  have hb := B.bytes
  have hr := B.returns
  have hT : ∀ w ∈ lw_good, w.before _ s = true := fun w h => atoms_spec (ws := w_Types_wordsOf) B.pre w (List.mem_cons_of_mem _ h)
  have hown : s.vm.findClass R_Types = some m.cls := findClass_of_methodNamed B.named
  subst hsz
  have hD := hD0.self (sz := s.heap.size)
  clear hD0
  generalize hAe : va_A (gW LH ad km T0) s.heap.size = A at hD henv ⊢
  have hA : ∀ q : Nat, s.heap.size ≤ q → A q := fun q h => by rw [← hAe]; exact Or.inr h
  have hS : va_S A s.heap s.heap [] := va_S.rf
  have hl := lv_entry ([.ref (ad 5), .int p1]) (n := 2) (Nat.le_of_ble_eq_true rfl)
  rw [lg_entry_eq]
  generalize (lg_sl ([.ref (ad 5), .int p1]) ++ List.replicate (2 - (lg_sl ([.ref (ad 5), .int p1])).length) Slot.unset).toArray = ls at hl ⊢
  have hl : lv_has ls 2 [(0, .ref (ad 5)), (1, .int p1)] := hl
  unfold rb_Types_wordsOf at hR
  refine lv_iload_n hx hb d_Types_wordsOf_0 rfl (lv_at hl 1 rfl) ?_
  refine lv_if_ne (tgt := 8) hx hb d_Types_wordsOf_1 (by decide) (fun c1 => ?_) (fun c1 => ?_)
  · replace hR := if_n c1 hR
    refine lv_aload_n hx hb d_Types_wordsOf_8 rfl (lv_at hl 0 rfl) ?_
    refine lv_iload_n hx hb d_Types_wordsOf_9 rfl (lv_at hl 1 rfl) ?_
    replace hR := bi_e hR
    obtain ⟨r2, l2, T2, hc2, hR⟩ := hR
    refine gcV_i (rest := []) ⟨hx, hb, hml, hown, hT⟩ (h_Types_keyOf _ _ _ _ _ hc2) (cwV 1 hT (gV ml_Types_26 im_Types_keyOf se_Types_keyOf ini_Types co_Types_keyOf) rfl rfl rfl pd_Types_keyOf ⟨rm_hi, rm_lo (Nat.le_of_ble_eq_true rfl)⟩) hK hP hD hS hA hnw henv (Nat.le_of_ble_eq_true rfl) rfl rfl hl.1 rfl (Nat.le_of_ble_eq_true rfl) d_Types_wordsOf_10 ⟨Nat.le_refl _, Nat.le_refl _⟩ (fun H locs hP hD hS => ?_)
    clear hc2
    refine lv_bipush (v := 7) hx hb d_Types_wordsOf_13 (by decide) ?_
    refine lv_iand hx hb d_Types_wordsOf_15 ?_
    refine lv_iconst (v := 5) hx hb d_Types_wordsOf_16 (by decide) ?_
    refine lv_icmp_ne (tgt := 24) hx hb d_Types_wordsOf_17 (by decide) (fun c3 => ?_) (fun c3 => ?_)
    · replace hR := if_n c3 hR
      refine lv_iconst (v := 1) hx hb d_Types_wordsOf_24 (by decide) ?_
      obtain ⟨e1, -, e3⟩ := re_e hR
      subst e1; subst e3
      exact W.iret (v := (1 : Int32)) hx hb hr (fun t ht hW => ⟨⟨(1 : Int32), (), rfl, rfl, by rw [ht]; exact hP, va_K.moved hW.alike hK, hD⟩, hS.F ht⟩) hS.2.2 d_Types_wordsOf_25
    · replace hR := if_p c3 hR
      refine lv_iconst (v := 3) hx hb d_Types_wordsOf_20 (by decide) ?_
      refine lv_goto (tgt := 25) hx hb d_Types_wordsOf_21 (by decide) ?_
      obtain ⟨e1, -, e3⟩ := re_e hR
      subst e1; subst e3
      exact W.iret (v := (3 : Int32)) hx hb hr (fun t ht hW => ⟨⟨(3 : Int32), (), rfl, rfl, by rw [ht]; exact hP, va_K.moved hW.alike hK, hD⟩, hS.F ht⟩) hS.2.2 d_Types_wordsOf_25
  · replace hR := if_p c1 hR
    refine lv_iconst (v := 0) hx hb d_Types_wordsOf_4 (by decide) ?_
    refine lv_goto (tgt := 25) hx hb d_Types_wordsOf_5 (by decide) ?_
    obtain ⟨e1, -, e3⟩ := re_e hR
    subst e1; subst e3
    exact W.iret (v := (0 : Int32)) hx hb hr (fun t ht hW => ⟨⟨(0 : Int32), (), rfl, rfl, by rw [ht]; exact hP, va_K.moved hW.alike hK, hD⟩, hS.F ht⟩) hS.2.2 d_Types_wordsOf_25
set_option maxHeartbeats 4000000 in
set_option maxRecDepth 100000 in
theorem sp_Types_told (l : Launch) (dC : Nat → ClassId) (dI : Nat → Nat → Nat) (ea ev ad : Nat → Nat) (km : Nat → ClassId) (F : gF) (nf d : Nat) (h_Types_kindOf : mt_Types_kindOf l dC dI ea ev ad km F d) (h_Types_regionOf : mt_Types_regionOf l dC dI ea ev ad km F d) (h_Types_toldOne : mt_Types_toldOne l dC dI ea ev ad km F d) (h_Types_behind : mt_Types_behind l dC dI ea ev ad km F d) (h_Types_told : mt_Types_told l dC dI ea ev ad km F d) (h_Types_pointer : mt_Types_pointer l dC dI ea ev ad km F d) (h_Types_keyOf : mt_Types_keyOf l dC dI ea ev ad km F d) (h_Types_toldAll : mt_Types_toldAll l dC dI ea ev ad km F d) (h_Types_thing : mt_Types_thing l dC dI ea ev ad km F d) (T0 : gSt) (p1 : Int32) (p2 : Int32) (p3 : Int32) (r0 : Int32) (rl0 : Int64) (T9 : gSt) (hR : rb_Types_told F nf T0 p1 p2 p3 = some (r0, rl0, T9)) : GMi l dC dI LH ad km ea ev y_Types_told w_Types_told (rmD (d + 1)) [.ref (ad 5), .int p1, .int p2, .int p3] T0 r0 T9 := by
  intro sz
  refine Met.ofW (cc := b_Types_told) (maxL := 6) (ret := (some .int)) (by decide) rfl ?_
  intro p e s m args below meth c s₁ B hml hv
  obtain ⟨rfl, hsz, hP, hK, hD0, hnw, henv⟩ := hv
  have hx := B.exec
  have hb := B.bytes
  have hr := B.returns
  have hT : ∀ w ∈ lw_good, w.before _ s = true := fun w h => atoms_spec (ws := w_Types_told) B.pre w (List.mem_cons_of_mem _ h)
  have hown : s.vm.findClass R_Types = some m.cls := findClass_of_methodNamed B.named
  subst hsz
  have hD := hD0.self (sz := s.heap.size)
  clear hD0
  generalize hAe : va_A (gW LH ad km T0) s.heap.size = A at hD henv ⊢
  have hA : ∀ q : Nat, s.heap.size ≤ q → A q := fun q h => by rw [← hAe]; exact Or.inr h
  have hS : va_S A s.heap s.heap [] := va_S.rf
  have hl := lv_entry ([.ref (ad 5), .int p1, .int p2, .int p3]) (n := 6) (Nat.le_of_ble_eq_true rfl)
  rw [lg_entry_eq]
  generalize (lg_sl ([.ref (ad 5), .int p1, .int p2, .int p3]) ++ List.replicate (6 - (lg_sl ([.ref (ad 5), .int p1, .int p2, .int p3])).length) Slot.unset).toArray = ls at hl ⊢
  have hl : lv_has ls 6 [(0, .ref (ad 5)), (1, .int p1), (2, .int p2), (3, .int p3)] := hl
  unfold rb_Types_told at hR
  refine lv_aload_n hx hb d_Types_told_0 rfl (lv_at hl 0 rfl) ?_
  refine lv_iload_n hx hb d_Types_told_1 rfl (lv_at hl 1 rfl) ?_
  replace hR := bi_e hR
  obtain ⟨r1, l1, T1, hc1, hR⟩ := hR
  refine gcV_i (rest := []) ⟨hx, hb, hml, hown, hT⟩ (h_Types_kindOf _ _ _ _ _ hc1) (cwV 1 hT (gV ml_Types_37 im_Types_kindOf se_Types_kindOf ini_Types co_Types_kindOf) rfl rfl rfl pd_Types_kindOf ⟨rm_hi, rm_lo (Nat.le_of_ble_eq_true rfl)⟩) hK hP hD hS hA hnw henv (Nat.le_of_ble_eq_true rfl) rfl rfl hl.1 rfl (Nat.le_of_ble_eq_true rfl) d_Types_told_2 ⟨Nat.le_refl _, Nat.le_refl _⟩ (fun H locs hP hD hS => ?_)
  clear hc1
  refine lv_istore (lv' := [(4, .int r1), (0, .ref (ad 5)), (1, .int p1), (2, .int p2), (3, .int p3)]) hx hb d_Types_told_5 hl (by decide) rfl (fun ls hl => ?_)
  refine lv_iload hx hb d_Types_told_7 (lv_at hl 0 rfl) ?_
  refine lv_iconst (v := 2) hx hb d_Types_told_9 (by decide) ?_
  refine lv_icmp_le (tgt := 19) hx hb d_Types_told_10 (by decide) (fun c2 => ?_) (fun c2 => ?_)
  · replace hR := if_p c2 hR
    refine lv_iload_n hx hb d_Types_told_19 rfl (lv_at hl 2 rfl) ?_
    obtain ⟨e1, -, e3⟩ := re_e hR
    subst e1; subst e3
    exact W.iret (v := p1) hx hb hr (fun t ht hW => ⟨⟨p1, (), rfl, rfl, by rw [ht]; exact hP, va_K.moved hW.alike hK, hD⟩, hS.F ht⟩) hS.2.2 d_Types_told_20
  · replace hR := if_n c2 hR
    refine lv_iload_n hx hb d_Types_told_13 rfl (lv_at hl 4 rfl) ?_
    refine lv_bipush (v := 6) hx hb d_Types_told_14 (by decide) ?_
    refine lv_icmp_le (tgt := 21) hx hb d_Types_told_16 (by decide) (fun c4 => ?_) (fun c4 => ?_)
    · replace hR := if_p c4 hR
      refine lv_iload hx hb d_Types_told_21 (lv_at hl 0 rfl) ?_
      refine lv_bipush (v := 6) hx hb d_Types_told_23 (by decide) ?_
      refine lv_icmp_ne (tgt := 60) hx hb d_Types_told_25 (by decide) (fun c5 => ?_) (fun c5 => ?_)
      · replace hR := if_n c5 hR
        refine lv_aload_n hx hb d_Types_told_60 rfl (lv_at hl 1 rfl) ?_
        refine lv_iload hx hb d_Types_told_61 (lv_at hl 0 rfl) ?_
        refine lv_aload_n hx hb d_Types_told_63 rfl (lv_at hl 1 rfl) ?_
        refine lv_iload_n hx hb d_Types_told_64 rfl (lv_at hl 2 rfl) ?_
        replace hR := bi_e hR
        obtain ⟨r6, l6, T6, hc6, hR⟩ := hR
        refine gcV_i (rest := [.int r1, .ref (ad 5)]) ⟨hx, hb, hml, hown, hT⟩ (h_Types_regionOf _ _ _ _ _ hc6) (cwV 1 hT (gV ml_Types_47 im_Types_regionOf se_Types_regionOf ini_Types co_Types_regionOf) rfl rfl rfl pd_Types_regionOf ⟨rm_hi, rm_lo (Nat.le_of_ble_eq_true rfl)⟩) hK hP hD hS hA hnw henv (Nat.le_of_ble_eq_true rfl) rfl rfl hl.1 rfl (Nat.le_of_ble_eq_true rfl) d_Types_told_65 ⟨Nat.le_refl _, Nat.le_refl _⟩ (fun H locs hP hD hS => ?_)
        clear hc6
        refine lv_iload_n hx hb d_Types_told_68 rfl (lv_at hl 3 rfl) ?_
        replace hR := bi_e hR
        obtain ⟨r7, l7, T7, hc7, hR⟩ := hR
        refine gcS_i (rest := [.int r1, .ref (ad 5)]) ⟨hx, hb, hml, hown, hT⟩ (h_Types_toldOne _ _ _ _ _ _ hc7) (va_cwS 2 hT (gS ml_Types_50 st_Types_toldOne ini_Types co_Types_toldOne) rfl rfl rfl pd_Types_toldOne ⟨rm_hi, rm_lo (Nat.le_of_ble_eq_true rfl)⟩) hK hP hD hS hA hnw henv rfl hl.1 rfl (Nat.le_of_ble_eq_true rfl) d_Types_told_69 ⟨Nat.le_refl _, Nat.le_refl _⟩ (fun H locs hP hD hS => ?_)
        clear hc7
        refine lv_aload_n hx hb d_Types_told_72 rfl (lv_at hl 1 rfl) ?_
        refine lv_aload_n hx hb d_Types_told_73 rfl (lv_at hl 1 rfl) ?_
        refine lv_iload_n hx hb d_Types_told_74 rfl (lv_at hl 2 rfl) ?_
        replace hR := bi_e hR
        obtain ⟨r8, l8, T8, hc8, hR⟩ := hR
        refine gcV_i (rest := [.ref (ad 5), .int r7, .int r1, .ref (ad 5)]) ⟨hx, hb, hml, hown, hT⟩ (h_Types_behind _ _ _ _ _ hc8) (cwV 1 hT (gV ml_Types_34 im_Types_behind se_Types_behind ini_Types co_Types_behind) rfl rfl rfl pd_Types_behind ⟨rm_hi, rm_lo (Nat.le_of_ble_eq_true rfl)⟩) hK hP hD hS hA hnw henv (Nat.le_of_ble_eq_true rfl) rfl rfl hl.1 rfl (Nat.le_of_ble_eq_true rfl) d_Types_told_75 ⟨Nat.le_refl _, Nat.le_refl _⟩ (fun H locs hP hD hS => ?_)
        clear hc8
        refine lv_iload_n hx hb d_Types_told_78 rfl (lv_at hl 3 rfl) ?_
        refine lv_iload_n hx hb d_Types_told_79 rfl (lv_at hl 4 rfl) ?_
        refine lv_iconst (v := 1) hx hb d_Types_told_80 (by decide) ?_
        refine lv_iadd hx hb d_Types_told_81 ?_
        replace hR := bi_e hR
        obtain ⟨r9, l9, T9, hc9, hR⟩ := hR
        refine gcV_i (rest := [.int r7, .int r1, .ref (ad 5)]) ⟨hx, hb, hml, hown, hT⟩ (h_Types_told _ _ _ _ _ _ _ hc9) (cwV 3 hT (gV ml_Types_53 im_Types_told se_Types_told ini_Types co_Types_told) rfl rfl rfl pd_Types_told ⟨rm_hi, rm_lo (Nat.le_of_ble_eq_true rfl)⟩) hK hP hD hS hA hnw henv (Nat.le_of_ble_eq_true rfl) rfl rfl hl.1 rfl (Nat.le_of_ble_eq_true rfl) d_Types_told_82 ⟨Nat.le_refl _, Nat.le_refl _⟩ (fun H locs hP hD hS => ?_)
        clear hc9
        replace hR := bi_e hR
        obtain ⟨r10, l10, T10, hc10, hR⟩ := hR
        refine gcV_i (rest := []) ⟨hx, hb, hml, hown, hT⟩ (h_Types_pointer _ _ _ _ _ _ _ hc10) (cwV 3 hT (gV ml_Types_57 im_Types_pointer se_Types_pointer ini_Types co_Types_pointer) rfl rfl rfl pd_Types_pointer ⟨rm_hi, rm_lo (Nat.le_of_ble_eq_true rfl)⟩) hK hP hD hS hA hnw henv (Nat.le_of_ble_eq_true rfl) rfl rfl hl.1 rfl (Nat.le_of_ble_eq_true rfl) d_Types_told_85 ⟨Nat.le_refl _, Nat.le_refl _⟩ (fun H locs hP hD hS => ?_)
        clear hc10
        obtain ⟨e1, -, e3⟩ := re_e hR
        subst e1; subst e3
        exact W.iret (v := r10) hx hb hr (fun t ht hW => ⟨⟨r10, (), rfl, rfl, by rw [ht]; exact hP, va_K.moved hW.alike hK, hD⟩, hS.F ht⟩) hS.2.2 d_Types_told_88
      · replace hR := if_p c5 hR
        refine lv_aload_n hx hb d_Types_told_28 rfl (lv_at hl 1 rfl) ?_
        refine lv_iload_n hx hb d_Types_told_29 rfl (lv_at hl 2 rfl) ?_
        replace hR := bi_e hR
        obtain ⟨r12, l12, T12, hc12, hR⟩ := hR
        refine gcV_i (rest := []) ⟨hx, hb, hml, hown, hT⟩ (h_Types_keyOf _ _ _ _ _ hc12) (cwV 1 hT (gV ml_Types_26 im_Types_keyOf se_Types_keyOf ini_Types co_Types_keyOf) rfl rfl rfl pd_Types_keyOf ⟨rm_hi, rm_lo (Nat.le_of_ble_eq_true rfl)⟩) hK hP hD hS hA hnw henv (Nat.le_of_ble_eq_true rfl) rfl rfl hl.1 rfl (Nat.le_of_ble_eq_true rfl) d_Types_told_30 ⟨Nat.le_refl _, Nat.le_refl _⟩ (fun H locs hP hD hS => ?_)
        clear hc12
        refine lv_istore (lv' := [(5, .int r12), (4, .int r1), (0, .ref (ad 5)), (1, .int p1), (2, .int p2), (3, .int p3)]) hx hb d_Types_told_33 hl (by decide) rfl (fun ls hl => ?_)
        refine lv_aload_n hx hb d_Types_told_35 rfl (lv_at hl 2 rfl) ?_
        refine lv_iload hx hb d_Types_told_36 (lv_at hl 0 rfl) ?_
        refine lv_iconst (v := 3) hx hb d_Types_told_38 (by decide) ?_
        refine lv_ishr hx hb d_Types_told_39 ?_
        refine lv_bipush (v := 31) hx hb d_Types_told_40 (by decide) ?_
        refine lv_iand hx hb d_Types_told_42 ?_
        refine lv_iload hx hb d_Types_told_43 (lv_at hl 0 rfl) ?_
        refine lv_bipush (v := 8) hx hb d_Types_told_45 (by decide) ?_
        refine lv_ishr hx hb d_Types_told_47 ?_
        refine lv_sipush (v := 4095) hx hb d_Types_told_48 (by decide) ?_
        refine lv_iand hx hb d_Types_told_51 ?_
        refine lv_iload_n hx hb d_Types_told_52 rfl (lv_at hl 4 rfl) ?_
        replace hR := bi_e hR
        obtain ⟨r13, l13, T13, hc13, hR⟩ := hR
        refine gcS_i (rest := [.int ((r12 >>> ((3 : Int32) &&& 31)) &&& (31 : Int32)), .ref (ad 5)]) ⟨hx, hb, hml, hown, hT⟩ (h_Types_toldAll _ _ _ _ _ _ hc13) (va_cwS 2 hT (gS ml_Types_40 st_Types_toldAll ini_Types co_Types_toldAll) rfl rfl rfl pd_Types_toldAll ⟨rm_hi, rm_lo (Nat.le_of_ble_eq_true rfl)⟩) hK hP hD hS hA hnw henv rfl hl.1 rfl (Nat.le_of_ble_eq_true rfl) d_Types_told_53 ⟨Nat.le_refl _, Nat.le_refl _⟩ (fun H locs hP hD hS => ?_)
        clear hc13
        replace hR := bi_e hR
        obtain ⟨r14, l14, T14, hc14, hR⟩ := hR
        refine gcV_i (rest := []) ⟨hx, hb, hml, hown, hT⟩ (h_Types_thing _ _ _ _ _ _ hc14) (cwV 2 hT (gV ml_Types_44 im_Types_thing se_Types_thing ini_Types co_Types_thing) rfl rfl rfl pd_Types_thing ⟨rm_hi, rm_lo (Nat.le_of_ble_eq_true rfl)⟩) hK hP hD hS hA hnw henv (Nat.le_of_ble_eq_true rfl) rfl rfl hl.1 rfl (Nat.le_of_ble_eq_true rfl) d_Types_told_56 ⟨Nat.le_refl _, Nat.le_refl _⟩ (fun H locs hP hD hS => ?_)
        clear hc14
        obtain ⟨e1, -, e3⟩ := re_e hR
        subst e1; subst e3
        exact W.iret (v := r14) hx hb hr (fun t ht hW => ⟨⟨r14, (), rfl, rfl, by rw [ht]; exact hP, va_K.moved hW.alike hK, hD⟩, hS.F ht⟩) hS.2.2 d_Types_told_59
    · replace hR := if_n c4 hR
      refine lv_iload_n hx hb d_Types_told_19 rfl (lv_at hl 2 rfl) ?_
      obtain ⟨e1, -, e3⟩ := re_e hR
      subst e1; subst e3
      exact W.iret (v := p1) hx hb hr (fun t ht hW => ⟨⟨p1, (), rfl, rfl, by rw [ht]; exact hP, va_K.moved hW.alike hK, hD⟩, hS.F ht⟩) hS.2.2 d_Types_told_20
set_option maxHeartbeats 4000000 in
set_option maxRecDepth 100000 in
theorem sp_Types_toldAll (l : Launch) (dC : Nat → ClassId) (dI : Nat → Nat → Nat) (ea ev ad : Nat → Nat) (km : Nat → ClassId) (F : gF) (nf d : Nat) (h_Types_toldOne : mt_Types_toldOne l dC dI ea ev ad km F d) (T0 : gSt) (p1 : Int32) (p2 : Int32) (r0 : Int32) (rl0 : Int64) (T9 : gSt) (hR : rb_Types_toldAll F nf T0 p1 p2 = some (r0, rl0, T9)) : GMi l dC dI LH ad km ea ev y_Types_toldAll w_Types_toldAll (rmD (d + 1)) [.int p1, .int p2] T0 r0 T9 := by
  intro sz
  refine Met.ofW (cc := b_Types_toldAll) (maxL := 4) (ret := (some .int)) (by decide) rfl ?_
  intro p e s m args below meth c s₁ B hml hv
  obtain ⟨rfl, hsz, hP, hK, hD0, hnw, henv⟩ := hv
  have hx := B.exec
  have hb := B.bytes
  have hr := B.returns
  have hT : ∀ w ∈ lw_good, w.before _ s = true := fun w h => atoms_spec (ws := w_Types_toldAll) B.pre w (List.mem_cons_of_mem _ h)
  have hown : s.vm.findClass R_Types = some m.cls := findClass_of_methodNamed B.named
  subst hsz
  have hD := hD0.self (sz := s.heap.size)
  clear hD0
  generalize hAe : va_A (gW LH ad km T0) s.heap.size = A at hD henv ⊢
  have hA : ∀ q : Nat, s.heap.size ≤ q → A q := fun q h => by rw [← hAe]; exact Or.inr h
  have hS : va_S A s.heap s.heap [] := va_S.rf
  have hl := lv_entry ([.int p1, .int p2]) (n := 4) (Nat.le_of_ble_eq_true rfl)
  rw [lg_entry_eq]
  generalize (lg_sl ([.int p1, .int p2]) ++ List.replicate (4 - (lg_sl ([.int p1, .int p2])).length) Slot.unset).toArray = ls at hl ⊢
  have hl : lv_has ls 4 [(0, .int p1), (1, .int p2)] := hl
  obtain ⟨G, hG⟩ : ∃ G : Nat → List (Nat × Value) → List Value → gSt → Prop, G = (fun pc lv stk T => ∀ (H : Heap) (locs : List Loc), va_P (dC, dI) cls_all (gW LH ad km T) H → va_D A (gW LH ad km T) → va_S A s.heap H locs → ∀ (ls : Array Slot), lv_has ls 4 lv → W p l e (headSpec w_Types_toldAll (rmD (d + 1))).room s m ([.int p1, .int p2] : List Value).toArray below meth c H locs 0 0 (MQ below (va_Qi (fun (z : Int32) (_ : Unit) => z = r0) (fun _ t => gPost dC dI LH ad km T9 A t) A) ([.int p1, .int p2] : List Value).toArray s 0 0 A) (F0 m pc ls stk)) := ⟨_, rfl⟩
  have lb_4 : ∀ (n : Nat) (T : gSt) (x0 : Int32) (x1 : Int32) (x2 : Int32) (x3 : Int32), rl_Types_toldAll_4 F nf n T x0 x1 x2 x3 = some (r0, rl0, T9) → G 4 [(0, .int x0), (1, .int x1), (2, .int x2), (3, .int x3)] [] T := by
    intro n
    induction n with
    | zero => intro T x0 x1 x2 x3 hR; rw [rl_Types_toldAll_4] at hR; cases hR
    | succ n ih =>
      intro T x0 x1 x2 x3 hR; rw [rl_Types_toldAll_4] at hR; rw [hG]; intro H locs hP hD hS ls hl
      refine lv_iload_n hx hb d_Types_toldAll_4 rfl (lv_at hl 3 rfl) ?_
      refine lv_iconst (v := 3) hx hb d_Types_toldAll_5 (by decide) ?_
      refine lv_icmp_ge (tgt := 34) hx hb d_Types_toldAll_6 (by decide) (fun c1 => ?_) (fun c1 => ?_)
      · replace hR := if_p c1 hR
        refine lv_iload_n hx hb d_Types_toldAll_34 rfl (lv_at hl 2 rfl) ?_
        obtain ⟨e1, -, e3⟩ := re_e hR
        subst e1; subst e3
        exact W.iret (v := x2) hx hb hr (fun t ht hW => ⟨⟨x2, (), rfl, rfl, by rw [ht]; exact hP, va_K.moved hW.alike hK, hD⟩, hS.F ht⟩) hS.2.2 d_Types_toldAll_35
      · replace hR := if_n c1 hR
        refine lv_iload_n hx hb d_Types_toldAll_9 rfl (lv_at hl 2 rfl) ?_
        refine lv_iload_n hx hb d_Types_toldAll_10 rfl (lv_at hl 0 rfl) ?_
        refine lv_iconst (v := 4) hx hb d_Types_toldAll_11 (by decide) ?_
        refine lv_iload_n hx hb d_Types_toldAll_12 rfl (lv_at hl 3 rfl) ?_
        refine lv_imul hx hb d_Types_toldAll_13 ?_
        refine lv_ishr hx hb d_Types_toldAll_14 ?_
        refine lv_bipush (v := 15) hx hb d_Types_toldAll_15 (by decide) ?_
        refine lv_iand hx hb d_Types_toldAll_17 ?_
        refine lv_iload_n hx hb d_Types_toldAll_18 rfl (lv_at hl 1 rfl) ?_
        replace hR := bi_e hR
        obtain ⟨r3, l3, T3, hc3, hR⟩ := hR
        refine gcS_i (rest := [.int x2]) ⟨hx, hb, hml, hown, hT⟩ (h_Types_toldOne _ _ _ _ _ _ hc3) (va_cwS 2 hT (gS ml_Types_50 st_Types_toldOne ini_Types co_Types_toldOne) rfl rfl rfl pd_Types_toldOne ⟨rm_hi, rm_lo (Nat.le_of_ble_eq_true rfl)⟩) hK hP hD hS hA hnw henv rfl hl.1 rfl (Nat.le_of_ble_eq_true rfl) d_Types_toldAll_19 ⟨Nat.le_refl _, Nat.le_refl _⟩ (fun H locs hP hD hS => ?_)
        clear hc3
        refine lv_iconst (v := 4) hx hb d_Types_toldAll_22 (by decide) ?_
        refine lv_iload_n hx hb d_Types_toldAll_23 rfl (lv_at hl 3 rfl) ?_
        refine lv_imul hx hb d_Types_toldAll_24 ?_
        refine lv_ishl hx hb d_Types_toldAll_25 ?_
        refine lv_ior hx hb d_Types_toldAll_26 ?_
        refine lv_topi (fun z4 e4 => ?_)
        replace hR := vK_e e4 hR
        refine lv_istore_n (lv' := [(2, .int z4), (0, .int x0), (1, .int x1), (3, .int x3)]) hx hb d_Types_toldAll_27 rfl hl (by decide) rfl (fun ls hl => ?_)
        obtain ⟨z5, e5⟩ : ∃ y : Int32, y = x3 + (1 : Int32) := ⟨_, rfl⟩
        replace hR := vK_e e5 hR
        refine lv_iinc (v := z5) (lv' := [(3, .int z5), (2, .int z4), (0, .int x0), (1, .int x1)]) hx hb d_Types_toldAll_28 hl (k := 3) rfl (by rw [e5]; rfl) (by decide) rfl (fun ls hl => ?_)
        refine lv_goto (tgt := 4) hx hb d_Types_toldAll_31 (by decide) ?_
        have g := ih T3 x0 x1 z4 z5 hR
        rw [hG] at g
        exact g _ _ hP hD hS _ (lv_sub hl [2, 3, 1, 0] rfl)
  unfold rb_Types_toldAll at hR
  refine lv_iconst (v := 0) hx hb d_Types_toldAll_0 (by decide) ?_
  refine lv_istore_n (lv' := [(2, .int (0 : Int32)), (0, .int p1), (1, .int p2)]) hx hb d_Types_toldAll_1 rfl hl (by decide) rfl (fun ls hl => ?_)
  refine lv_iconst (v := 0) hx hb d_Types_toldAll_2 (by decide) ?_
  refine lv_istore_n (lv' := [(3, .int (0 : Int32)), (2, .int (0 : Int32)), (0, .int p1), (1, .int p2)]) hx hb d_Types_toldAll_3 rfl hl (by decide) rfl (fun ls hl => ?_)
  have g := lb_4 nf T0 p1 p2 (0 : Int32) (0 : Int32) hR
  rw [hG] at g
  exact g _ _ hP hD hS _ (lv_sub hl [2, 3, 1, 0] rfl)
set_option maxHeartbeats 4000000 in
set_option maxRecDepth 100000 in
theorem sp_Types_toldOne (l : Launch) (dC : Nat → ClassId) (dI : Nat → Nat → Nat) (ea ev ad : Nat → Nat) (km : Nat → ClassId) (F : gF) (nf d : Nat) (T0 : gSt) (p1 : Int32) (p2 : Int32) (r0 : Int32) (rl0 : Int64) (T9 : gSt) (hR : rb_Types_toldOne F nf T0 p1 p2 = some (r0, rl0, T9)) : GMi l dC dI LH ad km ea ev y_Types_toldOne w_Types_toldOne (rmD (d + 1)) [.int p1, .int p2] T0 r0 T9 := by
  intro sz
  refine Met.ofW (cc := b_Types_toldOne) (maxL := 2) (ret := (some .int)) (by decide) rfl ?_
  intro p e s m args below meth c s₁ B hml hv
  obtain ⟨rfl, hsz, hP, hK, hD0, hnw, henv⟩ := hv
  have hx := B.exec
  have hb := B.bytes
  have hr := B.returns
  have hT : ∀ w ∈ lw_good, w.before _ s = true := fun w h => atoms_spec (ws := w_Types_toldOne) B.pre w (List.mem_cons_of_mem _ h)
  have hown : s.vm.findClass R_Types = some m.cls := findClass_of_methodNamed B.named
  subst hsz
  have hD := hD0.self (sz := s.heap.size)
  clear hD0
  generalize hAe : va_A (gW LH ad km T0) s.heap.size = A at hD henv ⊢
  have hA : ∀ q : Nat, s.heap.size ≤ q → A q := fun q h => by rw [← hAe]; exact Or.inr h
  have hS : va_S A s.heap s.heap [] := va_S.rf
  have hl := lv_entry ([.int p1, .int p2]) (n := 2) (Nat.le_of_ble_eq_true rfl)
  rw [lg_entry_eq]
  generalize (lg_sl ([.int p1, .int p2]) ++ List.replicate (2 - (lg_sl ([.int p1, .int p2])).length) Slot.unset).toArray = ls at hl ⊢
  have hl : lv_has ls 2 [(0, .int p1), (1, .int p2)] := hl
  unfold rb_Types_toldOne at hR
  refine lv_iload_n hx hb d_Types_toldOne_0 rfl (lv_at hl 0 rfl) ?_
  refine lv_iconst (v := 1) hx hb d_Types_toldOne_1 (by decide) ?_
  refine lv_icmp_lt (tgt := 10) hx hb d_Types_toldOne_2 (by decide) (fun c1 => ?_) (fun c1 => ?_)
  · replace hR := if_p c1 hR
    refine lv_iload_n hx hb d_Types_toldOne_10 rfl (lv_at hl 0 rfl) ?_
    refine lv_goto (tgt := 24) hx hb d_Types_toldOne_11 (by decide) ?_
    obtain ⟨e1, -, e3⟩ := re_e hR
    subst e1; subst e3
    exact W.iret (v := p1) hx hb hr (fun t ht hW => ⟨⟨p1, (), rfl, rfl, by rw [ht]; exact hP, va_K.moved hW.alike hK, hD⟩, hS.F ht⟩) hS.2.2 d_Types_toldOne_24
  · replace hR := if_n c1 hR
    refine lv_iload_n hx hb d_Types_toldOne_5 rfl (lv_at hl 0 rfl) ?_
    refine lv_iconst (v := 3) hx hb d_Types_toldOne_6 (by decide) ?_
    refine lv_icmp_le (tgt := 14) hx hb d_Types_toldOne_7 (by decide) (fun c3 => ?_) (fun c3 => ?_)
    · replace hR := if_p c3 hR
      refine lv_iload_n hx hb d_Types_toldOne_14 rfl (lv_at hl 1 rfl) ?_
      refine lv_iconst (v := 4) hx hb d_Types_toldOne_15 (by decide) ?_
      refine lv_iload_n hx hb d_Types_toldOne_16 rfl (lv_at hl 0 rfl) ?_
      refine lv_iconst (v := 1) hx hb d_Types_toldOne_17 (by decide) ?_
      refine lv_isub hx hb d_Types_toldOne_18 ?_
      refine lv_imul hx hb d_Types_toldOne_19 ?_
      refine lv_ishr hx hb d_Types_toldOne_20 ?_
      refine lv_bipush (v := 15) hx hb d_Types_toldOne_21 (by decide) ?_
      refine lv_iand hx hb d_Types_toldOne_23 ?_
      obtain ⟨e1, -, e3⟩ := re_e hR
      subst e1; subst e3
      exact W.iret (v := (p2 >>> (((4 : Int32) * (p1 - (1 : Int32))) &&& 31)) &&& (15 : Int32)) hx hb hr (fun t ht hW => ⟨⟨(p2 >>> (((4 : Int32) * (p1 - (1 : Int32))) &&& 31)) &&& (15 : Int32), (), rfl, rfl, by rw [ht]; exact hP, va_K.moved hW.alike hK, hD⟩, hS.F ht⟩) hS.2.2 d_Types_toldOne_24
    · replace hR := if_n c3 hR
      refine lv_iload_n hx hb d_Types_toldOne_10 rfl (lv_at hl 0 rfl) ?_
      refine lv_goto (tgt := 24) hx hb d_Types_toldOne_11 (by decide) ?_
      obtain ⟨e1, -, e3⟩ := re_e hR
      subst e1; subst e3
      exact W.iret (v := p1) hx hb hr (fun t ht hW => ⟨⟨p1, (), rfl, rfl, by rw [ht]; exact hP, va_K.moved hW.alike hK, hD⟩, hS.F ht⟩) hS.2.2 d_Types_toldOne_24
set_option maxHeartbeats 4000000 in
set_option maxRecDepth 100000 in
theorem sp_Scope_enterHead (l : Launch) (dC : Nat → ClassId) (dI : Nat → Nat → Nat) (ea ev ad : Nat → Nat) (km : Nat → ClassId) (F : gF) (nf d : Nat) (h_Source_nameAt : mt_Source_nameAt l dC dI ea ev ad km F d) (T0 : gSt) (p1 : Int32) (r0 : Int32) (rl0 : Int64) (T9 : gSt) (hR : rb_Scope_enterHead F nf T0 p1 = some (r0, rl0, T9)) : GMv l dC dI LH ad km ea ev y_Scope_enterHead w_Scope_enterHead (rmD (d + 1)) [.ref (ad 6), .int p1] T0 T9 := by
  intro sz
  refine Met.ofW (cc := b_Scope_enterHead) (maxL := 3) (ret := none) (by decide) rfl ?_
  intro p e s m args below meth c s₁ B hml hv
  obtain ⟨rfl, hsz, hP, hK, hD0, hnw, henv⟩ := hv
  have hx := B.exec
  have hb := B.bytes
  have hr := B.returns
  have hT : ∀ w ∈ lw_good, w.before _ s = true := fun w h => atoms_spec (ws := w_Scope_enterHead) B.pre w (List.mem_cons_of_mem _ h)
  have hown : s.vm.findClass R_Scope = some m.cls := findClass_of_methodNamed B.named
  subst hsz
  have hD := hD0.self (sz := s.heap.size)
  clear hD0
  generalize hAe : va_A (gW LH ad km T0) s.heap.size = A at hD henv ⊢
  have hA : ∀ q : Nat, s.heap.size ≤ q → A q := fun q h => by rw [← hAe]; exact Or.inr h
  have hS : va_S A s.heap s.heap [] := va_S.rf
  have hl := lv_entry ([.ref (ad 6), .int p1]) (n := 3) (Nat.le_of_ble_eq_true rfl)
  rw [lg_entry_eq]
  generalize (lg_sl ([.ref (ad 6), .int p1]) ++ List.replicate (3 - (lg_sl ([.ref (ad 6), .int p1])).length) Slot.unset).toArray = ls at hl ⊢
  have hl : lv_has ls 3 [(0, .ref (ad 6)), (1, .int p1)] := hl
  obtain ⟨G, hG⟩ : ∃ G : Nat → List (Nat × Value) → List Value → gSt → Prop, G = (fun pc lv stk T => ∀ (H : Heap) (locs : List Loc), va_P (dC, dI) cls_all (gW LH ad km T) H → va_D A (gW LH ad km T) → va_S A s.heap H locs → ∀ (ls : Array Slot), lv_has ls 3 lv → W p l e (headSpec w_Scope_enterHead (rmD (d + 1))).room s m ([.ref (ad 6), .int p1] : List Value).toArray below meth c H locs 0 0 (MQ below (va_Qv (fun (_ : Unit) => True) (fun _ t => gPost dC dI LH ad km T9 A t) A) ([.ref (ad 6), .int p1] : List Value).toArray s 0 0 A) (F0 m pc ls stk)) := ⟨_, rfl⟩
  have lb_32 : ∀ (n : Nat) (T : gSt) (x2 : Int32), rl_Scope_enterHead_32 F nf n T x2 = some (r0, rl0, T9) → G 32 [(0, .ref (ad 6)), (2, .int x2)] [] T := by
    intro n
    induction n with
    | zero => intro T x2 hR; rw [rl_Scope_enterHead_32] at hR; cases hR
    | succ n ih =>
      intro T x2 hR; rw [rl_Scope_enterHead_32] at hR; rw [hG]; intro H locs hP hD hS ls hl
      refine lv_iload_n hx hb d_Scope_enterHead_32 rfl (lv_at hl 1 rfl) ?_
      refine lv_iconst (v := 3) hx hb d_Scope_enterHead_33 (by decide) ?_
      refine lv_icmp_gt (tgt := 90) hx hb d_Scope_enterHead_34 (by decide) (fun c7 => ?_) (fun c7 => ?_)
      · replace hR := if_p c7 hR
        obtain ⟨-, -, e3⟩ := re_e hR
        subst e3
        exact W.vret hx hb hr (fun t ht hW => ⟨⟨(), rfl, trivial, by rw [ht]; exact hP, va_K.moved hW.alike hK, hD⟩, hS.F ht⟩) hS.2.2 d_Scope_enterHead_90
      · replace hR := if_n c7 hR
        refine lv_aload_n hx hb d_Scope_enterHead_37 rfl (lv_at hl 0 rfl) ?_
        refine rd_Scope_22 hx hb hT hown hK hP d_Scope_enterHead_38 ?_
        refine lv_iload_n hx hb d_Scope_enterHead_41 rfl (lv_at hl 1 rfl) ?_
        refine lv_iload_n hx hb d_Scope_enterHead_42 rfl (lv_at hl 1 rfl) ?_
        refine lv_aload_n hx hb d_Scope_enterHead_43 rfl (lv_at hl 0 rfl) ?_
        refine rd_Scope_32 hx hb hT hown hK hP d_Scope_enterHead_44 ?_
        refine rd_Scope_60 hx hb hT hown hK hP d_Scope_enterHead_47 ?_
        refine lv_aload_n hx hb d_Scope_enterHead_50 rfl (lv_at hl 0 rfl) ?_
        refine rd_Scope_40 hx hb hT hown hK hP d_Scope_enterHead_51 ?_
        replace hR := gd_e hR
        obtain ⟨b8, hR⟩ := hR
        refine laH_16 hx hb hK hP b8 d_Scope_enterHead_54 ?_
        refine lv_icmp_gt (tgt := 82) hx hb d_Scope_enterHead_55 (by decide) (fun c9 => ?_) (fun c9 => ?_)
        · replace hR := if_p c9 hR
          refine lv_lconst (v := 0) hx hb d_Scope_enterHead_82 (by decide) ?_
          replace hR := gd_e hR
          obtain ⟨b10, hR⟩ := hR
          refine saH_41 hx hb hK hP hD hS b10 d_Scope_enterHead_83 (fun T10 eT H locs hP hD hS => ?_)
          replace hR := stK_e eT hR
          clear eT
          obtain ⟨z11, e11⟩ : ∃ y : Int32, y = x2 + (1 : Int32) := ⟨_, rfl⟩
          replace hR := vK_e e11 hR
          refine lv_iinc (v := z11) (lv' := [(2, .int z11), (0, .ref (ad 6))]) hx hb d_Scope_enterHead_84 hl (k := 1) rfl (by rw [e11]; rfl) (by decide) rfl (fun ls hl => ?_)
          refine lv_goto (tgt := 32) hx hb d_Scope_enterHead_87 (by decide) ?_
          have g := ih T10 z11 hR
          rw [hG] at g
          exact g _ _ hP hD hS _ (lv_sub hl [1, 0] rfl)
        · replace hR := if_n c9 hR
          refine lv_aload_n hx hb d_Scope_enterHead_58 rfl (lv_at hl 0 rfl) ?_
          refine rd_Scope_28 hx hb hT hown hK hP d_Scope_enterHead_59 ?_
          refine lv_aload_n hx hb d_Scope_enterHead_62 rfl (lv_at hl 0 rfl) ?_
          refine rd_Scope_32 hx hb hT hown hK hP d_Scope_enterHead_63 ?_
          refine rd_Scope_65 hx hb hT hown hK hP d_Scope_enterHead_66 ?_
          refine lv_aload_n hx hb d_Scope_enterHead_69 rfl (lv_at hl 0 rfl) ?_
          refine rd_Scope_40 hx hb hT hown hK hP d_Scope_enterHead_70 ?_
          replace hR := gd_e hR
          obtain ⟨b12, hR⟩ := hR
          refine laH_14 hx hb hK hP b12 d_Scope_enterHead_73 ?_
          refine lv_iload_n hx hb d_Scope_enterHead_74 rfl (lv_at hl 1 rfl) ?_
          refine lv_iadd hx hb d_Scope_enterHead_75 ?_
          replace hR := bi_e hR
          obtain ⟨r13, l13, T13, hc13, hR⟩ := hR
          refine gcV_l (rest := [.int x2, .ref (ad 53)]) ⟨hx, hb, hml, hown, hT⟩ (h_Source_nameAt _ _ _ _ _ hc13) (cwV 1 hT (gV ml_Scope_68 im_Source_nameAt se_Source_nameAt ini_Source co_Source_nameAt) rfl rfl rfl pd_Source_nameAt ⟨rm_hi, rm_lo (Nat.le_of_ble_eq_true rfl)⟩) hK hP hD hS hA hnw henv (Nat.le_of_ble_eq_true rfl) rfl rfl hl.1 rfl (Nat.le_of_ble_eq_true rfl) d_Scope_enterHead_76 ⟨Nat.le_refl _, Nat.le_refl _⟩ (fun H locs hP hD hS => ?_)
          clear hc13
          refine lv_goto (tgt := 83) hx hb d_Scope_enterHead_79 (by decide) ?_
          replace hR := gd_e hR
          obtain ⟨b14, hR⟩ := hR
          refine saH_41 hx hb hK hP hD hS b14 d_Scope_enterHead_83 (fun T14 eT H locs hP hD hS => ?_)
          replace hR := stK_e eT hR
          clear eT
          obtain ⟨z15, e15⟩ : ∃ y : Int32, y = x2 + (1 : Int32) := ⟨_, rfl⟩
          replace hR := vK_e e15 hR
          refine lv_iinc (v := z15) (lv' := [(2, .int z15), (0, .ref (ad 6))]) hx hb d_Scope_enterHead_84 hl (k := 1) rfl (by rw [e15]; rfl) (by decide) rfl (fun ls hl => ?_)
          refine lv_goto (tgt := 32) hx hb d_Scope_enterHead_87 (by decide) ?_
          have g := ih T14 z15 hR
          rw [hG] at g
          exact g _ _ hP hD hS _ (lv_sub hl [1, 0] rfl)
  unfold rb_Scope_enterHead at hR
  refine lv_aload_n hx hb d_Scope_enterHead_0 rfl (lv_at hl 0 rfl) ?_
  refine lv_iload_n hx hb d_Scope_enterHead_1 rfl (lv_at hl 1 rfl) ?_
  refine wr_Scope_40 hx hb hT hown hK hP hD hS d_Scope_enterHead_2 (fun T1 eT H locs hP hD hS => ?_)
  replace hR := stK_e eT hR
  clear eT
  refine lv_aload_n hx hb d_Scope_enterHead_5 rfl (lv_at hl 0 rfl) ?_
  refine lv_iconst (v := 0) hx hb d_Scope_enterHead_6 (by decide) ?_
  refine wr_Scope_44 hx hb hT hown hK hP hD hS d_Scope_enterHead_7 (fun T2 eT H locs hP hD hS => ?_)
  replace hR := stK_e eT hR
  clear eT
  refine lv_aload_n hx hb d_Scope_enterHead_10 rfl (lv_at hl 0 rfl) ?_
  refine lv_iconst (v := 4) hx hb d_Scope_enterHead_11 (by decide) ?_
  refine wr_Scope_47 hx hb hT hown hK hP hD hS d_Scope_enterHead_12 (fun T3 eT H locs hP hD hS => ?_)
  replace hR := stK_e eT hR
  clear eT
  refine lv_aload_n hx hb d_Scope_enterHead_15 rfl (lv_at hl 0 rfl) ?_
  refine lv_iconst (v := 0) hx hb d_Scope_enterHead_16 (by decide) ?_
  refine wr_Scope_50 hx hb hT hown hK hP hD hS d_Scope_enterHead_17 (fun T4 eT H locs hP hD hS => ?_)
  replace hR := stK_e eT hR
  clear eT
  refine lv_aload_n hx hb d_Scope_enterHead_20 rfl (lv_at hl 0 rfl) ?_
  refine lv_iconst (v := 0) hx hb d_Scope_enterHead_21 (by decide) ?_
  refine wr_Scope_53 hx hb hT hown hK hP hD hS d_Scope_enterHead_22 (fun T5 eT H locs hP hD hS => ?_)
  replace hR := stK_e eT hR
  clear eT
  refine lv_aload_n hx hb d_Scope_enterHead_25 rfl (lv_at hl 0 rfl) ?_
  refine lv_lconst (v := 0) hx hb d_Scope_enterHead_26 (by decide) ?_
  refine wr_Scope_56 hx hb hT hown hK hP hD hS d_Scope_enterHead_27 (fun T6 eT H locs hP hD hS => ?_)
  replace hR := stK_e eT hR
  clear eT
  refine lv_iconst (v := 1) hx hb d_Scope_enterHead_30 (by decide) ?_
  refine lv_istore_n (lv' := [(2, .int (1 : Int32)), (0, .ref (ad 6)), (1, .int p1)]) hx hb d_Scope_enterHead_31 rfl hl (by decide) rfl (fun ls hl => ?_)
  have g := lb_32 nf T6 (1 : Int32) hR
  rw [hG] at g
  exact g _ _ hP hD hS _ (lv_sub hl [1, 0] rfl)
set_option maxHeartbeats 4000000 in
set_option maxRecDepth 100000 in
theorem sp_Scope_enterFun (l : Launch) (dC : Nat → ClassId) (dI : Nat → Nat → Nat) (ea ev ad : Nat → Nat) (km : Nat → ClassId) (F : gF) (nf d : Nat) (h_Scope_enterHead : mt_Scope_enterHead l dC dI ea ev ad km F d) (h_Scope_setLive : mt_Scope_setLive l dC dI ea ev ad km F d) (h_Items_tokOfPart : mt_Items_tokOfPart l dC dI ea ev ad km F d) (h_Source_nameAt : mt_Source_nameAt l dC dI ea ev ad km F d) (h_Items_typeOfPart : mt_Items_typeOfPart l dC dI ea ev ad km F d) (h_Scope_addVar : mt_Scope_addVar l dC dI ea ev ad km F d) (h_Scope_give : mt_Scope_give l dC dI ea ev ad km F d) (T0 : gSt) (p1 : Int32) (r0 : Int32) (rl0 : Int64) (T9 : gSt) (hR : rb_Scope_enterFun F nf T0 p1 = some (r0, rl0, T9)) : GMv l dC dI LH ad km ea ev y_Scope_enterFun w_Scope_enterFun (rmD (d + 1)) [.ref (ad 6), .int p1] T0 T9 := by
  intro sz
  refine Met.ofW (cc := b_Scope_enterFun) (maxL := 3) (ret := none) (by decide) rfl ?_
  intro p e s m args below meth c s₁ B hml hv
  obtain ⟨rfl, hsz, hP, hK, hD0, hnw, henv⟩ := hv
  have hx := B.exec
  have hb := B.bytes
  have hr := B.returns
  have hT : ∀ w ∈ lw_good, w.before _ s = true := fun w h => atoms_spec (ws := w_Scope_enterFun) B.pre w (List.mem_cons_of_mem _ h)
  have hown : s.vm.findClass R_Scope = some m.cls := findClass_of_methodNamed B.named
  subst hsz
  have hD := hD0.self (sz := s.heap.size)
  clear hD0
  generalize hAe : va_A (gW LH ad km T0) s.heap.size = A at hD henv ⊢
  have hA : ∀ q : Nat, s.heap.size ≤ q → A q := fun q h => by rw [← hAe]; exact Or.inr h
  have hS : va_S A s.heap s.heap [] := va_S.rf
  have hl := lv_entry ([.ref (ad 6), .int p1]) (n := 3) (Nat.le_of_ble_eq_true rfl)
  rw [lg_entry_eq]
  generalize (lg_sl ([.ref (ad 6), .int p1]) ++ List.replicate (3 - (lg_sl ([.ref (ad 6), .int p1])).length) Slot.unset).toArray = ls at hl ⊢
  have hl : lv_has ls 3 [(0, .ref (ad 6)), (1, .int p1)] := hl
  obtain ⟨G, hG⟩ : ∃ G : Nat → List (Nat × Value) → List Value → gSt → Prop, G = (fun pc lv stk T => ∀ (H : Heap) (locs : List Loc), va_P (dC, dI) cls_all (gW LH ad km T) H → va_D A (gW LH ad km T) → va_S A s.heap H locs → ∀ (ls : Array Slot), lv_has ls 3 lv → W p l e (headSpec w_Scope_enterFun (rmD (d + 1))).room s m ([.ref (ad 6), .int p1] : List Value).toArray below meth c H locs 0 0 (MQ below (va_Qv (fun (_ : Unit) => True) (fun _ t => gPost dC dI LH ad km T9 A t) A) ([.ref (ad 6), .int p1] : List Value).toArray s 0 0 A) (F0 m pc ls stk)) := ⟨_, rfl⟩
  have lb_67 : ∀ (n : Nat) (T : gSt) (x2 : Int32), rl_Scope_enterFun_67 F nf n T x2 = some (r0, rl0, T9) → G 67 [(0, .ref (ad 6)), (2, .int x2)] [] T := by
    intro n
    induction n with
    | zero => intro T x2 hR; rw [rl_Scope_enterFun_67] at hR; cases hR
    | succ n ih =>
      intro T x2 hR; rw [rl_Scope_enterFun_67] at hR; rw [hG]; intro H locs hP hD hS ls hl
      refine lv_iload_n hx hb d_Scope_enterFun_67 rfl (lv_at hl 1 rfl) ?_
      refine lv_aload_n hx hb d_Scope_enterFun_68 rfl (lv_at hl 0 rfl) ?_
      refine rd_Scope_32 hx hb hT hown hK hP d_Scope_enterFun_69 ?_
      refine rd_Scope_87 hx hb hT hown hK hP d_Scope_enterFun_72 ?_
      refine lv_aload_n hx hb d_Scope_enterFun_75 rfl (lv_at hl 0 rfl) ?_
      refine rd_Scope_40 hx hb hT hown hK hP d_Scope_enterFun_76 ?_
      replace hR := gd_e hR
      obtain ⟨b11, hR⟩ := hR
      refine laH_17 hx hb hK hP b11 d_Scope_enterFun_79 ?_
      refine lv_icmp_ge (tgt := 129) hx hb d_Scope_enterFun_80 (by decide) (fun c12 => ?_) (fun c12 => ?_)
      · replace hR := if_p c12 hR
        obtain ⟨-, -, e3⟩ := re_e hR
        subst e3
        exact W.vret hx hb hr (fun t ht hW => ⟨⟨(), rfl, trivial, by rw [ht]; exact hP, va_K.moved hW.alike hK, hD⟩, hS.F ht⟩) hS.2.2 d_Scope_enterFun_129
      · replace hR := if_n c12 hR
        refine lv_aload_n hx hb d_Scope_enterFun_83 rfl (lv_at hl 0 rfl) ?_
        refine lv_aload_n hx hb d_Scope_enterFun_84 rfl (lv_at hl 0 rfl) ?_
        refine lv_aload_n hx hb d_Scope_enterFun_85 rfl (lv_at hl 0 rfl) ?_
        refine rd_Scope_28 hx hb hT hown hK hP d_Scope_enterFun_86 ?_
        refine lv_aload_n hx hb d_Scope_enterFun_89 rfl (lv_at hl 0 rfl) ?_
        refine rd_Scope_32 hx hb hT hown hK hP d_Scope_enterFun_90 ?_
        refine lv_aload_n hx hb d_Scope_enterFun_93 rfl (lv_at hl 0 rfl) ?_
        refine rd_Scope_40 hx hb hT hown hK hP d_Scope_enterFun_94 ?_
        refine lv_iload_n hx hb d_Scope_enterFun_97 rfl (lv_at hl 1 rfl) ?_
        replace hR := bi_e hR
        obtain ⟨r13, l13, T13, hc13, hR⟩ := hR
        refine gcV_i (rest := [.ref (ad 1), .ref (ad 6), .ref (ad 6)]) ⟨hx, hb, hml, hown, hT⟩ (h_Items_tokOfPart _ _ _ _ _ _ hc13) (cwV 2 hT (gV ml_Scope_90 im_Items_tokOfPart se_Items_tokOfPart ini_Items co_Items_tokOfPart) rfl rfl rfl pd_Items_tokOfPart ⟨rm_hi, rm_lo (Nat.le_of_ble_eq_true rfl)⟩) hK hP hD hS hA hnw henv (Nat.le_of_ble_eq_true rfl) rfl rfl hl.1 rfl (Nat.le_of_ble_eq_true rfl) d_Scope_enterFun_98 ⟨Nat.le_refl _, Nat.le_refl _⟩ (fun H locs hP hD hS => ?_)
        clear hc13
        replace hR := bi_e hR
        obtain ⟨r14, l14, T14, hc14, hR⟩ := hR
        refine gcV_l (rest := [.ref (ad 6), .ref (ad 6)]) ⟨hx, hb, hml, hown, hT⟩ (h_Source_nameAt _ _ _ _ _ hc14) (cwV 1 hT (gV ml_Scope_68 im_Source_nameAt se_Source_nameAt ini_Source co_Source_nameAt) rfl rfl rfl pd_Source_nameAt ⟨rm_hi, rm_lo (Nat.le_of_ble_eq_true rfl)⟩) hK hP hD hS hA hnw henv (Nat.le_of_ble_eq_true rfl) rfl rfl hl.1 rfl (Nat.le_of_ble_eq_true rfl) d_Scope_enterFun_101 ⟨Nat.le_refl _, Nat.le_refl _⟩ (fun H locs hP hD hS => ?_)
        clear hc14
        refine lv_aload_n hx hb d_Scope_enterFun_104 rfl (lv_at hl 0 rfl) ?_
        refine rd_Scope_32 hx hb hT hown hK hP d_Scope_enterFun_105 ?_
        refine lv_aload_n hx hb d_Scope_enterFun_108 rfl (lv_at hl 0 rfl) ?_
        refine rd_Scope_40 hx hb hT hown hK hP d_Scope_enterFun_109 ?_
        refine lv_iload_n hx hb d_Scope_enterFun_112 rfl (lv_at hl 1 rfl) ?_
        replace hR := bi_e hR
        obtain ⟨r15, l15, T15, hc15, hR⟩ := hR
        refine gcV_i (rest := [.long l14, .ref (ad 6), .ref (ad 6)]) ⟨hx, hb, hml, hown, hT⟩ (h_Items_typeOfPart _ _ _ _ _ _ hc15) (cwV 2 hT (gV ml_Scope_94 im_Items_typeOfPart se_Items_typeOfPart ini_Items co_Items_typeOfPart) rfl rfl rfl pd_Items_typeOfPart ⟨rm_hi, rm_lo (Nat.le_of_ble_eq_true rfl)⟩) hK hP hD hS hA hnw henv (Nat.le_of_ble_eq_true rfl) rfl rfl hl.1 rfl (Nat.le_of_ble_eq_true rfl) d_Scope_enterFun_113 ⟨Nat.le_refl _, Nat.le_refl _⟩ (fun H locs hP hD hS => ?_)
        clear hc15
        replace hR := bi_e hR
        obtain ⟨r16, l16, T16, hc16, hR⟩ := hR
        refine gcV_i (rest := [.ref (ad 6)]) ⟨hx, hb, hml, hown, hT⟩ (h_Scope_addVar _ _ _ _ _ _ hc16) (cwV 2 hT (gV ml_Scope_97 im_Scope_addVar se_Scope_addVar ini_Scope co_Scope_addVar) rfl rfl rfl pd_Scope_addVar ⟨rm_hi, rm_lo (Nat.le_of_ble_eq_true rfl)⟩) hK hP hD hS hA hnw henv (Nat.le_of_ble_eq_true rfl) rfl rfl hl.1 rfl (Nat.le_of_ble_eq_true rfl) d_Scope_enterFun_116 ⟨Nat.le_refl _, Nat.le_refl _⟩ (fun H locs hP hD hS => ?_)
        clear hc16
        refine lv_iconst (v := 0) hx hb d_Scope_enterFun_119 (by decide) ?_
        replace hR := bi_e hR
        obtain ⟨r17, l17, T17, hc17, hR⟩ := hR
        refine gcV_v (rest := []) ⟨hx, hb, hml, hown, hT⟩ (h_Scope_give _ _ _ _ _ _ hc17) (cwV 2 hT (gV ml_Scope_101 im_Scope_give se_Scope_give ini_Scope co_Scope_give) rfl rfl rfl pd_Scope_give ⟨rm_hi, rm_lo (Nat.le_of_ble_eq_true rfl)⟩) hK hP hD hS hA hnw henv (Nat.le_of_ble_eq_true rfl) rfl rfl hl.1 rfl (Nat.le_of_ble_eq_true rfl) d_Scope_enterFun_120 ⟨Nat.le_refl _, Nat.le_refl _⟩ (fun H locs hP hD hS => ?_)
        clear hc17
        obtain ⟨z18, e18⟩ : ∃ y : Int32, y = x2 + (1 : Int32) := ⟨_, rfl⟩
        replace hR := vK_e e18 hR
        refine lv_iinc (v := z18) (lv' := [(2, .int z18), (0, .ref (ad 6))]) hx hb d_Scope_enterFun_123 hl (k := 1) rfl (by rw [e18]; rfl) (by decide) rfl (fun ls hl => ?_)
        refine lv_goto (tgt := 67) hx hb d_Scope_enterFun_126 (by decide) ?_
        have g := ih T17 z18 hR
        rw [hG] at g
        exact g _ _ hP hD hS _ (lv_sub hl [1, 0] rfl)
  have lb_14 : ∀ (n : Nat) (T : gSt) (x2 : Int32), rl_Scope_enterFun_14 F nf n T x2 = some (r0, rl0, T9) → G 14 [(0, .ref (ad 6)), (2, .int x2)] [] T := by
    intro n
    induction n with
    | zero => intro T x2 hR; rw [rl_Scope_enterFun_14] at hR; cases hR
    | succ n ih =>
      intro T x2 hR; rw [rl_Scope_enterFun_14] at hR; rw [hG]; intro H locs hP hD hS ls hl
      refine lv_iload_n hx hb d_Scope_enterFun_14 rfl (lv_at hl 1 rfl) ?_
      refine lv_aload_n hx hb d_Scope_enterFun_15 rfl (lv_at hl 0 rfl) ?_
      refine rd_Scope_32 hx hb hT hown hK hP d_Scope_enterFun_16 ?_
      refine rd_Scope_60 hx hb hT hown hK hP d_Scope_enterFun_19 ?_
      refine lv_aload_n hx hb d_Scope_enterFun_22 rfl (lv_at hl 0 rfl) ?_
      refine rd_Scope_40 hx hb hT hown hK hP d_Scope_enterFun_23 ?_
      replace hR := gd_e hR
      obtain ⟨b3, hR⟩ := hR
      refine laH_16 hx hb hK hP b3 d_Scope_enterFun_26 ?_
      refine lv_icmp_gt (tgt := 65) hx hb d_Scope_enterFun_27 (by decide) (fun c4 => ?_) (fun c4 => ?_)
      · replace hR := if_p c4 hR
        refine lv_iconst (v := 0) hx hb d_Scope_enterFun_65 (by decide) ?_
        refine lv_istore_n (lv' := [(2, .int (0 : Int32)), (0, .ref (ad 6))]) hx hb d_Scope_enterFun_66 rfl hl (by decide) rfl (fun ls hl => ?_)
        have g := lb_67 nf T (0 : Int32) hR
        rw [hG] at g
        exact g _ _ hP hD hS _ (lv_sub hl [1, 0] rfl)
      · replace hR := if_n c4 hR
        refine lv_aload_n hx hb d_Scope_enterFun_30 rfl (lv_at hl 0 rfl) ?_
        refine lv_iload_n hx hb d_Scope_enterFun_31 rfl (lv_at hl 1 rfl) ?_
        refine lv_aload_n hx hb d_Scope_enterFun_32 rfl (lv_at hl 0 rfl) ?_
        refine rd_Scope_32 hx hb hT hown hK hP d_Scope_enterFun_33 ?_
        refine rd_Scope_80 hx hb hT hown hK hP d_Scope_enterFun_36 ?_
        refine lv_aload_n hx hb d_Scope_enterFun_39 rfl (lv_at hl 0 rfl) ?_
        refine rd_Scope_40 hx hb hT hown hK hP d_Scope_enterFun_40 ?_
        replace hR := gd_e hR
        obtain ⟨b5, hR⟩ := hR
        refine laH_24 hx hb hK hP b5 d_Scope_enterFun_43 ?_
        refine lv_iload_n hx hb d_Scope_enterFun_44 rfl (lv_at hl 1 rfl) ?_
        refine lv_ishr hx hb d_Scope_enterFun_45 ?_
        refine lv_iconst (v := 1) hx hb d_Scope_enterFun_46 (by decide) ?_
        refine lv_iand hx hb d_Scope_enterFun_47 ?_
        refine lv_if_ne (tgt := 55) hx hb d_Scope_enterFun_48 (by decide) (fun c6 => ?_) (fun c6 => ?_)
        · replace hR := if_n c6 hR
          refine lv_iconst (v := 0) hx hb d_Scope_enterFun_55 (by decide) ?_
          replace hR := bi_e hR
          obtain ⟨r7, l7, T7, hc7, hR⟩ := hR
          refine gcV_v (rest := []) ⟨hx, hb, hml, hown, hT⟩ (h_Scope_setLive _ _ _ _ _ _ hc7) (cwV 2 hT (gV ml_Scope_83 im_Scope_setLive se_Scope_setLive ini_Scope co_Scope_setLive) rfl rfl rfl pd_Scope_setLive ⟨rm_hi, rm_lo (Nat.le_of_ble_eq_true rfl)⟩) hK hP hD hS hA hnw henv (Nat.le_of_ble_eq_true rfl) rfl rfl hl.1 rfl (Nat.le_of_ble_eq_true rfl) d_Scope_enterFun_56 ⟨Nat.le_refl _, Nat.le_refl _⟩ (fun H locs hP hD hS => ?_)
          clear hc7
          obtain ⟨z8, e8⟩ : ∃ y : Int32, y = x2 + (1 : Int32) := ⟨_, rfl⟩
          replace hR := vK_e e8 hR
          refine lv_iinc (v := z8) (lv' := [(2, .int z8), (0, .ref (ad 6))]) hx hb d_Scope_enterFun_59 hl (k := 1) rfl (by rw [e8]; rfl) (by decide) rfl (fun ls hl => ?_)
          refine lv_goto (tgt := 14) hx hb d_Scope_enterFun_62 (by decide) ?_
          have g := ih T7 z8 hR
          rw [hG] at g
          exact g _ _ hP hD hS _ (lv_sub hl [1, 0] rfl)
        · replace hR := if_p c6 hR
          refine lv_iconst (v := 1) hx hb d_Scope_enterFun_51 (by decide) ?_
          refine lv_goto (tgt := 56) hx hb d_Scope_enterFun_52 (by decide) ?_
          replace hR := bi_e hR
          obtain ⟨r9, l9, T9, hc9, hR⟩ := hR
          refine gcV_v (rest := []) ⟨hx, hb, hml, hown, hT⟩ (h_Scope_setLive _ _ _ _ _ _ hc9) (cwV 2 hT (gV ml_Scope_83 im_Scope_setLive se_Scope_setLive ini_Scope co_Scope_setLive) rfl rfl rfl pd_Scope_setLive ⟨rm_hi, rm_lo (Nat.le_of_ble_eq_true rfl)⟩) hK hP hD hS hA hnw henv (Nat.le_of_ble_eq_true rfl) rfl rfl hl.1 rfl (Nat.le_of_ble_eq_true rfl) d_Scope_enterFun_56 ⟨Nat.le_refl _, Nat.le_refl _⟩ (fun H locs hP hD hS => ?_)
          clear hc9
          obtain ⟨z10, e10⟩ : ∃ y : Int32, y = x2 + (1 : Int32) := ⟨_, rfl⟩
          replace hR := vK_e e10 hR
          refine lv_iinc (v := z10) (lv' := [(2, .int z10), (0, .ref (ad 6))]) hx hb d_Scope_enterFun_59 hl (k := 1) rfl (by rw [e10]; rfl) (by decide) rfl (fun ls hl => ?_)
          refine lv_goto (tgt := 14) hx hb d_Scope_enterFun_62 (by decide) ?_
          have g := ih T9 z10 hR
          rw [hG] at g
          exact g _ _ hP hD hS _ (lv_sub hl [1, 0] rfl)
  unfold rb_Scope_enterFun at hR
  refine lv_aload_n hx hb d_Scope_enterFun_0 rfl (lv_at hl 0 rfl) ?_
  refine lv_iload_n hx hb d_Scope_enterFun_1 rfl (lv_at hl 1 rfl) ?_
  replace hR := bi_e hR
  obtain ⟨r1, l1, T1, hc1, hR⟩ := hR
  refine gcV_v (rest := []) ⟨hx, hb, hml, hown, hT⟩ (h_Scope_enterHead _ _ _ _ _ hc1) (cwV 1 hT (gV ml_Scope_74 im_Scope_enterHead se_Scope_enterHead ini_Scope co_Scope_enterHead) rfl rfl rfl pd_Scope_enterHead ⟨rm_hi, rm_lo (Nat.le_of_ble_eq_true rfl)⟩) hK hP hD hS hA hnw henv (Nat.le_of_ble_eq_true rfl) rfl rfl hl.1 rfl (Nat.le_of_ble_eq_true rfl) d_Scope_enterFun_2 ⟨Nat.le_refl _, Nat.le_refl _⟩ (fun H locs hP hD hS => ?_)
  clear hc1
  refine lv_aload_n hx hb d_Scope_enterFun_5 rfl (lv_at hl 0 rfl) ?_
  refine lv_ldc2 hx hb hown (hT _ k_Scope_78) d_Scope_enterFun_6 ?_
  refine wr_Scope_56 hx hb hT hown hK hP hD hS d_Scope_enterFun_9 (fun T2 eT H locs hP hD hS => ?_)
  replace hR := stK_e eT hR
  clear eT
  refine lv_iconst (v := 1) hx hb d_Scope_enterFun_12 (by decide) ?_
  refine lv_istore_n (lv' := [(2, .int (1 : Int32)), (0, .ref (ad 6)), (1, .int p1)]) hx hb d_Scope_enterFun_13 rfl hl (by decide) rfl (fun ls hl => ?_)
  have g := lb_14 nf T2 (1 : Int32) hR
  rw [hG] at g
  exact g _ _ hP hD hS _ (lv_sub hl [1, 0] rfl)
set_option maxHeartbeats 4000000 in
set_option maxRecDepth 100000 in
theorem sp_Scope_findRegion (l : Launch) (dC : Nat → ClassId) (dI : Nat → Nat → Nat) (ea ev ad : Nat → Nat) (km : Nat → ClassId) (F : gF) (nf d : Nat) (T0 : gSt) (p1 : Int64) (r0 : Int32) (rl0 : Int64) (T9 : gSt) (hR : rb_Scope_findRegion F nf T0 p1 = some (r0, rl0, T9)) : GMi l dC dI LH ad km ea ev y_Scope_findRegion w_Scope_findRegion (rmD (d + 1)) [.ref (ad 6), .long p1] T0 r0 T9 := by
  intro sz
  refine Met.ofW (cc := b_Scope_findRegion) (maxL := 4) (ret := (some .int)) (by decide) rfl ?_
  intro p e s m args below meth c s₁ B hml hv
  obtain ⟨rfl, hsz, hP, hK, hD0, hnw, henv⟩ := hv
  have hx := B.exec
  have hb := B.bytes
  have hr := B.returns
  have hT : ∀ w ∈ lw_good, w.before _ s = true := fun w h => atoms_spec (ws := w_Scope_findRegion) B.pre w (List.mem_cons_of_mem _ h)
  have hown : s.vm.findClass R_Scope = some m.cls := findClass_of_methodNamed B.named
  subst hsz
  have hD := hD0.self (sz := s.heap.size)
  clear hD0
  generalize hAe : va_A (gW LH ad km T0) s.heap.size = A at hD henv ⊢
  have hA : ∀ q : Nat, s.heap.size ≤ q → A q := fun q h => by rw [← hAe]; exact Or.inr h
  have hS : va_S A s.heap s.heap [] := va_S.rf
  have hl := lv_entry ([.ref (ad 6), .long p1]) (n := 4) (Nat.le_of_ble_eq_true rfl)
  rw [lg_entry_eq]
  generalize (lg_sl ([.ref (ad 6), .long p1]) ++ List.replicate (4 - (lg_sl ([.ref (ad 6), .long p1])).length) Slot.unset).toArray = ls at hl ⊢
  have hl : lv_has ls 4 [(0, .ref (ad 6)), (1, .long p1)] := hl
  obtain ⟨G, hG⟩ : ∃ G : Nat → List (Nat × Value) → List Value → gSt → Prop, G = (fun pc lv stk T => ∀ (H : Heap) (locs : List Loc), va_P (dC, dI) cls_all (gW LH ad km T) H → va_D A (gW LH ad km T) → va_S A s.heap H locs → ∀ (ls : Array Slot), lv_has ls 4 lv → W p l e (headSpec w_Scope_findRegion (rmD (d + 1))).room s m ([.ref (ad 6), .long p1] : List Value).toArray below meth c H locs 0 0 (MQ below (va_Qi (fun (z : Int32) (_ : Unit) => z = r0) (fun _ t => gPost dC dI LH ad km T9 A t) A) ([.ref (ad 6), .long p1] : List Value).toArray s 0 0 A) (F0 m pc ls stk)) := ⟨_, rfl⟩
  have lb_12 : ∀ (n : Nat) (T : gSt) (x1 : Int64) (x3 : Int32), rl_Scope_findRegion_12 F nf n T x1 x3 = some (r0, rl0, T9) → G 12 [(0, .ref (ad 6)), (1, .long x1), (3, .int x3)] [] T := by
    intro n
    induction n with
    | zero => intro T x1 x3 hR; rw [rl_Scope_findRegion_12] at hR; cases hR
    | succ n ih =>
      intro T x1 x3 hR; rw [rl_Scope_findRegion_12] at hR; rw [hG]; intro H locs hP hD hS ls hl
      refine lv_iload_n hx hb d_Scope_findRegion_12 rfl (lv_at hl 2 rfl) ?_
      refine lv_aload_n hx hb d_Scope_findRegion_13 rfl (lv_at hl 0 rfl) ?_
      refine rd_Scope_47 hx hb hT hown hK hP d_Scope_findRegion_14 ?_
      refine lv_icmp_ge (tgt := 39) hx hb d_Scope_findRegion_17 (by decide) (fun c3 => ?_) (fun c3 => ?_)
      · replace hR := if_p c3 hR
        refine lv_iconst (v := (-1)) hx hb d_Scope_findRegion_39 (by decide) ?_
        obtain ⟨e1, -, e3⟩ := re_e hR
        subst e1; subst e3
        exact W.iret (v := (-1 : Int32)) hx hb hr (fun t ht hW => ⟨⟨(-1 : Int32), (), rfl, rfl, by rw [ht]; exact hP, va_K.moved hW.alike hK, hD⟩, hS.F ht⟩) hS.2.2 d_Scope_findRegion_40
      · replace hR := if_n c3 hR
        refine lv_aload_n hx hb d_Scope_findRegion_20 rfl (lv_at hl 0 rfl) ?_
        refine rd_Scope_22 hx hb hT hown hK hP d_Scope_findRegion_21 ?_
        refine lv_iload_n hx hb d_Scope_findRegion_24 rfl (lv_at hl 2 rfl) ?_
        replace hR := gd_e hR
        obtain ⟨b5, hR⟩ := hR
        refine laH_41 hx hb hK hP b5 d_Scope_findRegion_25 ?_
        refine lv_lload_n hx hb d_Scope_findRegion_26 rfl (lv_at hl 1 rfl) ?_
        refine W.lcmp hx hb d_Scope_findRegion_27 ?_
        refine lv_if_ne (tgt := 33) hx hb d_Scope_findRegion_28 (by decide) (fun c6 => ?_) (fun c6 => ?_)
        · replace hR := if_n c6 hR
          obtain ⟨z7, e7⟩ : ∃ y : Int32, y = x3 + (1 : Int32) := ⟨_, rfl⟩
          replace hR := vK_e e7 hR
          refine lv_iinc (v := z7) (lv' := [(3, .int z7), (0, .ref (ad 6)), (1, .long x1)]) hx hb d_Scope_findRegion_33 hl (k := 2) rfl (by rw [e7]; rfl) (by decide) rfl (fun ls hl => ?_)
          refine lv_goto (tgt := 12) hx hb d_Scope_findRegion_36 (by decide) ?_
          have g := ih T x1 z7 hR
          rw [hG] at g
          exact g _ _ hP hD hS _ (lv_sub hl [1, 2, 0] rfl)
        · replace hR := if_p c6 hR
          refine lv_iload_n hx hb d_Scope_findRegion_31 rfl (lv_at hl 2 rfl) ?_
          obtain ⟨e1, -, e3⟩ := re_e hR
          subst e1; subst e3
          exact W.iret (v := x3) hx hb hr (fun t ht hW => ⟨⟨x3, (), rfl, rfl, by rw [ht]; exact hP, va_K.moved hW.alike hK, hD⟩, hS.F ht⟩) hS.2.2 d_Scope_findRegion_32
  unfold rb_Scope_findRegion at hR
  refine lv_lload_n hx hb d_Scope_findRegion_0 rfl (lv_at hl 1 rfl) ?_
  refine lv_ldc2 hx hb hown (hT _ k_Scope_104) d_Scope_findRegion_1 ?_
  refine W.lcmp hx hb d_Scope_findRegion_4 ?_
  refine lv_if_ne (tgt := 10) hx hb d_Scope_findRegion_5 (by decide) (fun c1 => ?_) (fun c1 => ?_)
  · replace hR := if_n c1 hR
    refine lv_iconst (v := 1) hx hb d_Scope_findRegion_10 (by decide) ?_
    refine lv_istore_n (lv' := [(3, .int (1 : Int32)), (0, .ref (ad 6)), (1, .long p1)]) hx hb d_Scope_findRegion_11 rfl hl (by decide) rfl (fun ls hl => ?_)
    have g := lb_12 nf T0 p1 (1 : Int32) hR
    rw [hG] at g
    exact g _ _ hP hD hS _ (lv_sub hl [1, 2, 0] rfl)
  · replace hR := if_p c1 hR
    refine lv_iconst (v := 0) hx hb d_Scope_findRegion_8 (by decide) ?_
    obtain ⟨e1, -, e3⟩ := re_e hR
    subst e1; subst e3
    exact W.iret (v := (0 : Int32)) hx hb hr (fun t ht hW => ⟨⟨(0 : Int32), (), rfl, rfl, by rw [ht]; exact hP, va_K.moved hW.alike hK, hD⟩, hS.F ht⟩) hS.2.2 d_Scope_findRegion_9
set_option maxHeartbeats 4000000 in
set_option maxRecDepth 100000 in
theorem sp_Scope_openRegion (l : Launch) (dC : Nat → ClassId) (dI : Nat → Nat → Nat) (ea ev ad : Nat → Nat) (km : Nat → ClassId) (F : gF) (nf d : Nat) (h_Scope_setLive : mt_Scope_setLive l dC dI ea ev ad km F d) (T0 : gSt) (p1 : Int64) (r0 : Int32) (rl0 : Int64) (T9 : gSt) (hR : rb_Scope_openRegion F nf T0 p1 = some (r0, rl0, T9)) : GMi l dC dI LH ad km ea ev y_Scope_openRegion w_Scope_openRegion (rmD (d + 1)) [.ref (ad 6), .long p1] T0 r0 T9 := by
  intro sz
  refine Met.ofW (cc := b_Scope_openRegion) (maxL := 4) (ret := (some .int)) (by decide) rfl ?_
  intro p e s m args below meth c s₁ B hml hv
  obtain ⟨rfl, hsz, hP, hK, hD0, hnw, henv⟩ := hv
  have hx := B.exec
  have hb := B.bytes
  have hr := B.returns
  have hT : ∀ w ∈ lw_good, w.before _ s = true := fun w h => atoms_spec (ws := w_Scope_openRegion) B.pre w (List.mem_cons_of_mem _ h)
  have hown : s.vm.findClass R_Scope = some m.cls := findClass_of_methodNamed B.named
  subst hsz
  have hD := hD0.self (sz := s.heap.size)
  clear hD0
  generalize hAe : va_A (gW LH ad km T0) s.heap.size = A at hD henv ⊢
  have hA : ∀ q : Nat, s.heap.size ≤ q → A q := fun q h => by rw [← hAe]; exact Or.inr h
  have hS : va_S A s.heap s.heap [] := va_S.rf
  have hl := lv_entry ([.ref (ad 6), .long p1]) (n := 4) (Nat.le_of_ble_eq_true rfl)
  rw [lg_entry_eq]
  generalize (lg_sl ([.ref (ad 6), .long p1]) ++ List.replicate (4 - (lg_sl ([.ref (ad 6), .long p1])).length) Slot.unset).toArray = ls at hl ⊢
  have hl : lv_has ls 4 [(0, .ref (ad 6)), (1, .long p1)] := hl
  unfold rb_Scope_openRegion at hR
  refine lv_aload_n hx hb d_Scope_openRegion_0 rfl (lv_at hl 0 rfl) ?_
  refine rd_Scope_47 hx hb hT hown hK hP d_Scope_openRegion_1 ?_
  refine lv_bipush (v := 12) hx hb d_Scope_openRegion_4 (by decide) ?_
  refine lv_icmp_lt (tgt := 11) hx hb d_Scope_openRegion_6 (by decide) (fun c1 => ?_) (fun c1 => ?_)
  · replace hR := if_p c1 hR
    refine lv_aload_n hx hb d_Scope_openRegion_11 rfl (lv_at hl 0 rfl) ?_
    refine rd_Scope_47 hx hb hT hown hK hP d_Scope_openRegion_12 ?_
    refine lv_topi (fun z2 e2 => ?_)
    replace hR := vK_e e2 hR
    refine lv_istore_n (lv' := [(3, .int z2), (0, .ref (ad 6)), (1, .long p1)]) hx hb d_Scope_openRegion_15 rfl hl (by decide) rfl (fun ls hl => ?_)
    refine lv_aload_n hx hb d_Scope_openRegion_16 rfl (lv_at hl 1 rfl) ?_
    refine rd_Scope_22 hx hb hT hown hK hP d_Scope_openRegion_17 ?_
    refine lv_iload_n hx hb d_Scope_openRegion_20 rfl (lv_at hl 0 rfl) ?_
    refine lv_lload_n hx hb d_Scope_openRegion_21 rfl (lv_at hl 2 rfl) ?_
    replace hR := gd_e hR
    obtain ⟨b3, hR⟩ := hR
    refine saH_41 hx hb hK hP hD hS b3 d_Scope_openRegion_22 (fun T3 eT H locs hP hD hS => ?_)
    replace hR := stK_e eT hR
    clear eT
    refine lv_aload_n hx hb d_Scope_openRegion_23 rfl (lv_at hl 1 rfl) ?_
    refine rd_Scope_25 hx hb hT hown hK hP d_Scope_openRegion_24 ?_
    refine lv_iload_n hx hb d_Scope_openRegion_27 rfl (lv_at hl 0 rfl) ?_
    refine lv_aload_n hx hb d_Scope_openRegion_28 rfl (lv_at hl 1 rfl) ?_
    refine rd_Scope_50 hx hb hT hown hK hP d_Scope_openRegion_29 ?_
    replace hR := gd_e hR
    obtain ⟨b4, hR⟩ := hR
    refine saH_42 hx hb hK hP hD hS b4 d_Scope_openRegion_32 (fun T4 eT H locs hP hD hS => ?_)
    replace hR := stK_e eT hR
    clear eT
    refine lv_aload_n hx hb d_Scope_openRegion_33 rfl (lv_at hl 1 rfl) ?_
    refine lv_dup hx hb d_Scope_openRegion_34 rfl ?_
    refine rd_Scope_47 hx hb hT hown hK hP d_Scope_openRegion_35 ?_
    refine lv_iconst (v := 1) hx hb d_Scope_openRegion_38 (by decide) ?_
    refine lv_iadd hx hb d_Scope_openRegion_39 ?_
    refine wr_Scope_47 hx hb hT hown hK hP hD hS d_Scope_openRegion_40 (fun T5 eT H locs hP hD hS => ?_)
    replace hR := stK_e eT hR
    clear eT
    refine lv_aload_n hx hb d_Scope_openRegion_43 rfl (lv_at hl 1 rfl) ?_
    refine lv_iload_n hx hb d_Scope_openRegion_44 rfl (lv_at hl 0 rfl) ?_
    refine lv_iconst (v := 1) hx hb d_Scope_openRegion_45 (by decide) ?_
    replace hR := bi_e hR
    obtain ⟨r6, l6, T6, hc6, hR⟩ := hR
    refine gcV_v (rest := []) ⟨hx, hb, hml, hown, hT⟩ (h_Scope_setLive _ _ _ _ _ _ hc6) (cwV 2 hT (gV ml_Scope_83 im_Scope_setLive se_Scope_setLive ini_Scope co_Scope_setLive) rfl rfl rfl pd_Scope_setLive ⟨rm_hi, rm_lo (Nat.le_of_ble_eq_true rfl)⟩) hK hP hD hS hA hnw henv (Nat.le_of_ble_eq_true rfl) rfl rfl hl.1 rfl (Nat.le_of_ble_eq_true rfl) d_Scope_openRegion_46 ⟨Nat.le_refl _, Nat.le_refl _⟩ (fun H locs hP hD hS => ?_)
    clear hc6
    refine lv_iload_n hx hb d_Scope_openRegion_49 rfl (lv_at hl 0 rfl) ?_
    obtain ⟨e1, -, e3⟩ := re_e hR
    subst e1; subst e3
    exact W.iret (v := z2) hx hb hr (fun t ht hW => ⟨⟨z2, (), rfl, rfl, by rw [ht]; exact hP, va_K.moved hW.alike hK, hD⟩, hS.F ht⟩) hS.2.2 d_Scope_openRegion_50
  · replace hR := if_n c1 hR
    refine lv_iconst (v := 0) hx hb d_Scope_openRegion_9 (by decide) ?_
    obtain ⟨e1, -, e3⟩ := re_e hR
    subst e1; subst e3
    exact W.iret (v := (0 : Int32)) hx hb hr (fun t ht hW => ⟨⟨(0 : Int32), (), rfl, rfl, by rw [ht]; exact hP, va_K.moved hW.alike hK, hD⟩, hS.F ht⟩) hS.2.2 d_Scope_openRegion_10
set_option maxHeartbeats 4000000 in
set_option maxRecDepth 100000 in
theorem sp_Scope_leaveRegion (l : Launch) (dC : Nat → ClassId) (dI : Nat → Nat → Nat) (ea ev ad : Nat → Nat) (km : Nat → ClassId) (F : gF) (nf d : Nat) (h_Scope_setLive : mt_Scope_setLive l dC dI ea ev ad km F d) (T0 : gSt) (p1 : Int32) (r0 : Int32) (rl0 : Int64) (T9 : gSt) (hR : rb_Scope_leaveRegion F nf T0 p1 = some (r0, rl0, T9)) : GMv l dC dI LH ad km ea ev y_Scope_leaveRegion w_Scope_leaveRegion (rmD (d + 1)) [.ref (ad 6), .int p1] T0 T9 := by
  intro sz
  refine Met.ofW (cc := b_Scope_leaveRegion) (maxL := 2) (ret := none) (by decide) rfl ?_
  intro p e s m args below meth c s₁ B hml hv
  obtain ⟨rfl, hsz, hP, hK, hD0, hnw, henv⟩ := hv
  have hx := B.exec
  have hb := B.bytes
  have hr := B.returns
  have hT : ∀ w ∈ lw_good, w.before _ s = true := fun w h => atoms_spec (ws := w_Scope_leaveRegion) B.pre w (List.mem_cons_of_mem _ h)
  have hown : s.vm.findClass R_Scope = some m.cls := findClass_of_methodNamed B.named
  subst hsz
  have hD := hD0.self (sz := s.heap.size)
  clear hD0
  generalize hAe : va_A (gW LH ad km T0) s.heap.size = A at hD henv ⊢
  have hA : ∀ q : Nat, s.heap.size ≤ q → A q := fun q h => by rw [← hAe]; exact Or.inr h
  have hS : va_S A s.heap s.heap [] := va_S.rf
  have hl := lv_entry ([.ref (ad 6), .int p1]) (n := 2) (Nat.le_of_ble_eq_true rfl)
  rw [lg_entry_eq]
  generalize (lg_sl ([.ref (ad 6), .int p1]) ++ List.replicate (2 - (lg_sl ([.ref (ad 6), .int p1])).length) Slot.unset).toArray = ls at hl ⊢
  have hl : lv_has ls 2 [(0, .ref (ad 6)), (1, .int p1)] := hl
  unfold rb_Scope_leaveRegion at hR
  refine lv_iload_n hx hb d_Scope_leaveRegion_0 rfl (lv_at hl 1 rfl) ?_
  refine lv_iconst (v := 4) hx hb d_Scope_leaveRegion_1 (by decide) ?_
  refine lv_icmp_lt (tgt := 16) hx hb d_Scope_leaveRegion_2 (by decide) (fun c1 => ?_) (fun c1 => ?_)
  · replace hR := if_p c1 hR
    obtain ⟨-, -, e3⟩ := re_e hR
    subst e3
    exact W.vret hx hb hr (fun t ht hW => ⟨⟨(), rfl, trivial, by rw [ht]; exact hP, va_K.moved hW.alike hK, hD⟩, hS.F ht⟩) hS.2.2 d_Scope_leaveRegion_16
  · replace hR := if_n c1 hR
    refine lv_aload_n hx hb d_Scope_leaveRegion_5 rfl (lv_at hl 0 rfl) ?_
    refine lv_iload_n hx hb d_Scope_leaveRegion_6 rfl (lv_at hl 1 rfl) ?_
    refine lv_iconst (v := 0) hx hb d_Scope_leaveRegion_7 (by decide) ?_
    replace hR := bi_e hR
    obtain ⟨r2, l2, T2, hc2, hR⟩ := hR
    refine gcV_v (rest := []) ⟨hx, hb, hml, hown, hT⟩ (h_Scope_setLive _ _ _ _ _ _ hc2) (cwV 2 hT (gV ml_Scope_83 im_Scope_setLive se_Scope_setLive ini_Scope co_Scope_setLive) rfl rfl rfl pd_Scope_setLive ⟨rm_hi, rm_lo (Nat.le_of_ble_eq_true rfl)⟩) hK hP hD hS hA hnw henv (Nat.le_of_ble_eq_true rfl) rfl rfl hl.1 rfl (Nat.le_of_ble_eq_true rfl) d_Scope_leaveRegion_8 ⟨Nat.le_refl _, Nat.le_refl _⟩ (fun H locs hP hD hS => ?_)
    clear hc2
    refine lv_aload_n hx hb d_Scope_leaveRegion_11 rfl (lv_at hl 0 rfl) ?_
    refine lv_iload_n hx hb d_Scope_leaveRegion_12 rfl (lv_at hl 1 rfl) ?_
    refine wr_Scope_47 hx hb hT hown hK hP hD hS d_Scope_leaveRegion_13 (fun T3 eT H locs hP hD hS => ?_)
    replace hR := stK_e eT hR
    clear eT
    obtain ⟨-, -, e3⟩ := re_e hR
    subst e3
    exact W.vret hx hb hr (fun t ht hW => ⟨⟨(), rfl, trivial, by rw [ht]; exact hP, va_K.moved hW.alike hK, hD⟩, hS.F ht⟩) hS.2.2 d_Scope_leaveRegion_16
set_option maxHeartbeats 4000000 in
set_option maxRecDepth 100000 in
theorem sp_Scope_mayClose (l : Launch) (dC : Nat → ClassId) (dI : Nat → Nat → Nat) (ea ev ad : Nat → Nat) (km : Nat → ClassId) (F : gF) (nf d : Nat) (h_Scope_isLive : mt_Scope_isLive l dC dI ea ev ad km F d) (T0 : gSt) (p1 : Int32) (r0 : Int32) (rl0 : Int64) (T9 : gSt) (hR : rb_Scope_mayClose F nf T0 p1 = some (r0, rl0, T9)) : GMi l dC dI LH ad km ea ev y_Scope_mayClose w_Scope_mayClose (rmD (d + 1)) [.ref (ad 6), .int p1] T0 r0 T9 := by
  intro sz
  refine Met.ofW (cc := b_Scope_mayClose) (maxL := 4) (ret := (some .boolean)) (by decide) rfl ?_
  intro p e s m args below meth c s₁ B hml hv
  obtain ⟨rfl, hsz, hP, hK, hD0, hnw, henv⟩ := hv
  have hx := B.exec
  have hb := B.bytes
  have hr := B.returns
  have hT : ∀ w ∈ lw_good, w.before _ s = true := fun w h => atoms_spec (ws := w_Scope_mayClose) B.pre w (List.mem_cons_of_mem _ h)
  have hown : s.vm.findClass R_Scope = some m.cls := findClass_of_methodNamed B.named
  subst hsz
  have hD := hD0.self (sz := s.heap.size)
  clear hD0
  generalize hAe : va_A (gW LH ad km T0) s.heap.size = A at hD henv ⊢
  have hA : ∀ q : Nat, s.heap.size ≤ q → A q := fun q h => by rw [← hAe]; exact Or.inr h
  have hS : va_S A s.heap s.heap [] := va_S.rf
  have hl := lv_entry ([.ref (ad 6), .int p1]) (n := 4) (Nat.le_of_ble_eq_true rfl)
  rw [lg_entry_eq]
  generalize (lg_sl ([.ref (ad 6), .int p1]) ++ List.replicate (4 - (lg_sl ([.ref (ad 6), .int p1])).length) Slot.unset).toArray = ls at hl ⊢
  have hl : lv_has ls 4 [(0, .ref (ad 6)), (1, .int p1)] := hl
  obtain ⟨G, hG⟩ : ∃ G : Nat → List (Nat × Value) → List Value → gSt → Prop, G = (fun pc lv stk T => ∀ (H : Heap) (locs : List Loc), va_P (dC, dI) cls_all (gW LH ad km T) H → va_D A (gW LH ad km T) → va_S A s.heap H locs → ∀ (ls : Array Slot), lv_has ls 4 lv → W p l e (headSpec w_Scope_mayClose (rmD (d + 1))).room s m ([.ref (ad 6), .int p1] : List Value).toArray below meth c H locs 0 0 (MQ below (va_Qi (fun (z : Int32) (_ : Unit) => z = r0) (fun _ t => gPost dC dI LH ad km T9 A t) A) ([.ref (ad 6), .int p1] : List Value).toArray s 0 0 A) (F0 m pc ls stk)) := ⟨_, rfl⟩
  have lb_29 : ∀ (n : Nat) (T : gSt) (x1 : Int32) (x2 : Int32) (x3 : Int32), rl_Scope_mayClose_29 F nf n T x1 x2 x3 = some (r0, rl0, T9) → G 29 [(0, .ref (ad 6)), (1, .int x1), (2, .int x2), (3, .int x3)] [] T := by
    intro n
    induction n with
    | zero => intro T x1 x2 x3 hR; rw [rl_Scope_mayClose_29] at hR; cases hR
    | succ n ih =>
      intro T x1 x2 x3 hR; rw [rl_Scope_mayClose_29] at hR; rw [hG]; intro H locs hP hD hS ls hl
      refine lv_iload_n hx hb d_Scope_mayClose_29 rfl (lv_at hl 3 rfl) ?_
      refine lv_aload_n hx hb d_Scope_mayClose_30 rfl (lv_at hl 0 rfl) ?_
      refine rd_Scope_47 hx hb hT hown hK hP d_Scope_mayClose_31 ?_
      refine lv_icmp_ge (tgt := 51) hx hb d_Scope_mayClose_34 (by decide) (fun c9 => ?_) (fun c9 => ?_)
      · replace hR := if_p c9 hR
        refine lv_iload_n hx hb d_Scope_mayClose_51 rfl (lv_at hl 2 rfl) ?_
        refine lv_if_ne (tgt := 72) hx hb d_Scope_mayClose_52 (by decide) (fun c10 => ?_) (fun c10 => ?_)
        · replace hR := if_n c10 hR
          refine lv_iconst (v := 0) hx hb d_Scope_mayClose_72 (by decide) ?_
          obtain ⟨e1, -, e3⟩ := re_e hR
          subst e1; subst e3
          exact W.zret (v := (0 : Int32)) hx hb hr (by first | rfl | decide) (fun t ht hW => ⟨⟨(0 : Int32), (), rfl, rfl, by rw [ht]; exact hP, va_K.moved hW.alike hK, hD⟩, hS.F ht⟩) hS.2.2 d_Scope_mayClose_73
        · replace hR := if_p c10 hR
          refine lv_aload_n hx hb d_Scope_mayClose_55 rfl (lv_at hl 0 rfl) ?_
          refine rd_Scope_25 hx hb hT hown hK hP d_Scope_mayClose_56 ?_
          refine lv_iload_n hx hb d_Scope_mayClose_59 rfl (lv_at hl 1 rfl) ?_
          replace hR := gd_e hR
          obtain ⟨b12, hR⟩ := hR
          refine laH_42 hx hb hK hP b12 d_Scope_mayClose_60 ?_
          refine lv_aload_n hx hb d_Scope_mayClose_61 rfl (lv_at hl 0 rfl) ?_
          refine rd_Scope_50 hx hb hT hown hK hP d_Scope_mayClose_62 ?_
          refine lv_icmp_ne (tgt := 72) hx hb d_Scope_mayClose_65 (by decide) (fun c13 => ?_) (fun c13 => ?_)
          · replace hR := if_n c13 hR
            refine lv_iconst (v := 0) hx hb d_Scope_mayClose_72 (by decide) ?_
            obtain ⟨e1, -, e3⟩ := re_e hR
            subst e1; subst e3
            exact W.zret (v := (0 : Int32)) hx hb hr (by first | rfl | decide) (fun t ht hW => ⟨⟨(0 : Int32), (), rfl, rfl, by rw [ht]; exact hP, va_K.moved hW.alike hK, hD⟩, hS.F ht⟩) hS.2.2 d_Scope_mayClose_73
          · replace hR := if_p c13 hR
            refine lv_iconst (v := 1) hx hb d_Scope_mayClose_68 (by decide) ?_
            refine lv_goto (tgt := 73) hx hb d_Scope_mayClose_69 (by decide) ?_
            obtain ⟨e1, -, e3⟩ := re_e hR
            subst e1; subst e3
            exact W.zret (v := (1 : Int32)) hx hb hr (by first | rfl | decide) (fun t ht hW => ⟨⟨(1 : Int32), (), rfl, rfl, by rw [ht]; exact hP, va_K.moved hW.alike hK, hD⟩, hS.F ht⟩) hS.2.2 d_Scope_mayClose_73
      · replace hR := if_n c9 hR
        refine lv_iload_n hx hb d_Scope_mayClose_37 rfl (lv_at hl 2 rfl) ?_
        refine lv_aload_n hx hb d_Scope_mayClose_38 rfl (lv_at hl 0 rfl) ?_
        refine lv_iload_n hx hb d_Scope_mayClose_39 rfl (lv_at hl 3 rfl) ?_
        replace hR := bi_e hR
        obtain ⟨r16, l16, T16, hc16, hR⟩ := hR
        refine gcV_i (rest := [.int x2]) ⟨hx, hb, hml, hown, hT⟩ (h_Scope_isLive _ _ _ _ _ hc16) (cwV 1 hT (gV ml_Scope_106 im_Scope_isLive se_Scope_isLive ini_Scope co_Scope_isLive) rfl rfl rfl pd_Scope_isLive ⟨rm_hi, rm_lo (Nat.le_of_ble_eq_true rfl)⟩) hK hP hD hS hA hnw henv (Nat.le_of_ble_eq_true rfl) rfl rfl hl.1 rfl (Nat.le_of_ble_eq_true rfl) d_Scope_mayClose_40 ⟨Nat.le_refl _, Nat.le_refl _⟩ (fun H locs hP hD hS => ?_)
        clear hc16
        refine lv_ior hx hb d_Scope_mayClose_43 ?_
        refine lv_topi (fun z17 e17 => ?_)
        replace hR := vK_e e17 hR
        refine lv_istore_n (lv' := [(2, .int z17), (0, .ref (ad 6)), (1, .int x1), (3, .int x3)]) hx hb d_Scope_mayClose_44 rfl hl (by decide) rfl (fun ls hl => ?_)
        obtain ⟨z18, e18⟩ : ∃ y : Int32, y = x3 + (1 : Int32) := ⟨_, rfl⟩
        replace hR := vK_e e18 hR
        refine lv_iinc (v := z18) (lv' := [(3, .int z18), (2, .int z17), (0, .ref (ad 6)), (1, .int x1)]) hx hb d_Scope_mayClose_45 hl (k := 3) rfl (by rw [e18]; rfl) (by decide) rfl (fun ls hl => ?_)
        refine lv_goto (tgt := 29) hx hb d_Scope_mayClose_48 (by decide) ?_
        have g := ih T16 x1 z17 z18 hR
        rw [hG] at g
        exact g _ _ hP hD hS _ (lv_sub hl [2, 3, 1, 0] rfl)
  unfold rb_Scope_mayClose at hR
  refine lv_iload_n hx hb d_Scope_mayClose_0 rfl (lv_at hl 1 rfl) ?_
  refine lv_iconst (v := 4) hx hb d_Scope_mayClose_1 (by decide) ?_
  refine lv_icmp_lt (tgt := 21) hx hb d_Scope_mayClose_2 (by decide) (fun c1 => ?_) (fun c1 => ?_)
  · replace hR := if_p c1 hR
    refine lv_iconst (v := 0) hx hb d_Scope_mayClose_21 (by decide) ?_
    obtain ⟨e1, -, e3⟩ := re_e hR
    subst e1; subst e3
    exact W.zret (v := (0 : Int32)) hx hb hr (by first | rfl | decide) (fun t ht hW => ⟨⟨(0 : Int32), (), rfl, rfl, by rw [ht]; exact hP, va_K.moved hW.alike hK, hD⟩, hS.F ht⟩) hS.2.2 d_Scope_mayClose_22
  · replace hR := if_n c1 hR
    refine lv_iload_n hx hb d_Scope_mayClose_5 rfl (lv_at hl 1 rfl) ?_
    refine lv_aload_n hx hb d_Scope_mayClose_6 rfl (lv_at hl 0 rfl) ?_
    refine rd_Scope_47 hx hb hT hown hK hP d_Scope_mayClose_7 ?_
    refine lv_icmp_ge (tgt := 21) hx hb d_Scope_mayClose_10 (by decide) (fun c3 => ?_) (fun c3 => ?_)
    · replace hR := if_p c3 hR
      refine lv_iconst (v := 0) hx hb d_Scope_mayClose_21 (by decide) ?_
      obtain ⟨e1, -, e3⟩ := re_e hR
      subst e1; subst e3
      exact W.zret (v := (0 : Int32)) hx hb hr (by first | rfl | decide) (fun t ht hW => ⟨⟨(0 : Int32), (), rfl, rfl, by rw [ht]; exact hP, va_K.moved hW.alike hK, hD⟩, hS.F ht⟩) hS.2.2 d_Scope_mayClose_22
    · replace hR := if_n c3 hR
      refine lv_aload_n hx hb d_Scope_mayClose_13 rfl (lv_at hl 0 rfl) ?_
      refine lv_iload_n hx hb d_Scope_mayClose_14 rfl (lv_at hl 1 rfl) ?_
      replace hR := bi_e hR
      obtain ⟨r5, l5, T5, hc5, hR⟩ := hR
      refine gcV_i (rest := []) ⟨hx, hb, hml, hown, hT⟩ (h_Scope_isLive _ _ _ _ _ hc5) (cwV 1 hT (gV ml_Scope_106 im_Scope_isLive se_Scope_isLive ini_Scope co_Scope_isLive) rfl rfl rfl pd_Scope_isLive ⟨rm_hi, rm_lo (Nat.le_of_ble_eq_true rfl)⟩) hK hP hD hS hA hnw henv (Nat.le_of_ble_eq_true rfl) rfl rfl hl.1 rfl (Nat.le_of_ble_eq_true rfl) d_Scope_mayClose_15 ⟨Nat.le_refl _, Nat.le_refl _⟩ (fun H locs hP hD hS => ?_)
      clear hc5
      refine lv_if_ne (tgt := 23) hx hb d_Scope_mayClose_18 (by decide) (fun c6 => ?_) (fun c6 => ?_)
      · replace hR := if_n c6 hR
        refine lv_iconst (v := 0) hx hb d_Scope_mayClose_23 (by decide) ?_
        refine lv_istore_n (lv' := [(2, .int (0 : Int32)), (0, .ref (ad 6)), (1, .int p1)]) hx hb d_Scope_mayClose_24 rfl hl (by decide) rfl (fun ls hl => ?_)
        refine lv_iload_n hx hb d_Scope_mayClose_25 rfl (lv_at hl 2 rfl) ?_
        refine lv_iconst (v := 1) hx hb d_Scope_mayClose_26 (by decide) ?_
        refine lv_iadd hx hb d_Scope_mayClose_27 ?_
        refine lv_topi (fun z7 e7 => ?_)
        replace hR := vK_e e7 hR
        refine lv_istore_n (lv' := [(3, .int z7), (2, .int (0 : Int32)), (0, .ref (ad 6)), (1, .int p1)]) hx hb d_Scope_mayClose_28 rfl hl (by decide) rfl (fun ls hl => ?_)
        have g := lb_29 nf T5 p1 (0 : Int32) z7 hR
        rw [hG] at g
        exact g _ _ hP hD hS _ (lv_sub hl [2, 3, 1, 0] rfl)
      · replace hR := if_p c6 hR
        refine lv_iconst (v := 0) hx hb d_Scope_mayClose_21 (by decide) ?_
        obtain ⟨e1, -, e3⟩ := re_e hR
        subst e1; subst e3
        exact W.zret (v := (0 : Int32)) hx hb hr (by first | rfl | decide) (fun t ht hW => ⟨⟨(0 : Int32), (), rfl, rfl, by rw [ht]; exact hP, va_K.moved hW.alike hK, hD⟩, hS.F ht⟩) hS.2.2 d_Scope_mayClose_22
set_option maxHeartbeats 4000000 in
set_option maxRecDepth 100000 in
theorem sp_Scope_isLive (l : Launch) (dC : Nat → ClassId) (dI : Nat → Nat → Nat) (ea ev ad : Nat → Nat) (km : Nat → ClassId) (F : gF) (nf d : Nat) (T0 : gSt) (p1 : Int32) (r0 : Int32) (rl0 : Int64) (T9 : gSt) (hR : rb_Scope_isLive F nf T0 p1 = some (r0, rl0, T9)) : GMi l dC dI LH ad km ea ev y_Scope_isLive w_Scope_isLive (rmD (d + 1)) [.ref (ad 6), .int p1] T0 r0 T9 := by
  intro sz
  refine Met.ofW (cc := b_Scope_isLive) (maxL := 2) (ret := (some .boolean)) (by decide) rfl ?_
  intro p e s m args below meth c s₁ B hml hv
  obtain ⟨rfl, hsz, hP, hK, hD0, hnw, henv⟩ := hv
  have hx := B.exec
  have hb := B.bytes
  have hr := B.returns
  have hT : ∀ w ∈ lw_good, w.before _ s = true := fun w h => atoms_spec (ws := w_Scope_isLive) B.pre w (List.mem_cons_of_mem _ h)
  have hown : s.vm.findClass R_Scope = some m.cls := findClass_of_methodNamed B.named
  subst hsz
  have hD := hD0.self (sz := s.heap.size)
  clear hD0
  generalize hAe : va_A (gW LH ad km T0) s.heap.size = A at hD henv ⊢
  have hA : ∀ q : Nat, s.heap.size ≤ q → A q := fun q h => by rw [← hAe]; exact Or.inr h
  have hS : va_S A s.heap s.heap [] := va_S.rf
  have hl := lv_entry ([.ref (ad 6), .int p1]) (n := 2) (Nat.le_of_ble_eq_true rfl)
  rw [lg_entry_eq]
  generalize (lg_sl ([.ref (ad 6), .int p1]) ++ List.replicate (2 - (lg_sl ([.ref (ad 6), .int p1])).length) Slot.unset).toArray = ls at hl ⊢
  have hl : lv_has ls 2 [(0, .ref (ad 6)), (1, .int p1)] := hl
  unfold rb_Scope_isLive at hR
  refine lv_aload_n hx hb d_Scope_isLive_0 rfl (lv_at hl 0 rfl) ?_
  refine rd_Scope_56 hx hb hT hown hK hP d_Scope_isLive_1 ?_
  refine lv_bipush (v := 40) hx hb d_Scope_isLive_4 (by decide) ?_
  refine lv_iload_n hx hb d_Scope_isLive_6 rfl (lv_at hl 1 rfl) ?_
  refine lv_iadd hx hb d_Scope_isLive_7 ?_
  refine lv_lshr (v := (T0.2 77 0) >>> (((40 : Int32) + p1 : Int32).toInt64 &&& 63)) hx hb d_Scope_isLive_8 rfl ?_
  refine lv_lconst (v := 1) hx hb d_Scope_isLive_9 (by decide) ?_
  refine lv_land hx hb d_Scope_isLive_10 ?_
  refine lv_lconst (v := 0) hx hb d_Scope_isLive_11 (by decide) ?_
  refine W.lcmp hx hb d_Scope_isLive_12 ?_
  refine lv_if_eq (tgt := 20) hx hb d_Scope_isLive_13 (by decide) (fun c1 => ?_) (fun c1 => ?_)
  · replace hR := if_p c1 hR
    refine lv_iconst (v := 0) hx hb d_Scope_isLive_20 (by decide) ?_
    obtain ⟨e1, -, e3⟩ := re_e hR
    subst e1; subst e3
    exact W.zret (v := (0 : Int32)) hx hb hr (by first | rfl | decide) (fun t ht hW => ⟨⟨(0 : Int32), (), rfl, rfl, by rw [ht]; exact hP, va_K.moved hW.alike hK, hD⟩, hS.F ht⟩) hS.2.2 d_Scope_isLive_21
  · replace hR := if_n c1 hR
    refine lv_iconst (v := 1) hx hb d_Scope_isLive_16 (by decide) ?_
    refine lv_goto (tgt := 21) hx hb d_Scope_isLive_17 (by decide) ?_
    obtain ⟨e1, -, e3⟩ := re_e hR
    subst e1; subst e3
    exact W.zret (v := (1 : Int32)) hx hb hr (by first | rfl | decide) (fun t ht hW => ⟨⟨(1 : Int32), (), rfl, rfl, by rw [ht]; exact hP, va_K.moved hW.alike hK, hD⟩, hS.F ht⟩) hS.2.2 d_Scope_isLive_21
set_option maxHeartbeats 4000000 in
set_option maxRecDepth 100000 in
theorem sp_Scope_setLive (l : Launch) (dC : Nat → ClassId) (dI : Nat → Nat → Nat) (ea ev ad : Nat → Nat) (km : Nat → ClassId) (F : gF) (nf d : Nat) (T0 : gSt) (p1 : Int32) (p2 : Int32) (r0 : Int32) (rl0 : Int64) (T9 : gSt) (hR : rb_Scope_setLive F nf T0 p1 p2 = some (r0, rl0, T9)) : GMv l dC dI LH ad km ea ev y_Scope_setLive w_Scope_setLive (rmD (d + 1)) [.ref (ad 6), .int p1, .int p2] T0 T9 := by
  intro sz
  refine Met.ofW (cc := b_Scope_setLive) (maxL := 5) (ret := none) (by decide) rfl ?_
  intro p e s m args below meth c s₁ B hml hv
  obtain ⟨rfl, hsz, hP, hK, hD0, hnw, henv⟩ := hv
  have hx := B.exec
  have hb := B.bytes
  have hr := B.returns
  have hT : ∀ w ∈ lw_good, w.before _ s = true := fun w h => atoms_spec (ws := w_Scope_setLive) B.pre w (List.mem_cons_of_mem _ h)
  have hown : s.vm.findClass R_Scope = some m.cls := findClass_of_methodNamed B.named
  subst hsz
  have hD := hD0.self (sz := s.heap.size)
  clear hD0
  generalize hAe : va_A (gW LH ad km T0) s.heap.size = A at hD henv ⊢
  have hA : ∀ q : Nat, s.heap.size ≤ q → A q := fun q h => by rw [← hAe]; exact Or.inr h
  have hS : va_S A s.heap s.heap [] := va_S.rf
  have hl := lv_entry ([.ref (ad 6), .int p1, .int p2]) (n := 5) (Nat.le_of_ble_eq_true rfl)
  rw [lg_entry_eq]
  generalize (lg_sl ([.ref (ad 6), .int p1, .int p2]) ++ List.replicate (5 - (lg_sl ([.ref (ad 6), .int p1, .int p2])).length) Slot.unset).toArray = ls at hl ⊢
  have hl : lv_has ls 5 [(0, .ref (ad 6)), (1, .int p1), (2, .int p2)] := hl
  unfold rb_Scope_setLive at hR
  refine lv_lconst (v := 1) hx hb d_Scope_setLive_0 (by decide) ?_
  refine lv_bipush (v := 40) hx hb d_Scope_setLive_1 (by decide) ?_
  refine lv_iload_n hx hb d_Scope_setLive_3 rfl (lv_at hl 1 rfl) ?_
  refine lv_iadd hx hb d_Scope_setLive_4 ?_
  refine lv_lshl (v := (1 : Int64) <<< (((40 : Int32) + p1 : Int32).toInt64 &&& 63)) hx hb d_Scope_setLive_5 rfl ?_
  refine lv_topl (fun z1 e1 => ?_)
  replace hR := lK_e e1 hR
  refine lv_lstore_n (lv' := [(3, .long z1), (0, .ref (ad 6)), (1, .int p1), (2, .int p2)]) hx hb d_Scope_setLive_6 rfl hl (by decide) rfl (fun ls hl => ?_)
  refine lv_aload_n hx hb d_Scope_setLive_7 rfl (lv_at hl 1 rfl) ?_
  refine lv_iload_n hx hb d_Scope_setLive_8 rfl (lv_at hl 3 rfl) ?_
  refine lv_if_eq (tgt := 21) hx hb d_Scope_setLive_9 (by decide) (fun c2 => ?_) (fun c2 => ?_)
  · replace hR := if_p c2 hR
    refine lv_aload_n hx hb d_Scope_setLive_21 rfl (lv_at hl 1 rfl) ?_
    refine rd_Scope_56 hx hb hT hown hK hP d_Scope_setLive_22 ?_
    refine lv_lload_n hx hb d_Scope_setLive_25 rfl (lv_at hl 0 rfl) ?_
    refine lv_ldc2 hx hb hown (hT _ k_Scope_110) d_Scope_setLive_26 ?_
    refine lv_lxor hx hb d_Scope_setLive_29 ?_
    refine lv_land hx hb d_Scope_setLive_30 ?_
    refine wr_Scope_56 hx hb hT hown hK hP hD hS d_Scope_setLive_31 (fun T3 eT H locs hP hD hS => ?_)
    replace hR := stK_e eT hR
    clear eT
    obtain ⟨-, -, e3⟩ := re_e hR
    subst e3
    exact W.vret hx hb hr (fun t ht hW => ⟨⟨(), rfl, trivial, by rw [ht]; exact hP, va_K.moved hW.alike hK, hD⟩, hS.F ht⟩) hS.2.2 d_Scope_setLive_34
  · replace hR := if_n c2 hR
    refine lv_aload_n hx hb d_Scope_setLive_12 rfl (lv_at hl 1 rfl) ?_
    refine rd_Scope_56 hx hb hT hown hK hP d_Scope_setLive_13 ?_
    refine lv_lload_n hx hb d_Scope_setLive_16 rfl (lv_at hl 0 rfl) ?_
    refine lv_lor hx hb d_Scope_setLive_17 ?_
    refine lv_goto (tgt := 31) hx hb d_Scope_setLive_18 (by decide) ?_
    refine wr_Scope_56 hx hb hT hown hK hP hD hS d_Scope_setLive_31 (fun T4 eT H locs hP hD hS => ?_)
    replace hR := stK_e eT hR
    clear eT
    obtain ⟨-, -, e3⟩ := re_e hR
    subst e3
    exact W.vret hx hb hr (fun t ht hW => ⟨⟨(), rfl, trivial, by rw [ht]; exact hP, va_K.moved hW.alike hK, hD⟩, hS.F ht⟩) hS.2.2 d_Scope_setLive_34
set_option maxHeartbeats 4000000 in
set_option maxRecDepth 100000 in
theorem sp_Scope_outlives (l : Launch) (dC : Nat → ClassId) (dI : Nat → Nat → Nat) (ea ev ad : Nat → Nat) (km : Nat → ClassId) (F : gF) (nf d : Nat) (h_Scope_aboveBit : mt_Scope_aboveBit l dC dI ea ev ad km F d) (h_Scope_isLive : mt_Scope_isLive l dC dI ea ev ad km F d) (T0 : gSt) (p1 : Int32) (p2 : Int32) (r0 : Int32) (rl0 : Int64) (T9 : gSt) (hR : rb_Scope_outlives F nf T0 p1 p2 = some (r0, rl0, T9)) : GMi l dC dI LH ad km ea ev y_Scope_outlives w_Scope_outlives (rmD (d + 1)) [.ref (ad 6), .int p1, .int p2] T0 r0 T9 := by
  intro sz
  refine Met.ofW (cc := b_Scope_outlives) (maxL := 3) (ret := (some .boolean)) (by decide) rfl ?_
  intro p e s m args below meth c s₁ B hml hv
  obtain ⟨rfl, hsz, hP, hK, hD0, hnw, henv⟩ := hv
  have hx := B.exec
  have hb := B.bytes
  have hr := B.returns
  have hT : ∀ w ∈ lw_good, w.before _ s = true := fun w h => atoms_spec (ws := w_Scope_outlives) B.pre w (List.mem_cons_of_mem _ h)
  have hown : s.vm.findClass R_Scope = some m.cls := findClass_of_methodNamed B.named
  subst hsz
  have hD := hD0.self (sz := s.heap.size)
  clear hD0
  generalize hAe : va_A (gW LH ad km T0) s.heap.size = A at hD henv ⊢
  have hA : ∀ q : Nat, s.heap.size ≤ q → A q := fun q h => by rw [← hAe]; exact Or.inr h
  have hS : va_S A s.heap s.heap [] := va_S.rf
  have hl := lv_entry ([.ref (ad 6), .int p1, .int p2]) (n := 3) (Nat.le_of_ble_eq_true rfl)
  rw [lg_entry_eq]
  generalize (lg_sl ([.ref (ad 6), .int p1, .int p2]) ++ List.replicate (3 - (lg_sl ([.ref (ad 6), .int p1, .int p2])).length) Slot.unset).toArray = ls at hl ⊢
  have hl : lv_has ls 3 [(0, .ref (ad 6)), (1, .int p1), (2, .int p2)] := hl
  unfold rb_Scope_outlives at hR
  refine lv_iload_n hx hb d_Scope_outlives_0 rfl (lv_at hl 1 rfl) ?_
  refine lv_iload_n hx hb d_Scope_outlives_1 rfl (lv_at hl 2 rfl) ?_
  refine lv_icmp_eq (tgt := 9) hx hb d_Scope_outlives_2 (by decide) (fun c1 => ?_) (fun c1 => ?_)
  · replace hR := if_p c1 hR
    refine lv_iconst (v := 1) hx hb d_Scope_outlives_9 (by decide) ?_
    obtain ⟨e1, -, e3⟩ := re_e hR
    subst e1; subst e3
    exact W.zret (v := (1 : Int32)) hx hb hr (by first | rfl | decide) (fun t ht hW => ⟨⟨(1 : Int32), (), rfl, rfl, by rw [ht]; exact hP, va_K.moved hW.alike hK, hD⟩, hS.F ht⟩) hS.2.2 d_Scope_outlives_10
  · replace hR := if_n c1 hR
    refine lv_iload_n hx hb d_Scope_outlives_5 rfl (lv_at hl 1 rfl) ?_
    refine lv_if_ne (tgt := 11) hx hb d_Scope_outlives_6 (by decide) (fun c3 => ?_) (fun c3 => ?_)
    · replace hR := if_n c3 hR
      refine lv_iload_n hx hb d_Scope_outlives_11 rfl (lv_at hl 2 rfl) ?_
      refine lv_iconst (v := 4) hx hb d_Scope_outlives_12 (by decide) ?_
      refine lv_icmp_lt (tgt := 40) hx hb d_Scope_outlives_13 (by decide) (fun c4 => ?_) (fun c4 => ?_)
      · replace hR := if_p c4 hR
        refine lv_iload_n hx hb d_Scope_outlives_40 rfl (lv_at hl 1 rfl) ?_
        refine lv_iconst (v := 4) hx hb d_Scope_outlives_41 (by decide) ?_
        refine lv_icmp_ge (tgt := 76) hx hb d_Scope_outlives_42 (by decide) (fun c5 => ?_) (fun c5 => ?_)
        · replace hR := if_p c5 hR
          refine lv_iconst (v := 0) hx hb d_Scope_outlives_76 (by decide) ?_
          obtain ⟨e1, -, e3⟩ := re_e hR
          subst e1; subst e3
          exact W.zret (v := (0 : Int32)) hx hb hr (by first | rfl | decide) (fun t ht hW => ⟨⟨(0 : Int32), (), rfl, rfl, by rw [ht]; exact hP, va_K.moved hW.alike hK, hD⟩, hS.F ht⟩) hS.2.2 d_Scope_outlives_77
        · replace hR := if_n c5 hR
          refine lv_iload_n hx hb d_Scope_outlives_45 rfl (lv_at hl 2 rfl) ?_
          refine lv_if_eq (tgt := 76) hx hb d_Scope_outlives_46 (by decide) (fun c7 => ?_) (fun c7 => ?_)
          · replace hR := if_p c7 hR
            refine lv_iconst (v := 0) hx hb d_Scope_outlives_76 (by decide) ?_
            obtain ⟨e1, -, e3⟩ := re_e hR
            subst e1; subst e3
            exact W.zret (v := (0 : Int32)) hx hb hr (by first | rfl | decide) (fun t ht hW => ⟨⟨(0 : Int32), (), rfl, rfl, by rw [ht]; exact hP, va_K.moved hW.alike hK, hD⟩, hS.F ht⟩) hS.2.2 d_Scope_outlives_77
          · replace hR := if_n c7 hR
            refine lv_aload_n hx hb d_Scope_outlives_49 rfl (lv_at hl 0 rfl) ?_
            refine rd_Scope_32 hx hb hT hown hK hP d_Scope_outlives_50 ?_
            refine rd_Scope_112 hx hb hT hown hK hP d_Scope_outlives_53 ?_
            refine lv_aload_n hx hb d_Scope_outlives_56 rfl (lv_at hl 0 rfl) ?_
            refine rd_Scope_40 hx hb hT hown hK hP d_Scope_outlives_57 ?_
            replace hR := gd_e hR
            obtain ⟨b9, hR⟩ := hR
            refine laH_25 hx hb hK hP b9 d_Scope_outlives_60 ?_
            refine lv_iload_n hx hb d_Scope_outlives_61 rfl (lv_at hl 1 rfl) ?_
            refine lv_iload_n hx hb d_Scope_outlives_62 rfl (lv_at hl 2 rfl) ?_
            replace hR := bi_e hR
            obtain ⟨r10, l10, T10, hc10, hR⟩ := hR
            refine gcS_i (rest := [.int (T0.1 40 (T0.1 67 0).toNatClampNeg)]) ⟨hx, hb, hml, hown, hT⟩ (h_Scope_aboveBit _ _ _ _ _ _ hc10) (va_cwS 2 hT (gS ml_Scope_115 st_Scope_aboveBit ini_Scope co_Scope_aboveBit) rfl rfl rfl pd_Scope_aboveBit ⟨rm_hi, rm_lo (Nat.le_of_ble_eq_true rfl)⟩) hK hP hD hS hA hnw henv rfl hl.1 rfl (Nat.le_of_ble_eq_true rfl) d_Scope_outlives_63 ⟨Nat.le_refl _, Nat.le_refl _⟩ (fun H locs hP hD hS => ?_)
            clear hc10
            refine lv_ishr hx hb d_Scope_outlives_66 ?_
            refine lv_iconst (v := 1) hx hb d_Scope_outlives_67 (by decide) ?_
            refine lv_iand hx hb d_Scope_outlives_68 ?_
            refine lv_if_eq (tgt := 76) hx hb d_Scope_outlives_69 (by decide) (fun c11 => ?_) (fun c11 => ?_)
            · replace hR := if_p c11 hR
              refine lv_iconst (v := 0) hx hb d_Scope_outlives_76 (by decide) ?_
              obtain ⟨e1, -, e3⟩ := re_e hR
              subst e1; subst e3
              exact W.zret (v := (0 : Int32)) hx hb hr (by first | rfl | decide) (fun t ht hW => ⟨⟨(0 : Int32), (), rfl, rfl, by rw [ht]; exact hP, va_K.moved hW.alike hK, hD⟩, hS.F ht⟩) hS.2.2 d_Scope_outlives_77
            · replace hR := if_n c11 hR
              refine lv_iconst (v := 1) hx hb d_Scope_outlives_72 (by decide) ?_
              refine lv_goto (tgt := 77) hx hb d_Scope_outlives_73 (by decide) ?_
              obtain ⟨e1, -, e3⟩ := re_e hR
              subst e1; subst e3
              exact W.zret (v := (1 : Int32)) hx hb hr (by first | rfl | decide) (fun t ht hW => ⟨⟨(1 : Int32), (), rfl, rfl, by rw [ht]; exact hP, va_K.moved hW.alike hK, hD⟩, hS.F ht⟩) hS.2.2 d_Scope_outlives_77
      · replace hR := if_n c4 hR
        refine lv_aload_n hx hb d_Scope_outlives_16 rfl (lv_at hl 0 rfl) ?_
        refine lv_iload_n hx hb d_Scope_outlives_17 rfl (lv_at hl 1 rfl) ?_
        replace hR := bi_e hR
        obtain ⟨r14, l14, T14, hc14, hR⟩ := hR
        refine gcV_i (rest := []) ⟨hx, hb, hml, hown, hT⟩ (h_Scope_isLive _ _ _ _ _ hc14) (cwV 1 hT (gV ml_Scope_106 im_Scope_isLive se_Scope_isLive ini_Scope co_Scope_isLive) rfl rfl rfl pd_Scope_isLive ⟨rm_hi, rm_lo (Nat.le_of_ble_eq_true rfl)⟩) hK hP hD hS hA hnw henv (Nat.le_of_ble_eq_true rfl) rfl rfl hl.1 rfl (Nat.le_of_ble_eq_true rfl) d_Scope_outlives_18 ⟨Nat.le_refl _, Nat.le_refl _⟩ (fun H locs hP hD hS => ?_)
        clear hc14
        refine lv_if_eq (tgt := 38) hx hb d_Scope_outlives_21 (by decide) (fun c15 => ?_) (fun c15 => ?_)
        · replace hR := if_p c15 hR
          refine lv_iconst (v := 0) hx hb d_Scope_outlives_38 (by decide) ?_
          obtain ⟨e1, -, e3⟩ := re_e hR
          subst e1; subst e3
          exact W.zret (v := (0 : Int32)) hx hb hr (by first | rfl | decide) (fun t ht hW => ⟨⟨(0 : Int32), (), rfl, rfl, by rw [ht]; exact hP, va_K.moved hW.alike hK, hD⟩, hS.F ht⟩) hS.2.2 d_Scope_outlives_39
        · replace hR := if_n c15 hR
          refine lv_iload_n hx hb d_Scope_outlives_24 rfl (lv_at hl 1 rfl) ?_
          refine lv_iconst (v := 4) hx hb d_Scope_outlives_25 (by decide) ?_
          refine lv_icmp_lt (tgt := 34) hx hb d_Scope_outlives_26 (by decide) (fun c17 => ?_) (fun c17 => ?_)
          · replace hR := if_p c17 hR
            refine lv_iconst (v := 1) hx hb d_Scope_outlives_34 (by decide) ?_
            refine lv_goto (tgt := 39) hx hb d_Scope_outlives_35 (by decide) ?_
            obtain ⟨e1, -, e3⟩ := re_e hR
            subst e1; subst e3
            exact W.zret (v := (1 : Int32)) hx hb hr (by first | rfl | decide) (fun t ht hW => ⟨⟨(1 : Int32), (), rfl, rfl, by rw [ht]; exact hP, va_K.moved hW.alike hK, hD⟩, hS.F ht⟩) hS.2.2 d_Scope_outlives_39
          · replace hR := if_n c17 hR
            refine lv_iload_n hx hb d_Scope_outlives_29 rfl (lv_at hl 1 rfl) ?_
            refine lv_iload_n hx hb d_Scope_outlives_30 rfl (lv_at hl 2 rfl) ?_
            refine lv_icmp_ge (tgt := 38) hx hb d_Scope_outlives_31 (by decide) (fun c19 => ?_) (fun c19 => ?_)
            · replace hR := if_p c19 hR
              refine lv_iconst (v := 0) hx hb d_Scope_outlives_38 (by decide) ?_
              obtain ⟨e1, -, e3⟩ := re_e hR
              subst e1; subst e3
              exact W.zret (v := (0 : Int32)) hx hb hr (by first | rfl | decide) (fun t ht hW => ⟨⟨(0 : Int32), (), rfl, rfl, by rw [ht]; exact hP, va_K.moved hW.alike hK, hD⟩, hS.F ht⟩) hS.2.2 d_Scope_outlives_39
            · replace hR := if_n c19 hR
              refine lv_iconst (v := 1) hx hb d_Scope_outlives_34 (by decide) ?_
              refine lv_goto (tgt := 39) hx hb d_Scope_outlives_35 (by decide) ?_
              obtain ⟨e1, -, e3⟩ := re_e hR
              subst e1; subst e3
              exact W.zret (v := (1 : Int32)) hx hb hr (by first | rfl | decide) (fun t ht hW => ⟨⟨(1 : Int32), (), rfl, rfl, by rw [ht]; exact hP, va_K.moved hW.alike hK, hD⟩, hS.F ht⟩) hS.2.2 d_Scope_outlives_39
    · replace hR := if_p c3 hR
      refine lv_iconst (v := 1) hx hb d_Scope_outlives_9 (by decide) ?_
      obtain ⟨e1, -, e3⟩ := re_e hR
      subst e1; subst e3
      exact W.zret (v := (1 : Int32)) hx hb hr (by first | rfl | decide) (fun t ht hW => ⟨⟨(1 : Int32), (), rfl, rfl, by rw [ht]; exact hP, va_K.moved hW.alike hK, hD⟩, hS.F ht⟩) hS.2.2 d_Scope_outlives_10
set_option maxHeartbeats 4000000 in
set_option maxRecDepth 100000 in
theorem sp_Scope_aboveBit (l : Launch) (dC : Nat → ClassId) (dI : Nat → Nat → Nat) (ea ev ad : Nat → Nat) (km : Nat → ClassId) (F : gF) (nf d : Nat) (T0 : gSt) (p1 : Int32) (p2 : Int32) (r0 : Int32) (rl0 : Int64) (T9 : gSt) (hR : rb_Scope_aboveBit F nf T0 p1 p2 = some (r0, rl0, T9)) : GMi l dC dI LH ad km ea ev y_Scope_aboveBit w_Scope_aboveBit (rmD (d + 1)) [.int p1, .int p2] T0 r0 T9 := by
  intro sz
  refine Met.ofW (cc := b_Scope_aboveBit) (maxL := 2) (ret := (some .int)) (by decide) rfl ?_
  intro p e s m args below meth c s₁ B hml hv
  obtain ⟨rfl, hsz, hP, hK, hD0, hnw, henv⟩ := hv
  have hx := B.exec
  have hb := B.bytes
  have hr := B.returns
  have hT : ∀ w ∈ lw_good, w.before _ s = true := fun w h => atoms_spec (ws := w_Scope_aboveBit) B.pre w (List.mem_cons_of_mem _ h)
  have hown : s.vm.findClass R_Scope = some m.cls := findClass_of_methodNamed B.named
  subst hsz
  have hD := hD0.self (sz := s.heap.size)
  clear hD0
  generalize hAe : va_A (gW LH ad km T0) s.heap.size = A at hD henv ⊢
  have hA : ∀ q : Nat, s.heap.size ≤ q → A q := fun q h => by rw [← hAe]; exact Or.inr h
  have hS : va_S A s.heap s.heap [] := va_S.rf
  have hl := lv_entry ([.int p1, .int p2]) (n := 2) (Nat.le_of_ble_eq_true rfl)
  rw [lg_entry_eq]
  generalize (lg_sl ([.int p1, .int p2]) ++ List.replicate (2 - (lg_sl ([.int p1, .int p2])).length) Slot.unset).toArray = ls at hl ⊢
  have hl : lv_has ls 2 [(0, .int p1), (1, .int p2)] := hl
  unfold rb_Scope_aboveBit at hR
  refine lv_iload_n hx hb d_Scope_aboveBit_0 rfl (lv_at hl 0 rfl) ?_
  refine lv_iconst (v := 1) hx hb d_Scope_aboveBit_1 (by decide) ?_
  refine lv_isub hx hb d_Scope_aboveBit_2 ?_
  refine lv_iconst (v := 3) hx hb d_Scope_aboveBit_3 (by decide) ?_
  refine lv_imul hx hb d_Scope_aboveBit_4 ?_
  refine lv_iload_n hx hb d_Scope_aboveBit_5 rfl (lv_at hl 1 rfl) ?_
  refine lv_iadd hx hb d_Scope_aboveBit_6 ?_
  refine lv_iconst (v := 1) hx hb d_Scope_aboveBit_7 (by decide) ?_
  refine lv_isub hx hb d_Scope_aboveBit_8 ?_
  obtain ⟨e1, -, e3⟩ := re_e hR
  subst e1; subst e3
  exact W.iret (v := (((p1 - (1 : Int32)) * (3 : Int32)) + p2) - (1 : Int32)) hx hb hr (fun t ht hW => ⟨⟨(((p1 - (1 : Int32)) * (3 : Int32)) + p2) - (1 : Int32), (), rfl, rfl, by rw [ht]; exact hP, va_K.moved hW.alike hK, hD⟩, hS.F ht⟩) hS.2.2 d_Scope_aboveBit_9
set_option maxHeartbeats 4000000 in
set_option maxRecDepth 100000 in
theorem sp_Scope_varsSeen (l : Launch) (dC : Nat → ClassId) (dI : Nat → Nat → Nat) (ea ev ad : Nat → Nat) (km : Nat → ClassId) (F : gF) (nf d : Nat) (T0 : gSt) (r0 : Int32) (rl0 : Int64) (T9 : gSt) (hR : rb_Scope_varsSeen F nf T0 = some (r0, rl0, T9)) : GMi l dC dI LH ad km ea ev y_Scope_varsSeen w_Scope_varsSeen (rmD (d + 1)) [.ref (ad 6)] T0 r0 T9 := by
  intro sz
  refine Met.ofW (cc := b_Scope_varsSeen) (maxL := 1) (ret := (some .int)) (by decide) rfl ?_
  intro p e s m args below meth c s₁ B hml hv
  obtain ⟨rfl, hsz, hP, hK, hD0, hnw, henv⟩ := hv
  have hx := B.exec
  have hb := B.bytes
  have hr := B.returns
  have hT : ∀ w ∈ lw_good, w.before _ s = true := fun w h => atoms_spec (ws := w_Scope_varsSeen) B.pre w (List.mem_cons_of_mem _ h)
  have hown : s.vm.findClass R_Scope = some m.cls := findClass_of_methodNamed B.named
  subst hsz
  have hD := hD0.self (sz := s.heap.size)
  clear hD0
  generalize hAe : va_A (gW LH ad km T0) s.heap.size = A at hD henv ⊢
  have hA : ∀ q : Nat, s.heap.size ≤ q → A q := fun q h => by rw [← hAe]; exact Or.inr h
  have hS : va_S A s.heap s.heap [] := va_S.rf
  have hl := lv_entry ([.ref (ad 6)]) (n := 1) (Nat.le_of_ble_eq_true rfl)
  rw [lg_entry_eq]
  generalize (lg_sl ([.ref (ad 6)]) ++ List.replicate (1 - (lg_sl ([.ref (ad 6)])).length) Slot.unset).toArray = ls at hl ⊢
  have hl : lv_has ls 1 [(0, .ref (ad 6))] := hl
  unfold rb_Scope_varsSeen at hR
  refine lv_aload_n hx hb d_Scope_varsSeen_0 rfl (lv_at hl 0 rfl) ?_
  refine rd_Scope_44 hx hb hT hown hK hP d_Scope_varsSeen_1 ?_
  obtain ⟨e1, -, e3⟩ := re_e hR
  subst e1; subst e3
  exact W.iret (v := T0.1 68 0) hx hb hr (fun t ht hW => ⟨⟨T0.1 68 0, (), rfl, rfl, by rw [ht]; exact hP, va_K.moved hW.alike hK, hD⟩, hS.F ht⟩) hS.2.2 d_Scope_varsSeen_4
set_option maxHeartbeats 4000000 in
set_option maxRecDepth 100000 in
theorem sp_Scope_forgetVars (l : Launch) (dC : Nat → ClassId) (dI : Nat → Nat → Nat) (ea ev ad : Nat → Nat) (km : Nat → ClassId) (F : gF) (nf d : Nat) (T0 : gSt) (p1 : Int32) (r0 : Int32) (rl0 : Int64) (T9 : gSt) (hR : rb_Scope_forgetVars F nf T0 p1 = some (r0, rl0, T9)) : GMv l dC dI LH ad km ea ev y_Scope_forgetVars w_Scope_forgetVars (rmD (d + 1)) [.ref (ad 6), .int p1] T0 T9 := by
  intro sz
  refine Met.ofW (cc := b_Scope_forgetVars) (maxL := 2) (ret := none) (by decide) rfl ?_
  intro p e s m args below meth c s₁ B hml hv
  obtain ⟨rfl, hsz, hP, hK, hD0, hnw, henv⟩ := hv
  have hx := B.exec
  have hb := B.bytes
  have hr := B.returns
  have hT : ∀ w ∈ lw_good, w.before _ s = true := fun w h => atoms_spec (ws := w_Scope_forgetVars) B.pre w (List.mem_cons_of_mem _ h)
  have hown : s.vm.findClass R_Scope = some m.cls := findClass_of_methodNamed B.named
  subst hsz
  have hD := hD0.self (sz := s.heap.size)
  clear hD0
  generalize hAe : va_A (gW LH ad km T0) s.heap.size = A at hD henv ⊢
  have hA : ∀ q : Nat, s.heap.size ≤ q → A q := fun q h => by rw [← hAe]; exact Or.inr h
  have hS : va_S A s.heap s.heap [] := va_S.rf
  have hl := lv_entry ([.ref (ad 6), .int p1]) (n := 2) (Nat.le_of_ble_eq_true rfl)
  rw [lg_entry_eq]
  generalize (lg_sl ([.ref (ad 6), .int p1]) ++ List.replicate (2 - (lg_sl ([.ref (ad 6), .int p1])).length) Slot.unset).toArray = ls at hl ⊢
  have hl : lv_has ls 2 [(0, .ref (ad 6)), (1, .int p1)] := hl
  unfold rb_Scope_forgetVars at hR
  refine lv_aload_n hx hb d_Scope_forgetVars_0 rfl (lv_at hl 0 rfl) ?_
  refine lv_aload_n hx hb d_Scope_forgetVars_1 rfl (lv_at hl 0 rfl) ?_
  refine rd_Scope_44 hx hb hT hown hK hP d_Scope_forgetVars_2 ?_
  refine lv_iload_n hx hb d_Scope_forgetVars_5 rfl (lv_at hl 1 rfl) ?_
  refine va_mmin hx hb (hml.trans hl.1.symm) hown (hT _ ml_Scope_118) (hT _ st_Math_min) (hT _ ini_Math) (hT _ co_Math_min) rm_f1 (rm_l1 (Nat.le_of_ble_eq_true rfl)) (Nat.le_refl _) (Nat.le_refl _) d_Scope_forgetVars_6 ?_
  refine wr_Scope_44 hx hb hT hown hK hP hD hS d_Scope_forgetVars_9 (fun T1 eT H locs hP hD hS => ?_)
  replace hR := stK_e eT hR
  clear eT
  obtain ⟨-, -, e3⟩ := re_e hR
  subst e3
  exact W.vret hx hb hr (fun t ht hW => ⟨⟨(), rfl, trivial, by rw [ht]; exact hP, va_K.moved hW.alike hK, hD⟩, hS.F ht⟩) hS.2.2 d_Scope_forgetVars_12
set_option maxHeartbeats 4000000 in
set_option maxRecDepth 100000 in
theorem sp_Scope_findVar (l : Launch) (dC : Nat → ClassId) (dI : Nat → Nat → Nat) (ea ev ad : Nat → Nat) (km : Nat → ClassId) (F : gF) (nf d : Nat) (T0 : gSt) (p1 : Int64) (r0 : Int32) (rl0 : Int64) (T9 : gSt) (hR : rb_Scope_findVar F nf T0 p1 = some (r0, rl0, T9)) : GMi l dC dI LH ad km ea ev y_Scope_findVar w_Scope_findVar (rmD (d + 1)) [.ref (ad 6), .long p1] T0 r0 T9 := by
  intro sz
  refine Met.ofW (cc := b_Scope_findVar) (maxL := 4) (ret := (some .int)) (by decide) rfl ?_
  intro p e s m args below meth c s₁ B hml hv
  obtain ⟨rfl, hsz, hP, hK, hD0, hnw, henv⟩ := hv
  have hx := B.exec
  have hb := B.bytes
  have hr := B.returns
  have hT : ∀ w ∈ lw_good, w.before _ s = true := fun w h => atoms_spec (ws := w_Scope_findVar) B.pre w (List.mem_cons_of_mem _ h)
  have hown : s.vm.findClass R_Scope = some m.cls := findClass_of_methodNamed B.named
  subst hsz
  have hD := hD0.self (sz := s.heap.size)
  clear hD0
  generalize hAe : va_A (gW LH ad km T0) s.heap.size = A at hD henv ⊢
  have hA : ∀ q : Nat, s.heap.size ≤ q → A q := fun q h => by rw [← hAe]; exact Or.inr h
  have hS : va_S A s.heap s.heap [] := va_S.rf
  have hl := lv_entry ([.ref (ad 6), .long p1]) (n := 4) (Nat.le_of_ble_eq_true rfl)
  rw [lg_entry_eq]
  generalize (lg_sl ([.ref (ad 6), .long p1]) ++ List.replicate (4 - (lg_sl ([.ref (ad 6), .long p1])).length) Slot.unset).toArray = ls at hl ⊢
  have hl : lv_has ls 4 [(0, .ref (ad 6)), (1, .long p1)] := hl
  obtain ⟨G, hG⟩ : ∃ G : Nat → List (Nat × Value) → List Value → gSt → Prop, G = (fun pc lv stk T => ∀ (H : Heap) (locs : List Loc), va_P (dC, dI) cls_all (gW LH ad km T) H → va_D A (gW LH ad km T) → va_S A s.heap H locs → ∀ (ls : Array Slot), lv_has ls 4 lv → W p l e (headSpec w_Scope_findVar (rmD (d + 1))).room s m ([.ref (ad 6), .long p1] : List Value).toArray below meth c H locs 0 0 (MQ below (va_Qi (fun (z : Int32) (_ : Unit) => z = r0) (fun _ t => gPost dC dI LH ad km T9 A t) A) ([.ref (ad 6), .long p1] : List Value).toArray s 0 0 A) (F0 m pc ls stk)) := ⟨_, rfl⟩
  have lb_2 : ∀ (n : Nat) (T : gSt) (x1 : Int64) (x3 : Int32), rl_Scope_findVar_2 F nf n T x1 x3 = some (r0, rl0, T9) → G 2 [(0, .ref (ad 6)), (1, .long x1), (3, .int x3)] [] T := by
    intro n
    induction n with
    | zero => intro T x1 x3 hR; rw [rl_Scope_findVar_2] at hR; cases hR
    | succ n ih =>
      intro T x1 x3 hR; rw [rl_Scope_findVar_2] at hR; rw [hG]; intro H locs hP hD hS ls hl
      refine lv_iload_n hx hb d_Scope_findVar_2 rfl (lv_at hl 2 rfl) ?_
      refine lv_aload_n hx hb d_Scope_findVar_3 rfl (lv_at hl 0 rfl) ?_
      refine rd_Scope_44 hx hb hT hown hK hP d_Scope_findVar_4 ?_
      refine lv_icmp_ge (tgt := 29) hx hb d_Scope_findVar_7 (by decide) (fun c1 => ?_) (fun c1 => ?_)
      · replace hR := if_p c1 hR
        refine lv_iconst (v := (-1)) hx hb d_Scope_findVar_29 (by decide) ?_
        obtain ⟨e1, -, e3⟩ := re_e hR
        subst e1; subst e3
        exact W.iret (v := (-1 : Int32)) hx hb hr (fun t ht hW => ⟨⟨(-1 : Int32), (), rfl, rfl, by rw [ht]; exact hP, va_K.moved hW.alike hK, hD⟩, hS.F ht⟩) hS.2.2 d_Scope_findVar_30
      · replace hR := if_n c1 hR
        refine lv_aload_n hx hb d_Scope_findVar_10 rfl (lv_at hl 0 rfl) ?_
        refine rd_Scope_11 hx hb hT hown hK hP d_Scope_findVar_11 ?_
        refine lv_iload_n hx hb d_Scope_findVar_14 rfl (lv_at hl 2 rfl) ?_
        replace hR := gd_e hR
        obtain ⟨b3, hR⟩ := hR
        refine laH_38 hx hb hK hP b3 d_Scope_findVar_15 ?_
        refine lv_lload_n hx hb d_Scope_findVar_16 rfl (lv_at hl 1 rfl) ?_
        refine W.lcmp hx hb d_Scope_findVar_17 ?_
        refine lv_if_ne (tgt := 23) hx hb d_Scope_findVar_18 (by decide) (fun c4 => ?_) (fun c4 => ?_)
        · replace hR := if_n c4 hR
          obtain ⟨z5, e5⟩ : ∃ y : Int32, y = x3 + (1 : Int32) := ⟨_, rfl⟩
          replace hR := vK_e e5 hR
          refine lv_iinc (v := z5) (lv' := [(3, .int z5), (0, .ref (ad 6)), (1, .long x1)]) hx hb d_Scope_findVar_23 hl (k := 2) rfl (by rw [e5]; rfl) (by decide) rfl (fun ls hl => ?_)
          refine lv_goto (tgt := 2) hx hb d_Scope_findVar_26 (by decide) ?_
          have g := ih T x1 z5 hR
          rw [hG] at g
          exact g _ _ hP hD hS _ (lv_sub hl [1, 2, 0] rfl)
        · replace hR := if_p c4 hR
          refine lv_iload_n hx hb d_Scope_findVar_21 rfl (lv_at hl 2 rfl) ?_
          obtain ⟨e1, -, e3⟩ := re_e hR
          subst e1; subst e3
          exact W.iret (v := x3) hx hb hr (fun t ht hW => ⟨⟨x3, (), rfl, rfl, by rw [ht]; exact hP, va_K.moved hW.alike hK, hD⟩, hS.F ht⟩) hS.2.2 d_Scope_findVar_22
  unfold rb_Scope_findVar at hR
  refine lv_iconst (v := 0) hx hb d_Scope_findVar_0 (by decide) ?_
  refine lv_istore_n (lv' := [(3, .int (0 : Int32)), (0, .ref (ad 6)), (1, .long p1)]) hx hb d_Scope_findVar_1 rfl hl (by decide) rfl (fun ls hl => ?_)
  have g := lb_2 nf T0 p1 (0 : Int32) hR
  rw [hG] at g
  exact g _ _ hP hD hS _ (lv_sub hl [1, 2, 0] rfl)
set_option maxHeartbeats 4000000 in
set_option maxRecDepth 100000 in
theorem sp_Scope_addVar (l : Launch) (dC : Nat → ClassId) (dI : Nat → Nat → Nat) (ea ev ad : Nat → Nat) (km : Nat → ClassId) (F : gF) (nf d : Nat) (h_Types_wordsOf : mt_Types_wordsOf l dC dI ea ev ad km F d) (h_Scope_forgetKnown : mt_Scope_forgetKnown l dC dI ea ev ad km F d) (T0 : gSt) (p1 : Int64) (p2 : Int32) (r0 : Int32) (rl0 : Int64) (T9 : gSt) (hR : rb_Scope_addVar F nf T0 p1 p2 = some (r0, rl0, T9)) : GMi l dC dI LH ad km ea ev y_Scope_addVar w_Scope_addVar (rmD (d + 1)) [.ref (ad 6), .long p1, .int p2] T0 r0 T9 := by
  intro sz
  refine Met.ofW (cc := b_Scope_addVar) (maxL := 4) (ret := (some .int)) (by decide) rfl ?_
  intro p e s m args below meth c s₁ B hml hv
  obtain ⟨rfl, hsz, hP, hK, hD0, hnw, henv⟩ := hv
  have hx := B.exec
  have hb := B.bytes
  have hr := B.returns
  have hT : ∀ w ∈ lw_good, w.before _ s = true := fun w h => atoms_spec (ws := w_Scope_addVar) B.pre w (List.mem_cons_of_mem _ h)
  have hown : s.vm.findClass R_Scope = some m.cls := findClass_of_methodNamed B.named
  subst hsz
  have hD := hD0.self (sz := s.heap.size)
  clear hD0
  generalize hAe : va_A (gW LH ad km T0) s.heap.size = A at hD henv ⊢
  have hA : ∀ q : Nat, s.heap.size ≤ q → A q := fun q h => by rw [← hAe]; exact Or.inr h
  have hS : va_S A s.heap s.heap [] := va_S.rf
  have hl := lv_entry ([.ref (ad 6), .long p1, .int p2]) (n := 4) (Nat.le_of_ble_eq_true rfl)
  rw [lg_entry_eq]
  generalize (lg_sl ([.ref (ad 6), .long p1, .int p2]) ++ List.replicate (4 - (lg_sl ([.ref (ad 6), .long p1, .int p2])).length) Slot.unset).toArray = ls at hl ⊢
  have hl : lv_has ls 4 [(0, .ref (ad 6)), (1, .long p1), (3, .int p2)] := hl
  unfold rb_Scope_addVar at hR
  refine lv_aload_n hx hb d_Scope_addVar_0 rfl (lv_at hl 0 rfl) ?_
  refine rd_Scope_44 hx hb hT hown hK hP d_Scope_addVar_1 ?_
  refine lv_bipush (v := 20) hx hb d_Scope_addVar_4 (by decide) ?_
  refine lv_icmp_lt (tgt := 11) hx hb d_Scope_addVar_6 (by decide) (fun c1 => ?_) (fun c1 => ?_)
  · replace hR := if_p c1 hR
    refine lv_aload_n hx hb d_Scope_addVar_11 rfl (lv_at hl 0 rfl) ?_
    refine rd_Scope_11 hx hb hT hown hK hP d_Scope_addVar_12 ?_
    refine lv_aload_n hx hb d_Scope_addVar_15 rfl (lv_at hl 0 rfl) ?_
    refine rd_Scope_44 hx hb hT hown hK hP d_Scope_addVar_16 ?_
    refine lv_lload_n hx hb d_Scope_addVar_19 rfl (lv_at hl 1 rfl) ?_
    replace hR := gd_e hR
    obtain ⟨b2, hR⟩ := hR
    refine saH_38 hx hb hK hP hD hS b2 d_Scope_addVar_20 (fun T2 eT H locs hP hD hS => ?_)
    replace hR := stK_e eT hR
    clear eT
    refine lv_aload_n hx hb d_Scope_addVar_21 rfl (lv_at hl 0 rfl) ?_
    refine rd_Scope_15 hx hb hT hown hK hP d_Scope_addVar_22 ?_
    refine lv_aload_n hx hb d_Scope_addVar_25 rfl (lv_at hl 0 rfl) ?_
    refine rd_Scope_44 hx hb hT hown hK hP d_Scope_addVar_26 ?_
    refine lv_iload_n hx hb d_Scope_addVar_29 rfl (lv_at hl 2 rfl) ?_
    replace hR := gd_e hR
    obtain ⟨b3, hR⟩ := hR
    refine saH_39 hx hb hK hP hD hS b3 d_Scope_addVar_30 (fun T3 eT H locs hP hD hS => ?_)
    replace hR := stK_e eT hR
    clear eT
    refine lv_aload_n hx hb d_Scope_addVar_31 rfl (lv_at hl 0 rfl) ?_
    refine rd_Scope_19 hx hb hT hown hK hP d_Scope_addVar_32 ?_
    refine lv_aload_n hx hb d_Scope_addVar_35 rfl (lv_at hl 0 rfl) ?_
    refine rd_Scope_44 hx hb hT hown hK hP d_Scope_addVar_36 ?_
    refine lv_iconst (v := 1) hx hb d_Scope_addVar_39 (by decide) ?_
    refine lv_iadd hx hb d_Scope_addVar_40 ?_
    refine lv_aload_n hx hb d_Scope_addVar_41 rfl (lv_at hl 0 rfl) ?_
    refine rd_Scope_19 hx hb hT hown hK hP d_Scope_addVar_42 ?_
    refine lv_aload_n hx hb d_Scope_addVar_45 rfl (lv_at hl 0 rfl) ?_
    refine rd_Scope_44 hx hb hT hown hK hP d_Scope_addVar_46 ?_
    replace hR := gd_e hR
    obtain ⟨b4, hR⟩ := hR
    refine laH_40 hx hb hK hP b4 d_Scope_addVar_49 ?_
    refine lv_aload_n hx hb d_Scope_addVar_50 rfl (lv_at hl 0 rfl) ?_
    refine rd_Scope_36 hx hb hT hown hK hP d_Scope_addVar_51 ?_
    refine lv_iload_n hx hb d_Scope_addVar_54 rfl (lv_at hl 2 rfl) ?_
    replace hR := bi_e hR
    obtain ⟨r5, l5, T5, hc5, hR⟩ := hR
    refine gcV_i (rest := [.int (T3.1 71 (T3.1 68 0).toNatClampNeg), .int ((T3.1 68 0) + (1 : Int32)), .ref (ad 52)]) ⟨hx, hb, hml, hown, hT⟩ (h_Types_wordsOf _ _ _ _ _ hc5) (cwV 1 hT (gV ml_Scope_123 im_Types_wordsOf se_Types_wordsOf ini_Types co_Types_wordsOf) rfl rfl rfl pd_Types_wordsOf ⟨rm_hi, rm_lo (Nat.le_of_ble_eq_true rfl)⟩) hK hP hD hS hA hnw henv (Nat.le_of_ble_eq_true rfl) rfl rfl hl.1 rfl (Nat.le_of_ble_eq_true rfl) d_Scope_addVar_55 ⟨Nat.le_refl _, Nat.le_refl _⟩ (fun H locs hP hD hS => ?_)
    clear hc5
    refine lv_iadd hx hb d_Scope_addVar_58 ?_
    replace hR := gd_e hR
    obtain ⟨b6, hR⟩ := hR
    refine saH_40 hx hb hK hP hD hS b6 d_Scope_addVar_59 (fun T6 eT H locs hP hD hS => ?_)
    replace hR := stK_e eT hR
    clear eT
    refine lv_aload_n hx hb d_Scope_addVar_60 rfl (lv_at hl 0 rfl) ?_
    refine lv_iconst (v := 1) hx hb d_Scope_addVar_61 (by decide) ?_
    refine lv_aload_n hx hb d_Scope_addVar_62 rfl (lv_at hl 0 rfl) ?_
    refine rd_Scope_44 hx hb hT hown hK hP d_Scope_addVar_63 ?_
    refine lv_ishl hx hb d_Scope_addVar_66 ?_
    replace hR := bi_e hR
    obtain ⟨r7, l7, T7, hc7, hR⟩ := hR
    refine gcV_v (rest := []) ⟨hx, hb, hml, hown, hT⟩ (h_Scope_forgetKnown _ _ _ _ _ hc7) (cwV 1 hT (gV ml_Scope_129 im_Scope_forgetKnown se_Scope_forgetKnown ini_Scope co_Scope_forgetKnown) rfl rfl rfl pd_Scope_forgetKnown ⟨rm_hi, rm_lo (Nat.le_of_ble_eq_true rfl)⟩) hK hP hD hS hA hnw henv (Nat.le_of_ble_eq_true rfl) rfl rfl hl.1 rfl (Nat.le_of_ble_eq_true rfl) d_Scope_addVar_67 ⟨Nat.le_refl _, Nat.le_refl _⟩ (fun H locs hP hD hS => ?_)
    clear hc7
    refine lv_aload_n hx hb d_Scope_addVar_70 rfl (lv_at hl 0 rfl) ?_
    refine lv_dup hx hb d_Scope_addVar_71 rfl ?_
    refine rd_Scope_56 hx hb hT hown hK hP d_Scope_addVar_72 ?_
    refine lv_lconst (v := 1) hx hb d_Scope_addVar_75 (by decide) ?_
    refine lv_aload_n hx hb d_Scope_addVar_76 rfl (lv_at hl 0 rfl) ?_
    refine rd_Scope_44 hx hb hT hown hK hP d_Scope_addVar_77 ?_
    refine lv_lshl (v := (1 : Int64) <<< ((T7.1 68 0 : Int32).toInt64 &&& 63)) hx hb d_Scope_addVar_80 rfl ?_
    refine lv_ldc2 hx hb hown (hT _ k_Scope_110) d_Scope_addVar_81 ?_
    refine lv_lxor hx hb d_Scope_addVar_84 ?_
    refine lv_land hx hb d_Scope_addVar_85 ?_
    refine wr_Scope_56 hx hb hT hown hK hP hD hS d_Scope_addVar_86 (fun T8 eT H locs hP hD hS => ?_)
    replace hR := stK_e eT hR
    clear eT
    refine lv_aload_n hx hb d_Scope_addVar_89 rfl (lv_at hl 0 rfl) ?_
    refine lv_dup hx hb d_Scope_addVar_90 rfl ?_
    refine rd_Scope_44 hx hb hT hown hK hP d_Scope_addVar_91 ?_
    refine lv_iconst (v := 1) hx hb d_Scope_addVar_94 (by decide) ?_
    refine lv_iadd hx hb d_Scope_addVar_95 ?_
    refine wr_Scope_44 hx hb hT hown hK hP hD hS d_Scope_addVar_96 (fun T9 eT H locs hP hD hS => ?_)
    replace hR := stK_e eT hR
    clear eT
    refine lv_aload_n hx hb d_Scope_addVar_99 rfl (lv_at hl 0 rfl) ?_
    refine rd_Scope_44 hx hb hT hown hK hP d_Scope_addVar_100 ?_
    refine lv_iconst (v := 1) hx hb d_Scope_addVar_103 (by decide) ?_
    refine lv_isub hx hb d_Scope_addVar_104 ?_
    obtain ⟨e1, -, e3⟩ := re_e hR
    subst e1; subst e3
    exact W.iret (v := (T9.1 68 0) - (1 : Int32)) hx hb hr (fun t ht hW => ⟨⟨(T9.1 68 0) - (1 : Int32), (), rfl, rfl, by rw [ht]; exact hP, va_K.moved hW.alike hK, hD⟩, hS.F ht⟩) hS.2.2 d_Scope_addVar_105
  · replace hR := if_n c1 hR
    refine lv_iconst (v := (-1)) hx hb d_Scope_addVar_9 (by decide) ?_
    obtain ⟨e1, -, e3⟩ := re_e hR
    subst e1; subst e3
    exact W.iret (v := (-1 : Int32)) hx hb hr (fun t ht hW => ⟨⟨(-1 : Int32), (), rfl, rfl, by rw [ht]; exact hP, va_K.moved hW.alike hK, hD⟩, hS.F ht⟩) hS.2.2 d_Scope_addVar_10
set_option maxHeartbeats 4000000 in
set_option maxRecDepth 100000 in
theorem sp_Scope_typeOf (l : Launch) (dC : Nat → ClassId) (dI : Nat → Nat → Nat) (ea ev ad : Nat → Nat) (km : Nat → ClassId) (F : gF) (nf d : Nat) (T0 : gSt) (p1 : Int32) (r0 : Int32) (rl0 : Int64) (T9 : gSt) (hR : rb_Scope_typeOf F nf T0 p1 = some (r0, rl0, T9)) : GMi l dC dI LH ad km ea ev y_Scope_typeOf w_Scope_typeOf (rmD (d + 1)) [.ref (ad 6), .int p1] T0 r0 T9 := by
  intro sz
  refine Met.ofW (cc := b_Scope_typeOf) (maxL := 2) (ret := (some .int)) (by decide) rfl ?_
  intro p e s m args below meth c s₁ B hml hv
  obtain ⟨rfl, hsz, hP, hK, hD0, hnw, henv⟩ := hv
  have hx := B.exec
  have hb := B.bytes
  have hr := B.returns
  have hT : ∀ w ∈ lw_good, w.before _ s = true := fun w h => atoms_spec (ws := w_Scope_typeOf) B.pre w (List.mem_cons_of_mem _ h)
  have hown : s.vm.findClass R_Scope = some m.cls := findClass_of_methodNamed B.named
  subst hsz
  have hD := hD0.self (sz := s.heap.size)
  clear hD0
  generalize hAe : va_A (gW LH ad km T0) s.heap.size = A at hD henv ⊢
  have hA : ∀ q : Nat, s.heap.size ≤ q → A q := fun q h => by rw [← hAe]; exact Or.inr h
  have hS : va_S A s.heap s.heap [] := va_S.rf
  have hl := lv_entry ([.ref (ad 6), .int p1]) (n := 2) (Nat.le_of_ble_eq_true rfl)
  rw [lg_entry_eq]
  generalize (lg_sl ([.ref (ad 6), .int p1]) ++ List.replicate (2 - (lg_sl ([.ref (ad 6), .int p1])).length) Slot.unset).toArray = ls at hl ⊢
  have hl : lv_has ls 2 [(0, .ref (ad 6)), (1, .int p1)] := hl
  unfold rb_Scope_typeOf at hR
  refine lv_iload_n hx hb d_Scope_typeOf_0 rfl (lv_at hl 1 rfl) ?_
  refine lv_if_lt (tgt := 12) hx hb d_Scope_typeOf_1 (by decide) (fun c1 => ?_) (fun c1 => ?_)
  · replace hR := if_p c1 hR
    refine lv_iconst (v := 1) hx hb d_Scope_typeOf_12 (by decide) ?_
    refine lv_goto (tgt := 22) hx hb d_Scope_typeOf_13 (by decide) ?_
    obtain ⟨e1, -, e3⟩ := re_e hR
    subst e1; subst e3
    exact W.iret (v := (1 : Int32)) hx hb hr (fun t ht hW => ⟨⟨(1 : Int32), (), rfl, rfl, by rw [ht]; exact hP, va_K.moved hW.alike hK, hD⟩, hS.F ht⟩) hS.2.2 d_Scope_typeOf_22
  · replace hR := if_n c1 hR
    refine lv_iload_n hx hb d_Scope_typeOf_4 rfl (lv_at hl 1 rfl) ?_
    refine lv_aload_n hx hb d_Scope_typeOf_5 rfl (lv_at hl 0 rfl) ?_
    refine rd_Scope_44 hx hb hT hown hK hP d_Scope_typeOf_6 ?_
    refine lv_icmp_lt (tgt := 16) hx hb d_Scope_typeOf_9 (by decide) (fun c3 => ?_) (fun c3 => ?_)
    · replace hR := if_p c3 hR
      refine lv_aload_n hx hb d_Scope_typeOf_16 rfl (lv_at hl 0 rfl) ?_
      refine rd_Scope_15 hx hb hT hown hK hP d_Scope_typeOf_17 ?_
      refine lv_iload_n hx hb d_Scope_typeOf_20 rfl (lv_at hl 1 rfl) ?_
      replace hR := gd_e hR
      obtain ⟨b4, hR⟩ := hR
      refine laH_39 hx hb hK hP b4 d_Scope_typeOf_21 ?_
      obtain ⟨e1, -, e3⟩ := re_e hR
      subst e1; subst e3
      exact W.iret (v := T0.1 70 p1.toNatClampNeg) hx hb hr (fun t ht hW => ⟨⟨T0.1 70 p1.toNatClampNeg, (), rfl, rfl, by rw [ht]; exact hP, va_K.moved hW.alike hK, hD⟩, hS.F ht⟩) hS.2.2 d_Scope_typeOf_22
    · replace hR := if_n c3 hR
      refine lv_iconst (v := 1) hx hb d_Scope_typeOf_12 (by decide) ?_
      refine lv_goto (tgt := 22) hx hb d_Scope_typeOf_13 (by decide) ?_
      obtain ⟨e1, -, e3⟩ := re_e hR
      subst e1; subst e3
      exact W.iret (v := (1 : Int32)) hx hb hr (fun t ht hW => ⟨⟨(1 : Int32), (), rfl, rfl, by rw [ht]; exact hP, va_K.moved hW.alike hK, hD⟩, hS.F ht⟩) hS.2.2 d_Scope_typeOf_22
set_option maxHeartbeats 4000000 in
set_option maxRecDepth 100000 in
theorem sp_Scope_slotOf (l : Launch) (dC : Nat → ClassId) (dI : Nat → Nat → Nat) (ea ev ad : Nat → Nat) (km : Nat → ClassId) (F : gF) (nf d : Nat) (T0 : gSt) (p1 : Int32) (r0 : Int32) (rl0 : Int64) (T9 : gSt) (hR : rb_Scope_slotOf F nf T0 p1 = some (r0, rl0, T9)) : GMi l dC dI LH ad km ea ev y_Scope_slotOf w_Scope_slotOf (rmD (d + 1)) [.ref (ad 6), .int p1] T0 r0 T9 := by
  intro sz
  refine Met.ofW (cc := b_Scope_slotOf) (maxL := 2) (ret := (some .int)) (by decide) rfl ?_
  intro p e s m args below meth c s₁ B hml hv
  obtain ⟨rfl, hsz, hP, hK, hD0, hnw, henv⟩ := hv
  have hx := B.exec
  have hb := B.bytes
  have hr := B.returns
  have hT : ∀ w ∈ lw_good, w.before _ s = true := fun w h => atoms_spec (ws := w_Scope_slotOf) B.pre w (List.mem_cons_of_mem _ h)
  have hown : s.vm.findClass R_Scope = some m.cls := findClass_of_methodNamed B.named
  subst hsz
  have hD := hD0.self (sz := s.heap.size)
  clear hD0
  generalize hAe : va_A (gW LH ad km T0) s.heap.size = A at hD henv ⊢
  have hA : ∀ q : Nat, s.heap.size ≤ q → A q := fun q h => by rw [← hAe]; exact Or.inr h
  have hS : va_S A s.heap s.heap [] := va_S.rf
  have hl := lv_entry ([.ref (ad 6), .int p1]) (n := 2) (Nat.le_of_ble_eq_true rfl)
  rw [lg_entry_eq]
  generalize (lg_sl ([.ref (ad 6), .int p1]) ++ List.replicate (2 - (lg_sl ([.ref (ad 6), .int p1])).length) Slot.unset).toArray = ls at hl ⊢
  have hl : lv_has ls 2 [(0, .ref (ad 6)), (1, .int p1)] := hl
  unfold rb_Scope_slotOf at hR
  refine lv_iload_n hx hb d_Scope_slotOf_0 rfl (lv_at hl 1 rfl) ?_
  refine lv_if_lt (tgt := 12) hx hb d_Scope_slotOf_1 (by decide) (fun c1 => ?_) (fun c1 => ?_)
  · replace hR := if_p c1 hR
    refine lv_iconst (v := 0) hx hb d_Scope_slotOf_12 (by decide) ?_
    refine lv_goto (tgt := 22) hx hb d_Scope_slotOf_13 (by decide) ?_
    obtain ⟨e1, -, e3⟩ := re_e hR
    subst e1; subst e3
    exact W.iret (v := (0 : Int32)) hx hb hr (fun t ht hW => ⟨⟨(0 : Int32), (), rfl, rfl, by rw [ht]; exact hP, va_K.moved hW.alike hK, hD⟩, hS.F ht⟩) hS.2.2 d_Scope_slotOf_22
  · replace hR := if_n c1 hR
    refine lv_iload_n hx hb d_Scope_slotOf_4 rfl (lv_at hl 1 rfl) ?_
    refine lv_aload_n hx hb d_Scope_slotOf_5 rfl (lv_at hl 0 rfl) ?_
    refine rd_Scope_44 hx hb hT hown hK hP d_Scope_slotOf_6 ?_
    refine lv_icmp_lt (tgt := 16) hx hb d_Scope_slotOf_9 (by decide) (fun c3 => ?_) (fun c3 => ?_)
    · replace hR := if_p c3 hR
      refine lv_aload_n hx hb d_Scope_slotOf_16 rfl (lv_at hl 0 rfl) ?_
      refine rd_Scope_19 hx hb hT hown hK hP d_Scope_slotOf_17 ?_
      refine lv_iload_n hx hb d_Scope_slotOf_20 rfl (lv_at hl 1 rfl) ?_
      replace hR := gd_e hR
      obtain ⟨b4, hR⟩ := hR
      refine laH_40 hx hb hK hP b4 d_Scope_slotOf_21 ?_
      obtain ⟨e1, -, e3⟩ := re_e hR
      subst e1; subst e3
      exact W.iret (v := T0.1 71 p1.toNatClampNeg) hx hb hr (fun t ht hW => ⟨⟨T0.1 71 p1.toNatClampNeg, (), rfl, rfl, by rw [ht]; exact hP, va_K.moved hW.alike hK, hD⟩, hS.F ht⟩) hS.2.2 d_Scope_slotOf_22
    · replace hR := if_n c3 hR
      refine lv_iconst (v := 0) hx hb d_Scope_slotOf_12 (by decide) ?_
      refine lv_goto (tgt := 22) hx hb d_Scope_slotOf_13 (by decide) ?_
      obtain ⟨e1, -, e3⟩ := re_e hR
      subst e1; subst e3
      exact W.iret (v := (0 : Int32)) hx hb hr (fun t ht hW => ⟨⟨(0 : Int32), (), rfl, rfl, by rw [ht]; exact hP, va_K.moved hW.alike hK, hD⟩, hS.F ht⟩) hS.2.2 d_Scope_slotOf_22
set_option maxHeartbeats 4000000 in
set_option maxRecDepth 100000 in
theorem sp_Scope_isReached (l : Launch) (dC : Nat → ClassId) (dI : Nat → Nat → Nat) (ea ev ad : Nat → Nat) (km : Nat → ClassId) (F : gF) (nf d : Nat) (T0 : gSt) (r0 : Int32) (rl0 : Int64) (T9 : gSt) (hR : rb_Scope_isReached F nf T0 = some (r0, rl0, T9)) : GMi l dC dI LH ad km ea ev y_Scope_isReached w_Scope_isReached (rmD (d + 1)) [.ref (ad 6)] T0 r0 T9 := by
  intro sz
  refine Met.ofW (cc := b_Scope_isReached) (maxL := 1) (ret := (some .boolean)) (by decide) rfl ?_
  intro p e s m args below meth c s₁ B hml hv
  obtain ⟨rfl, hsz, hP, hK, hD0, hnw, henv⟩ := hv
  have hx := B.exec
  have hb := B.bytes
  have hr := B.returns
  have hT : ∀ w ∈ lw_good, w.before _ s = true := fun w h => atoms_spec (ws := w_Scope_isReached) B.pre w (List.mem_cons_of_mem _ h)
  have hown : s.vm.findClass R_Scope = some m.cls := findClass_of_methodNamed B.named
  subst hsz
  have hD := hD0.self (sz := s.heap.size)
  clear hD0
  generalize hAe : va_A (gW LH ad km T0) s.heap.size = A at hD henv ⊢
  have hA : ∀ q : Nat, s.heap.size ≤ q → A q := fun q h => by rw [← hAe]; exact Or.inr h
  have hS : va_S A s.heap s.heap [] := va_S.rf
  have hl := lv_entry ([.ref (ad 6)]) (n := 1) (Nat.le_of_ble_eq_true rfl)
  rw [lg_entry_eq]
  generalize (lg_sl ([.ref (ad 6)]) ++ List.replicate (1 - (lg_sl ([.ref (ad 6)])).length) Slot.unset).toArray = ls at hl ⊢
  have hl : lv_has ls 1 [(0, .ref (ad 6))] := hl
  unfold rb_Scope_isReached at hR
  refine lv_aload_n hx hb d_Scope_isReached_0 rfl (lv_at hl 0 rfl) ?_
  refine rd_Scope_56 hx hb hT hown hK hP d_Scope_isReached_1 ?_
  refine lv_ldc2 hx hb hown (hT _ k_Scope_132) d_Scope_isReached_4 ?_
  refine lv_land hx hb d_Scope_isReached_7 ?_
  refine lv_lconst (v := 0) hx hb d_Scope_isReached_8 (by decide) ?_
  refine W.lcmp hx hb d_Scope_isReached_9 ?_
  refine lv_if_eq (tgt := 17) hx hb d_Scope_isReached_10 (by decide) (fun c1 => ?_) (fun c1 => ?_)
  · replace hR := if_p c1 hR
    refine lv_iconst (v := 0) hx hb d_Scope_isReached_17 (by decide) ?_
    obtain ⟨e1, -, e3⟩ := re_e hR
    subst e1; subst e3
    exact W.zret (v := (0 : Int32)) hx hb hr (by first | rfl | decide) (fun t ht hW => ⟨⟨(0 : Int32), (), rfl, rfl, by rw [ht]; exact hP, va_K.moved hW.alike hK, hD⟩, hS.F ht⟩) hS.2.2 d_Scope_isReached_18
  · replace hR := if_n c1 hR
    refine lv_iconst (v := 1) hx hb d_Scope_isReached_13 (by decide) ?_
    refine lv_goto (tgt := 18) hx hb d_Scope_isReached_14 (by decide) ?_
    obtain ⟨e1, -, e3⟩ := re_e hR
    subst e1; subst e3
    exact W.zret (v := (1 : Int32)) hx hb hr (by first | rfl | decide) (fun t ht hW => ⟨⟨(1 : Int32), (), rfl, rfl, by rw [ht]; exact hP, va_K.moved hW.alike hK, hD⟩, hS.F ht⟩) hS.2.2 d_Scope_isReached_18
set_option maxHeartbeats 4000000 in
set_option maxRecDepth 100000 in
theorem sp_Scope_leave (l : Launch) (dC : Nat → ClassId) (dI : Nat → Nat → Nat) (ea ev ad : Nat → Nat) (km : Nat → ClassId) (F : gF) (nf d : Nat) (T0 : gSt) (r0 : Int32) (rl0 : Int64) (T9 : gSt) (hR : rb_Scope_leave F nf T0 = some (r0, rl0, T9)) : GMv l dC dI LH ad km ea ev y_Scope_leave w_Scope_leave (rmD (d + 1)) [.ref (ad 6)] T0 T9 := by
  intro sz
  refine Met.ofW (cc := b_Scope_leave) (maxL := 1) (ret := none) (by decide) rfl ?_
  intro p e s m args below meth c s₁ B hml hv
  obtain ⟨rfl, hsz, hP, hK, hD0, hnw, henv⟩ := hv
  have hx := B.exec
  have hb := B.bytes
  have hr := B.returns
  have hT : ∀ w ∈ lw_good, w.before _ s = true := fun w h => atoms_spec (ws := w_Scope_leave) B.pre w (List.mem_cons_of_mem _ h)
  have hown : s.vm.findClass R_Scope = some m.cls := findClass_of_methodNamed B.named
  subst hsz
  have hD := hD0.self (sz := s.heap.size)
  clear hD0
  generalize hAe : va_A (gW LH ad km T0) s.heap.size = A at hD henv ⊢
  have hA : ∀ q : Nat, s.heap.size ≤ q → A q := fun q h => by rw [← hAe]; exact Or.inr h
  have hS : va_S A s.heap s.heap [] := va_S.rf
  have hl := lv_entry ([.ref (ad 6)]) (n := 1) (Nat.le_of_ble_eq_true rfl)
  rw [lg_entry_eq]
  generalize (lg_sl ([.ref (ad 6)]) ++ List.replicate (1 - (lg_sl ([.ref (ad 6)])).length) Slot.unset).toArray = ls at hl ⊢
  have hl : lv_has ls 1 [(0, .ref (ad 6))] := hl
  unfold rb_Scope_leave at hR
  refine lv_aload_n hx hb d_Scope_leave_0 rfl (lv_at hl 0 rfl) ?_
  refine lv_dup hx hb d_Scope_leave_1 rfl ?_
  refine rd_Scope_56 hx hb hT hown hK hP d_Scope_leave_2 ?_
  refine lv_ldc2 hx hb hown (hT _ k_Scope_134) d_Scope_leave_5 ?_
  refine lv_land hx hb d_Scope_leave_8 ?_
  refine wr_Scope_56 hx hb hT hown hK hP hD hS d_Scope_leave_9 (fun T1 eT H locs hP hD hS => ?_)
  replace hR := stK_e eT hR
  clear eT
  obtain ⟨-, -, e3⟩ := re_e hR
  subst e3
  exact W.vret hx hb hr (fun t ht hW => ⟨⟨(), rfl, trivial, by rw [ht]; exact hP, va_K.moved hW.alike hK, hD⟩, hS.F ht⟩) hS.2.2 d_Scope_leave_12
set_option maxHeartbeats 4000000 in
set_option maxRecDepth 100000 in
theorem sp_Scope_isSet (l : Launch) (dC : Nat → ClassId) (dI : Nat → Nat → Nat) (ea ev ad : Nat → Nat) (km : Nat → ClassId) (F : gF) (nf d : Nat) (h_Scope_isReached : mt_Scope_isReached l dC dI ea ev ad km F d) (T0 : gSt) (p1 : Int32) (r0 : Int32) (rl0 : Int64) (T9 : gSt) (hR : rb_Scope_isSet F nf T0 p1 = some (r0, rl0, T9)) : GMi l dC dI LH ad km ea ev y_Scope_isSet w_Scope_isSet (rmD (d + 1)) [.ref (ad 6), .int p1] T0 r0 T9 := by
  intro sz
  refine Met.ofW (cc := b_Scope_isSet) (maxL := 2) (ret := (some .boolean)) (by decide) rfl ?_
  intro p e s m args below meth c s₁ B hml hv
  obtain ⟨rfl, hsz, hP, hK, hD0, hnw, henv⟩ := hv
  have hx := B.exec
  have hb := B.bytes
  have hr := B.returns
  have hT : ∀ w ∈ lw_good, w.before _ s = true := fun w h => atoms_spec (ws := w_Scope_isSet) B.pre w (List.mem_cons_of_mem _ h)
  have hown : s.vm.findClass R_Scope = some m.cls := findClass_of_methodNamed B.named
  subst hsz
  have hD := hD0.self (sz := s.heap.size)
  clear hD0
  generalize hAe : va_A (gW LH ad km T0) s.heap.size = A at hD henv ⊢
  have hA : ∀ q : Nat, s.heap.size ≤ q → A q := fun q h => by rw [← hAe]; exact Or.inr h
  have hS : va_S A s.heap s.heap [] := va_S.rf
  have hl := lv_entry ([.ref (ad 6), .int p1]) (n := 2) (Nat.le_of_ble_eq_true rfl)
  rw [lg_entry_eq]
  generalize (lg_sl ([.ref (ad 6), .int p1]) ++ List.replicate (2 - (lg_sl ([.ref (ad 6), .int p1])).length) Slot.unset).toArray = ls at hl ⊢
  have hl : lv_has ls 2 [(0, .ref (ad 6)), (1, .int p1)] := hl
  unfold rb_Scope_isSet at hR
  refine lv_aload_n hx hb d_Scope_isSet_0 rfl (lv_at hl 0 rfl) ?_
  replace hR := bi_e hR
  obtain ⟨r1, l1, T1, hc1, hR⟩ := hR
  refine gcV_i (rest := []) ⟨hx, hb, hml, hown, hT⟩ (h_Scope_isReached _ _ _ _ hc1) (cwV 0 hT (gV ml_Scope_136 im_Scope_isReached se_Scope_isReached ini_Scope co_Scope_isReached) rfl rfl rfl pd_Scope_isReached ⟨rm_hi, rm_lo (Nat.le_of_ble_eq_true rfl)⟩) hK hP hD hS hA hnw henv (Nat.le_of_ble_eq_true rfl) rfl rfl hl.1 rfl (Nat.le_of_ble_eq_true rfl) d_Scope_isSet_1 ⟨Nat.le_refl _, Nat.le_refl _⟩ (fun H locs hP hD hS => ?_)
  clear hc1
  refine lv_if_eq (tgt := 20) hx hb d_Scope_isSet_4 (by decide) (fun c2 => ?_) (fun c2 => ?_)
  · replace hR := if_p c2 hR
    refine lv_iconst (v := 1) hx hb d_Scope_isSet_20 (by decide) ?_
    refine lv_goto (tgt := 25) hx hb d_Scope_isSet_21 (by decide) ?_
    obtain ⟨e1, -, e3⟩ := re_e hR
    subst e1; subst e3
    exact W.zret (v := (1 : Int32)) hx hb hr (by first | rfl | decide) (fun t ht hW => ⟨⟨(1 : Int32), (), rfl, rfl, by rw [ht]; exact hP, va_K.moved hW.alike hK, hD⟩, hS.F ht⟩) hS.2.2 d_Scope_isSet_25
  · replace hR := if_n c2 hR
    refine lv_aload_n hx hb d_Scope_isSet_7 rfl (lv_at hl 0 rfl) ?_
    refine rd_Scope_56 hx hb hT hown hK hP d_Scope_isSet_8 ?_
    refine lv_iload_n hx hb d_Scope_isSet_11 rfl (lv_at hl 1 rfl) ?_
    refine lv_lshr (v := (T1.2 77 0) >>> ((p1 : Int32).toInt64 &&& 63)) hx hb d_Scope_isSet_12 rfl ?_
    refine lv_lconst (v := 1) hx hb d_Scope_isSet_13 (by decide) ?_
    refine lv_land hx hb d_Scope_isSet_14 ?_
    refine lv_lconst (v := 0) hx hb d_Scope_isSet_15 (by decide) ?_
    refine W.lcmp hx hb d_Scope_isSet_16 ?_
    refine lv_if_eq (tgt := 24) hx hb d_Scope_isSet_17 (by decide) (fun c4 => ?_) (fun c4 => ?_)
    · replace hR := if_p c4 hR
      refine lv_iconst (v := 0) hx hb d_Scope_isSet_24 (by decide) ?_
      obtain ⟨e1, -, e3⟩ := re_e hR
      subst e1; subst e3
      exact W.zret (v := (0 : Int32)) hx hb hr (by first | rfl | decide) (fun t ht hW => ⟨⟨(0 : Int32), (), rfl, rfl, by rw [ht]; exact hP, va_K.moved hW.alike hK, hD⟩, hS.F ht⟩) hS.2.2 d_Scope_isSet_25
    · replace hR := if_n c4 hR
      refine lv_iconst (v := 1) hx hb d_Scope_isSet_20 (by decide) ?_
      refine lv_goto (tgt := 25) hx hb d_Scope_isSet_21 (by decide) ?_
      obtain ⟨e1, -, e3⟩ := re_e hR
      subst e1; subst e3
      exact W.zret (v := (1 : Int32)) hx hb hr (by first | rfl | decide) (fun t ht hW => ⟨⟨(1 : Int32), (), rfl, rfl, by rw [ht]; exact hP, va_K.moved hW.alike hK, hD⟩, hS.F ht⟩) hS.2.2 d_Scope_isSet_25
set_option maxHeartbeats 4000000 in
set_option maxRecDepth 100000 in
theorem sp_Scope_isKnown (l : Launch) (dC : Nat → ClassId) (dI : Nat → Nat → Nat) (ea ev ad : Nat → Nat) (km : Nat → ClassId) (F : gF) (nf d : Nat) (h_Scope_isReached : mt_Scope_isReached l dC dI ea ev ad km F d) (T0 : gSt) (p1 : Int32) (r0 : Int32) (rl0 : Int64) (T9 : gSt) (hR : rb_Scope_isKnown F nf T0 p1 = some (r0, rl0, T9)) : GMi l dC dI LH ad km ea ev y_Scope_isKnown w_Scope_isKnown (rmD (d + 1)) [.ref (ad 6), .int p1] T0 r0 T9 := by
  intro sz
  refine Met.ofW (cc := b_Scope_isKnown) (maxL := 2) (ret := (some .boolean)) (by decide) rfl ?_
  intro p e s m args below meth c s₁ B hml hv
  obtain ⟨rfl, hsz, hP, hK, hD0, hnw, henv⟩ := hv
  have hx := B.exec
  have hb := B.bytes
  have hr := B.returns
  have hT : ∀ w ∈ lw_good, w.before _ s = true := fun w h => atoms_spec (ws := w_Scope_isKnown) B.pre w (List.mem_cons_of_mem _ h)
  have hown : s.vm.findClass R_Scope = some m.cls := findClass_of_methodNamed B.named
  subst hsz
  have hD := hD0.self (sz := s.heap.size)
  clear hD0
  generalize hAe : va_A (gW LH ad km T0) s.heap.size = A at hD henv ⊢
  have hA : ∀ q : Nat, s.heap.size ≤ q → A q := fun q h => by rw [← hAe]; exact Or.inr h
  have hS : va_S A s.heap s.heap [] := va_S.rf
  have hl := lv_entry ([.ref (ad 6), .int p1]) (n := 2) (Nat.le_of_ble_eq_true rfl)
  rw [lg_entry_eq]
  generalize (lg_sl ([.ref (ad 6), .int p1]) ++ List.replicate (2 - (lg_sl ([.ref (ad 6), .int p1])).length) Slot.unset).toArray = ls at hl ⊢
  have hl : lv_has ls 2 [(0, .ref (ad 6)), (1, .int p1)] := hl
  unfold rb_Scope_isKnown at hR
  refine lv_aload_n hx hb d_Scope_isKnown_0 rfl (lv_at hl 0 rfl) ?_
  replace hR := bi_e hR
  obtain ⟨r1, l1, T1, hc1, hR⟩ := hR
  refine gcV_i (rest := []) ⟨hx, hb, hml, hown, hT⟩ (h_Scope_isReached _ _ _ _ hc1) (cwV 0 hT (gV ml_Scope_136 im_Scope_isReached se_Scope_isReached ini_Scope co_Scope_isReached) rfl rfl rfl pd_Scope_isReached ⟨rm_hi, rm_lo (Nat.le_of_ble_eq_true rfl)⟩) hK hP hD hS hA hnw henv (Nat.le_of_ble_eq_true rfl) rfl rfl hl.1 rfl (Nat.le_of_ble_eq_true rfl) d_Scope_isKnown_1 ⟨Nat.le_refl _, Nat.le_refl _⟩ (fun H locs hP hD hS => ?_)
  clear hc1
  refine lv_if_eq (tgt := 23) hx hb d_Scope_isKnown_4 (by decide) (fun c2 => ?_) (fun c2 => ?_)
  · replace hR := if_p c2 hR
    refine lv_iconst (v := 1) hx hb d_Scope_isKnown_23 (by decide) ?_
    refine lv_goto (tgt := 28) hx hb d_Scope_isKnown_24 (by decide) ?_
    obtain ⟨e1, -, e3⟩ := re_e hR
    subst e1; subst e3
    exact W.zret (v := (1 : Int32)) hx hb hr (by first | rfl | decide) (fun t ht hW => ⟨⟨(1 : Int32), (), rfl, rfl, by rw [ht]; exact hP, va_K.moved hW.alike hK, hD⟩, hS.F ht⟩) hS.2.2 d_Scope_isKnown_28
  · replace hR := if_n c2 hR
    refine lv_aload_n hx hb d_Scope_isKnown_7 rfl (lv_at hl 0 rfl) ?_
    refine rd_Scope_56 hx hb hT hown hK hP d_Scope_isKnown_8 ?_
    refine lv_bipush (v := 20) hx hb d_Scope_isKnown_11 (by decide) ?_
    refine lv_iload_n hx hb d_Scope_isKnown_13 rfl (lv_at hl 1 rfl) ?_
    refine lv_iadd hx hb d_Scope_isKnown_14 ?_
    refine lv_lshr (v := (T1.2 77 0) >>> (((20 : Int32) + p1 : Int32).toInt64 &&& 63)) hx hb d_Scope_isKnown_15 rfl ?_
    refine lv_lconst (v := 1) hx hb d_Scope_isKnown_16 (by decide) ?_
    refine lv_land hx hb d_Scope_isKnown_17 ?_
    refine lv_lconst (v := 0) hx hb d_Scope_isKnown_18 (by decide) ?_
    refine W.lcmp hx hb d_Scope_isKnown_19 ?_
    refine lv_if_eq (tgt := 27) hx hb d_Scope_isKnown_20 (by decide) (fun c4 => ?_) (fun c4 => ?_)
    · replace hR := if_p c4 hR
      refine lv_iconst (v := 0) hx hb d_Scope_isKnown_27 (by decide) ?_
      obtain ⟨e1, -, e3⟩ := re_e hR
      subst e1; subst e3
      exact W.zret (v := (0 : Int32)) hx hb hr (by first | rfl | decide) (fun t ht hW => ⟨⟨(0 : Int32), (), rfl, rfl, by rw [ht]; exact hP, va_K.moved hW.alike hK, hD⟩, hS.F ht⟩) hS.2.2 d_Scope_isKnown_28
    · replace hR := if_n c4 hR
      refine lv_iconst (v := 1) hx hb d_Scope_isKnown_23 (by decide) ?_
      refine lv_goto (tgt := 28) hx hb d_Scope_isKnown_24 (by decide) ?_
      obtain ⟨e1, -, e3⟩ := re_e hR
      subst e1; subst e3
      exact W.zret (v := (1 : Int32)) hx hb hr (by first | rfl | decide) (fun t ht hW => ⟨⟨(1 : Int32), (), rfl, rfl, by rw [ht]; exact hP, va_K.moved hW.alike hK, hD⟩, hS.F ht⟩) hS.2.2 d_Scope_isKnown_28
set_option maxHeartbeats 4000000 in
set_option maxRecDepth 100000 in
theorem sp_Scope_give (l : Launch) (dC : Nat → ClassId) (dI : Nat → Nat → Nat) (ea ev ad : Nat → Nat) (km : Nat → ClassId) (F : gF) (nf d : Nat) (h_Scope_forgetKnown : mt_Scope_forgetKnown l dC dI ea ev ad km F d) (h_Scope_know : mt_Scope_know l dC dI ea ev ad km F d) (T0 : gSt) (p1 : Int32) (p2 : Int32) (r0 : Int32) (rl0 : Int64) (T9 : gSt) (hR : rb_Scope_give F nf T0 p1 p2 = some (r0, rl0, T9)) : GMv l dC dI LH ad km ea ev y_Scope_give w_Scope_give (rmD (d + 1)) [.ref (ad 6), .int p1, .int p2] T0 T9 := by
  intro sz
  refine Met.ofW (cc := b_Scope_give) (maxL := 3) (ret := none) (by decide) rfl ?_
  intro p e s m args below meth c s₁ B hml hv
  obtain ⟨rfl, hsz, hP, hK, hD0, hnw, henv⟩ := hv
  have hx := B.exec
  have hb := B.bytes
  have hr := B.returns
  have hT : ∀ w ∈ lw_good, w.before _ s = true := fun w h => atoms_spec (ws := w_Scope_give) B.pre w (List.mem_cons_of_mem _ h)
  have hown : s.vm.findClass R_Scope = some m.cls := findClass_of_methodNamed B.named
  subst hsz
  have hD := hD0.self (sz := s.heap.size)
  clear hD0
  generalize hAe : va_A (gW LH ad km T0) s.heap.size = A at hD henv ⊢
  have hA : ∀ q : Nat, s.heap.size ≤ q → A q := fun q h => by rw [← hAe]; exact Or.inr h
  have hS : va_S A s.heap s.heap [] := va_S.rf
  have hl := lv_entry ([.ref (ad 6), .int p1, .int p2]) (n := 3) (Nat.le_of_ble_eq_true rfl)
  rw [lg_entry_eq]
  generalize (lg_sl ([.ref (ad 6), .int p1, .int p2]) ++ List.replicate (3 - (lg_sl ([.ref (ad 6), .int p1, .int p2])).length) Slot.unset).toArray = ls at hl ⊢
  have hl : lv_has ls 3 [(0, .ref (ad 6)), (1, .int p1), (2, .int p2)] := hl
  unfold rb_Scope_give at hR
  refine lv_iload_n hx hb d_Scope_give_0 rfl (lv_at hl 1 rfl) ?_
  refine lv_if_lt (tgt := 32) hx hb d_Scope_give_1 (by decide) (fun c1 => ?_) (fun c1 => ?_)
  · replace hR := if_p c1 hR
    obtain ⟨-, -, e3⟩ := re_e hR
    subst e3
    exact W.vret hx hb hr (fun t ht hW => ⟨⟨(), rfl, trivial, by rw [ht]; exact hP, va_K.moved hW.alike hK, hD⟩, hS.F ht⟩) hS.2.2 d_Scope_give_32
  · replace hR := if_n c1 hR
    refine lv_aload_n hx hb d_Scope_give_4 rfl (lv_at hl 0 rfl) ?_
    refine lv_iconst (v := 1) hx hb d_Scope_give_5 (by decide) ?_
    refine lv_iload_n hx hb d_Scope_give_6 rfl (lv_at hl 1 rfl) ?_
    refine lv_ishl hx hb d_Scope_give_7 ?_
    replace hR := bi_e hR
    obtain ⟨r2, l2, T2, hc2, hR⟩ := hR
    refine gcV_v (rest := []) ⟨hx, hb, hml, hown, hT⟩ (h_Scope_forgetKnown _ _ _ _ _ hc2) (cwV 1 hT (gV ml_Scope_129 im_Scope_forgetKnown se_Scope_forgetKnown ini_Scope co_Scope_forgetKnown) rfl rfl rfl pd_Scope_forgetKnown ⟨rm_hi, rm_lo (Nat.le_of_ble_eq_true rfl)⟩) hK hP hD hS hA hnw henv (Nat.le_of_ble_eq_true rfl) rfl rfl hl.1 rfl (Nat.le_of_ble_eq_true rfl) d_Scope_give_8 ⟨Nat.le_refl _, Nat.le_refl _⟩ (fun H locs hP hD hS => ?_)
    clear hc2
    refine lv_aload_n hx hb d_Scope_give_11 rfl (lv_at hl 0 rfl) ?_
    refine lv_dup hx hb d_Scope_give_12 rfl ?_
    refine rd_Scope_56 hx hb hT hown hK hP d_Scope_give_13 ?_
    refine lv_lconst (v := 1) hx hb d_Scope_give_16 (by decide) ?_
    refine lv_iload_n hx hb d_Scope_give_17 rfl (lv_at hl 1 rfl) ?_
    refine lv_lshl (v := (1 : Int64) <<< ((p1 : Int32).toInt64 &&& 63)) hx hb d_Scope_give_18 rfl ?_
    refine lv_lor hx hb d_Scope_give_19 ?_
    refine wr_Scope_56 hx hb hT hown hK hP hD hS d_Scope_give_20 (fun T3 eT H locs hP hD hS => ?_)
    replace hR := stK_e eT hR
    clear eT
    refine lv_iload_n hx hb d_Scope_give_23 rfl (lv_at hl 2 rfl) ?_
    refine lv_if_eq (tgt := 32) hx hb d_Scope_give_24 (by decide) (fun c4 => ?_) (fun c4 => ?_)
    · replace hR := if_p c4 hR
      obtain ⟨-, -, e3⟩ := re_e hR
      subst e3
      exact W.vret hx hb hr (fun t ht hW => ⟨⟨(), rfl, trivial, by rw [ht]; exact hP, va_K.moved hW.alike hK, hD⟩, hS.F ht⟩) hS.2.2 d_Scope_give_32
    · replace hR := if_n c4 hR
      refine lv_aload_n hx hb d_Scope_give_27 rfl (lv_at hl 0 rfl) ?_
      refine lv_iload_n hx hb d_Scope_give_28 rfl (lv_at hl 1 rfl) ?_
      replace hR := bi_e hR
      obtain ⟨r5, l5, T5, hc5, hR⟩ := hR
      refine gcV_v (rest := []) ⟨hx, hb, hml, hown, hT⟩ (h_Scope_know _ _ _ _ _ hc5) (cwV 1 hT (gV ml_Scope_140 im_Scope_know se_Scope_know ini_Scope co_Scope_know) rfl rfl rfl pd_Scope_know ⟨rm_hi, rm_lo (Nat.le_of_ble_eq_true rfl)⟩) hK hP hD hS hA hnw henv (Nat.le_of_ble_eq_true rfl) rfl rfl hl.1 rfl (Nat.le_of_ble_eq_true rfl) d_Scope_give_29 ⟨Nat.le_refl _, Nat.le_refl _⟩ (fun H locs hP hD hS => ?_)
      clear hc5
      obtain ⟨-, -, e3⟩ := re_e hR
      subst e3
      exact W.vret hx hb hr (fun t ht hW => ⟨⟨(), rfl, trivial, by rw [ht]; exact hP, va_K.moved hW.alike hK, hD⟩, hS.F ht⟩) hS.2.2 d_Scope_give_32
set_option maxHeartbeats 4000000 in
set_option maxRecDepth 100000 in
theorem sp_Scope_know (l : Launch) (dC : Nat → ClassId) (dI : Nat → Nat → Nat) (ea ev ad : Nat → Nat) (km : Nat → ClassId) (F : gF) (nf d : Nat) (T0 : gSt) (p1 : Int32) (r0 : Int32) (rl0 : Int64) (T9 : gSt) (hR : rb_Scope_know F nf T0 p1 = some (r0, rl0, T9)) : GMv l dC dI LH ad km ea ev y_Scope_know w_Scope_know (rmD (d + 1)) [.ref (ad 6), .int p1] T0 T9 := by
  intro sz
  refine Met.ofW (cc := b_Scope_know) (maxL := 2) (ret := none) (by decide) rfl ?_
  intro p e s m args below meth c s₁ B hml hv
  obtain ⟨rfl, hsz, hP, hK, hD0, hnw, henv⟩ := hv
  have hx := B.exec
  have hb := B.bytes
  have hr := B.returns
  have hT : ∀ w ∈ lw_good, w.before _ s = true := fun w h => atoms_spec (ws := w_Scope_know) B.pre w (List.mem_cons_of_mem _ h)
  have hown : s.vm.findClass R_Scope = some m.cls := findClass_of_methodNamed B.named
  subst hsz
  have hD := hD0.self (sz := s.heap.size)
  clear hD0
  generalize hAe : va_A (gW LH ad km T0) s.heap.size = A at hD henv ⊢
  have hA : ∀ q : Nat, s.heap.size ≤ q → A q := fun q h => by rw [← hAe]; exact Or.inr h
  have hS : va_S A s.heap s.heap [] := va_S.rf
  have hl := lv_entry ([.ref (ad 6), .int p1]) (n := 2) (Nat.le_of_ble_eq_true rfl)
  rw [lg_entry_eq]
  generalize (lg_sl ([.ref (ad 6), .int p1]) ++ List.replicate (2 - (lg_sl ([.ref (ad 6), .int p1])).length) Slot.unset).toArray = ls at hl ⊢
  have hl : lv_has ls 2 [(0, .ref (ad 6)), (1, .int p1)] := hl
  unfold rb_Scope_know at hR
  refine lv_iload_n hx hb d_Scope_know_0 rfl (lv_at hl 1 rfl) ?_
  refine lv_if_lt (tgt := 19) hx hb d_Scope_know_1 (by decide) (fun c1 => ?_) (fun c1 => ?_)
  · replace hR := if_p c1 hR
    obtain ⟨-, -, e3⟩ := re_e hR
    subst e3
    exact W.vret hx hb hr (fun t ht hW => ⟨⟨(), rfl, trivial, by rw [ht]; exact hP, va_K.moved hW.alike hK, hD⟩, hS.F ht⟩) hS.2.2 d_Scope_know_19
  · replace hR := if_n c1 hR
    refine lv_aload_n hx hb d_Scope_know_4 rfl (lv_at hl 0 rfl) ?_
    refine lv_dup hx hb d_Scope_know_5 rfl ?_
    refine rd_Scope_56 hx hb hT hown hK hP d_Scope_know_6 ?_
    refine lv_lconst (v := 1) hx hb d_Scope_know_9 (by decide) ?_
    refine lv_bipush (v := 20) hx hb d_Scope_know_10 (by decide) ?_
    refine lv_iload_n hx hb d_Scope_know_12 rfl (lv_at hl 1 rfl) ?_
    refine lv_iadd hx hb d_Scope_know_13 ?_
    refine lv_lshl (v := (1 : Int64) <<< (((20 : Int32) + p1 : Int32).toInt64 &&& 63)) hx hb d_Scope_know_14 rfl ?_
    refine lv_lor hx hb d_Scope_know_15 ?_
    refine wr_Scope_56 hx hb hT hown hK hP hD hS d_Scope_know_16 (fun T2 eT H locs hP hD hS => ?_)
    replace hR := stK_e eT hR
    clear eT
    obtain ⟨-, -, e3⟩ := re_e hR
    subst e3
    exact W.vret hx hb hr (fun t ht hW => ⟨⟨(), rfl, trivial, by rw [ht]; exact hP, va_K.moved hW.alike hK, hD⟩, hS.F ht⟩) hS.2.2 d_Scope_know_19
set_option maxHeartbeats 4000000 in
set_option maxRecDepth 100000 in
theorem sp_Scope_forgetKnown (l : Launch) (dC : Nat → ClassId) (dI : Nat → Nat → Nat) (ea ev ad : Nat → Nat) (km : Nat → ClassId) (F : gF) (nf d : Nat) (T0 : gSt) (p1 : Int32) (r0 : Int32) (rl0 : Int64) (T9 : gSt) (hR : rb_Scope_forgetKnown F nf T0 p1 = some (r0, rl0, T9)) : GMv l dC dI LH ad km ea ev y_Scope_forgetKnown w_Scope_forgetKnown (rmD (d + 1)) [.ref (ad 6), .int p1] T0 T9 := by
  intro sz
  refine Met.ofW (cc := b_Scope_forgetKnown) (maxL := 2) (ret := none) (by decide) rfl ?_
  intro p e s m args below meth c s₁ B hml hv
  obtain ⟨rfl, hsz, hP, hK, hD0, hnw, henv⟩ := hv
  have hx := B.exec
  have hb := B.bytes
  have hr := B.returns
  have hT : ∀ w ∈ lw_good, w.before _ s = true := fun w h => atoms_spec (ws := w_Scope_forgetKnown) B.pre w (List.mem_cons_of_mem _ h)
  have hown : s.vm.findClass R_Scope = some m.cls := findClass_of_methodNamed B.named
  subst hsz
  have hD := hD0.self (sz := s.heap.size)
  clear hD0
  generalize hAe : va_A (gW LH ad km T0) s.heap.size = A at hD henv ⊢
  have hA : ∀ q : Nat, s.heap.size ≤ q → A q := fun q h => by rw [← hAe]; exact Or.inr h
  have hS : va_S A s.heap s.heap [] := va_S.rf
  have hl := lv_entry ([.ref (ad 6), .int p1]) (n := 2) (Nat.le_of_ble_eq_true rfl)
  rw [lg_entry_eq]
  generalize (lg_sl ([.ref (ad 6), .int p1]) ++ List.replicate (2 - (lg_sl ([.ref (ad 6), .int p1])).length) Slot.unset).toArray = ls at hl ⊢
  have hl : lv_has ls 2 [(0, .ref (ad 6)), (1, .int p1)] := hl
  unfold rb_Scope_forgetKnown at hR
  refine lv_aload_n hx hb d_Scope_forgetKnown_0 rfl (lv_at hl 0 rfl) ?_
  refine lv_dup hx hb d_Scope_forgetKnown_1 rfl ?_
  refine rd_Scope_56 hx hb hT hown hK hP d_Scope_forgetKnown_2 ?_
  refine lv_iload_n hx hb d_Scope_forgetKnown_5 rfl (lv_at hl 1 rfl) ?_
  refine lv_i2l (v := (p1 : Int32).toInt64) hx hb d_Scope_forgetKnown_6 rfl ?_
  refine lv_bipush (v := 20) hx hb d_Scope_forgetKnown_7 (by decide) ?_
  refine lv_lshl (v := ((p1 : Int32).toInt64) <<< (((20 : Int32) : Int32).toInt64 &&& 63)) hx hb d_Scope_forgetKnown_9 rfl ?_
  refine lv_ldc2 hx hb hown (hT _ k_Scope_110) d_Scope_forgetKnown_10 ?_
  refine lv_lxor hx hb d_Scope_forgetKnown_13 ?_
  refine lv_land hx hb d_Scope_forgetKnown_14 ?_
  refine wr_Scope_56 hx hb hT hown hK hP hD hS d_Scope_forgetKnown_15 (fun T1 eT H locs hP hD hS => ?_)
  replace hR := stK_e eT hR
  clear eT
  obtain ⟨-, -, e3⟩ := re_e hR
  subst e3
  exact W.vret hx hb hr (fun t ht hW => ⟨⟨(), rfl, trivial, by rw [ht]; exact hP, va_K.moved hW.alike hK, hD⟩, hS.F ht⟩) hS.2.2 d_Scope_forgetKnown_18
set_option maxHeartbeats 4000000 in
set_option maxRecDepth 100000 in
theorem sp_Scope_sameLive (l : Launch) (dC : Nat → ClassId) (dI : Nat → Nat → Nat) (ea ev ad : Nat → Nat) (km : Nat → ClassId) (F : gF) (nf d : Nat) (T0 : gSt) (p1 : Int64) (p2 : Int64) (r0 : Int32) (rl0 : Int64) (T9 : gSt) (hR : rb_Scope_sameLive F nf T0 p1 p2 = some (r0, rl0, T9)) : GMi l dC dI LH ad km ea ev y_Scope_sameLive w_Scope_sameLive (rmD (d + 1)) [.long p1, .long p2] T0 r0 T9 := by
  intro sz
  refine Met.ofW (cc := b_Scope_sameLive) (maxL := 4) (ret := (some .boolean)) (by decide) rfl ?_
  intro p e s m args below meth c s₁ B hml hv
  obtain ⟨rfl, hsz, hP, hK, hD0, hnw, henv⟩ := hv
  have hx := B.exec
  have hb := B.bytes
  have hr := B.returns
  have hT : ∀ w ∈ lw_good, w.before _ s = true := fun w h => atoms_spec (ws := w_Scope_sameLive) B.pre w (List.mem_cons_of_mem _ h)
  have hown : s.vm.findClass R_Scope = some m.cls := findClass_of_methodNamed B.named
  subst hsz
  have hD := hD0.self (sz := s.heap.size)
  clear hD0
  generalize hAe : va_A (gW LH ad km T0) s.heap.size = A at hD henv ⊢
  have hA : ∀ q : Nat, s.heap.size ≤ q → A q := fun q h => by rw [← hAe]; exact Or.inr h
  have hS : va_S A s.heap s.heap [] := va_S.rf
  have hl := lv_entry ([.long p1, .long p2]) (n := 4) (Nat.le_of_ble_eq_true rfl)
  rw [lg_entry_eq]
  generalize (lg_sl ([.long p1, .long p2]) ++ List.replicate (4 - (lg_sl ([.long p1, .long p2])).length) Slot.unset).toArray = ls at hl ⊢
  have hl : lv_has ls 4 [(0, .long p1), (2, .long p2)] := hl
  unfold rb_Scope_sameLive at hR
  refine lv_lload_n hx hb d_Scope_sameLive_0 rfl (lv_at hl 0 rfl) ?_
  refine lv_lload_n hx hb d_Scope_sameLive_1 rfl (lv_at hl 1 rfl) ?_
  refine lv_lxor hx hb d_Scope_sameLive_2 ?_
  refine lv_ldc2 hx hb hown (hT _ k_Scope_143) d_Scope_sameLive_3 ?_
  refine lv_land hx hb d_Scope_sameLive_6 ?_
  refine lv_lconst (v := 0) hx hb d_Scope_sameLive_7 (by decide) ?_
  refine W.lcmp hx hb d_Scope_sameLive_8 ?_
  refine lv_if_ne (tgt := 16) hx hb d_Scope_sameLive_9 (by decide) (fun c1 => ?_) (fun c1 => ?_)
  · replace hR := if_n c1 hR
    refine lv_iconst (v := 0) hx hb d_Scope_sameLive_16 (by decide) ?_
    obtain ⟨e1, -, e3⟩ := re_e hR
    subst e1; subst e3
    exact W.zret (v := (0 : Int32)) hx hb hr (by first | rfl | decide) (fun t ht hW => ⟨⟨(0 : Int32), (), rfl, rfl, by rw [ht]; exact hP, va_K.moved hW.alike hK, hD⟩, hS.F ht⟩) hS.2.2 d_Scope_sameLive_17
  · replace hR := if_p c1 hR
    refine lv_iconst (v := 1) hx hb d_Scope_sameLive_12 (by decide) ?_
    refine lv_goto (tgt := 17) hx hb d_Scope_sameLive_13 (by decide) ?_
    obtain ⟨e1, -, e3⟩ := re_e hR
    subst e1; subst e3
    exact W.zret (v := (1 : Int32)) hx hb hr (by first | rfl | decide) (fun t ht hW => ⟨⟨(1 : Int32), (), rfl, rfl, by rw [ht]; exact hP, va_K.moved hW.alike hK, hD⟩, hS.F ht⟩) hS.2.2 d_Scope_sameLive_17
set_option maxHeartbeats 4000000 in
set_option maxRecDepth 100000 in
theorem sp_Scope_meet (l : Launch) (dC : Nat → ClassId) (dI : Nat → Nat → Nat) (ea ev ad : Nat → Nat) (km : Nat → ClassId) (F : gF) (nf d : Nat) (h_Scope_sameLive : mt_Scope_sameLive l dC dI ea ev ad km F d) (T0 : gSt) (p1 : Int64) (p2 : Int64) (r0 : Int32) (rl0 : Int64) (T9 : gSt) (hR : rb_Scope_meet F nf T0 p1 p2 = some (r0, rl0, T9)) : GMi l dC dI LH ad km ea ev y_Scope_meet w_Scope_meet (rmD (d + 1)) [.ref (ad 6), .long p1, .long p2] T0 r0 T9 := by
  intro sz
  refine Met.ofW (cc := b_Scope_meet) (maxL := 6) (ret := (some .boolean)) (by decide) rfl ?_
  intro p e s m args below meth c s₁ B hml hv
  obtain ⟨rfl, hsz, hP, hK, hD0, hnw, henv⟩ := hv
  have hx := B.exec
  have hb := B.bytes
  have hr := B.returns
  have hT : ∀ w ∈ lw_good, w.before _ s = true := fun w h => atoms_spec (ws := w_Scope_meet) B.pre w (List.mem_cons_of_mem _ h)
  have hown : s.vm.findClass R_Scope = some m.cls := findClass_of_methodNamed B.named
  subst hsz
  have hD := hD0.self (sz := s.heap.size)
  clear hD0
  generalize hAe : va_A (gW LH ad km T0) s.heap.size = A at hD henv ⊢
  have hA : ∀ q : Nat, s.heap.size ≤ q → A q := fun q h => by rw [← hAe]; exact Or.inr h
  have hS : va_S A s.heap s.heap [] := va_S.rf
  have hl := lv_entry ([.ref (ad 6), .long p1, .long p2]) (n := 6) (Nat.le_of_ble_eq_true rfl)
  rw [lg_entry_eq]
  generalize (lg_sl ([.ref (ad 6), .long p1, .long p2]) ++ List.replicate (6 - (lg_sl ([.ref (ad 6), .long p1, .long p2])).length) Slot.unset).toArray = ls at hl ⊢
  have hl : lv_has ls 6 [(0, .ref (ad 6)), (1, .long p1), (3, .long p2)] := hl
  obtain ⟨G, hG⟩ : ∃ G : Nat → List (Nat × Value) → List Value → gSt → Prop, G = (fun pc lv stk T => ∀ (H : Heap) (locs : List Loc), va_P (dC, dI) cls_all (gW LH ad km T) H → va_D A (gW LH ad km T) → va_S A s.heap H locs → ∀ (ls : Array Slot), lv_has ls 6 lv → W p l e (headSpec w_Scope_meet (rmD (d + 1))).room s m ([.ref (ad 6), .long p1, .long p2] : List Value).toArray below meth c H locs 0 0 (MQ below (va_Qi (fun (z : Int32) (_ : Unit) => z = r0) (fun _ t => gPost dC dI LH ad km T9 A t) A) ([.ref (ad 6), .long p1, .long p2] : List Value).toArray s 0 0 A) (F0 m pc ls stk)) := ⟨_, rfl⟩
  have lb_17 : ∀ (T : gSt) (x1 : Int64) (x3 : Int64) (y0 : Int32), rj_Scope_meet_17 F nf T x1 x3 y0 = some (r0, rl0, T9) → G 17 [(0, .ref (ad 6)), (1, .long x1), (3, .long x3)] [.int y0] T := by
    intro T x1 x3 y0 hR; unfold rj_Scope_meet_17 at hR; rw [hG]; intro H locs hP hD hS ls hl
    refine lv_istore (lv' := [(5, .int y0), (0, .ref (ad 6)), (1, .long x1), (3, .long x3)]) hx hb d_Scope_meet_17 hl (by decide) rfl (fun ls hl => ?_)
    refine lv_iload hx hb d_Scope_meet_19 (lv_at hl 0 rfl) ?_
    refine lv_if_eq (tgt := 37) hx hb d_Scope_meet_21 (by decide) (fun c2 => ?_) (fun c2 => ?_)
    · replace hR := if_p c2 hR
      refine lv_aload_n hx hb d_Scope_meet_37 rfl (lv_at hl 1 rfl) ?_
      refine lv_lload_n hx hb d_Scope_meet_38 rfl (lv_at hl 2 rfl) ?_
      refine lv_ldc2 hx hb hown (hT _ k_Scope_132) d_Scope_meet_39 ?_
      refine lv_land hx hb d_Scope_meet_42 ?_
      refine lv_lconst (v := 0) hx hb d_Scope_meet_43 (by decide) ?_
      refine W.lcmp hx hb d_Scope_meet_44 ?_
      refine lv_if_ne (tgt := 62) hx hb d_Scope_meet_45 (by decide) (fun c3 => ?_) (fun c3 => ?_)
      · replace hR := if_n c3 hR
        refine lv_lload_n hx hb d_Scope_meet_62 rfl (lv_at hl 2 rfl) ?_
        refine wr_Scope_56 hx hb hT hown hK hP hD hS d_Scope_meet_63 (fun T4 eT H locs hP hD hS => ?_)
        replace hR := stK_e eT hR
        clear eT
        refine lv_iconst (v := 1) hx hb d_Scope_meet_66 (by decide) ?_
        obtain ⟨e1, -, e3⟩ := re_e hR
        subst e1; subst e3
        exact W.zret (v := (1 : Int32)) hx hb hr (by first | rfl | decide) (fun t ht hW => ⟨⟨(1 : Int32), (), rfl, rfl, by rw [ht]; exact hP, va_K.moved hW.alike hK, hD⟩, hS.F ht⟩) hS.2.2 d_Scope_meet_67
      · replace hR := if_p c3 hR
        refine lv_lload_n hx hb d_Scope_meet_48 rfl (lv_at hl 3 rfl) ?_
        refine lv_ldc2 hx hb hown (hT _ k_Scope_132) d_Scope_meet_49 ?_
        refine lv_land hx hb d_Scope_meet_52 ?_
        refine lv_lconst (v := 0) hx hb d_Scope_meet_53 (by decide) ?_
        refine W.lcmp hx hb d_Scope_meet_54 ?_
        refine lv_if_eq (tgt := 62) hx hb d_Scope_meet_55 (by decide) (fun c6 => ?_) (fun c6 => ?_)
        · replace hR := if_p c6 hR
          refine lv_lload_n hx hb d_Scope_meet_62 rfl (lv_at hl 2 rfl) ?_
          refine wr_Scope_56 hx hb hT hown hK hP hD hS d_Scope_meet_63 (fun T7 eT H locs hP hD hS => ?_)
          replace hR := stK_e eT hR
          clear eT
          refine lv_iconst (v := 1) hx hb d_Scope_meet_66 (by decide) ?_
          obtain ⟨e1, -, e3⟩ := re_e hR
          subst e1; subst e3
          exact W.zret (v := (1 : Int32)) hx hb hr (by first | rfl | decide) (fun t ht hW => ⟨⟨(1 : Int32), (), rfl, rfl, by rw [ht]; exact hP, va_K.moved hW.alike hK, hD⟩, hS.F ht⟩) hS.2.2 d_Scope_meet_67
        · replace hR := if_n c6 hR
          refine lv_lload_n hx hb d_Scope_meet_58 rfl (lv_at hl 3 rfl) ?_
          refine lv_goto (tgt := 63) hx hb d_Scope_meet_59 (by decide) ?_
          refine wr_Scope_56 hx hb hT hown hK hP hD hS d_Scope_meet_63 (fun T9 eT H locs hP hD hS => ?_)
          replace hR := stK_e eT hR
          clear eT
          refine lv_iconst (v := 1) hx hb d_Scope_meet_66 (by decide) ?_
          obtain ⟨e1, -, e3⟩ := re_e hR
          subst e1; subst e3
          exact W.zret (v := (1 : Int32)) hx hb hr (by first | rfl | decide) (fun t ht hW => ⟨⟨(1 : Int32), (), rfl, rfl, by rw [ht]; exact hP, va_K.moved hW.alike hK, hD⟩, hS.F ht⟩) hS.2.2 d_Scope_meet_67
    · replace hR := if_n c2 hR
      refine lv_aload_n hx hb d_Scope_meet_24 rfl (lv_at hl 1 rfl) ?_
      refine lv_lload_n hx hb d_Scope_meet_25 rfl (lv_at hl 2 rfl) ?_
      refine lv_lload_n hx hb d_Scope_meet_26 rfl (lv_at hl 3 rfl) ?_
      refine lv_land hx hb d_Scope_meet_27 ?_
      refine wr_Scope_56 hx hb hT hown hK hP hD hS d_Scope_meet_28 (fun T11 eT H locs hP hD hS => ?_)
      replace hR := stK_e eT hR
      clear eT
      refine lv_lload_n hx hb d_Scope_meet_31 rfl (lv_at hl 2 rfl) ?_
      refine lv_lload_n hx hb d_Scope_meet_32 rfl (lv_at hl 3 rfl) ?_
      replace hR := bi_e hR
      obtain ⟨r12, l12, T12, hc12, hR⟩ := hR
      refine gcS_i (rest := []) ⟨hx, hb, hml, hown, hT⟩ (h_Scope_sameLive _ _ _ _ _ _ hc12) (va_cwS 2 hT (gS ml_Scope_145 st_Scope_sameLive ini_Scope co_Scope_sameLive) rfl rfl rfl pd_Scope_sameLive ⟨rm_hi, rm_lo (Nat.le_of_ble_eq_true rfl)⟩) hK hP hD hS hA hnw henv rfl hl.1 rfl (Nat.le_of_ble_eq_true rfl) d_Scope_meet_33 ⟨Nat.le_refl _, Nat.le_refl _⟩ (fun H locs hP hD hS => ?_)
      clear hc12
      replace hR := gd_e hR
      obtain ⟨b13, hR⟩ := hR
      obtain ⟨e1, -, e3⟩ := re_e hR
      subst e1; subst e3
      exact W.zret (v := r12) hx hb hr (by rcases b13 with h | h <;> rw [h] <;> first | rfl | decide) (fun t ht hW => ⟨⟨r12, (), rfl, rfl, by rw [ht]; exact hP, va_K.moved hW.alike hK, hD⟩, hS.F ht⟩) hS.2.2 d_Scope_meet_36
  unfold rb_Scope_meet at hR
  refine lv_lload_n hx hb d_Scope_meet_0 rfl (lv_at hl 1 rfl) ?_
  refine lv_lload_n hx hb d_Scope_meet_1 rfl (lv_at hl 2 rfl) ?_
  refine lv_land hx hb d_Scope_meet_2 ?_
  refine lv_ldc2 hx hb hown (hT _ k_Scope_132) d_Scope_meet_3 ?_
  refine lv_land hx hb d_Scope_meet_6 ?_
  refine lv_lconst (v := 0) hx hb d_Scope_meet_7 (by decide) ?_
  refine W.lcmp hx hb d_Scope_meet_8 ?_
  refine lv_if_eq (tgt := 16) hx hb d_Scope_meet_9 (by decide) (fun c1 => ?_) (fun c1 => ?_)
  · replace hR := if_p c1 hR
    refine lv_iconst (v := 0) hx hb d_Scope_meet_16 (by decide) ?_
    have g := lb_17 T0 p1 p2 (0 : Int32) hR
    rw [hG] at g
    exact g _ _ hP hD hS _ (lv_sub hl [0, 1, 2] rfl)
  · replace hR := if_n c1 hR
    refine lv_iconst (v := 1) hx hb d_Scope_meet_12 (by decide) ?_
    refine lv_goto (tgt := 17) hx hb d_Scope_meet_13 (by decide) ?_
    have g := lb_17 T0 p1 p2 (1 : Int32) hR
    rw [hG] at g
    exact g _ _ hP hD hS _ (lv_sub hl [0, 1, 2] rfl)
set_option maxHeartbeats 4000000 in
set_option maxRecDepth 100000 in
theorem sp_Heads_check (l : Launch) (dC : Nat → ClassId) (dI : Nat → Nat → Nat) (ea ev ad : Nat → Nat) (km : Nat → ClassId) (F : gF) (nf d : Nat) (h_Types_clear : mt_Types_clear l dC dI ea ev ad km F d) (h_Heads_mainName : mt_Heads_mainName l dC dI ea ev ad km F d) (h_Items_find : mt_Items_find l dC dI ea ev ad km F d) (h_Code_note : mt_Code_note l dC dI ea ev ad km F d) (h_Heads_checkHead : mt_Heads_checkHead l dC dI ea ev ad km F d) (h_Code_tally : mt_Code_tally l dC dI ea ev ad km F d) (T0 : gSt) (r0 : Int32) (rl0 : Int64) (T9 : gSt) (hR : rb_Heads_check F nf T0 = some (r0, rl0, T9)) : GMv l dC dI LH ad km ea ev y_Heads_check w_Heads_check (rmD (d + 1)) [.ref (ad 7)] T0 T9 := by
  intro sz
  refine Met.ofW (cc := b_Heads_check) (maxL := 2) (ret := none) (by decide) rfl ?_
  intro p e s m args below meth c s₁ B hml hv
  obtain ⟨rfl, hsz, hP, hK, hD0, hnw, henv⟩ := hv
  have hx := B.exec
  have hb := B.bytes
  have hr := B.returns
  have hT : ∀ w ∈ lw_good, w.before _ s = true := fun w h => atoms_spec (ws := w_Heads_check) B.pre w (List.mem_cons_of_mem _ h)
  have hown : s.vm.findClass R_Heads = some m.cls := findClass_of_methodNamed B.named
  subst hsz
  have hD := hD0.self (sz := s.heap.size)
  clear hD0
  generalize hAe : va_A (gW LH ad km T0) s.heap.size = A at hD henv ⊢
  have hA : ∀ q : Nat, s.heap.size ≤ q → A q := fun q h => by rw [← hAe]; exact Or.inr h
  have hS : va_S A s.heap s.heap [] := va_S.rf
  have hl := lv_entry ([.ref (ad 7)]) (n := 2) (Nat.le_of_ble_eq_true rfl)
  rw [lg_entry_eq]
  generalize (lg_sl ([.ref (ad 7)]) ++ List.replicate (2 - (lg_sl ([.ref (ad 7)])).length) Slot.unset).toArray = ls at hl ⊢
  have hl : lv_has ls 2 [(0, .ref (ad 7))] := hl
  obtain ⟨G, hG⟩ : ∃ G : Nat → List (Nat × Value) → List Value → gSt → Prop, G = (fun pc lv stk T => ∀ (H : Heap) (locs : List Loc), va_P (dC, dI) cls_all (gW LH ad km T) H → va_D A (gW LH ad km T) → va_S A s.heap H locs → ∀ (ls : Array Slot), lv_has ls 2 lv → W p l e (headSpec w_Heads_check (rmD (d + 1))).room s m ([.ref (ad 7)] : List Value).toArray below meth c H locs 0 0 (MQ below (va_Qv (fun (_ : Unit) => True) (fun _ t => gPost dC dI LH ad km T9 A t) A) ([.ref (ad 7)] : List Value).toArray s 0 0 A) (F0 m pc ls stk)) := ⟨_, rfl⟩
  have lb_9 : ∀ (n : Nat) (T : gSt) (x1 : Int32), rl_Heads_check_9 F nf n T x1 = some (r0, rl0, T9) → G 9 [(0, .ref (ad 7)), (1, .int x1)] [] T := by
    intro n
    induction n with
    | zero => intro T x1 hR; rw [rl_Heads_check_9] at hR; cases hR
    | succ n ih =>
      intro T x1 hR; rw [rl_Heads_check_9] at hR; rw [hG]; intro H locs hP hD hS ls hl
      refine lv_iload_n hx hb d_Heads_check_9 rfl (lv_at hl 1 rfl) ?_
      refine lv_aload_n hx hb d_Heads_check_10 rfl (lv_at hl 0 rfl) ?_
      refine rd_Heads_15 hx hb hT hown hK hP d_Heads_check_11 ?_
      refine rd_Heads_36 hx hb hT hown hK hP d_Heads_check_14 ?_
      refine lv_icmp_ge (tgt := 57) hx hb d_Heads_check_17 (by decide) (fun c2 => ?_) (fun c2 => ?_)
      · replace hR := if_p c2 hR
        refine lv_aload_n hx hb d_Heads_check_57 rfl (lv_at hl 0 rfl) ?_
        refine rd_Heads_15 hx hb hT hown hK hP d_Heads_check_58 ?_
        replace hR := bi_e hR
        obtain ⟨r3, l3, T3, hc3, hR⟩ := hR
        refine gcS_l (rest := [.ref (ad 2)]) ⟨hx, hb, hml, hown, hT⟩ (h_Heads_mainName _ _ _ _ hc3) (va_cwS 0 hT (gS ml_Heads_55 st_Heads_mainName ini_Heads co_Heads_mainName) rfl rfl rfl pd_Heads_mainName ⟨rm_hi, rm_lo (Nat.le_of_ble_eq_true rfl)⟩) hK hP hD hS hA hnw henv rfl hl.1 rfl (Nat.le_of_ble_eq_true rfl) d_Heads_check_61 ⟨Nat.le_refl _, Nat.le_refl _⟩ (fun H locs hP hD hS => ?_)
        clear hc3
        refine lv_iconst (v := 1) hx hb d_Heads_check_64 (by decide) ?_
        replace hR := bi_e hR
        obtain ⟨r4, l4, T4, hc4, hR⟩ := hR
        refine gcV_i (rest := []) ⟨hx, hb, hml, hown, hT⟩ (h_Items_find _ _ _ _ _ _ hc4) (cwV 2 hT (gV ml_Heads_59 im_Items_find se_Items_find ini_Items co_Items_find) rfl rfl rfl pd_Items_find ⟨rm_hi, rm_lo (Nat.le_of_ble_eq_true rfl)⟩) hK hP hD hS hA hnw henv (Nat.le_of_ble_eq_true rfl) rfl rfl hl.1 rfl (Nat.le_of_ble_eq_true rfl) d_Heads_check_65 ⟨Nat.le_refl _, Nat.le_refl _⟩ (fun H locs hP hD hS => ?_)
        clear hc4
        refine lv_istore_n (lv' := [(1, .int r4), (0, .ref (ad 7))]) hx hb d_Heads_check_68 rfl hl (by decide) rfl (fun ls hl => ?_)
        refine lv_iload_n hx hb d_Heads_check_69 rfl (lv_at hl 0 rfl) ?_
        refine lv_iconst (v := (-1)) hx hb d_Heads_check_70 (by decide) ?_
        refine lv_icmp_eq (tgt := 108) hx hb d_Heads_check_71 (by decide) (fun c5 => ?_) (fun c5 => ?_)
        · replace hR := if_p c5 hR
          refine lv_aload_n hx hb d_Heads_check_108 rfl (lv_at hl 1 rfl) ?_
          refine rd_Heads_27 hx hb hT hown hK hP d_Heads_check_109 ?_
          refine lv_bipush (v := 8) hx hb d_Heads_check_112 (by decide) ?_
          refine lv_aload_n hx hb d_Heads_check_114 rfl (lv_at hl 1 rfl) ?_
          refine rd_Heads_9 hx hb hT hown hK hP d_Heads_check_115 ?_
          refine rd_Heads_72 hx hb hT hown hK hP hnw d_Heads_check_118 ?_
          replace hR := bi_e hR
          obtain ⟨r6, l6, T6, hc6, hR⟩ := hR
          refine gcV_v (rest := []) ⟨hx, hb, hml, hown, hT⟩ (h_Code_note _ _ _ _ _ _ hc6) (cwV 2 hT (gV ml_Heads_77 im_Code_note se_Code_note ini_Code co_Code_note) rfl rfl rfl pd_Code_note ⟨rm_hi, rm_lo (Nat.le_of_ble_eq_true rfl)⟩) hK hP hD hS hA hnw henv (Nat.le_of_ble_eq_true rfl) rfl rfl hl.1 rfl (Nat.le_of_ble_eq_true rfl) d_Heads_check_121 ⟨Nat.le_refl _, Nat.le_refl _⟩ (fun H locs hP hD hS => ?_)
          clear hc6
          obtain ⟨-, -, e3⟩ := re_e hR
          subst e3
          exact W.vret hx hb hr (fun t ht hW => ⟨⟨(), rfl, trivial, by rw [ht]; exact hP, va_K.moved hW.alike hK, hD⟩, hS.F ht⟩) hS.2.2 d_Heads_check_124
        · replace hR := if_n c5 hR
          refine lv_aload_n hx hb d_Heads_check_74 rfl (lv_at hl 1 rfl) ?_
          refine rd_Heads_15 hx hb hT hown hK hP d_Heads_check_75 ?_
          refine rd_Heads_63 hx hb hT hown hK hP d_Heads_check_78 ?_
          refine lv_iload_n hx hb d_Heads_check_81 rfl (lv_at hl 0 rfl) ?_
          replace hR := gd_e hR
          obtain ⟨b7, hR⟩ := hR
          refine laH_16 hx hb hK hP b7 d_Heads_check_82 ?_
          refine lv_aload_n hx hb d_Heads_check_83 rfl (lv_at hl 1 rfl) ?_
          refine rd_Heads_15 hx hb hT hown hK hP d_Heads_check_84 ?_
          refine rd_Heads_66 hx hb hT hown hK hP d_Heads_check_87 ?_
          refine lv_iload_n hx hb d_Heads_check_90 rfl (lv_at hl 0 rfl) ?_
          replace hR := gd_e hR
          obtain ⟨b8, hR⟩ := hR
          refine laH_17 hx hb hK hP b8 d_Heads_check_91 ?_
          refine lv_iadd hx hb d_Heads_check_92 ?_
          refine lv_if_gt (tgt := 108) hx hb d_Heads_check_93 (by decide) (fun c9 => ?_) (fun c9 => ?_)
          · replace hR := if_p c9 hR
            refine lv_aload_n hx hb d_Heads_check_108 rfl (lv_at hl 1 rfl) ?_
            refine rd_Heads_27 hx hb hT hown hK hP d_Heads_check_109 ?_
            refine lv_bipush (v := 8) hx hb d_Heads_check_112 (by decide) ?_
            refine lv_aload_n hx hb d_Heads_check_114 rfl (lv_at hl 1 rfl) ?_
            refine rd_Heads_9 hx hb hT hown hK hP d_Heads_check_115 ?_
            refine rd_Heads_72 hx hb hT hown hK hP hnw d_Heads_check_118 ?_
            replace hR := bi_e hR
            obtain ⟨r10, l10, T10, hc10, hR⟩ := hR
            refine gcV_v (rest := []) ⟨hx, hb, hml, hown, hT⟩ (h_Code_note _ _ _ _ _ _ hc10) (cwV 2 hT (gV ml_Heads_77 im_Code_note se_Code_note ini_Code co_Code_note) rfl rfl rfl pd_Code_note ⟨rm_hi, rm_lo (Nat.le_of_ble_eq_true rfl)⟩) hK hP hD hS hA hnw henv (Nat.le_of_ble_eq_true rfl) rfl rfl hl.1 rfl (Nat.le_of_ble_eq_true rfl) d_Heads_check_121 ⟨Nat.le_refl _, Nat.le_refl _⟩ (fun H locs hP hD hS => ?_)
            clear hc10
            obtain ⟨-, -, e3⟩ := re_e hR
            subst e3
            exact W.vret hx hb hr (fun t ht hW => ⟨⟨(), rfl, trivial, by rw [ht]; exact hP, va_K.moved hW.alike hK, hD⟩, hS.F ht⟩) hS.2.2 d_Heads_check_124
          · replace hR := if_n c9 hR
            refine lv_aload_n hx hb d_Heads_check_96 rfl (lv_at hl 1 rfl) ?_
            refine rd_Heads_15 hx hb hT hown hK hP d_Heads_check_97 ?_
            refine rd_Heads_69 hx hb hT hown hK hP d_Heads_check_100 ?_
            refine lv_iload_n hx hb d_Heads_check_103 rfl (lv_at hl 0 rfl) ?_
            replace hR := gd_e hR
            obtain ⟨b11, hR⟩ := hR
            refine laH_18 hx hb hK hP b11 d_Heads_check_104 ?_
            refine lv_if_eq (tgt := 124) hx hb d_Heads_check_105 (by decide) (fun c12 => ?_) (fun c12 => ?_)
            · replace hR := if_p c12 hR
              obtain ⟨-, -, e3⟩ := re_e hR
              subst e3
              exact W.vret hx hb hr (fun t ht hW => ⟨⟨(), rfl, trivial, by rw [ht]; exact hP, va_K.moved hW.alike hK, hD⟩, hS.F ht⟩) hS.2.2 d_Heads_check_124
            · replace hR := if_n c12 hR
              refine lv_aload_n hx hb d_Heads_check_108 rfl (lv_at hl 1 rfl) ?_
              refine rd_Heads_27 hx hb hT hown hK hP d_Heads_check_109 ?_
              refine lv_bipush (v := 8) hx hb d_Heads_check_112 (by decide) ?_
              refine lv_aload_n hx hb d_Heads_check_114 rfl (lv_at hl 1 rfl) ?_
              refine rd_Heads_9 hx hb hT hown hK hP d_Heads_check_115 ?_
              refine rd_Heads_72 hx hb hT hown hK hP hnw d_Heads_check_118 ?_
              replace hR := bi_e hR
              obtain ⟨r13, l13, T13, hc13, hR⟩ := hR
              refine gcV_v (rest := []) ⟨hx, hb, hml, hown, hT⟩ (h_Code_note _ _ _ _ _ _ hc13) (cwV 2 hT (gV ml_Heads_77 im_Code_note se_Code_note ini_Code co_Code_note) rfl rfl rfl pd_Code_note ⟨rm_hi, rm_lo (Nat.le_of_ble_eq_true rfl)⟩) hK hP hD hS hA hnw henv (Nat.le_of_ble_eq_true rfl) rfl rfl hl.1 rfl (Nat.le_of_ble_eq_true rfl) d_Heads_check_121 ⟨Nat.le_refl _, Nat.le_refl _⟩ (fun H locs hP hD hS => ?_)
              clear hc13
              obtain ⟨-, -, e3⟩ := re_e hR
              subst e3
              exact W.vret hx hb hr (fun t ht hW => ⟨⟨(), rfl, trivial, by rw [ht]; exact hP, va_K.moved hW.alike hK, hD⟩, hS.F ht⟩) hS.2.2 d_Heads_check_124
      · replace hR := if_n c2 hR
        refine lv_aload_n hx hb d_Heads_check_20 rfl (lv_at hl 0 rfl) ?_
        refine lv_iload_n hx hb d_Heads_check_21 rfl (lv_at hl 1 rfl) ?_
        replace hR := bi_e hR
        obtain ⟨r14, l14, T14, hc14, hR⟩ := hR
        refine gcV_v (rest := []) ⟨hx, hb, hml, hown, hT⟩ (h_Heads_checkHead _ _ _ _ _ hc14) (cwV 1 hT (gV ml_Heads_42 im_Heads_checkHead se_Heads_checkHead ini_Heads co_Heads_checkHead) rfl rfl rfl pd_Heads_checkHead ⟨rm_hi, rm_lo (Nat.le_of_ble_eq_true rfl)⟩) hK hP hD hS hA hnw henv (Nat.le_of_ble_eq_true rfl) rfl rfl hl.1 rfl (Nat.le_of_ble_eq_true rfl) d_Heads_check_22 ⟨Nat.le_refl _, Nat.le_refl _⟩ (fun H locs hP hD hS => ?_)
        clear hc14
        refine lv_aload_n hx hb d_Heads_check_25 rfl (lv_at hl 0 rfl) ?_
        refine rd_Heads_27 hx hb hT hown hK hP d_Heads_check_26 ?_
        refine lv_aload_n hx hb d_Heads_check_29 rfl (lv_at hl 0 rfl) ?_
        refine rd_Heads_15 hx hb hT hown hK hP d_Heads_check_30 ?_
        refine rd_Heads_46 hx hb hT hown hK hP d_Heads_check_33 ?_
        refine lv_iload_n hx hb d_Heads_check_36 rfl (lv_at hl 1 rfl) ?_
        replace hR := gd_e hR
        obtain ⟨b15, hR⟩ := hR
        refine laH_13 hx hb hK hP b15 d_Heads_check_37 ?_
        refine lv_bipush (v := 12) hx hb d_Heads_check_38 (by decide) ?_
        refine lv_icmp_ne (tgt := 47) hx hb d_Heads_check_40 (by decide) (fun c16 => ?_) (fun c16 => ?_)
        · replace hR := if_n c16 hR
          refine lv_iconst (v := 0) hx hb d_Heads_check_47 (by decide) ?_
          replace hR := bi_e hR
          obtain ⟨r17, l17, T17, hc17, hR⟩ := hR
          refine gcV_v (rest := []) ⟨hx, hb, hml, hown, hT⟩ (h_Code_tally _ _ _ _ _ hc17) (cwV 1 hT (gV ml_Heads_50 im_Code_tally se_Code_tally ini_Code co_Code_tally) rfl rfl rfl pd_Code_tally ⟨rm_hi, rm_lo (Nat.le_of_ble_eq_true rfl)⟩) hK hP hD hS hA hnw henv (Nat.le_of_ble_eq_true rfl) rfl rfl hl.1 rfl (Nat.le_of_ble_eq_true rfl) d_Heads_check_48 ⟨Nat.le_refl _, Nat.le_refl _⟩ (fun H locs hP hD hS => ?_)
          clear hc17
          obtain ⟨z18, e18⟩ : ∃ y : Int32, y = x1 + (1 : Int32) := ⟨_, rfl⟩
          replace hR := vK_e e18 hR
          refine lv_iinc (v := z18) (lv' := [(1, .int z18), (0, .ref (ad 7))]) hx hb d_Heads_check_51 hl (k := 1) rfl (by rw [e18]; rfl) (by decide) rfl (fun ls hl => ?_)
          refine lv_goto (tgt := 9) hx hb d_Heads_check_54 (by decide) ?_
          have g := ih T17 z18 hR
          rw [hG] at g
          exact g _ _ hP hD hS _ (lv_sub hl [1, 0] rfl)
        · replace hR := if_p c16 hR
          refine lv_iconst (v := 1) hx hb d_Heads_check_43 (by decide) ?_
          refine lv_goto (tgt := 48) hx hb d_Heads_check_44 (by decide) ?_
          replace hR := bi_e hR
          obtain ⟨r19, l19, T19, hc19, hR⟩ := hR
          refine gcV_v (rest := []) ⟨hx, hb, hml, hown, hT⟩ (h_Code_tally _ _ _ _ _ hc19) (cwV 1 hT (gV ml_Heads_50 im_Code_tally se_Code_tally ini_Code co_Code_tally) rfl rfl rfl pd_Code_tally ⟨rm_hi, rm_lo (Nat.le_of_ble_eq_true rfl)⟩) hK hP hD hS hA hnw henv (Nat.le_of_ble_eq_true rfl) rfl rfl hl.1 rfl (Nat.le_of_ble_eq_true rfl) d_Heads_check_48 ⟨Nat.le_refl _, Nat.le_refl _⟩ (fun H locs hP hD hS => ?_)
          clear hc19
          obtain ⟨z20, e20⟩ : ∃ y : Int32, y = x1 + (1 : Int32) := ⟨_, rfl⟩
          replace hR := vK_e e20 hR
          refine lv_iinc (v := z20) (lv' := [(1, .int z20), (0, .ref (ad 7))]) hx hb d_Heads_check_51 hl (k := 1) rfl (by rw [e20]; rfl) (by decide) rfl (fun ls hl => ?_)
          refine lv_goto (tgt := 9) hx hb d_Heads_check_54 (by decide) ?_
          have g := ih T19 z20 hR
          rw [hG] at g
          exact g _ _ hP hD hS _ (lv_sub hl [1, 0] rfl)
  unfold rb_Heads_check at hR
  refine lv_aload_n hx hb d_Heads_check_0 rfl (lv_at hl 0 rfl) ?_
  refine rd_Heads_19 hx hb hT hown hK hP d_Heads_check_1 ?_
  replace hR := bi_e hR
  obtain ⟨r1, l1, T1, hc1, hR⟩ := hR
  refine gcV_v (rest := []) ⟨hx, hb, hml, hown, hT⟩ (h_Types_clear _ _ _ _ hc1) (cwV 0 hT (gV ml_Heads_31 im_Types_clear se_Types_clear ini_Types co_Types_clear) rfl rfl rfl pd_Types_clear ⟨rm_hi, rm_lo (Nat.le_of_ble_eq_true rfl)⟩) hK hP hD hS hA hnw henv (Nat.le_of_ble_eq_true rfl) rfl rfl hl.1 rfl (Nat.le_of_ble_eq_true rfl) d_Heads_check_4 ⟨Nat.le_refl _, Nat.le_refl _⟩ (fun H locs hP hD hS => ?_)
  clear hc1
  refine lv_iconst (v := 0) hx hb d_Heads_check_7 (by decide) ?_
  refine lv_istore_n (lv' := [(1, .int (0 : Int32)), (0, .ref (ad 7))]) hx hb d_Heads_check_8 rfl hl (by decide) rfl (fun ls hl => ?_)
  have g := lb_9 nf T1 (0 : Int32) hR
  rw [hG] at g
  exact g _ _ hP hD hS _ (lv_sub hl [1, 0] rfl)
set_option maxHeartbeats 4000000 in
set_option maxRecDepth 100000 in
theorem sp_Heads_mainName (l : Launch) (dC : Nat → ClassId) (dI : Nat → Nat → Nat) (ea ev ad : Nat → Nat) (km : Nat → ClassId) (F : gF) (nf d : Nat) (T0 : gSt) (r0 : Int32) (rl0 : Int64) (T9 : gSt) (hR : rb_Heads_mainName F nf T0 = some (r0, rl0, T9)) : GMl l dC dI LH ad km ea ev y_Heads_mainName w_Heads_mainName (rmD (d + 1)) [] T0 rl0 T9 := by
  intro sz
  refine Met.ofW (cc := b_Heads_mainName) (maxL := 0) (ret := (some .long)) (by decide) rfl ?_
  intro p e s m args below meth c s₁ B hml hv
  obtain ⟨rfl, hsz, hP, hK, hD0, hnw, henv⟩ := hv
  have hx := B.exec
  have hb := B.bytes
  have hr := B.returns
  have hT : ∀ w ∈ lw_good, w.before _ s = true := fun w h => atoms_spec (ws := w_Heads_mainName) B.pre w (List.mem_cons_of_mem _ h)
  have hown : s.vm.findClass R_Heads = some m.cls := findClass_of_methodNamed B.named
  subst hsz
  have hD := hD0.self (sz := s.heap.size)
  clear hD0
  generalize hAe : va_A (gW LH ad km T0) s.heap.size = A at hD henv ⊢
  have hA : ∀ q : Nat, s.heap.size ≤ q → A q := fun q h => by rw [← hAe]; exact Or.inr h
  have hS : va_S A s.heap s.heap [] := va_S.rf
  have hl := lv_entry ([]) (n := 0) (Nat.le_of_ble_eq_true rfl)
  rw [lg_entry_eq]
  generalize (lg_sl ([]) ++ List.replicate (0 - (lg_sl ([])).length) Slot.unset).toArray = ls at hl ⊢
  have hl : lv_has ls 0 [] := hl
  unfold rb_Heads_mainName at hR
  refine lv_ldc2 hx hb hown (hT _ k_Heads_81) d_Heads_mainName_0 ?_
  obtain ⟨-, e1, e3⟩ := re_e hR
  subst e1; subst e3
  exact W.lret (v := (1835100526 : Int64)) hx hb hr (fun t ht hW => ⟨⟨(1835100526 : Int64), (), rfl, rfl, by rw [ht]; exact hP, va_K.moved hW.alike hK, hD⟩, hS.F ht⟩) hS.2.2 d_Heads_mainName_3
set_option maxHeartbeats 4000000 in
set_option maxRecDepth 100000 in
theorem sp_Heads_checkHead (l : Launch) (dC : Nat → ClassId) (dI : Nat → Nat → Nat) (ea ev ad : Nat → Nat) (km : Nat → ClassId) (F : gF) (nf d : Nat) (h_Items_find : mt_Items_find l dC dI ea ev ad km F d) (h_Scope_enterHead : mt_Scope_enterHead l dC dI ea ev ad km F d) (h_Source_startOf : mt_Source_startOf l dC dI ea ev ad km F d) (h_Code_note : mt_Code_note l dC dI ea ev ad km F d) (h_Heads_checkParts : mt_Heads_checkParts l dC dI ea ev ad km F d) (h_Heads_readType : mt_Heads_readType l dC dI ea ev ad km F d) (h_Heads_readDead : mt_Heads_readDead l dC dI ea ev ad km F d) (h_Heads_readWhere : mt_Heads_readWhere l dC dI ea ev ad km F d) (h_Source_nameAt : mt_Source_nameAt l dC dI ea ev ad km F d) (h_Scope_findRegion : mt_Scope_findRegion l dC dI ea ev ad km F d) (T0 : gSt) (p1 : Int32) (r0 : Int32) (rl0 : Int64) (T9 : gSt) (hR : rb_Heads_checkHead F nf T0 p1 = some (r0, rl0, T9)) : GMv l dC dI LH ad km ea ev y_Heads_checkHead w_Heads_checkHead (rmD (d + 1)) [.ref (ad 7), .int p1] T0 T9 := by
  intro sz
  refine Met.ofW (cc := b_Heads_checkHead) (maxL := 4) (ret := none) (by decide) rfl ?_
  intro p e s m args below meth c s₁ B hml hv
  obtain ⟨rfl, hsz, hP, hK, hD0, hnw, henv⟩ := hv
  have hx := B.exec
  have hb := B.bytes
  have hr := B.returns
  have hT : ∀ w ∈ lw_good, w.before _ s = true := fun w h => atoms_spec (ws := w_Heads_checkHead) B.pre w (List.mem_cons_of_mem _ h)
  have hown : s.vm.findClass R_Heads = some m.cls := findClass_of_methodNamed B.named
  subst hsz
  have hD := hD0.self (sz := s.heap.size)
  clear hD0
  generalize hAe : va_A (gW LH ad km T0) s.heap.size = A at hD henv ⊢
  have hA : ∀ q : Nat, s.heap.size ≤ q → A q := fun q h => by rw [← hAe]; exact Or.inr h
  have hS : va_S A s.heap s.heap [] := va_S.rf
  have hl := lv_entry ([.ref (ad 7), .int p1]) (n := 4) (Nat.le_of_ble_eq_true rfl)
  rw [lg_entry_eq]
  generalize (lg_sl ([.ref (ad 7), .int p1]) ++ List.replicate (4 - (lg_sl ([.ref (ad 7), .int p1])).length) Slot.unset).toArray = ls at hl ⊢
  have hl : lv_has ls 4 [(0, .ref (ad 7)), (1, .int p1)] := hl
  obtain ⟨G, hG⟩ : ∃ G : Nat → List (Nat × Value) → List Value → gSt → Prop, G = (fun pc lv stk T => ∀ (H : Heap) (locs : List Loc), va_P (dC, dI) cls_all (gW LH ad km T) H → va_D A (gW LH ad km T) → va_S A s.heap H locs → ∀ (ls : Array Slot), lv_has ls 4 lv → W p l e (headSpec w_Heads_checkHead (rmD (d + 1))).room s m ([.ref (ad 7), .int p1] : List Value).toArray below meth c H locs 0 0 (MQ below (va_Qv (fun (_ : Unit) => True) (fun _ t => gPost dC dI LH ad km T9 A t) A) ([.ref (ad 7), .int p1] : List Value).toArray s 0 0 A) (F0 m pc ls stk)) := ⟨_, rfl⟩
  have lb_75 : ∀ (n : Nat) (T : gSt) (x1 : Int32) (x2 : Int32) (x3 : Int32), rl_Heads_checkHead_75 F nf n T x1 x2 x3 = some (r0, rl0, T9) → G 75 [(0, .ref (ad 7)), (1, .int x1), (2, .int x2), (3, .int x3)] [] T := by
    intro n
    induction n with
    | zero => intro T x1 x2 x3 hR; rw [rl_Heads_checkHead_75] at hR; cases hR
    | succ n ih =>
      intro T x1 x2 x3 hR; rw [rl_Heads_checkHead_75] at hR; rw [hG]; intro H locs hP hD hS ls hl
      refine lv_iload_n hx hb d_Heads_checkHead_75 rfl (lv_at hl 3 rfl) ?_
      refine lv_aload_n hx hb d_Heads_checkHead_76 rfl (lv_at hl 0 rfl) ?_
      refine rd_Heads_15 hx hb hT hown hK hP d_Heads_checkHead_77 ?_
      refine rd_Heads_63 hx hb hT hown hK hP d_Heads_checkHead_80 ?_
      refine lv_iload_n hx hb d_Heads_checkHead_83 rfl (lv_at hl 1 rfl) ?_
      replace hR := gd_e hR
      obtain ⟨b12, hR⟩ := hR
      refine laH_16 hx hb hK hP b12 d_Heads_checkHead_84 ?_
      refine lv_icmp_gt (tgt := 133) hx hb d_Heads_checkHead_85 (by decide) (fun c13 => ?_) (fun c13 => ?_)
      · replace hR := if_p c13 hR
        refine lv_aload_n hx hb d_Heads_checkHead_133 rfl (lv_at hl 0 rfl) ?_
        refine lv_iload_n hx hb d_Heads_checkHead_134 rfl (lv_at hl 1 rfl) ?_
        replace hR := bi_e hR
        obtain ⟨r14, l14, T14, hc14, hR⟩ := hR
        refine gcV_v (rest := []) ⟨hx, hb, hml, hown, hT⟩ (h_Heads_checkParts _ _ _ _ _ hc14) (cwV 1 hT (gV ml_Heads_107 im_Heads_checkParts se_Heads_checkParts ini_Heads co_Heads_checkParts) rfl rfl rfl pd_Heads_checkParts ⟨rm_hi, rm_lo (Nat.le_of_ble_eq_true rfl)⟩) hK hP hD hS hA hnw henv (Nat.le_of_ble_eq_true rfl) rfl rfl hl.1 rfl (Nat.le_of_ble_eq_true rfl) d_Heads_checkHead_135 ⟨Nat.le_refl _, Nat.le_refl _⟩ (fun H locs hP hD hS => ?_)
        clear hc14
        refine lv_aload_n hx hb d_Heads_checkHead_138 rfl (lv_at hl 0 rfl) ?_
        refine rd_Heads_15 hx hb hT hown hK hP d_Heads_checkHead_139 ?_
        refine rd_Heads_110 hx hb hT hown hK hP d_Heads_checkHead_142 ?_
        refine lv_iload_n hx hb d_Heads_checkHead_145 rfl (lv_at hl 1 rfl) ?_
        refine lv_aload_n hx hb d_Heads_checkHead_146 rfl (lv_at hl 0 rfl) ?_
        refine rd_Heads_15 hx hb hT hown hK hP d_Heads_checkHead_147 ?_
        refine rd_Heads_69 hx hb hT hown hK hP d_Heads_checkHead_150 ?_
        refine lv_iload_n hx hb d_Heads_checkHead_153 rfl (lv_at hl 1 rfl) ?_
        replace hR := gd_e hR
        obtain ⟨b15, hR⟩ := hR
        refine laH_18 hx hb hK hP b15 d_Heads_checkHead_154 ?_
        refine lv_if_ne (tgt := 162) hx hb d_Heads_checkHead_155 (by decide) (fun c16 => ?_) (fun c16 => ?_)
        · replace hR := if_n c16 hR
          refine lv_aload_n hx hb d_Heads_checkHead_162 rfl (lv_at hl 0 rfl) ?_
          refine lv_aload_n hx hb d_Heads_checkHead_163 rfl (lv_at hl 0 rfl) ?_
          refine rd_Heads_15 hx hb hT hown hK hP d_Heads_checkHead_164 ?_
          refine rd_Heads_69 hx hb hT hown hK hP d_Heads_checkHead_167 ?_
          refine lv_iload_n hx hb d_Heads_checkHead_170 rfl (lv_at hl 1 rfl) ?_
          replace hR := gd_e hR
          obtain ⟨b17, hR⟩ := hR
          refine laH_18 hx hb hK hP b17 d_Heads_checkHead_171 ?_
          refine lv_iconst (v := 1) hx hb d_Heads_checkHead_172 (by decide) ?_
          replace hR := bi_e hR
          obtain ⟨r18, l18, T18, hc18, hR⟩ := hR
          refine gcV_i (rest := [.int x1, .ref (ad 35)]) ⟨hx, hb, hml, hown, hT⟩ (h_Heads_readType _ _ _ _ _ _ hc18) (cwV 2 hT (gV ml_Heads_113 im_Heads_readType se_Heads_readType ini_Heads co_Heads_readType) rfl rfl rfl pd_Heads_readType ⟨rm_hi, rm_lo (Nat.le_of_ble_eq_true rfl)⟩) hK hP hD hS hA hnw henv (Nat.le_of_ble_eq_true rfl) rfl rfl hl.1 rfl (Nat.le_of_ble_eq_true rfl) d_Heads_checkHead_173 ⟨Nat.le_refl _, Nat.le_refl _⟩ (fun H locs hP hD hS => ?_)
          clear hc18
          replace hR := gd_e hR
          obtain ⟨b19, hR⟩ := hR
          refine saH_23 hx hb hK hP hD hS b19 d_Heads_checkHead_176 (fun T19 eT H locs hP hD hS => ?_)
          replace hR := stK_e eT hR
          clear eT
          refine lv_aload_n hx hb d_Heads_checkHead_177 rfl (lv_at hl 0 rfl) ?_
          refine lv_iload_n hx hb d_Heads_checkHead_178 rfl (lv_at hl 1 rfl) ?_
          replace hR := bi_e hR
          obtain ⟨r20, l20, T20, hc20, hR⟩ := hR
          refine gcV_v (rest := []) ⟨hx, hb, hml, hown, hT⟩ (h_Heads_readDead _ _ _ _ _ hc20) (cwV 1 hT (gV ml_Heads_117 im_Heads_readDead se_Heads_readDead ini_Heads co_Heads_readDead) rfl rfl rfl pd_Heads_readDead ⟨rm_hi, rm_lo (Nat.le_of_ble_eq_true rfl)⟩) hK hP hD hS hA hnw henv (Nat.le_of_ble_eq_true rfl) rfl rfl hl.1 rfl (Nat.le_of_ble_eq_true rfl) d_Heads_checkHead_179 ⟨Nat.le_refl _, Nat.le_refl _⟩ (fun H locs hP hD hS => ?_)
          clear hc20
          refine lv_aload_n hx hb d_Heads_checkHead_182 rfl (lv_at hl 0 rfl) ?_
          refine lv_iload_n hx hb d_Heads_checkHead_183 rfl (lv_at hl 1 rfl) ?_
          replace hR := bi_e hR
          obtain ⟨r21, l21, T21, hc21, hR⟩ := hR
          refine gcV_v (rest := []) ⟨hx, hb, hml, hown, hT⟩ (h_Heads_readWhere _ _ _ _ _ hc21) (cwV 1 hT (gV ml_Heads_120 im_Heads_readWhere se_Heads_readWhere ini_Heads co_Heads_readWhere) rfl rfl rfl pd_Heads_readWhere ⟨rm_hi, rm_lo (Nat.le_of_ble_eq_true rfl)⟩) hK hP hD hS hA hnw henv (Nat.le_of_ble_eq_true rfl) rfl rfl hl.1 rfl (Nat.le_of_ble_eq_true rfl) d_Heads_checkHead_184 ⟨Nat.le_refl _, Nat.le_refl _⟩ (fun H locs hP hD hS => ?_)
          clear hc21
          obtain ⟨-, -, e3⟩ := re_e hR
          subst e3
          exact W.vret hx hb hr (fun t ht hW => ⟨⟨(), rfl, trivial, by rw [ht]; exact hP, va_K.moved hW.alike hK, hD⟩, hS.F ht⟩) hS.2.2 d_Heads_checkHead_187
        · replace hR := if_p c16 hR
          refine lv_iconst (v := 0) hx hb d_Heads_checkHead_158 (by decide) ?_
          refine lv_goto (tgt := 176) hx hb d_Heads_checkHead_159 (by decide) ?_
          replace hR := gd_e hR
          obtain ⟨b22, hR⟩ := hR
          refine saH_23 hx hb hK hP hD hS b22 d_Heads_checkHead_176 (fun T22 eT H locs hP hD hS => ?_)
          replace hR := stK_e eT hR
          clear eT
          refine lv_aload_n hx hb d_Heads_checkHead_177 rfl (lv_at hl 0 rfl) ?_
          refine lv_iload_n hx hb d_Heads_checkHead_178 rfl (lv_at hl 1 rfl) ?_
          replace hR := bi_e hR
          obtain ⟨r23, l23, T23, hc23, hR⟩ := hR
          refine gcV_v (rest := []) ⟨hx, hb, hml, hown, hT⟩ (h_Heads_readDead _ _ _ _ _ hc23) (cwV 1 hT (gV ml_Heads_117 im_Heads_readDead se_Heads_readDead ini_Heads co_Heads_readDead) rfl rfl rfl pd_Heads_readDead ⟨rm_hi, rm_lo (Nat.le_of_ble_eq_true rfl)⟩) hK hP hD hS hA hnw henv (Nat.le_of_ble_eq_true rfl) rfl rfl hl.1 rfl (Nat.le_of_ble_eq_true rfl) d_Heads_checkHead_179 ⟨Nat.le_refl _, Nat.le_refl _⟩ (fun H locs hP hD hS => ?_)
          clear hc23
          refine lv_aload_n hx hb d_Heads_checkHead_182 rfl (lv_at hl 0 rfl) ?_
          refine lv_iload_n hx hb d_Heads_checkHead_183 rfl (lv_at hl 1 rfl) ?_
          replace hR := bi_e hR
          obtain ⟨r24, l24, T24, hc24, hR⟩ := hR
          refine gcV_v (rest := []) ⟨hx, hb, hml, hown, hT⟩ (h_Heads_readWhere _ _ _ _ _ hc24) (cwV 1 hT (gV ml_Heads_120 im_Heads_readWhere se_Heads_readWhere ini_Heads co_Heads_readWhere) rfl rfl rfl pd_Heads_readWhere ⟨rm_hi, rm_lo (Nat.le_of_ble_eq_true rfl)⟩) hK hP hD hS hA hnw henv (Nat.le_of_ble_eq_true rfl) rfl rfl hl.1 rfl (Nat.le_of_ble_eq_true rfl) d_Heads_checkHead_184 ⟨Nat.le_refl _, Nat.le_refl _⟩ (fun H locs hP hD hS => ?_)
          clear hc24
          obtain ⟨-, -, e3⟩ := re_e hR
          subst e3
          exact W.vret hx hb hr (fun t ht hW => ⟨⟨(), rfl, trivial, by rw [ht]; exact hP, va_K.moved hW.alike hK, hD⟩, hS.F ht⟩) hS.2.2 d_Heads_checkHead_187
      · replace hR := if_n c13 hR
        refine lv_aload_n hx hb d_Heads_checkHead_88 rfl (lv_at hl 0 rfl) ?_
        refine rd_Heads_23 hx hb hT hown hK hP d_Heads_checkHead_89 ?_
        refine lv_aload_n hx hb d_Heads_checkHead_92 rfl (lv_at hl 0 rfl) ?_
        refine rd_Heads_9 hx hb hT hown hK hP d_Heads_checkHead_93 ?_
        refine lv_iload_n hx hb d_Heads_checkHead_96 rfl (lv_at hl 2 rfl) ?_
        refine lv_iload_n hx hb d_Heads_checkHead_97 rfl (lv_at hl 3 rfl) ?_
        refine lv_iadd hx hb d_Heads_checkHead_98 ?_
        replace hR := bi_e hR
        obtain ⟨r25, l25, T25, hc25, hR⟩ := hR
        refine gcV_l (rest := [.ref (ad 6)]) ⟨hx, hb, hml, hown, hT⟩ (h_Source_nameAt _ _ _ _ _ hc25) (cwV 1 hT (gV ml_Heads_99 im_Source_nameAt se_Source_nameAt ini_Source co_Source_nameAt) rfl rfl rfl pd_Source_nameAt ⟨rm_hi, rm_lo (Nat.le_of_ble_eq_true rfl)⟩) hK hP hD hS hA hnw henv (Nat.le_of_ble_eq_true rfl) rfl rfl hl.1 rfl (Nat.le_of_ble_eq_true rfl) d_Heads_checkHead_99 ⟨Nat.le_refl _, Nat.le_refl _⟩ (fun H locs hP hD hS => ?_)
        clear hc25
        replace hR := bi_e hR
        obtain ⟨r26, l26, T26, hc26, hR⟩ := hR
        refine gcV_i (rest := []) ⟨hx, hb, hml, hown, hT⟩ (h_Scope_findRegion _ _ _ _ _ hc26) (cwV 1 hT (gV ml_Heads_103 im_Scope_findRegion se_Scope_findRegion ini_Scope co_Scope_findRegion) rfl rfl rfl pd_Scope_findRegion ⟨rm_hi, rm_lo (Nat.le_of_ble_eq_true rfl)⟩) hK hP hD hS hA hnw henv (Nat.le_of_ble_eq_true rfl) rfl rfl hl.1 rfl (Nat.le_of_ble_eq_true rfl) d_Heads_checkHead_102 ⟨Nat.le_refl _, Nat.le_refl _⟩ (fun H locs hP hD hS => ?_)
        clear hc26
        refine lv_iload_n hx hb d_Heads_checkHead_105 rfl (lv_at hl 3 rfl) ?_
        refine lv_icmp_eq (tgt := 127) hx hb d_Heads_checkHead_106 (by decide) (fun c27 => ?_) (fun c27 => ?_)
        · replace hR := if_p c27 hR
          obtain ⟨z28, e28⟩ : ∃ y : Int32, y = x3 + (1 : Int32) := ⟨_, rfl⟩
          replace hR := vK_e e28 hR
          refine lv_iinc (v := z28) (lv' := [(3, .int z28), (0, .ref (ad 7)), (1, .int x1), (2, .int x2)]) hx hb d_Heads_checkHead_127 hl (k := 3) rfl (by rw [e28]; rfl) (by decide) rfl (fun ls hl => ?_)
          refine lv_goto (tgt := 75) hx hb d_Heads_checkHead_130 (by decide) ?_
          have g := ih T26 x1 x2 z28 hR
          rw [hG] at g
          exact g _ _ hP hD hS _ (lv_sub hl [1, 2, 3, 0] rfl)
        · replace hR := if_n c27 hR
          refine lv_aload_n hx hb d_Heads_checkHead_109 rfl (lv_at hl 0 rfl) ?_
          refine rd_Heads_27 hx hb hT hown hK hP d_Heads_checkHead_110 ?_
          refine lv_iconst (v := 2) hx hb d_Heads_checkHead_113 (by decide) ?_
          refine lv_aload_n hx hb d_Heads_checkHead_114 rfl (lv_at hl 0 rfl) ?_
          refine rd_Heads_9 hx hb hT hown hK hP d_Heads_checkHead_115 ?_
          refine lv_iload_n hx hb d_Heads_checkHead_118 rfl (lv_at hl 2 rfl) ?_
          refine lv_iload_n hx hb d_Heads_checkHead_119 rfl (lv_at hl 3 rfl) ?_
          refine lv_iadd hx hb d_Heads_checkHead_120 ?_
          replace hR := bi_e hR
          obtain ⟨r29, l29, T29, hc29, hR⟩ := hR
          refine gcV_i (rest := [.int (2 : Int32), .ref (ad 3)]) ⟨hx, hb, hml, hown, hT⟩ (h_Source_startOf _ _ _ _ _ hc29) (cwV 1 hT (gV ml_Heads_90 im_Source_startOf se_Source_startOf ini_Source co_Source_startOf) rfl rfl rfl pd_Source_startOf ⟨rm_hi, rm_lo (Nat.le_of_ble_eq_true rfl)⟩) hK hP hD hS hA hnw henv (Nat.le_of_ble_eq_true rfl) rfl rfl hl.1 rfl (Nat.le_of_ble_eq_true rfl) d_Heads_checkHead_121 ⟨Nat.le_refl _, Nat.le_refl _⟩ (fun H locs hP hD hS => ?_)
          clear hc29
          replace hR := bi_e hR
          obtain ⟨r30, l30, T30, hc30, hR⟩ := hR
          refine gcV_v (rest := []) ⟨hx, hb, hml, hown, hT⟩ (h_Code_note _ _ _ _ _ _ hc30) (cwV 2 hT (gV ml_Heads_77 im_Code_note se_Code_note ini_Code co_Code_note) rfl rfl rfl pd_Code_note ⟨rm_hi, rm_lo (Nat.le_of_ble_eq_true rfl)⟩) hK hP hD hS hA hnw henv (Nat.le_of_ble_eq_true rfl) rfl rfl hl.1 rfl (Nat.le_of_ble_eq_true rfl) d_Heads_checkHead_124 ⟨Nat.le_refl _, Nat.le_refl _⟩ (fun H locs hP hD hS => ?_)
          clear hc30
          obtain ⟨z31, e31⟩ : ∃ y : Int32, y = x3 + (1 : Int32) := ⟨_, rfl⟩
          replace hR := vK_e e31 hR
          refine lv_iinc (v := z31) (lv' := [(3, .int z31), (0, .ref (ad 7)), (1, .int x1), (2, .int x2)]) hx hb d_Heads_checkHead_127 hl (k := 3) rfl (by rw [e31]; rfl) (by decide) rfl (fun ls hl => ?_)
          refine lv_goto (tgt := 75) hx hb d_Heads_checkHead_130 (by decide) ?_
          have g := ih T30 x1 x2 z31 hR
          rw [hG] at g
          exact g _ _ hP hD hS _ (lv_sub hl [1, 2, 3, 0] rfl)
  have lb_42 : ∀ (T : gSt) (x1 : Int32) (x2 : Int32) (y0 : Int32) (y1 : Int64), rj_Heads_checkHead_42 F nf T x1 x2 y0 y1 = some (r0, rl0, T9) → G 42 [(0, .ref (ad 7)), (1, .int x1), (2, .int x2)] [.int y0, .long y1, .ref (ad 2)] T := by
    intro T x1 x2 y0 y1 hR; unfold rj_Heads_checkHead_42 at hR; rw [hG]; intro H locs hP hD hS ls hl
    replace hR := bi_e hR
    obtain ⟨r6, l6, T6, hc6, hR⟩ := hR
    refine gcV_i (rest := []) ⟨hx, hb, hml, hown, hT⟩ (h_Items_find _ _ _ _ _ _ hc6) (cwV 2 hT (gV ml_Heads_59 im_Items_find se_Items_find ini_Items co_Items_find) rfl rfl rfl pd_Items_find ⟨rm_hi, rm_lo (Nat.le_of_ble_eq_true rfl)⟩) hK hP hD hS hA hnw henv (Nat.le_of_ble_eq_true rfl) rfl rfl hl.1 rfl (Nat.le_of_ble_eq_true rfl) d_Heads_checkHead_42 ⟨Nat.le_refl _, Nat.le_refl _⟩ (fun H locs hP hD hS => ?_)
    clear hc6
    refine lv_iload_n hx hb d_Heads_checkHead_45 rfl (lv_at hl 1 rfl) ?_
    refine lv_icmp_eq (tgt := 65) hx hb d_Heads_checkHead_46 (by decide) (fun c7 => ?_) (fun c7 => ?_)
    · replace hR := if_p c7 hR
      refine lv_aload_n hx hb d_Heads_checkHead_65 rfl (lv_at hl 0 rfl) ?_
      refine rd_Heads_23 hx hb hT hown hK hP d_Heads_checkHead_66 ?_
      refine lv_iload_n hx hb d_Heads_checkHead_69 rfl (lv_at hl 1 rfl) ?_
      replace hR := bi_e hR
      obtain ⟨r8, l8, T8, hc8, hR⟩ := hR
      refine gcV_v (rest := []) ⟨hx, hb, hml, hown, hT⟩ (h_Scope_enterHead _ _ _ _ _ hc8) (cwV 1 hT (gV ml_Heads_94 im_Scope_enterHead se_Scope_enterHead ini_Scope co_Scope_enterHead) rfl rfl rfl pd_Scope_enterHead ⟨rm_hi, rm_lo (Nat.le_of_ble_eq_true rfl)⟩) hK hP hD hS hA hnw henv (Nat.le_of_ble_eq_true rfl) rfl rfl hl.1 rfl (Nat.le_of_ble_eq_true rfl) d_Heads_checkHead_70 ⟨Nat.le_refl _, Nat.le_refl _⟩ (fun H locs hP hD hS => ?_)
      clear hc8
      refine lv_iconst (v := 1) hx hb d_Heads_checkHead_73 (by decide) ?_
      refine lv_istore_n (lv' := [(3, .int (1 : Int32)), (0, .ref (ad 7)), (1, .int x1), (2, .int x2)]) hx hb d_Heads_checkHead_74 rfl hl (by decide) rfl (fun ls hl => ?_)
      have g := lb_75 nf T8 x1 x2 (1 : Int32) hR
      rw [hG] at g
      exact g _ _ hP hD hS _ (lv_sub hl [1, 2, 3, 0] rfl)
    · replace hR := if_n c7 hR
      refine lv_aload_n hx hb d_Heads_checkHead_49 rfl (lv_at hl 0 rfl) ?_
      refine rd_Heads_27 hx hb hT hown hK hP d_Heads_checkHead_50 ?_
      refine lv_iconst (v := 2) hx hb d_Heads_checkHead_53 (by decide) ?_
      refine lv_aload_n hx hb d_Heads_checkHead_54 rfl (lv_at hl 0 rfl) ?_
      refine rd_Heads_9 hx hb hT hown hK hP d_Heads_checkHead_55 ?_
      refine lv_iload_n hx hb d_Heads_checkHead_58 rfl (lv_at hl 2 rfl) ?_
      replace hR := bi_e hR
      obtain ⟨r9, l9, T9, hc9, hR⟩ := hR
      refine gcV_i (rest := [.int (2 : Int32), .ref (ad 3)]) ⟨hx, hb, hml, hown, hT⟩ (h_Source_startOf _ _ _ _ _ hc9) (cwV 1 hT (gV ml_Heads_90 im_Source_startOf se_Source_startOf ini_Source co_Source_startOf) rfl rfl rfl pd_Source_startOf ⟨rm_hi, rm_lo (Nat.le_of_ble_eq_true rfl)⟩) hK hP hD hS hA hnw henv (Nat.le_of_ble_eq_true rfl) rfl rfl hl.1 rfl (Nat.le_of_ble_eq_true rfl) d_Heads_checkHead_59 ⟨Nat.le_refl _, Nat.le_refl _⟩ (fun H locs hP hD hS => ?_)
      clear hc9
      replace hR := bi_e hR
      obtain ⟨r10, l10, T10, hc10, hR⟩ := hR
      refine gcV_v (rest := []) ⟨hx, hb, hml, hown, hT⟩ (h_Code_note _ _ _ _ _ _ hc10) (cwV 2 hT (gV ml_Heads_77 im_Code_note se_Code_note ini_Code co_Code_note) rfl rfl rfl pd_Code_note ⟨rm_hi, rm_lo (Nat.le_of_ble_eq_true rfl)⟩) hK hP hD hS hA hnw henv (Nat.le_of_ble_eq_true rfl) rfl rfl hl.1 rfl (Nat.le_of_ble_eq_true rfl) d_Heads_checkHead_62 ⟨Nat.le_refl _, Nat.le_refl _⟩ (fun H locs hP hD hS => ?_)
      clear hc10
      refine lv_aload_n hx hb d_Heads_checkHead_65 rfl (lv_at hl 0 rfl) ?_
      refine rd_Heads_23 hx hb hT hown hK hP d_Heads_checkHead_66 ?_
      refine lv_iload_n hx hb d_Heads_checkHead_69 rfl (lv_at hl 1 rfl) ?_
      replace hR := bi_e hR
      obtain ⟨r11, l11, T11, hc11, hR⟩ := hR
      refine gcV_v (rest := []) ⟨hx, hb, hml, hown, hT⟩ (h_Scope_enterHead _ _ _ _ _ hc11) (cwV 1 hT (gV ml_Heads_94 im_Scope_enterHead se_Scope_enterHead ini_Scope co_Scope_enterHead) rfl rfl rfl pd_Scope_enterHead ⟨rm_hi, rm_lo (Nat.le_of_ble_eq_true rfl)⟩) hK hP hD hS hA hnw henv (Nat.le_of_ble_eq_true rfl) rfl rfl hl.1 rfl (Nat.le_of_ble_eq_true rfl) d_Heads_checkHead_70 ⟨Nat.le_refl _, Nat.le_refl _⟩ (fun H locs hP hD hS => ?_)
      clear hc11
      refine lv_iconst (v := 1) hx hb d_Heads_checkHead_73 (by decide) ?_
      refine lv_istore_n (lv' := [(3, .int (1 : Int32)), (0, .ref (ad 7)), (1, .int x1), (2, .int x2)]) hx hb d_Heads_checkHead_74 rfl hl (by decide) rfl (fun ls hl => ?_)
      have g := lb_75 nf T11 x1 x2 (1 : Int32) hR
      rw [hG] at g
      exact g _ _ hP hD hS _ (lv_sub hl [1, 2, 3, 0] rfl)
  unfold rb_Heads_checkHead at hR
  refine lv_aload_n hx hb d_Heads_checkHead_0 rfl (lv_at hl 0 rfl) ?_
  refine rd_Heads_15 hx hb hT hown hK hP d_Heads_checkHead_1 ?_
  refine rd_Heads_83 hx hb hT hown hK hP d_Heads_checkHead_4 ?_
  refine lv_iload_n hx hb d_Heads_checkHead_7 rfl (lv_at hl 1 rfl) ?_
  replace hR := gd_e hR
  obtain ⟨b1, hR⟩ := hR
  refine laH_14 hx hb hK hP b1 d_Heads_checkHead_8 ?_
  refine lv_topi (fun z2 e2 => ?_)
  replace hR := vK_e e2 hR
  refine lv_istore_n (lv' := [(2, .int z2), (0, .ref (ad 7)), (1, .int p1)]) hx hb d_Heads_checkHead_9 rfl hl (by decide) rfl (fun ls hl => ?_)
  refine lv_aload_n hx hb d_Heads_checkHead_10 rfl (lv_at hl 1 rfl) ?_
  refine rd_Heads_15 hx hb hT hown hK hP d_Heads_checkHead_11 ?_
  refine lv_aload_n hx hb d_Heads_checkHead_14 rfl (lv_at hl 1 rfl) ?_
  refine rd_Heads_15 hx hb hT hown hK hP d_Heads_checkHead_15 ?_
  refine rd_Heads_86 hx hb hT hown hK hP d_Heads_checkHead_18 ?_
  refine lv_iload_n hx hb d_Heads_checkHead_21 rfl (lv_at hl 2 rfl) ?_
  replace hR := gd_e hR
  obtain ⟨b3, hR⟩ := hR
  refine laH_15 hx hb hK hP b3 d_Heads_checkHead_22 ?_
  refine lv_aload_n hx hb d_Heads_checkHead_23 rfl (lv_at hl 1 rfl) ?_
  refine rd_Heads_15 hx hb hT hown hK hP d_Heads_checkHead_24 ?_
  refine rd_Heads_46 hx hb hT hown hK hP d_Heads_checkHead_27 ?_
  refine lv_iload_n hx hb d_Heads_checkHead_30 rfl (lv_at hl 2 rfl) ?_
  replace hR := gd_e hR
  obtain ⟨b4, hR⟩ := hR
  refine laH_13 hx hb hK hP b4 d_Heads_checkHead_31 ?_
  refine lv_bipush (v := 12) hx hb d_Heads_checkHead_32 (by decide) ?_
  refine lv_icmp_ne (tgt := 41) hx hb d_Heads_checkHead_34 (by decide) (fun c5 => ?_) (fun c5 => ?_)
  · replace hR := if_n c5 hR
    refine lv_iconst (v := 0) hx hb d_Heads_checkHead_41 (by decide) ?_
    have g := lb_42 T0 p1 z2 (0 : Int32) (T0.2 30 p1.toNatClampNeg) hR
    rw [hG] at g
    exact g _ _ hP hD hS _ (lv_sub hl [1, 2, 0] rfl)
  · replace hR := if_p c5 hR
    refine lv_iconst (v := 1) hx hb d_Heads_checkHead_37 (by decide) ?_
    refine lv_goto (tgt := 42) hx hb d_Heads_checkHead_38 (by decide) ?_
    have g := lb_42 T0 p1 z2 (1 : Int32) (T0.2 30 p1.toNatClampNeg) hR
    rw [hG] at g
    exact g _ _ hP hD hS _ (lv_sub hl [1, 2, 0] rfl)
set_option maxHeartbeats 4000000 in
set_option maxRecDepth 100000 in
theorem sp_Heads_checkParts (l : Launch) (dC : Nat → ClassId) (dI : Nat → Nat → Nat) (ea ev ad : Nat → Nat) (km : Nat → ClassId) (F : gF) (nf d : Nat) (h_Items_tokOfPart : mt_Items_tokOfPart l dC dI ea ev ad km F d) (h_Source_nameAt : mt_Source_nameAt l dC dI ea ev ad km F d) (h_Heads_findPart : mt_Heads_findPart l dC dI ea ev ad km F d) (h_Source_startOf : mt_Source_startOf l dC dI ea ev ad km F d) (h_Code_note : mt_Code_note l dC dI ea ev ad km F d) (h_Heads_readType : mt_Heads_readType l dC dI ea ev ad km F d) (h_Items_setPart : mt_Items_setPart l dC dI ea ev ad km F d) (h_Types_wordsOf : mt_Types_wordsOf l dC dI ea ev ad km F d) (T0 : gSt) (p1 : Int32) (r0 : Int32) (rl0 : Int64) (T9 : gSt) (hR : rb_Heads_checkParts F nf T0 p1 = some (r0, rl0, T9)) : GMv l dC dI LH ad km ea ev y_Heads_checkParts w_Heads_checkParts (rmD (d + 1)) [.ref (ad 7), .int p1] T0 T9 := by
  intro sz
  refine Met.ofW (cc := b_Heads_checkParts) (maxL := 8) (ret := none) (by decide) rfl ?_
  intro p e s m args below meth c s₁ B hml hv
  obtain ⟨rfl, hsz, hP, hK, hD0, hnw, henv⟩ := hv
  have hx := B.exec
  have hb := B.bytes
  have hr := B.returns
  have hT : ∀ w ∈ lw_good, w.before _ s = true := fun w h => atoms_spec (ws := w_Heads_checkParts) B.pre w (List.mem_cons_of_mem _ h)
  have hown : s.vm.findClass R_Heads = some m.cls := findClass_of_methodNamed B.named
  subst hsz
  have hD := hD0.self (sz := s.heap.size)
  clear hD0
  generalize hAe : va_A (gW LH ad km T0) s.heap.size = A at hD henv ⊢
  have hA : ∀ q : Nat, s.heap.size ≤ q → A q := fun q h => by rw [← hAe]; exact Or.inr h
  have hS : va_S A s.heap s.heap [] := va_S.rf
  have hl := lv_entry ([.ref (ad 7), .int p1]) (n := 8) (Nat.le_of_ble_eq_true rfl)
  rw [lg_entry_eq]
  generalize (lg_sl ([.ref (ad 7), .int p1]) ++ List.replicate (8 - (lg_sl ([.ref (ad 7), .int p1])).length) Slot.unset).toArray = ls at hl ⊢
  have hl : lv_has ls 8 [(0, .ref (ad 7)), (1, .int p1)] := hl
  obtain ⟨G, hG⟩ : ∃ G : Nat → List (Nat × Value) → List Value → gSt → Prop, G = (fun pc lv stk T => ∀ (H : Heap) (locs : List Loc), va_P (dC, dI) cls_all (gW LH ad km T) H → va_D A (gW LH ad km T) → va_S A s.heap H locs → ∀ (ls : Array Slot), lv_has ls 8 lv → W p l e (headSpec w_Heads_checkParts (rmD (d + 1))).room s m ([.ref (ad 7), .int p1] : List Value).toArray below meth c H locs 0 0 (MQ below (va_Qv (fun (_ : Unit) => True) (fun _ t => gPost dC dI LH ad km T9 A t) A) ([.ref (ad 7), .int p1] : List Value).toArray s 0 0 A) (F0 m pc ls stk)) := ⟨_, rfl⟩
  have lb_119 : ∀ (rec_28 : gSt → Int32 → Int32 → Int32 → Int32 → Int32 → gR) (hrec_28 : ∀ (T : gSt) (x1 : Int32) (x2 : Int32) (x3 : Int32) (x4 : Int32) (x5 : Int32), rec_28 T x1 x2 x3 x4 x5 = some (r0, rl0, T9) → G 28 [(0, .ref (ad 7)), (1, .int x1), (2, .int x2), (3, .int x3), (4, .int x4), (5, .int x5)] [] T) (T : gSt) (x1 : Int32) (x2 : Int32) (x3 : Int32) (x4 : Int32) (x5 : Int32) (x7 : Int32) (y0 : Int32) (y1 : Int32) (y2 : Int32) (y3 : Int32), rj_Heads_checkParts_119 F nf rec_28 T x1 x2 x3 x4 x5 x7 y0 y1 y2 y3 = some (r0, rl0, T9) → G 119 [(0, .ref (ad 7)), (1, .int x1), (2, .int x2), (3, .int x3), (4, .int x4), (5, .int x5), (7, .int x7)] [.int y0, .int y1, .int y2, .int y3, .ref (ad 2)] T := by
    intro rec_28 hrec_28 T x1 x2 x3 x4 x5 x7 y0 y1 y2 y3 hR; unfold rj_Heads_checkParts_119 at hR; rw [hG]; intro H locs hP hD hS ls hl
    replace hR := bi_e hR
    obtain ⟨r16, l16, T16, hc16, hR⟩ := hR
    refine gcV_v (rest := []) ⟨hx, hb, hml, hown, hT⟩ (h_Items_setPart _ _ _ _ _ _ _ _ hc16) (cwV 4 hT (gV ml_Heads_130 im_Items_setPart se_Items_setPart ini_Items co_Items_setPart) rfl rfl rfl pd_Items_setPart ⟨rm_hi, rm_lo (Nat.le_of_ble_eq_true rfl)⟩) hK hP hD hS hA hnw henv (Nat.le_of_ble_eq_true rfl) rfl rfl hl.1 rfl (Nat.le_of_ble_eq_true rfl) d_Heads_checkParts_119 ⟨Nat.le_refl _, Nat.le_refl _⟩ (fun H locs hP hD hS => ?_)
    clear hc16
    refine lv_iload_n hx hb d_Heads_checkParts_122 rfl (lv_at hl 3 rfl) ?_
    refine lv_aload_n hx hb d_Heads_checkParts_123 rfl (lv_at hl 0 rfl) ?_
    refine rd_Heads_19 hx hb hT hown hK hP d_Heads_checkParts_124 ?_
    refine lv_iload hx hb d_Heads_checkParts_127 (lv_at hl 6 rfl) ?_
    replace hR := bi_e hR
    obtain ⟨r17, l17, T17, hc17, hR⟩ := hR
    refine gcV_i (rest := [.int x3]) ⟨hx, hb, hml, hown, hT⟩ (h_Types_wordsOf _ _ _ _ _ hc17) (cwV 1 hT (gV ml_Heads_134 im_Types_wordsOf se_Types_wordsOf ini_Types co_Types_wordsOf) rfl rfl rfl pd_Types_wordsOf ⟨rm_hi, rm_lo (Nat.le_of_ble_eq_true rfl)⟩) hK hP hD hS hA hnw henv (Nat.le_of_ble_eq_true rfl) rfl rfl hl.1 rfl (Nat.le_of_ble_eq_true rfl) d_Heads_checkParts_129 ⟨Nat.le_refl _, Nat.le_refl _⟩ (fun H locs hP hD hS => ?_)
    clear hc17
    refine lv_iadd hx hb d_Heads_checkParts_132 ?_
    refine lv_topi (fun z18 e18 => ?_)
    replace hR := vK_e e18 hR
    refine lv_istore_n (lv' := [(3, .int z18), (0, .ref (ad 7)), (1, .int x1), (2, .int x2), (4, .int x4), (5, .int x5), (7, .int x7)]) hx hb d_Heads_checkParts_133 rfl hl (by decide) rfl (fun ls hl => ?_)
    refine lv_iload hx hb d_Heads_checkParts_134 (lv_at hl 4 rfl) ?_
    refine lv_aload_n hx hb d_Heads_checkParts_136 rfl (lv_at hl 1 rfl) ?_
    refine rd_Heads_19 hx hb hT hown hK hP d_Heads_checkParts_137 ?_
    refine lv_iload hx hb d_Heads_checkParts_140 (lv_at hl 6 rfl) ?_
    replace hR := bi_e hR
    obtain ⟨r19, l19, T19, hc19, hR⟩ := hR
    refine gcV_i (rest := [.int x4]) ⟨hx, hb, hml, hown, hT⟩ (h_Types_wordsOf _ _ _ _ _ hc19) (cwV 1 hT (gV ml_Heads_134 im_Types_wordsOf se_Types_wordsOf ini_Types co_Types_wordsOf) rfl rfl rfl pd_Types_wordsOf ⟨rm_hi, rm_lo (Nat.le_of_ble_eq_true rfl)⟩) hK hP hD hS hA hnw henv (Nat.le_of_ble_eq_true rfl) rfl rfl hl.1 rfl (Nat.le_of_ble_eq_true rfl) d_Heads_checkParts_142 ⟨Nat.le_refl _, Nat.le_refl _⟩ (fun H locs hP hD hS => ?_)
    clear hc19
    refine va_mmax hx hb (hml.trans hl.1.symm) hown (hT _ ml_Heads_137) (hT _ st_Math_max) (hT _ ini_Math) (hT _ co_Math_max) rm_f1 (rm_l1 (Nat.le_of_ble_eq_true rfl)) (Nat.le_refl _) (Nat.le_refl _) d_Heads_checkParts_145 ?_
    refine lv_topi (fun z20 e20 => ?_)
    replace hR := vK_e e20 hR
    refine lv_istore (lv' := [(4, .int z20), (3, .int z18), (0, .ref (ad 7)), (1, .int x1), (2, .int x2), (5, .int x5), (7, .int x7)]) hx hb d_Heads_checkParts_148 hl (by decide) rfl (fun ls hl => ?_)
    obtain ⟨z21, e21⟩ : ∃ y : Int32, y = x5 + (1 : Int32) := ⟨_, rfl⟩
    replace hR := vK_e e21 hR
    refine lv_iinc (v := z21) (lv' := [(5, .int z21), (4, .int z20), (3, .int z18), (0, .ref (ad 7)), (1, .int x1), (2, .int x2), (7, .int x7)]) hx hb d_Heads_checkParts_150 hl (k := 5) rfl (by rw [e21]; rfl) (by decide) rfl (fun ls hl => ?_)
    refine lv_goto (tgt := 28) hx hb d_Heads_checkParts_153 (by decide) ?_
    have g := hrec_28 T19 x1 x2 z18 z20 z21 hR
    rw [hG] at g
    exact g _ _ hP hD hS _ (lv_sub hl [3, 4, 5, 2, 1, 0] rfl)
  have lb_90 : ∀ (rec_28 : gSt → Int32 → Int32 → Int32 → Int32 → Int32 → gR) (hrec_28 : ∀ (T : gSt) (x1 : Int32) (x2 : Int32) (x3 : Int32) (x4 : Int32) (x5 : Int32), rec_28 T x1 x2 x3 x4 x5 = some (r0, rl0, T9) → G 28 [(0, .ref (ad 7)), (1, .int x1), (2, .int x2), (3, .int x3), (4, .int x4), (5, .int x5)] [] T) (T : gSt) (x1 : Int32) (x2 : Int32) (x3 : Int32) (x4 : Int32) (x5 : Int32) (x6 : Int32), rj_Heads_checkParts_90 F nf rec_28 T x1 x2 x3 x4 x5 x6 = some (r0, rl0, T9) → G 90 [(0, .ref (ad 7)), (1, .int x1), (2, .int x2), (3, .int x3), (4, .int x4), (5, .int x5), (6, .int x6)] [] T := by
    intro rec_28 hrec_28 T x1 x2 x3 x4 x5 x6 hR; unfold rj_Heads_checkParts_90 at hR; rw [hG]; intro H locs hP hD hS ls hl
    refine lv_aload_n hx hb d_Heads_checkParts_90 rfl (lv_at hl 0 rfl) ?_
    refine lv_iload hx hb d_Heads_checkParts_91 (lv_at hl 6 rfl) ?_
    refine lv_iconst (v := 2) hx hb d_Heads_checkParts_93 (by decide) ?_
    refine lv_iadd hx hb d_Heads_checkParts_94 ?_
    refine lv_iconst (v := 1) hx hb d_Heads_checkParts_95 (by decide) ?_
    replace hR := bi_e hR
    obtain ⟨r14, l14, T14, hc14, hR⟩ := hR
    refine gcV_i (rest := []) ⟨hx, hb, hml, hown, hT⟩ (h_Heads_readType _ _ _ _ _ _ hc14) (cwV 2 hT (gV ml_Heads_113 im_Heads_readType se_Heads_readType ini_Heads co_Heads_readType) rfl rfl rfl pd_Heads_readType ⟨rm_hi, rm_lo (Nat.le_of_ble_eq_true rfl)⟩) hK hP hD hS hA hnw henv (Nat.le_of_ble_eq_true rfl) rfl rfl hl.1 rfl (Nat.le_of_ble_eq_true rfl) d_Heads_checkParts_96 ⟨Nat.le_refl _, Nat.le_refl _⟩ (fun H locs hP hD hS => ?_)
    clear hc14
    refine lv_istore (lv' := [(7, .int r14), (0, .ref (ad 7)), (1, .int x1), (2, .int x2), (3, .int x3), (4, .int x4), (5, .int x5), (6, .int x6)]) hx hb d_Heads_checkParts_99 hl (by decide) rfl (fun ls hl => ?_)
    refine lv_aload_n hx hb d_Heads_checkParts_101 rfl (lv_at hl 1 rfl) ?_
    refine rd_Heads_15 hx hb hT hown hK hP d_Heads_checkParts_102 ?_
    refine lv_iload_n hx hb d_Heads_checkParts_105 rfl (lv_at hl 2 rfl) ?_
    refine lv_iload hx hb d_Heads_checkParts_106 (lv_at hl 6 rfl) ?_
    refine lv_iload hx hb d_Heads_checkParts_108 (lv_at hl 0 rfl) ?_
    refine lv_iload_n hx hb d_Heads_checkParts_110 rfl (lv_at hl 3 rfl) ?_
    refine lv_if_eq (tgt := 118) hx hb d_Heads_checkParts_111 (by decide) (fun c15 => ?_) (fun c15 => ?_)
    · replace hR := if_p c15 hR
      refine lv_iload_n hx hb d_Heads_checkParts_118 rfl (lv_at hl 4 rfl) ?_
      have g := lb_119 rec_28 hrec_28 T14 x1 x2 x3 x4 x5 r14 x3 r14 x5 x1 hR
      rw [hG] at g
      exact g _ _ hP hD hS _ (lv_sub hl [1, 2, 3, 4, 5, 6, 0] rfl)
    · replace hR := if_n c15 hR
      refine lv_iconst (v := 1) hx hb d_Heads_checkParts_114 (by decide) ?_
      refine lv_goto (tgt := 119) hx hb d_Heads_checkParts_115 (by decide) ?_
      have g := lb_119 rec_28 hrec_28 T14 x1 x2 x3 x4 x5 r14 (1 : Int32) r14 x5 x1 hR
      rw [hG] at g
      exact g _ _ hP hD hS _ (lv_sub hl [1, 2, 3, 4, 5, 6, 0] rfl)
  have lb_28 : ∀ (n : Nat) (T : gSt) (x1 : Int32) (x2 : Int32) (x3 : Int32) (x4 : Int32) (x5 : Int32), rl_Heads_checkParts_28 F nf n T x1 x2 x3 x4 x5 = some (r0, rl0, T9) → G 28 [(0, .ref (ad 7)), (1, .int x1), (2, .int x2), (3, .int x3), (4, .int x4), (5, .int x5)] [] T := by
    intro n
    induction n with
    | zero => intro T x1 x2 x3 x4 x5 hR; rw [rl_Heads_checkParts_28] at hR; cases hR
    | succ n ih =>
      intro T x1 x2 x3 x4 x5 hR; rw [rl_Heads_checkParts_28] at hR; rw [hG]; intro H locs hP hD hS ls hl
      refine lv_iload hx hb d_Heads_checkParts_28 (lv_at hl 5 rfl) ?_
      refine lv_aload_n hx hb d_Heads_checkParts_30 rfl (lv_at hl 0 rfl) ?_
      refine rd_Heads_15 hx hb hT hown hK hP d_Heads_checkParts_31 ?_
      refine rd_Heads_66 hx hb hT hown hK hP d_Heads_checkParts_34 ?_
      refine lv_iload_n hx hb d_Heads_checkParts_37 rfl (lv_at hl 1 rfl) ?_
      replace hR := gd_e hR
      obtain ⟨b3, hR⟩ := hR
      refine laH_17 hx hb hK hP b3 d_Heads_checkParts_38 ?_
      refine lv_icmp_ge (tgt := 156) hx hb d_Heads_checkParts_39 (by decide) (fun c4 => ?_) (fun c4 => ?_)
      · replace hR := if_p c4 hR
        refine lv_aload_n hx hb d_Heads_checkParts_156 rfl (lv_at hl 0 rfl) ?_
        refine rd_Heads_15 hx hb hT hown hK hP d_Heads_checkParts_157 ?_
        refine rd_Heads_142 hx hb hT hown hK hP d_Heads_checkParts_160 ?_
        refine lv_iload_n hx hb d_Heads_checkParts_163 rfl (lv_at hl 1 rfl) ?_
        refine lv_iload_n hx hb d_Heads_checkParts_164 rfl (lv_at hl 2 rfl) ?_
        refine lv_if_eq (tgt := 175) hx hb d_Heads_checkParts_165 (by decide) (fun c5 => ?_) (fun c5 => ?_)
        · replace hR := if_p c5 hR
          refine lv_iload_n hx hb d_Heads_checkParts_175 rfl (lv_at hl 3 rfl) ?_
          replace hR := gd_e hR
          obtain ⟨b6, hR⟩ := hR
          refine saH_26 hx hb hK hP hD hS b6 d_Heads_checkParts_176 (fun T6 eT H locs hP hD hS => ?_)
          replace hR := stK_e eT hR
          clear eT
          obtain ⟨-, -, e3⟩ := re_e hR
          subst e3
          exact W.vret hx hb hr (fun t ht hW => ⟨⟨(), rfl, trivial, by rw [ht]; exact hP, va_K.moved hW.alike hK, hD⟩, hS.F ht⟩) hS.2.2 d_Heads_checkParts_177
        · replace hR := if_n c5 hR
          refine lv_iconst (v := 1) hx hb d_Heads_checkParts_168 (by decide) ?_
          refine lv_iload hx hb d_Heads_checkParts_169 (lv_at hl 4 rfl) ?_
          refine lv_iadd hx hb d_Heads_checkParts_171 ?_
          refine lv_goto (tgt := 176) hx hb d_Heads_checkParts_172 (by decide) ?_
          replace hR := gd_e hR
          obtain ⟨b7, hR⟩ := hR
          refine saH_26 hx hb hK hP hD hS b7 d_Heads_checkParts_176 (fun T7 eT H locs hP hD hS => ?_)
          replace hR := stK_e eT hR
          clear eT
          obtain ⟨-, -, e3⟩ := re_e hR
          subst e3
          exact W.vret hx hb hr (fun t ht hW => ⟨⟨(), rfl, trivial, by rw [ht]; exact hP, va_K.moved hW.alike hK, hD⟩, hS.F ht⟩) hS.2.2 d_Heads_checkParts_177
      · replace hR := if_n c4 hR
        refine lv_aload_n hx hb d_Heads_checkParts_42 rfl (lv_at hl 0 rfl) ?_
        refine rd_Heads_15 hx hb hT hown hK hP d_Heads_checkParts_43 ?_
        refine lv_iload_n hx hb d_Heads_checkParts_46 rfl (lv_at hl 1 rfl) ?_
        refine lv_iload hx hb d_Heads_checkParts_47 (lv_at hl 5 rfl) ?_
        replace hR := bi_e hR
        obtain ⟨r8, l8, T8, hc8, hR⟩ := hR
        refine gcV_i (rest := []) ⟨hx, hb, hml, hown, hT⟩ (h_Items_tokOfPart _ _ _ _ _ _ hc8) (cwV 2 hT (gV ml_Heads_123 im_Items_tokOfPart se_Items_tokOfPart ini_Items co_Items_tokOfPart) rfl rfl rfl pd_Items_tokOfPart ⟨rm_hi, rm_lo (Nat.le_of_ble_eq_true rfl)⟩) hK hP hD hS hA hnw henv (Nat.le_of_ble_eq_true rfl) rfl rfl hl.1 rfl (Nat.le_of_ble_eq_true rfl) d_Heads_checkParts_49 ⟨Nat.le_refl _, Nat.le_refl _⟩ (fun H locs hP hD hS => ?_)
        clear hc8
        refine lv_istore (lv' := [(6, .int r8), (0, .ref (ad 7)), (1, .int x1), (2, .int x2), (3, .int x3), (4, .int x4), (5, .int x5)]) hx hb d_Heads_checkParts_52 hl (by decide) rfl (fun ls hl => ?_)
        refine lv_aload_n hx hb d_Heads_checkParts_54 rfl (lv_at hl 1 rfl) ?_
        refine lv_iload_n hx hb d_Heads_checkParts_55 rfl (lv_at hl 2 rfl) ?_
        refine lv_aload_n hx hb d_Heads_checkParts_56 rfl (lv_at hl 1 rfl) ?_
        refine rd_Heads_9 hx hb hT hown hK hP d_Heads_checkParts_57 ?_
        refine lv_iload hx hb d_Heads_checkParts_60 (lv_at hl 0 rfl) ?_
        replace hR := bi_e hR
        obtain ⟨r9, l9, T9, hc9, hR⟩ := hR
        refine gcV_l (rest := [.int x1, .ref (ad 7)]) ⟨hx, hb, hml, hown, hT⟩ (h_Source_nameAt _ _ _ _ _ hc9) (cwV 1 hT (gV ml_Heads_99 im_Source_nameAt se_Source_nameAt ini_Source co_Source_nameAt) rfl rfl rfl pd_Source_nameAt ⟨rm_hi, rm_lo (Nat.le_of_ble_eq_true rfl)⟩) hK hP hD hS hA hnw henv (Nat.le_of_ble_eq_true rfl) rfl rfl hl.1 rfl (Nat.le_of_ble_eq_true rfl) d_Heads_checkParts_62 ⟨Nat.le_refl _, Nat.le_refl _⟩ (fun H locs hP hD hS => ?_)
        clear hc9
        replace hR := bi_e hR
        obtain ⟨r10, l10, T10, hc10, hR⟩ := hR
        refine gcV_i (rest := []) ⟨hx, hb, hml, hown, hT⟩ (h_Heads_findPart _ _ _ _ _ _ hc10) (cwV 2 hT (gV ml_Heads_126 im_Heads_findPart se_Heads_findPart ini_Heads co_Heads_findPart) rfl rfl rfl pd_Heads_findPart ⟨rm_hi, rm_lo (Nat.le_of_ble_eq_true rfl)⟩) hK hP hD hS hA hnw henv (Nat.le_of_ble_eq_true rfl) rfl rfl hl.1 rfl (Nat.le_of_ble_eq_true rfl) d_Heads_checkParts_65 ⟨Nat.le_refl _, Nat.le_refl _⟩ (fun H locs hP hD hS => ?_)
        clear hc10
        refine lv_iload hx hb d_Heads_checkParts_68 (lv_at hl 6 rfl) ?_
        refine lv_icmp_eq (tgt := 90) hx hb d_Heads_checkParts_70 (by decide) (fun c11 => ?_) (fun c11 => ?_)
        · replace hR := if_p c11 hR
          have g := lb_90 (rl_Heads_checkParts_28 F nf n) ih T10 x1 x2 x3 x4 x5 r8 hR
          rw [hG] at g
          exact g _ _ hP hD hS _ (lv_sub hl [1, 2, 3, 4, 5, 6, 0] rfl)
        · replace hR := if_n c11 hR
          refine lv_aload_n hx hb d_Heads_checkParts_73 rfl (lv_at hl 1 rfl) ?_
          refine rd_Heads_27 hx hb hT hown hK hP d_Heads_checkParts_74 ?_
          refine lv_iconst (v := 2) hx hb d_Heads_checkParts_77 (by decide) ?_
          refine lv_aload_n hx hb d_Heads_checkParts_78 rfl (lv_at hl 1 rfl) ?_
          refine rd_Heads_9 hx hb hT hown hK hP d_Heads_checkParts_79 ?_
          refine lv_iload hx hb d_Heads_checkParts_82 (lv_at hl 0 rfl) ?_
          replace hR := bi_e hR
          obtain ⟨r12, l12, T12, hc12, hR⟩ := hR
          refine gcV_i (rest := [.int (2 : Int32), .ref (ad 3)]) ⟨hx, hb, hml, hown, hT⟩ (h_Source_startOf _ _ _ _ _ hc12) (cwV 1 hT (gV ml_Heads_90 im_Source_startOf se_Source_startOf ini_Source co_Source_startOf) rfl rfl rfl pd_Source_startOf ⟨rm_hi, rm_lo (Nat.le_of_ble_eq_true rfl)⟩) hK hP hD hS hA hnw henv (Nat.le_of_ble_eq_true rfl) rfl rfl hl.1 rfl (Nat.le_of_ble_eq_true rfl) d_Heads_checkParts_84 ⟨Nat.le_refl _, Nat.le_refl _⟩ (fun H locs hP hD hS => ?_)
          clear hc12
          replace hR := bi_e hR
          obtain ⟨r13, l13, T13, hc13, hR⟩ := hR
          refine gcV_v (rest := []) ⟨hx, hb, hml, hown, hT⟩ (h_Code_note _ _ _ _ _ _ hc13) (cwV 2 hT (gV ml_Heads_77 im_Code_note se_Code_note ini_Code co_Code_note) rfl rfl rfl pd_Code_note ⟨rm_hi, rm_lo (Nat.le_of_ble_eq_true rfl)⟩) hK hP hD hS hA hnw henv (Nat.le_of_ble_eq_true rfl) rfl rfl hl.1 rfl (Nat.le_of_ble_eq_true rfl) d_Heads_checkParts_87 ⟨Nat.le_refl _, Nat.le_refl _⟩ (fun H locs hP hD hS => ?_)
          clear hc13
          have g := lb_90 (rl_Heads_checkParts_28 F nf n) ih T13 x1 x2 x3 x4 x5 r8 hR
          rw [hG] at g
          exact g _ _ hP hD hS _ (lv_sub hl [1, 2, 3, 4, 5, 6, 0] rfl)
  unfold rb_Heads_checkParts at hR
  refine lv_aload_n hx hb d_Heads_checkParts_0 rfl (lv_at hl 0 rfl) ?_
  refine rd_Heads_15 hx hb hT hown hK hP d_Heads_checkParts_1 ?_
  refine rd_Heads_46 hx hb hT hown hK hP d_Heads_checkParts_4 ?_
  refine lv_iload_n hx hb d_Heads_checkParts_7 rfl (lv_at hl 1 rfl) ?_
  replace hR := gd_e hR
  obtain ⟨b1, hR⟩ := hR
  refine laH_13 hx hb hK hP b1 d_Heads_checkParts_8 ?_
  refine lv_bipush (v := 11) hx hb d_Heads_checkParts_9 (by decide) ?_
  refine lv_icmp_ne (tgt := 18) hx hb d_Heads_checkParts_11 (by decide) (fun c2 => ?_) (fun c2 => ?_)
  · replace hR := if_n c2 hR
    refine lv_iconst (v := 0) hx hb d_Heads_checkParts_18 (by decide) ?_
    refine lv_istore_n (lv' := [(2, .int (0 : Int32)), (0, .ref (ad 7)), (1, .int p1)]) hx hb d_Heads_checkParts_19 rfl hl (by decide) rfl (fun ls hl => ?_)
    refine lv_iconst (v := 0) hx hb d_Heads_checkParts_20 (by decide) ?_
    refine lv_istore_n (lv' := [(3, .int (0 : Int32)), (2, .int (0 : Int32)), (0, .ref (ad 7)), (1, .int p1)]) hx hb d_Heads_checkParts_21 rfl hl (by decide) rfl (fun ls hl => ?_)
    refine lv_iconst (v := 0) hx hb d_Heads_checkParts_22 (by decide) ?_
    refine lv_istore (lv' := [(4, .int (0 : Int32)), (3, .int (0 : Int32)), (2, .int (0 : Int32)), (0, .ref (ad 7)), (1, .int p1)]) hx hb d_Heads_checkParts_23 hl (by decide) rfl (fun ls hl => ?_)
    refine lv_iconst (v := 0) hx hb d_Heads_checkParts_25 (by decide) ?_
    refine lv_istore (lv' := [(5, .int (0 : Int32)), (4, .int (0 : Int32)), (3, .int (0 : Int32)), (2, .int (0 : Int32)), (0, .ref (ad 7)), (1, .int p1)]) hx hb d_Heads_checkParts_26 hl (by decide) rfl (fun ls hl => ?_)
    have g := lb_28 nf T0 p1 (0 : Int32) (0 : Int32) (0 : Int32) (0 : Int32) hR
    rw [hG] at g
    exact g _ _ hP hD hS _ (lv_sub hl [4, 5, 3, 2, 1, 0] rfl)
  · replace hR := if_p c2 hR
    refine lv_iconst (v := 1) hx hb d_Heads_checkParts_14 (by decide) ?_
    refine lv_goto (tgt := 19) hx hb d_Heads_checkParts_15 (by decide) ?_
    refine lv_istore_n (lv' := [(2, .int (1 : Int32)), (0, .ref (ad 7)), (1, .int p1)]) hx hb d_Heads_checkParts_19 rfl hl (by decide) rfl (fun ls hl => ?_)
    refine lv_iconst (v := 0) hx hb d_Heads_checkParts_20 (by decide) ?_
    refine lv_istore_n (lv' := [(3, .int (0 : Int32)), (2, .int (1 : Int32)), (0, .ref (ad 7)), (1, .int p1)]) hx hb d_Heads_checkParts_21 rfl hl (by decide) rfl (fun ls hl => ?_)
    refine lv_iconst (v := 0) hx hb d_Heads_checkParts_22 (by decide) ?_
    refine lv_istore (lv' := [(4, .int (0 : Int32)), (3, .int (0 : Int32)), (2, .int (1 : Int32)), (0, .ref (ad 7)), (1, .int p1)]) hx hb d_Heads_checkParts_23 hl (by decide) rfl (fun ls hl => ?_)
    refine lv_iconst (v := 0) hx hb d_Heads_checkParts_25 (by decide) ?_
    refine lv_istore (lv' := [(5, .int (0 : Int32)), (4, .int (0 : Int32)), (3, .int (0 : Int32)), (2, .int (1 : Int32)), (0, .ref (ad 7)), (1, .int p1)]) hx hb d_Heads_checkParts_26 hl (by decide) rfl (fun ls hl => ?_)
    have g := lb_28 nf T0 p1 (1 : Int32) (0 : Int32) (0 : Int32) (0 : Int32) hR
    rw [hG] at g
    exact g _ _ hP hD hS _ (lv_sub hl [4, 5, 3, 2, 1, 0] rfl)
set_option maxHeartbeats 4000000 in
set_option maxRecDepth 100000 in
theorem sp_Heads_findPart (l : Launch) (dC : Nat → ClassId) (dI : Nat → Nat → Nat) (ea ev ad : Nat → Nat) (km : Nat → ClassId) (F : gF) (nf d : Nat) (h_Items_tokOfPart : mt_Items_tokOfPart l dC dI ea ev ad km F d) (h_Source_nameAt : mt_Source_nameAt l dC dI ea ev ad km F d) (T0 : gSt) (p1 : Int32) (p2 : Int64) (r0 : Int32) (rl0 : Int64) (T9 : gSt) (hR : rb_Heads_findPart F nf T0 p1 p2 = some (r0, rl0, T9)) : GMi l dC dI LH ad km ea ev y_Heads_findPart w_Heads_findPart (rmD (d + 1)) [.ref (ad 7), .int p1, .long p2] T0 r0 T9 := by
  intro sz
  refine Met.ofW (cc := b_Heads_findPart) (maxL := 5) (ret := (some .int)) (by decide) rfl ?_
  intro p e s m args below meth c s₁ B hml hv
  obtain ⟨rfl, hsz, hP, hK, hD0, hnw, henv⟩ := hv
  have hx := B.exec
  have hb := B.bytes
  have hr := B.returns
  have hT : ∀ w ∈ lw_good, w.before _ s = true := fun w h => atoms_spec (ws := w_Heads_findPart) B.pre w (List.mem_cons_of_mem _ h)
  have hown : s.vm.findClass R_Heads = some m.cls := findClass_of_methodNamed B.named
  subst hsz
  have hD := hD0.self (sz := s.heap.size)
  clear hD0
  generalize hAe : va_A (gW LH ad km T0) s.heap.size = A at hD henv ⊢
  have hA : ∀ q : Nat, s.heap.size ≤ q → A q := fun q h => by rw [← hAe]; exact Or.inr h
  have hS : va_S A s.heap s.heap [] := va_S.rf
  have hl := lv_entry ([.ref (ad 7), .int p1, .long p2]) (n := 5) (Nat.le_of_ble_eq_true rfl)
  rw [lg_entry_eq]
  generalize (lg_sl ([.ref (ad 7), .int p1, .long p2]) ++ List.replicate (5 - (lg_sl ([.ref (ad 7), .int p1, .long p2])).length) Slot.unset).toArray = ls at hl ⊢
  have hl : lv_has ls 5 [(0, .ref (ad 7)), (1, .int p1), (2, .long p2)] := hl
  obtain ⟨G, hG⟩ : ∃ G : Nat → List (Nat × Value) → List Value → gSt → Prop, G = (fun pc lv stk T => ∀ (H : Heap) (locs : List Loc), va_P (dC, dI) cls_all (gW LH ad km T) H → va_D A (gW LH ad km T) → va_S A s.heap H locs → ∀ (ls : Array Slot), lv_has ls 5 lv → W p l e (headSpec w_Heads_findPart (rmD (d + 1))).room s m ([.ref (ad 7), .int p1, .long p2] : List Value).toArray below meth c H locs 0 0 (MQ below (va_Qi (fun (z : Int32) (_ : Unit) => z = r0) (fun _ t => gPost dC dI LH ad km T9 A t) A) ([.ref (ad 7), .int p1, .long p2] : List Value).toArray s 0 0 A) (F0 m pc ls stk)) := ⟨_, rfl⟩
  have lb_3 : ∀ (n : Nat) (T : gSt) (x1 : Int32) (x2 : Int64) (x4 : Int32), rl_Heads_findPart_3 F nf n T x1 x2 x4 = some (r0, rl0, T9) → G 3 [(0, .ref (ad 7)), (1, .int x1), (2, .long x2), (4, .int x4)] [] T := by
    intro n
    induction n with
    | zero => intro T x1 x2 x4 hR; rw [rl_Heads_findPart_3] at hR; cases hR
    | succ n ih =>
      intro T x1 x2 x4 hR; rw [rl_Heads_findPart_3] at hR; rw [hG]; intro H locs hP hD hS ls hl
      refine lv_iload hx hb d_Heads_findPart_3 (lv_at hl 3 rfl) ?_
      refine lv_aload_n hx hb d_Heads_findPart_5 rfl (lv_at hl 0 rfl) ?_
      refine rd_Heads_15 hx hb hT hown hK hP d_Heads_findPart_6 ?_
      refine rd_Heads_66 hx hb hT hown hK hP d_Heads_findPart_9 ?_
      refine lv_iload_n hx hb d_Heads_findPart_12 rfl (lv_at hl 1 rfl) ?_
      replace hR := gd_e hR
      obtain ⟨b1, hR⟩ := hR
      refine laH_17 hx hb hK hP b1 d_Heads_findPart_13 ?_
      refine lv_icmp_ge (tgt := 48) hx hb d_Heads_findPart_14 (by decide) (fun c2 => ?_) (fun c2 => ?_)
      · replace hR := if_p c2 hR
        refine lv_iconst (v := (-1)) hx hb d_Heads_findPart_48 (by decide) ?_
        obtain ⟨e1, -, e3⟩ := re_e hR
        subst e1; subst e3
        exact W.iret (v := (-1 : Int32)) hx hb hr (fun t ht hW => ⟨⟨(-1 : Int32), (), rfl, rfl, by rw [ht]; exact hP, va_K.moved hW.alike hK, hD⟩, hS.F ht⟩) hS.2.2 d_Heads_findPart_49
      · replace hR := if_n c2 hR
        refine lv_aload_n hx hb d_Heads_findPart_17 rfl (lv_at hl 0 rfl) ?_
        refine rd_Heads_9 hx hb hT hown hK hP d_Heads_findPart_18 ?_
        refine lv_aload_n hx hb d_Heads_findPart_21 rfl (lv_at hl 0 rfl) ?_
        refine rd_Heads_15 hx hb hT hown hK hP d_Heads_findPart_22 ?_
        refine lv_iload_n hx hb d_Heads_findPart_25 rfl (lv_at hl 1 rfl) ?_
        refine lv_iload hx hb d_Heads_findPart_26 (lv_at hl 3 rfl) ?_
        replace hR := bi_e hR
        obtain ⟨r4, l4, T4, hc4, hR⟩ := hR
        refine gcV_i (rest := [.ref (ad 1)]) ⟨hx, hb, hml, hown, hT⟩ (h_Items_tokOfPart _ _ _ _ _ _ hc4) (cwV 2 hT (gV ml_Heads_123 im_Items_tokOfPart se_Items_tokOfPart ini_Items co_Items_tokOfPart) rfl rfl rfl pd_Items_tokOfPart ⟨rm_hi, rm_lo (Nat.le_of_ble_eq_true rfl)⟩) hK hP hD hS hA hnw henv (Nat.le_of_ble_eq_true rfl) rfl rfl hl.1 rfl (Nat.le_of_ble_eq_true rfl) d_Heads_findPart_28 ⟨Nat.le_refl _, Nat.le_refl _⟩ (fun H locs hP hD hS => ?_)
        clear hc4
        replace hR := bi_e hR
        obtain ⟨r5, l5, T5, hc5, hR⟩ := hR
        refine gcV_l (rest := []) ⟨hx, hb, hml, hown, hT⟩ (h_Source_nameAt _ _ _ _ _ hc5) (cwV 1 hT (gV ml_Heads_99 im_Source_nameAt se_Source_nameAt ini_Source co_Source_nameAt) rfl rfl rfl pd_Source_nameAt ⟨rm_hi, rm_lo (Nat.le_of_ble_eq_true rfl)⟩) hK hP hD hS hA hnw henv (Nat.le_of_ble_eq_true rfl) rfl rfl hl.1 rfl (Nat.le_of_ble_eq_true rfl) d_Heads_findPart_31 ⟨Nat.le_refl _, Nat.le_refl _⟩ (fun H locs hP hD hS => ?_)
        clear hc5
        refine lv_lload_n hx hb d_Heads_findPart_34 rfl (lv_at hl 2 rfl) ?_
        refine W.lcmp hx hb d_Heads_findPart_35 ?_
        refine lv_if_ne (tgt := 42) hx hb d_Heads_findPart_36 (by decide) (fun c6 => ?_) (fun c6 => ?_)
        · replace hR := if_n c6 hR
          obtain ⟨z7, e7⟩ : ∃ y : Int32, y = x4 + (1 : Int32) := ⟨_, rfl⟩
          replace hR := vK_e e7 hR
          refine lv_iinc (v := z7) (lv' := [(4, .int z7), (0, .ref (ad 7)), (1, .int x1), (2, .long x2)]) hx hb d_Heads_findPart_42 hl (k := 3) rfl (by rw [e7]; rfl) (by decide) rfl (fun ls hl => ?_)
          refine lv_goto (tgt := 3) hx hb d_Heads_findPart_45 (by decide) ?_
          have g := ih T5 x1 x2 z7 hR
          rw [hG] at g
          exact g _ _ hP hD hS _ (lv_sub hl [1, 2, 3, 0] rfl)
        · replace hR := if_p c6 hR
          refine lv_iload hx hb d_Heads_findPart_39 (lv_at hl 3 rfl) ?_
          obtain ⟨e1, -, e3⟩ := re_e hR
          subst e1; subst e3
          exact W.iret (v := x4) hx hb hr (fun t ht hW => ⟨⟨x4, (), rfl, rfl, by rw [ht]; exact hP, va_K.moved hW.alike hK, hD⟩, hS.F ht⟩) hS.2.2 d_Heads_findPart_41
  unfold rb_Heads_findPart at hR
  refine lv_iconst (v := 0) hx hb d_Heads_findPart_0 (by decide) ?_
  refine lv_istore (lv' := [(4, .int (0 : Int32)), (0, .ref (ad 7)), (1, .int p1), (2, .long p2)]) hx hb d_Heads_findPart_1 hl (by decide) rfl (fun ls hl => ?_)
  have g := lb_3 nf T0 p1 p2 (0 : Int32) hR
  rw [hG] at g
  exact g _ _ hP hD hS _ (lv_sub hl [1, 2, 3, 0] rfl)
set_option maxHeartbeats 4000000 in
set_option maxRecDepth 100000 in
theorem sp_Heads_readDead (l : Launch) (dC : Nat → ClassId) (dI : Nat → Nat → Nat) (ea ev ad : Nat → Nat) (km : Nat → ClassId) (F : gF) (nf d : Nat) (h_Source_countRegions : mt_Source_countRegions l dC dI ea ev ad km F d) (h_Heads_ownRegion : mt_Heads_ownRegion l dC dI ea ev ad km F d) (h_Source_startOf : mt_Source_startOf l dC dI ea ev ad km F d) (h_Code_note : mt_Code_note l dC dI ea ev ad km F d) (T0 : gSt) (p1 : Int32) (r0 : Int32) (rl0 : Int64) (T9 : gSt) (hR : rb_Heads_readDead F nf T0 p1 = some (r0, rl0, T9)) : GMv l dC dI LH ad km ea ev y_Heads_readDead w_Heads_readDead (rmD (d + 1)) [.ref (ad 7), .int p1] T0 T9 := by
  intro sz
  refine Met.ofW (cc := b_Heads_readDead) (maxL := 6) (ret := none) (by decide) rfl ?_
  intro p e s m args below meth c s₁ B hml hv
  obtain ⟨rfl, hsz, hP, hK, hD0, hnw, henv⟩ := hv
  have hx := B.exec
  have hb := B.bytes
  have hr := B.returns
  have hT : ∀ w ∈ lw_good, w.before _ s = true := fun w h => atoms_spec (ws := w_Heads_readDead) B.pre w (List.mem_cons_of_mem _ h)
  have hown : s.vm.findClass R_Heads = some m.cls := findClass_of_methodNamed B.named
  subst hsz
  have hD := hD0.self (sz := s.heap.size)
  clear hD0
  generalize hAe : va_A (gW LH ad km T0) s.heap.size = A at hD henv ⊢
  have hA : ∀ q : Nat, s.heap.size ≤ q → A q := fun q h => by rw [← hAe]; exact Or.inr h
  have hS : va_S A s.heap s.heap [] := va_S.rf
  have hl := lv_entry ([.ref (ad 7), .int p1]) (n := 6) (Nat.le_of_ble_eq_true rfl)
  rw [lg_entry_eq]
  generalize (lg_sl ([.ref (ad 7), .int p1]) ++ List.replicate (6 - (lg_sl ([.ref (ad 7), .int p1])).length) Slot.unset).toArray = ls at hl ⊢
  have hl : lv_has ls 6 [(0, .ref (ad 7)), (1, .int p1)] := hl
  obtain ⟨G, hG⟩ : ∃ G : Nat → List (Nat × Value) → List Value → gSt → Prop, G = (fun pc lv stk T => ∀ (H : Heap) (locs : List Loc), va_P (dC, dI) cls_all (gW LH ad km T) H → va_D A (gW LH ad km T) → va_S A s.heap H locs → ∀ (ls : Array Slot), lv_has ls 6 lv → W p l e (headSpec w_Heads_readDead (rmD (d + 1))).room s m ([.ref (ad 7), .int p1] : List Value).toArray below meth c H locs 0 0 (MQ below (va_Qv (fun (_ : Unit) => True) (fun _ t => gPost dC dI LH ad km T9 A t) A) ([.ref (ad 7), .int p1] : List Value).toArray s 0 0 A) (F0 m pc ls stk)) := ⟨_, rfl⟩
  have lb_50 : ∀ (n : Nat) (T : gSt) (x1 : Int32) (x2 : Int32) (x3 : Int32) (x4 : Int32), rl_Heads_readDead_50 F nf n T x1 x2 x3 x4 = some (r0, rl0, T9) → G 50 [(0, .ref (ad 7)), (1, .int x1), (2, .int x2), (3, .int x3), (4, .int x4)] [] T := by
    intro n
    induction n with
    | zero => intro T x1 x2 x3 x4 hR; rw [rl_Heads_readDead_50] at hR; cases hR
    | succ n ih =>
      intro T x1 x2 x3 x4 hR; rw [rl_Heads_readDead_50] at hR; rw [hG]; intro H locs hP hD hS ls hl
      refine lv_iload hx hb d_Heads_readDead_50 (lv_at hl 4 rfl) ?_
      refine lv_iload_n hx hb d_Heads_readDead_52 rfl (lv_at hl 3 rfl) ?_
      refine lv_icmp_ge (tgt := 122) hx hb d_Heads_readDead_53 (by decide) (fun c8 => ?_) (fun c8 => ?_)
      · replace hR := if_p c8 hR
        obtain ⟨-, -, e3⟩ := re_e hR
        subst e3
        exact W.vret hx hb hr (fun t ht hW => ⟨⟨(), rfl, trivial, by rw [ht]; exact hP, va_K.moved hW.alike hK, hD⟩, hS.F ht⟩) hS.2.2 d_Heads_readDead_122
      · replace hR := if_n c8 hR
        refine lv_iconst (v := 1) hx hb d_Heads_readDead_56 (by decide) ?_
        refine lv_aload_n hx hb d_Heads_readDead_57 rfl (lv_at hl 0 rfl) ?_
        refine lv_iload_n hx hb d_Heads_readDead_58 rfl (lv_at hl 2 rfl) ?_
        refine lv_iload hx hb d_Heads_readDead_59 (lv_at hl 4 rfl) ?_
        refine lv_iadd hx hb d_Heads_readDead_61 ?_
        replace hR := bi_e hR
        obtain ⟨r9, l9, T9, hc9, hR⟩ := hR
        refine gcV_i (rest := [.int (1 : Int32)]) ⟨hx, hb, hml, hown, hT⟩ (h_Heads_ownRegion _ _ _ _ _ hc9) (cwV 1 hT (gV ml_Heads_154 im_Heads_ownRegion se_Heads_ownRegion ini_Heads co_Heads_ownRegion) rfl rfl rfl pd_Heads_ownRegion ⟨rm_hi, rm_lo (Nat.le_of_ble_eq_true rfl)⟩) hK hP hD hS hA hnw henv (Nat.le_of_ble_eq_true rfl) rfl rfl hl.1 rfl (Nat.le_of_ble_eq_true rfl) d_Heads_readDead_62 ⟨Nat.le_refl _, Nat.le_refl _⟩ (fun H locs hP hD hS => ?_)
        clear hc9
        refine lv_ishl hx hb d_Heads_readDead_65 ?_
        refine lv_topi (fun z10 e10 => ?_)
        replace hR := vK_e e10 hR
        refine lv_istore (lv' := [(5, .int z10), (0, .ref (ad 7)), (1, .int x1), (2, .int x2), (3, .int x3), (4, .int x4)]) hx hb d_Heads_readDead_66 hl (by decide) rfl (fun ls hl => ?_)
        refine lv_aload_n hx hb d_Heads_readDead_68 rfl (lv_at hl 1 rfl) ?_
        refine rd_Heads_15 hx hb hT hown hK hP d_Heads_readDead_69 ?_
        refine rd_Heads_151 hx hb hT hown hK hP d_Heads_readDead_72 ?_
        refine lv_iload_n hx hb d_Heads_readDead_75 rfl (lv_at hl 2 rfl) ?_
        replace hR := gd_e hR
        obtain ⟨b11, hR⟩ := hR
        refine laH_24 hx hb hK hP b11 d_Heads_readDead_76 ?_
        refine lv_iload hx hb d_Heads_readDead_77 (lv_at hl 0 rfl) ?_
        refine lv_iand hx hb d_Heads_readDead_79 ?_
        refine lv_if_eq (tgt := 102) hx hb d_Heads_readDead_80 (by decide) (fun c12 => ?_) (fun c12 => ?_)
        · replace hR := if_p c12 hR
          refine lv_aload_n hx hb d_Heads_readDead_102 rfl (lv_at hl 1 rfl) ?_
          refine rd_Heads_15 hx hb hT hown hK hP d_Heads_readDead_103 ?_
          refine rd_Heads_151 hx hb hT hown hK hP d_Heads_readDead_106 ?_
          refine lv_iload_n hx hb d_Heads_readDead_109 rfl (lv_at hl 2 rfl) ?_
          refine lv_dup2_11 hx hb d_Heads_readDead_110 rfl rfl ?_
          replace hR := gd_e hR
          obtain ⟨b13, hR⟩ := hR
          refine laH_24 hx hb hK hP b13 d_Heads_readDead_111 ?_
          refine lv_iload hx hb d_Heads_readDead_112 (lv_at hl 0 rfl) ?_
          refine lv_ior hx hb d_Heads_readDead_114 ?_
          replace hR := gd_e hR
          obtain ⟨b14, hR⟩ := hR
          refine saH_24 hx hb hK hP hD hS b14 d_Heads_readDead_115 (fun T14 eT H locs hP hD hS => ?_)
          replace hR := stK_e eT hR
          clear eT
          obtain ⟨z15, e15⟩ : ∃ y : Int32, y = x4 + (1 : Int32) := ⟨_, rfl⟩
          replace hR := vK_e e15 hR
          refine lv_iinc (v := z15) (lv' := [(4, .int z15), (5, .int z10), (0, .ref (ad 7)), (1, .int x1), (2, .int x2), (3, .int x3)]) hx hb d_Heads_readDead_116 hl (k := 5) rfl (by rw [e15]; rfl) (by decide) rfl (fun ls hl => ?_)
          refine lv_goto (tgt := 50) hx hb d_Heads_readDead_119 (by decide) ?_
          have g := ih T14 x1 x2 x3 z15 hR
          rw [hG] at g
          exact g _ _ hP hD hS _ (lv_sub hl [2, 3, 4, 5, 0] rfl)
        · replace hR := if_n c12 hR
          refine lv_aload_n hx hb d_Heads_readDead_83 rfl (lv_at hl 1 rfl) ?_
          refine rd_Heads_27 hx hb hT hown hK hP d_Heads_readDead_84 ?_
          refine lv_iconst (v := 2) hx hb d_Heads_readDead_87 (by decide) ?_
          refine lv_aload_n hx hb d_Heads_readDead_88 rfl (lv_at hl 1 rfl) ?_
          refine rd_Heads_9 hx hb hT hown hK hP d_Heads_readDead_89 ?_
          refine lv_iload_n hx hb d_Heads_readDead_92 rfl (lv_at hl 3 rfl) ?_
          refine lv_iload hx hb d_Heads_readDead_93 (lv_at hl 5 rfl) ?_
          refine lv_iadd hx hb d_Heads_readDead_95 ?_
          replace hR := bi_e hR
          obtain ⟨r16, l16, T16, hc16, hR⟩ := hR
          refine gcV_i (rest := [.int (2 : Int32), .ref (ad 3)]) ⟨hx, hb, hml, hown, hT⟩ (h_Source_startOf _ _ _ _ _ hc16) (cwV 1 hT (gV ml_Heads_90 im_Source_startOf se_Source_startOf ini_Source co_Source_startOf) rfl rfl rfl pd_Source_startOf ⟨rm_hi, rm_lo (Nat.le_of_ble_eq_true rfl)⟩) hK hP hD hS hA hnw henv (Nat.le_of_ble_eq_true rfl) rfl rfl hl.1 rfl (Nat.le_of_ble_eq_true rfl) d_Heads_readDead_96 ⟨Nat.le_refl _, Nat.le_refl _⟩ (fun H locs hP hD hS => ?_)
          clear hc16
          replace hR := bi_e hR
          obtain ⟨r17, l17, T17, hc17, hR⟩ := hR
          refine gcV_v (rest := []) ⟨hx, hb, hml, hown, hT⟩ (h_Code_note _ _ _ _ _ _ hc17) (cwV 2 hT (gV ml_Heads_77 im_Code_note se_Code_note ini_Code co_Code_note) rfl rfl rfl pd_Code_note ⟨rm_hi, rm_lo (Nat.le_of_ble_eq_true rfl)⟩) hK hP hD hS hA hnw henv (Nat.le_of_ble_eq_true rfl) rfl rfl hl.1 rfl (Nat.le_of_ble_eq_true rfl) d_Heads_readDead_99 ⟨Nat.le_refl _, Nat.le_refl _⟩ (fun H locs hP hD hS => ?_)
          clear hc17
          refine lv_aload_n hx hb d_Heads_readDead_102 rfl (lv_at hl 1 rfl) ?_
          refine rd_Heads_15 hx hb hT hown hK hP d_Heads_readDead_103 ?_
          refine rd_Heads_151 hx hb hT hown hK hP d_Heads_readDead_106 ?_
          refine lv_iload_n hx hb d_Heads_readDead_109 rfl (lv_at hl 2 rfl) ?_
          refine lv_dup2_11 hx hb d_Heads_readDead_110 rfl rfl ?_
          replace hR := gd_e hR
          obtain ⟨b18, hR⟩ := hR
          refine laH_24 hx hb hK hP b18 d_Heads_readDead_111 ?_
          refine lv_iload hx hb d_Heads_readDead_112 (lv_at hl 0 rfl) ?_
          refine lv_ior hx hb d_Heads_readDead_114 ?_
          replace hR := gd_e hR
          obtain ⟨b19, hR⟩ := hR
          refine saH_24 hx hb hK hP hD hS b19 d_Heads_readDead_115 (fun T19 eT H locs hP hD hS => ?_)
          replace hR := stK_e eT hR
          clear eT
          obtain ⟨z20, e20⟩ : ∃ y : Int32, y = x4 + (1 : Int32) := ⟨_, rfl⟩
          replace hR := vK_e e20 hR
          refine lv_iinc (v := z20) (lv' := [(4, .int z20), (5, .int z10), (0, .ref (ad 7)), (1, .int x1), (2, .int x2), (3, .int x3)]) hx hb d_Heads_readDead_116 hl (k := 5) rfl (by rw [e20]; rfl) (by decide) rfl (fun ls hl => ?_)
          refine lv_goto (tgt := 50) hx hb d_Heads_readDead_119 (by decide) ?_
          have g := ih T19 x1 x2 x3 z20 hR
          rw [hG] at g
          exact g _ _ hP hD hS _ (lv_sub hl [2, 3, 4, 5, 0] rfl)
  unfold rb_Heads_readDead at hR
  refine lv_aload_n hx hb d_Heads_readDead_0 rfl (lv_at hl 0 rfl) ?_
  refine rd_Heads_15 hx hb hT hown hK hP d_Heads_readDead_1 ?_
  refine rd_Heads_145 hx hb hT hown hK hP d_Heads_readDead_4 ?_
  refine lv_iload_n hx hb d_Heads_readDead_7 rfl (lv_at hl 1 rfl) ?_
  replace hR := gd_e hR
  obtain ⟨b1, hR⟩ := hR
  refine laH_19 hx hb hK hP b1 d_Heads_readDead_8 ?_
  refine lv_iconst (v := 1) hx hb d_Heads_readDead_9 (by decide) ?_
  refine lv_iadd hx hb d_Heads_readDead_10 ?_
  refine lv_topi (fun z2 e2 => ?_)
  replace hR := vK_e e2 hR
  refine lv_istore_n (lv' := [(2, .int z2), (0, .ref (ad 7)), (1, .int p1)]) hx hb d_Heads_readDead_11 rfl hl (by decide) rfl (fun ls hl => ?_)
  refine lv_aload_n hx hb d_Heads_readDead_12 rfl (lv_at hl 1 rfl) ?_
  refine rd_Heads_15 hx hb hT hown hK hP d_Heads_readDead_13 ?_
  refine rd_Heads_145 hx hb hT hown hK hP d_Heads_readDead_16 ?_
  refine lv_iload_n hx hb d_Heads_readDead_19 rfl (lv_at hl 2 rfl) ?_
  replace hR := gd_e hR
  obtain ⟨b3, hR⟩ := hR
  refine laH_19 hx hb hK hP b3 d_Heads_readDead_20 ?_
  refine lv_if_ne (tgt := 28) hx hb d_Heads_readDead_21 (by decide) (fun c4 => ?_) (fun c4 => ?_)
  · replace hR := if_n c4 hR
    refine lv_aload_n hx hb d_Heads_readDead_28 rfl (lv_at hl 1 rfl) ?_
    refine rd_Heads_9 hx hb hT hown hK hP d_Heads_readDead_29 ?_
    refine lv_iload_n hx hb d_Heads_readDead_32 rfl (lv_at hl 0 rfl) ?_
    replace hR := bi_e hR
    obtain ⟨r5, l5, T5, hc5, hR⟩ := hR
    refine gcV_i (rest := []) ⟨hx, hb, hml, hown, hT⟩ (h_Source_countRegions _ _ _ _ _ hc5) (cwV 1 hT (gV ml_Heads_148 im_Source_countRegions se_Source_countRegions ini_Source co_Source_countRegions) rfl rfl rfl pd_Source_countRegions ⟨rm_hi, rm_lo (Nat.le_of_ble_eq_true rfl)⟩) hK hP hD hS hA hnw henv (Nat.le_of_ble_eq_true rfl) rfl rfl hl.1 rfl (Nat.le_of_ble_eq_true rfl) d_Heads_readDead_33 ⟨Nat.le_refl _, Nat.le_refl _⟩ (fun H locs hP hD hS => ?_)
    clear hc5
    refine lv_istore_n (lv' := [(3, .int r5), (2, .int z2), (0, .ref (ad 7)), (1, .int p1)]) hx hb d_Heads_readDead_36 rfl hl (by decide) rfl (fun ls hl => ?_)
    refine lv_aload_n hx hb d_Heads_readDead_37 rfl (lv_at hl 2 rfl) ?_
    refine rd_Heads_15 hx hb hT hown hK hP d_Heads_readDead_38 ?_
    refine rd_Heads_151 hx hb hT hown hK hP d_Heads_readDead_41 ?_
    refine lv_iload_n hx hb d_Heads_readDead_44 rfl (lv_at hl 3 rfl) ?_
    refine lv_iconst (v := 0) hx hb d_Heads_readDead_45 (by decide) ?_
    replace hR := gd_e hR
    obtain ⟨b6, hR⟩ := hR
    refine saH_24 hx hb hK hP hD hS b6 d_Heads_readDead_46 (fun T6 eT H locs hP hD hS => ?_)
    replace hR := stK_e eT hR
    clear eT
    refine lv_iconst (v := 0) hx hb d_Heads_readDead_47 (by decide) ?_
    refine lv_istore (lv' := [(4, .int (0 : Int32)), (3, .int r5), (2, .int z2), (0, .ref (ad 7)), (1, .int p1)]) hx hb d_Heads_readDead_48 hl (by decide) rfl (fun ls hl => ?_)
    have g := lb_50 nf T6 p1 z2 r5 (0 : Int32) hR
    rw [hG] at g
    exact g _ _ hP hD hS _ (lv_sub hl [3, 4, 2, 1, 0] rfl)
  · replace hR := if_p c4 hR
    refine lv_iconst (v := 0) hx hb d_Heads_readDead_24 (by decide) ?_
    refine lv_goto (tgt := 36) hx hb d_Heads_readDead_25 (by decide) ?_
    refine lv_istore_n (lv' := [(3, .int (0 : Int32)), (2, .int z2), (0, .ref (ad 7)), (1, .int p1)]) hx hb d_Heads_readDead_36 rfl hl (by decide) rfl (fun ls hl => ?_)
    refine lv_aload_n hx hb d_Heads_readDead_37 rfl (lv_at hl 2 rfl) ?_
    refine rd_Heads_15 hx hb hT hown hK hP d_Heads_readDead_38 ?_
    refine rd_Heads_151 hx hb hT hown hK hP d_Heads_readDead_41 ?_
    refine lv_iload_n hx hb d_Heads_readDead_44 rfl (lv_at hl 3 rfl) ?_
    refine lv_iconst (v := 0) hx hb d_Heads_readDead_45 (by decide) ?_
    replace hR := gd_e hR
    obtain ⟨b7, hR⟩ := hR
    refine saH_24 hx hb hK hP hD hS b7 d_Heads_readDead_46 (fun T7 eT H locs hP hD hS => ?_)
    replace hR := stK_e eT hR
    clear eT
    refine lv_iconst (v := 0) hx hb d_Heads_readDead_47 (by decide) ?_
    refine lv_istore (lv' := [(4, .int (0 : Int32)), (3, .int (0 : Int32)), (2, .int z2), (0, .ref (ad 7)), (1, .int p1)]) hx hb d_Heads_readDead_48 hl (by decide) rfl (fun ls hl => ?_)
    have g := lb_50 nf T7 p1 z2 (0 : Int32) (0 : Int32) hR
    rw [hG] at g
    exact g _ _ hP hD hS _ (lv_sub hl [3, 4, 2, 1, 0] rfl)
