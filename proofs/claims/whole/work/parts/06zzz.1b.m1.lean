abbrev b_Model_expression : ByteArray := prog_14_method_37_code
abbrev y_Model_expression : MethodName := ⟨R_Model, "expression", "(I)I"⟩
theorem co_Model_expression : Cond.code y_Model_expression b_Model_expression 5 (some .int) ∈ lw_good := lg_in (tin_11 _ (List.mem_of_getElem? (i := 31) rfl)) rfl
abbrev w_Model_expression : List Cond := Cond.code y_Model_expression b_Model_expression 5 (some .int) :: lw_good
theorem im_Model_expression : Cond.instanceMethod y_Model_expression ∈ lw_good := lg_right (i := 2430) (by decide +kernel) rfl
theorem se_Model_expression : Cond.selects R_Model y_Model_expression y_Model_expression ∈ lw_good := lg_left (i := 141) (by decide +kernel) rfl
theorem d_Model_expression_0 : decode b_Model_expression 0 = .ok (.iload_n 1, 1) := by decide +kernel
theorem d_Model_expression_1 : decode b_Model_expression 1 = .ok (.bipush 20, 2) := by decide +kernel
theorem d_Model_expression_3 : decode b_Model_expression 3 = .ok (.if_icmp .le 7, 3) := by decide +kernel
theorem d_Model_expression_6 : decode b_Model_expression 6 = .ok (.aload_n 0, 1) := by decide +kernel
theorem d_Model_expression_7 : decode b_Model_expression 7 = .ok (.invokevirtual 406, 3) := by decide +kernel
theorem d_Model_expression_10 : decode b_Model_expression 10 = .ok (.aload_n 0, 1) := by decide +kernel
theorem d_Model_expression_11 : decode b_Model_expression 11 = .ok (.iload_n 1, 1) := by decide +kernel
theorem d_Model_expression_12 : decode b_Model_expression 12 = .ok (.invokevirtual 513, 3) := by decide +kernel
theorem ml_Model_513 : Cond.methodLink R_Model 513 ⟨"PointerHouseModel", "term", "(I)I"⟩ ∈ lw_good := lg_right (i := 2432) (by decide +kernel) rfl
theorem d_Model_expression_15 : decode b_Model_expression 15 = .ok (.istore_n 2, 1) := by decide +kernel
theorem d_Model_expression_16 : decode b_Model_expression 16 = .ok (.aload_n 0, 1) := by decide +kernel
theorem d_Model_expression_17 : decode b_Model_expression 17 = .ok (.invokevirtual 516, 3) := by decide +kernel
theorem ml_Model_516 : Cond.methodLink R_Model 516 ⟨"PointerHouseModel", "operator", "()I"⟩ ∈ lw_good := lg_right (i := 2461) (by decide +kernel) rfl
theorem d_Model_expression_20 : decode b_Model_expression 20 = .ok (.ifCond .lt 60, 3) := by decide +kernel
theorem d_Model_expression_23 : decode b_Model_expression 23 = .ok (.aload_n 0, 1) := by decide +kernel
theorem d_Model_expression_24 : decode b_Model_expression 24 = .ok (.invokevirtual 516, 3) := by decide +kernel
theorem d_Model_expression_27 : decode b_Model_expression 27 = .ok (.istore_n 3, 1) := by decide +kernel
theorem d_Model_expression_28 : decode b_Model_expression 28 = .ok (.aload_n 0, 1) := by decide +kernel
theorem d_Model_expression_29 : decode b_Model_expression 29 = .ok (.invokevirtual 396, 3) := by decide +kernel
theorem d_Model_expression_32 : decode b_Model_expression 32 = .ok (.aload_n 0, 1) := by decide +kernel
theorem d_Model_expression_33 : decode b_Model_expression 33 = .ok (.bipush 13, 2) := by decide +kernel
theorem d_Model_expression_35 : decode b_Model_expression 35 = .ok (.aload_n 0, 1) := by decide +kernel
theorem d_Model_expression_36 : decode b_Model_expression 36 = .ok (.getfield 123, 3) := by decide +kernel
theorem d_Model_expression_39 : decode b_Model_expression 39 = .ok (.iload_n 2, 1) := by decide +kernel
theorem d_Model_expression_40 : decode b_Model_expression 40 = .ok (.iaload, 1) := by decide +kernel
theorem d_Model_expression_41 : decode b_Model_expression 41 = .ok (.invokevirtual 478, 3) := by decide +kernel
theorem d_Model_expression_44 : decode b_Model_expression 44 = .ok (.istore 4, 2) := by decide +kernel
theorem d_Model_expression_46 : decode b_Model_expression 46 = .ok (.aload_n 0, 1) := by decide +kernel
theorem d_Model_expression_47 : decode b_Model_expression 47 = .ok (.getfield 132, 3) := by decide +kernel
theorem d_Model_expression_50 : decode b_Model_expression 50 = .ok (.iload 4, 2) := by decide +kernel
theorem d_Model_expression_52 : decode b_Model_expression 52 = .ok (.iload_n 3, 1) := by decide +kernel
theorem d_Model_expression_53 : decode b_Model_expression 53 = .ok (.iastore, 1) := by decide +kernel
theorem d_Model_expression_54 : decode b_Model_expression 54 = .ok (.aload_n 0, 1) := by decide +kernel
theorem d_Model_expression_55 : decode b_Model_expression 55 = .ok (.getfield 126, 3) := by decide +kernel
theorem d_Model_expression_58 : decode b_Model_expression 58 = .ok (.iload 4, 2) := by decide +kernel
theorem d_Model_expression_60 : decode b_Model_expression 60 = .ok (.iload_n 2, 1) := by decide +kernel
theorem d_Model_expression_61 : decode b_Model_expression 61 = .ok (.iastore, 1) := by decide +kernel
theorem d_Model_expression_62 : decode b_Model_expression 62 = .ok (.aload_n 0, 1) := by decide +kernel
theorem d_Model_expression_63 : decode b_Model_expression 63 = .ok (.getfield 129, 3) := by decide +kernel
theorem d_Model_expression_66 : decode b_Model_expression 66 = .ok (.iload 4, 2) := by decide +kernel
theorem d_Model_expression_68 : decode b_Model_expression 68 = .ok (.aload_n 0, 1) := by decide +kernel
theorem d_Model_expression_69 : decode b_Model_expression 69 = .ok (.iload_n 1, 1) := by decide +kernel
theorem d_Model_expression_70 : decode b_Model_expression 70 = .ok (.invokevirtual 513, 3) := by decide +kernel
theorem d_Model_expression_73 : decode b_Model_expression 73 = .ok (.iastore, 1) := by decide +kernel
theorem d_Model_expression_74 : decode b_Model_expression 74 = .ok (.iload 4, 2) := by decide +kernel
theorem d_Model_expression_76 : decode b_Model_expression 76 = .ok (.istore_n 2, 1) := by decide +kernel
theorem d_Model_expression_77 : decode b_Model_expression 77 = .ok (.goto (-61), 3) := by decide +kernel
theorem d_Model_expression_80 : decode b_Model_expression 80 = .ok (.iload_n 2, 1) := by decide +kernel
theorem d_Model_expression_81 : decode b_Model_expression 81 = .ok (.ireturn, 1) := by decide +kernel
abbrev b_Model_readVar : ByteArray := prog_14_method_35_code
abbrev y_Model_readVar : MethodName := ⟨R_Model, "readVar", "(II)I"⟩
theorem co_Model_readVar : Cond.code y_Model_readVar b_Model_readVar 4 (some .int) ∈ lw_good := lg_in (tin_11 _ (List.mem_of_getElem? (i := 27) rfl)) rfl
abbrev w_Model_readVar : List Cond := Cond.code y_Model_readVar b_Model_readVar 4 (some .int) :: lw_good
theorem im_Model_readVar : Cond.instanceMethod y_Model_readVar ∈ lw_good := lg_right (i := 2426) (by decide +kernel) rfl
theorem se_Model_readVar : Cond.selects R_Model y_Model_readVar y_Model_readVar ∈ lw_good := lg_left (i := 140) (by decide +kernel) rfl
theorem d_Model_readVar_0 : decode b_Model_readVar 0 = .ok (.aload_n 0, 1) := by decide +kernel
theorem d_Model_readVar_1 : decode b_Model_readVar 1 = .ok (.bipush 20, 2) := by decide +kernel
theorem d_Model_readVar_3 : decode b_Model_readVar 3 = .ok (.iload_n 1, 1) := by decide +kernel
theorem d_Model_readVar_4 : decode b_Model_readVar 4 = .ok (.invokevirtual 478, 3) := by decide +kernel
theorem d_Model_readVar_7 : decode b_Model_readVar 7 = .ok (.istore_n 3, 1) := by decide +kernel
theorem d_Model_readVar_8 : decode b_Model_readVar 8 = .ok (.aload_n 0, 1) := by decide +kernel
theorem d_Model_readVar_9 : decode b_Model_readVar 9 = .ok (.getfield 141, 3) := by decide +kernel
theorem d_Model_readVar_12 : decode b_Model_readVar 12 = .ok (.iload_n 3, 1) := by decide +kernel
theorem d_Model_readVar_13 : decode b_Model_readVar 13 = .ok (.aload_n 0, 1) := by decide +kernel
theorem d_Model_readVar_14 : decode b_Model_readVar 14 = .ok (.getfield 349, 3) := by decide +kernel
theorem d_Model_readVar_17 : decode b_Model_readVar 17 = .ok (.iastore, 1) := by decide +kernel
theorem d_Model_readVar_18 : decode b_Model_readVar 18 = .ok (.aload_n 0, 1) := by decide +kernel
theorem d_Model_readVar_19 : decode b_Model_readVar 19 = .ok (.getfield 138, 3) := by decide +kernel
theorem fl_Model_138 : Cond.fieldLink R_Model 138 "PointerHouseModel" "name" "[J" ∈ lw_good := lg_right (i := 1875) (by decide +kernel) rfl
theorem d_Model_readVar_22 : decode b_Model_readVar 22 = .ok (.iload_n 3, 1) := by decide +kernel
theorem d_Model_readVar_23 : decode b_Model_readVar 23 = .ok (.aload_n 0, 1) := by decide +kernel
theorem d_Model_readVar_24 : decode b_Model_readVar 24 = .ok (.getfield 365, 3) := by decide +kernel
theorem d_Model_readVar_27 : decode b_Model_readVar 27 = .ok (.lastore, 1) := by decide +kernel
theorem d_Model_readVar_28 : decode b_Model_readVar 28 = .ok (.aload_n 0, 1) := by decide +kernel
theorem d_Model_readVar_29 : decode b_Model_readVar 29 = .ok (.getfield 352, 3) := by decide +kernel
theorem d_Model_readVar_32 : decode b_Model_readVar 32 = .ok (.iconst 1, 1) := by decide +kernel
theorem d_Model_readVar_33 : decode b_Model_readVar 33 = .ok (.if_icmp .ne 16, 3) := by decide +kernel
theorem d_Model_readVar_36 : decode b_Model_readVar 36 = .ok (.aload_n 0, 1) := by decide +kernel
theorem d_Model_readVar_37 : decode b_Model_readVar 37 = .ok (.getfield 436, 3) := by decide +kernel
theorem d_Model_readVar_40 : decode b_Model_readVar 40 = .ok (.bipush 20, 2) := by decide +kernel
theorem d_Model_readVar_42 : decode b_Model_readVar 42 = .ok (.if_icmp .ne 7, 3) := by decide +kernel
theorem d_Model_readVar_45 : decode b_Model_readVar 45 = .ok (.aload_n 0, 1) := by decide +kernel
theorem d_Model_readVar_46 : decode b_Model_readVar 46 = .ok (.invokevirtual 406, 3) := by decide +kernel
theorem d_Model_readVar_49 : decode b_Model_readVar 49 = .ok (.aload_n 0, 1) := by decide +kernel
theorem d_Model_readVar_50 : decode b_Model_readVar 50 = .ok (.invokevirtual 454, 3) := by decide +kernel
theorem d_Model_readVar_53 : decode b_Model_readVar 53 = .ok (.pop2, 1) := by decide +kernel
theorem d_Model_readVar_54 : decode b_Model_readVar 54 = .ok (.aload_n 0, 1) := by decide +kernel
theorem d_Model_readVar_55 : decode b_Model_readVar 55 = .ok (.getfield 153, 3) := by decide +kernel
theorem fl_Model_153 : Cond.fieldLink R_Model 153 "PointerHouseModel" "found" "[I" ∈ lw_good := lg_right (i := 1880) (by decide +kernel) rfl
theorem d_Model_readVar_58 : decode b_Model_readVar 58 = .ok (.iload_n 3, 1) := by decide +kernel
theorem d_Model_readVar_59 : decode b_Model_readVar 59 = .ok (.aload_n 0, 1) := by decide +kernel
theorem d_Model_readVar_60 : decode b_Model_readVar 60 = .ok (.getfield 436, 3) := by decide +kernel
theorem d_Model_readVar_63 : decode b_Model_readVar 63 = .ok (.iastore, 1) := by decide +kernel
theorem d_Model_readVar_64 : decode b_Model_readVar 64 = .ok (.aload_n 0, 1) := by decide +kernel
theorem d_Model_readVar_65 : decode b_Model_readVar 65 = .ok (.dup, 1) := by decide +kernel
theorem d_Model_readVar_66 : decode b_Model_readVar 66 = .ok (.getfield 436, 3) := by decide +kernel
theorem d_Model_readVar_69 : decode b_Model_readVar 69 = .ok (.iconst 1, 1) := by decide +kernel
theorem d_Model_readVar_70 : decode b_Model_readVar 70 = .ok (.iadd, 1) := by decide +kernel
theorem d_Model_readVar_71 : decode b_Model_readVar 71 = .ok (.putfield 436, 3) := by decide +kernel
theorem d_Model_readVar_74 : decode b_Model_readVar 74 = .ok (.aload_n 0, 1) := by decide +kernel
theorem d_Model_readVar_75 : decode b_Model_readVar 75 = .ok (.bipush 58, 2) := by decide +kernel
theorem d_Model_readVar_77 : decode b_Model_readVar 77 = .ok (.invokevirtual 448, 3) := by decide +kernel
theorem d_Model_readVar_80 : decode b_Model_readVar 80 = .ok (.aload_n 0, 1) := by decide +kernel
theorem d_Model_readVar_81 : decode b_Model_readVar 81 = .ok (.getfield 129, 3) := by decide +kernel
theorem d_Model_readVar_84 : decode b_Model_readVar 84 = .ok (.iload_n 3, 1) := by decide +kernel
theorem d_Model_readVar_85 : decode b_Model_readVar 85 = .ok (.aload_n 0, 1) := by decide +kernel
theorem d_Model_readVar_86 : decode b_Model_readVar 86 = .ok (.iconst 1, 1) := by decide +kernel
theorem d_Model_readVar_87 : decode b_Model_readVar 87 = .ok (.invokevirtual 458, 3) := by decide +kernel
theorem d_Model_readVar_90 : decode b_Model_readVar 90 = .ok (.iastore, 1) := by decide +kernel
theorem d_Model_readVar_91 : decode b_Model_readVar 91 = .ok (.aload_n 0, 1) := by decide +kernel
theorem d_Model_readVar_92 : decode b_Model_readVar 92 = .ok (.bipush 61, 2) := by decide +kernel
theorem d_Model_readVar_94 : decode b_Model_readVar 94 = .ok (.invokevirtual 403, 3) := by decide +kernel
theorem d_Model_readVar_97 : decode b_Model_readVar 97 = .ok (.ifCond .eq 16, 3) := by decide +kernel
theorem d_Model_readVar_100 : decode b_Model_readVar 100 = .ok (.aload_n 0, 1) := by decide +kernel
theorem d_Model_readVar_101 : decode b_Model_readVar 101 = .ok (.getfield 126, 3) := by decide +kernel
theorem d_Model_readVar_104 : decode b_Model_readVar 104 = .ok (.iload_n 3, 1) := by decide +kernel
theorem d_Model_readVar_105 : decode b_Model_readVar 105 = .ok (.aload_n 0, 1) := by decide +kernel
theorem d_Model_readVar_106 : decode b_Model_readVar 106 = .ok (.iload_n 2, 1) := by decide +kernel
theorem d_Model_readVar_107 : decode b_Model_readVar 107 = .ok (.iconst 1, 1) := by decide +kernel
theorem d_Model_readVar_108 : decode b_Model_readVar 108 = .ok (.iadd, 1) := by decide +kernel
theorem d_Model_readVar_109 : decode b_Model_readVar 109 = .ok (.invokevirtual 494, 3) := by decide +kernel
theorem d_Model_readVar_112 : decode b_Model_readVar 112 = .ok (.iastore, 1) := by decide +kernel
theorem d_Model_readVar_113 : decode b_Model_readVar 113 = .ok (.aload_n 0, 1) := by decide +kernel
theorem d_Model_readVar_114 : decode b_Model_readVar 114 = .ok (.bipush 59, 2) := by decide +kernel
theorem d_Model_readVar_116 : decode b_Model_readVar 116 = .ok (.invokevirtual 448, 3) := by decide +kernel
theorem d_Model_readVar_119 : decode b_Model_readVar 119 = .ok (.iload_n 3, 1) := by decide +kernel
theorem d_Model_readVar_120 : decode b_Model_readVar 120 = .ok (.ireturn, 1) := by decide +kernel
abbrev b_Model_operator : ByteArray := prog_14_method_36_code
abbrev y_Model_operator : MethodName := ⟨R_Model, "operator", "()I"⟩
theorem co_Model_operator : Cond.code y_Model_operator b_Model_operator 1 (some .int) ∈ lw_good := lg_in (tin_11 _ (List.mem_of_getElem? (i := 64) rfl)) rfl
abbrev w_Model_operator : List Cond := Cond.code y_Model_operator b_Model_operator 1 (some .int) :: lw_good
theorem im_Model_operator : Cond.instanceMethod y_Model_operator ∈ lw_good := lg_right (i := 2463) (by decide +kernel) rfl
theorem se_Model_operator : Cond.selects R_Model y_Model_operator y_Model_operator ∈ lw_good := lg_left (i := 147) (by decide +kernel) rfl
theorem d_Model_operator_0 : decode b_Model_operator 0 = .ok (.aload_n 0, 1) := by decide +kernel
theorem d_Model_operator_1 : decode b_Model_operator 1 = .ok (.getfield 352, 3) := by decide +kernel
theorem d_Model_operator_4 : decode b_Model_operator 4 = .ok (.bipush 6, 2) := by decide +kernel
theorem d_Model_operator_6 : decode b_Model_operator 6 = .ok (.if_icmp .ne 10, 3) := by decide +kernel
theorem d_Model_operator_9 : decode b_Model_operator 9 = .ok (.aload_n 0, 1) := by decide +kernel
theorem d_Model_operator_10 : decode b_Model_operator 10 = .ok (.invokevirtual 385, 3) := by decide +kernel
theorem d_Model_operator_13 : decode b_Model_operator 13 = .ok (.ifCond .eq 5, 3) := by decide +kernel
theorem d_Model_operator_16 : decode b_Model_operator 16 = .ok (.iconst (-1), 1) := by decide +kernel
theorem d_Model_operator_17 : decode b_Model_operator 17 = .ok (.ireturn, 1) := by decide +kernel
theorem d_Model_operator_18 : decode b_Model_operator 18 = .ok (.aload_n 0, 1) := by decide +kernel
theorem d_Model_operator_19 : decode b_Model_operator 19 = .ok (.getfield 369, 3) := by decide +kernel
theorem d_Model_operator_22 : decode b_Model_operator 22 = .ok (.bipush 43, 2) := by decide +kernel
theorem d_Model_operator_24 : decode b_Model_operator 24 = .ok (.if_icmp .eq 58, 3) := by decide +kernel
theorem d_Model_operator_27 : decode b_Model_operator 27 = .ok (.aload_n 0, 1) := by decide +kernel
theorem d_Model_operator_28 : decode b_Model_operator 28 = .ok (.getfield 369, 3) := by decide +kernel
theorem d_Model_operator_31 : decode b_Model_operator 31 = .ok (.bipush 45, 2) := by decide +kernel
theorem d_Model_operator_33 : decode b_Model_operator 33 = .ok (.if_icmp .eq 49, 3) := by decide +kernel
theorem d_Model_operator_36 : decode b_Model_operator 36 = .ok (.aload_n 0, 1) := by decide +kernel
theorem d_Model_operator_37 : decode b_Model_operator 37 = .ok (.getfield 369, 3) := by decide +kernel
theorem d_Model_operator_40 : decode b_Model_operator 40 = .ok (.bipush 42, 2) := by decide +kernel
theorem d_Model_operator_42 : decode b_Model_operator 42 = .ok (.if_icmp .eq 40, 3) := by decide +kernel
theorem d_Model_operator_45 : decode b_Model_operator 45 = .ok (.aload_n 0, 1) := by decide +kernel
theorem d_Model_operator_46 : decode b_Model_operator 46 = .ok (.getfield 369, 3) := by decide +kernel
theorem d_Model_operator_49 : decode b_Model_operator 49 = .ok (.bipush 47, 2) := by decide +kernel
theorem d_Model_operator_51 : decode b_Model_operator 51 = .ok (.if_icmp .eq 31, 3) := by decide +kernel
theorem d_Model_operator_54 : decode b_Model_operator 54 = .ok (.aload_n 0, 1) := by decide +kernel
theorem d_Model_operator_55 : decode b_Model_operator 55 = .ok (.getfield 369, 3) := by decide +kernel
theorem d_Model_operator_58 : decode b_Model_operator 58 = .ok (.bipush 37, 2) := by decide +kernel
theorem d_Model_operator_60 : decode b_Model_operator 60 = .ok (.if_icmp .eq 22, 3) := by decide +kernel
theorem d_Model_operator_63 : decode b_Model_operator 63 = .ok (.aload_n 0, 1) := by decide +kernel
theorem d_Model_operator_64 : decode b_Model_operator 64 = .ok (.getfield 369, 3) := by decide +kernel
theorem d_Model_operator_67 : decode b_Model_operator 67 = .ok (.sipush 256, 3) := by decide +kernel
theorem d_Model_operator_70 : decode b_Model_operator 70 = .ok (.if_icmp .eq 12, 3) := by decide +kernel
theorem d_Model_operator_73 : decode b_Model_operator 73 = .ok (.aload_n 0, 1) := by decide +kernel
theorem d_Model_operator_74 : decode b_Model_operator 74 = .ok (.getfield 369, 3) := by decide +kernel
theorem d_Model_operator_77 : decode b_Model_operator 77 = .ok (.bipush 60, 2) := by decide +kernel
theorem d_Model_operator_79 : decode b_Model_operator 79 = .ok (.if_icmp .ne 10, 3) := by decide +kernel
theorem d_Model_operator_82 : decode b_Model_operator 82 = .ok (.aload_n 0, 1) := by decide +kernel
theorem d_Model_operator_83 : decode b_Model_operator 83 = .ok (.getfield 369, 3) := by decide +kernel
theorem d_Model_operator_86 : decode b_Model_operator 86 = .ok (.goto 4, 3) := by decide +kernel
theorem d_Model_operator_89 : decode b_Model_operator 89 = .ok (.iconst (-1), 1) := by decide +kernel
theorem d_Model_operator_90 : decode b_Model_operator 90 = .ok (.ireturn, 1) := by decide +kernel
abbrev b_Model_term : ByteArray := prog_14_method_38_code
abbrev y_Model_term : MethodName := ⟨R_Model, "term", "(I)I"⟩
theorem co_Model_term : Cond.code y_Model_term b_Model_term 4 (some .int) ∈ lw_good := lg_in (tin_11 _ (List.mem_of_getElem? (i := 35) rfl)) rfl
abbrev w_Model_term : List Cond := Cond.code y_Model_term b_Model_term 4 (some .int) :: lw_good
theorem im_Model_term : Cond.instanceMethod y_Model_term ∈ lw_good := lg_right (i := 2434) (by decide +kernel) rfl
theorem se_Model_term : Cond.selects R_Model y_Model_term y_Model_term ∈ lw_good := lg_left (i := 142) (by decide +kernel) rfl
theorem d_Model_term_0 : decode b_Model_term 0 = .ok (.aload_n 0, 1) := by decide +kernel
theorem d_Model_term_1 : decode b_Model_term 1 = .ok (.iload_n 1, 1) := by decide +kernel
theorem d_Model_term_2 : decode b_Model_term 2 = .ok (.invokevirtual 519, 3) := by decide +kernel
theorem ml_Model_519 : Cond.methodLink R_Model 519 ⟨"PointerHouseModel", "primary", "(I)I"⟩ ∈ lw_good := lg_right (i := 2436) (by decide +kernel) rfl
theorem d_Model_term_5 : decode b_Model_term 5 = .ok (.istore_n 2, 1) := by decide +kernel
theorem d_Model_term_6 : decode b_Model_term 6 = .ok (.aload_n 0, 1) := by decide +kernel
theorem d_Model_term_7 : decode b_Model_term 7 = .ok (.invokevirtual 385, 3) := by decide +kernel
theorem d_Model_term_10 : decode b_Model_term 10 = .ok (.ifCond .ne 177, 3) := by decide +kernel
theorem d_Model_term_13 : decode b_Model_term 13 = .ok (.aload_n 0, 1) := by decide +kernel
theorem d_Model_term_14 : decode b_Model_term 14 = .ok (.bipush 46, 2) := by decide +kernel
theorem d_Model_term_16 : decode b_Model_term 16 = .ok (.invokevirtual 403, 3) := by decide +kernel
theorem d_Model_term_19 : decode b_Model_term 19 = .ok (.ifCond .eq 39, 3) := by decide +kernel
theorem d_Model_term_22 : decode b_Model_term 22 = .ok (.aload_n 0, 1) := by decide +kernel
theorem d_Model_term_23 : decode b_Model_term 23 = .ok (.bipush 14, 2) := by decide +kernel
theorem d_Model_term_25 : decode b_Model_term 25 = .ok (.aload_n 0, 1) := by decide +kernel
theorem d_Model_term_26 : decode b_Model_term 26 = .ok (.getfield 123, 3) := by decide +kernel
theorem d_Model_term_29 : decode b_Model_term 29 = .ok (.iload_n 2, 1) := by decide +kernel
theorem d_Model_term_30 : decode b_Model_term 30 = .ok (.iaload, 1) := by decide +kernel
theorem d_Model_term_31 : decode b_Model_term 31 = .ok (.invokevirtual 478, 3) := by decide +kernel
theorem d_Model_term_34 : decode b_Model_term 34 = .ok (.istore_n 3, 1) := by decide +kernel
theorem d_Model_term_35 : decode b_Model_term 35 = .ok (.aload_n 0, 1) := by decide +kernel
theorem d_Model_term_36 : decode b_Model_term 36 = .ok (.getfield 141, 3) := by decide +kernel
theorem d_Model_term_39 : decode b_Model_term 39 = .ok (.iload_n 3, 1) := by decide +kernel
theorem d_Model_term_40 : decode b_Model_term 40 = .ok (.aload_n 0, 1) := by decide +kernel
theorem d_Model_term_41 : decode b_Model_term 41 = .ok (.getfield 349, 3) := by decide +kernel
theorem d_Model_term_44 : decode b_Model_term 44 = .ok (.iastore, 1) := by decide +kernel
theorem d_Model_term_45 : decode b_Model_term 45 = .ok (.aload_n 0, 1) := by decide +kernel
theorem d_Model_term_46 : decode b_Model_term 46 = .ok (.getfield 138, 3) := by decide +kernel
theorem d_Model_term_49 : decode b_Model_term 49 = .ok (.iload_n 3, 1) := by decide +kernel
theorem d_Model_term_50 : decode b_Model_term 50 = .ok (.aload_n 0, 1) := by decide +kernel
theorem d_Model_term_51 : decode b_Model_term 51 = .ok (.invokevirtual 454, 3) := by decide +kernel
theorem d_Model_term_54 : decode b_Model_term 54 = .ok (.lastore, 1) := by decide +kernel
theorem d_Model_term_55 : decode b_Model_term 55 = .ok (.goto 120, 3) := by decide +kernel
theorem d_Model_term_58 : decode b_Model_term 58 = .ok (.aload_n 0, 1) := by decide +kernel
theorem d_Model_term_59 : decode b_Model_term 59 = .ok (.bipush 91, 2) := by decide +kernel
theorem d_Model_term_61 : decode b_Model_term 61 = .ok (.invokevirtual 403, 3) := by decide +kernel
theorem d_Model_term_64 : decode b_Model_term 64 = .ok (.ifCond .eq 38, 3) := by decide +kernel
theorem d_Model_term_67 : decode b_Model_term 67 = .ok (.aload_n 0, 1) := by decide +kernel
theorem d_Model_term_68 : decode b_Model_term 68 = .ok (.bipush 15, 2) := by decide +kernel
theorem d_Model_term_70 : decode b_Model_term 70 = .ok (.aload_n 0, 1) := by decide +kernel
theorem d_Model_term_71 : decode b_Model_term 71 = .ok (.getfield 123, 3) := by decide +kernel
theorem d_Model_term_74 : decode b_Model_term 74 = .ok (.iload_n 2, 1) := by decide +kernel
theorem d_Model_term_75 : decode b_Model_term 75 = .ok (.iaload, 1) := by decide +kernel
theorem d_Model_term_76 : decode b_Model_term 76 = .ok (.invokevirtual 478, 3) := by decide +kernel
theorem d_Model_term_79 : decode b_Model_term 79 = .ok (.istore_n 3, 1) := by decide +kernel
theorem d_Model_term_80 : decode b_Model_term 80 = .ok (.aload_n 0, 1) := by decide +kernel
theorem d_Model_term_81 : decode b_Model_term 81 = .ok (.getfield 129, 3) := by decide +kernel
theorem d_Model_term_84 : decode b_Model_term 84 = .ok (.iload_n 3, 1) := by decide +kernel
theorem d_Model_term_85 : decode b_Model_term 85 = .ok (.aload_n 0, 1) := by decide +kernel
theorem d_Model_term_86 : decode b_Model_term 86 = .ok (.iload_n 1, 1) := by decide +kernel
theorem d_Model_term_87 : decode b_Model_term 87 = .ok (.iconst 1, 1) := by decide +kernel
theorem d_Model_term_88 : decode b_Model_term 88 = .ok (.iadd, 1) := by decide +kernel
theorem d_Model_term_89 : decode b_Model_term 89 = .ok (.invokevirtual 494, 3) := by decide +kernel
theorem d_Model_term_92 : decode b_Model_term 92 = .ok (.iastore, 1) := by decide +kernel
theorem d_Model_term_93 : decode b_Model_term 93 = .ok (.aload_n 0, 1) := by decide +kernel
theorem d_Model_term_94 : decode b_Model_term 94 = .ok (.bipush 93, 2) := by decide +kernel
theorem d_Model_term_96 : decode b_Model_term 96 = .ok (.invokevirtual 448, 3) := by decide +kernel
theorem d_Model_term_99 : decode b_Model_term 99 = .ok (.goto 76, 3) := by decide +kernel
theorem d_Model_term_102 : decode b_Model_term 102 = .ok (.aload_n 0, 1) := by decide +kernel
theorem d_Model_term_103 : decode b_Model_term 103 = .ok (.bipush 94, 2) := by decide +kernel
theorem d_Model_term_105 : decode b_Model_term 105 = .ok (.invokevirtual 403, 3) := by decide +kernel
theorem d_Model_term_108 : decode b_Model_term 108 = .ok (.ifCond .eq 19, 3) := by decide +kernel
theorem d_Model_term_111 : decode b_Model_term 111 = .ok (.aload_n 0, 1) := by decide +kernel
theorem d_Model_term_112 : decode b_Model_term 112 = .ok (.bipush 16, 2) := by decide +kernel
theorem d_Model_term_114 : decode b_Model_term 114 = .ok (.aload_n 0, 1) := by decide +kernel
theorem d_Model_term_115 : decode b_Model_term 115 = .ok (.getfield 123, 3) := by decide +kernel
theorem d_Model_term_118 : decode b_Model_term 118 = .ok (.iload_n 2, 1) := by decide +kernel
theorem d_Model_term_119 : decode b_Model_term 119 = .ok (.iaload, 1) := by decide +kernel
theorem d_Model_term_120 : decode b_Model_term 120 = .ok (.invokevirtual 478, 3) := by decide +kernel
theorem d_Model_term_123 : decode b_Model_term 123 = .ok (.istore_n 3, 1) := by decide +kernel
theorem d_Model_term_124 : decode b_Model_term 124 = .ok (.goto 51, 3) := by decide +kernel
theorem d_Model_term_127 : decode b_Model_term 127 = .ok (.aload_n 0, 1) := by decide +kernel
theorem d_Model_term_128 : decode b_Model_term 128 = .ok (.ldc_w 522, 3) := by decide +kernel
theorem d_Model_term_131 : decode b_Model_term 131 = .ok (.invokevirtual 462, 3) := by decide +kernel
theorem d_Model_term_134 : decode b_Model_term 134 = .ok (.ifCond .eq 39, 3) := by decide +kernel
theorem d_Model_term_137 : decode b_Model_term 137 = .ok (.aload_n 0, 1) := by decide +kernel
theorem d_Model_term_138 : decode b_Model_term 138 = .ok (.bipush 17, 2) := by decide +kernel
theorem d_Model_term_140 : decode b_Model_term 140 = .ok (.aload_n 0, 1) := by decide +kernel
theorem d_Model_term_141 : decode b_Model_term 141 = .ok (.getfield 123, 3) := by decide +kernel
theorem d_Model_term_144 : decode b_Model_term 144 = .ok (.iload_n 2, 1) := by decide +kernel
theorem d_Model_term_145 : decode b_Model_term 145 = .ok (.iaload, 1) := by decide +kernel
theorem d_Model_term_146 : decode b_Model_term 146 = .ok (.invokevirtual 478, 3) := by decide +kernel
theorem d_Model_term_149 : decode b_Model_term 149 = .ok (.istore_n 3, 1) := by decide +kernel
theorem d_Model_term_150 : decode b_Model_term 150 = .ok (.aload_n 0, 1) := by decide +kernel
theorem d_Model_term_151 : decode b_Model_term 151 = .ok (.getfield 141, 3) := by decide +kernel
theorem d_Model_term_154 : decode b_Model_term 154 = .ok (.iload_n 3, 1) := by decide +kernel
theorem d_Model_term_155 : decode b_Model_term 155 = .ok (.aload_n 0, 1) := by decide +kernel
theorem d_Model_term_156 : decode b_Model_term 156 = .ok (.getfield 349, 3) := by decide +kernel
theorem d_Model_term_159 : decode b_Model_term 159 = .ok (.iastore, 1) := by decide +kernel
theorem d_Model_term_160 : decode b_Model_term 160 = .ok (.aload_n 0, 1) := by decide +kernel
theorem d_Model_term_161 : decode b_Model_term 161 = .ok (.getfield 138, 3) := by decide +kernel
theorem d_Model_term_164 : decode b_Model_term 164 = .ok (.iload_n 3, 1) := by decide +kernel
theorem d_Model_term_165 : decode b_Model_term 165 = .ok (.aload_n 0, 1) := by decide +kernel
theorem d_Model_term_166 : decode b_Model_term 166 = .ok (.invokevirtual 454, 3) := by decide +kernel
theorem d_Model_term_169 : decode b_Model_term 169 = .ok (.lastore, 1) := by decide +kernel
theorem d_Model_term_170 : decode b_Model_term 170 = .ok (.goto 5, 3) := by decide +kernel
theorem d_Model_term_173 : decode b_Model_term 173 = .ok (.iload_n 2, 1) := by decide +kernel
theorem d_Model_term_174 : decode b_Model_term 174 = .ok (.ireturn, 1) := by decide +kernel
theorem d_Model_term_175 : decode b_Model_term 175 = .ok (.aload_n 0, 1) := by decide +kernel
theorem d_Model_term_176 : decode b_Model_term 176 = .ok (.getfield 126, 3) := by decide +kernel
theorem d_Model_term_179 : decode b_Model_term 179 = .ok (.iload_n 3, 1) := by decide +kernel
theorem d_Model_term_180 : decode b_Model_term 180 = .ok (.iload_n 2, 1) := by decide +kernel
theorem d_Model_term_181 : decode b_Model_term 181 = .ok (.iastore, 1) := by decide +kernel
theorem d_Model_term_182 : decode b_Model_term 182 = .ok (.iload_n 3, 1) := by decide +kernel
theorem d_Model_term_183 : decode b_Model_term 183 = .ok (.istore_n 2, 1) := by decide +kernel
theorem d_Model_term_184 : decode b_Model_term 184 = .ok (.goto (-178), 3) := by decide +kernel
theorem d_Model_term_187 : decode b_Model_term 187 = .ok (.iload_n 2, 1) := by decide +kernel
theorem d_Model_term_188 : decode b_Model_term 188 = .ok (.ireturn, 1) := by decide +kernel
abbrev b_Model_primary : ByteArray := prog_14_method_40_code
abbrev y_Model_primary : MethodName := ⟨R_Model, "primary", "(I)I"⟩
theorem co_Model_primary : Cond.code y_Model_primary b_Model_primary 6 (some .int) ∈ lw_good := lg_in (tin_11 _ (List.mem_of_getElem? (i := 39) rfl)) rfl
abbrev w_Model_primary : List Cond := Cond.code y_Model_primary b_Model_primary 6 (some .int) :: lw_good
theorem im_Model_primary : Cond.instanceMethod y_Model_primary ∈ lw_good := lg_right (i := 2438) (by decide +kernel) rfl
theorem se_Model_primary : Cond.selects R_Model y_Model_primary y_Model_primary ∈ lw_good := lg_left (i := 143) (by decide +kernel) rfl
theorem d_Model_primary_0 : decode b_Model_primary 0 = .ok (.aload_n 0, 1) := by decide +kernel
theorem d_Model_primary_1 : decode b_Model_primary 1 = .ok (.getfield 349, 3) := by decide +kernel
theorem d_Model_primary_4 : decode b_Model_primary 4 = .ok (.istore_n 2, 1) := by decide +kernel
theorem d_Model_primary_5 : decode b_Model_primary 5 = .ok (.aload_n 0, 1) := by decide +kernel
theorem d_Model_primary_6 : decode b_Model_primary 6 = .ok (.invokevirtual 385, 3) := by decide +kernel
theorem d_Model_primary_9 : decode b_Model_primary 9 = .ok (.ifCond .eq 10, 3) := by decide +kernel
theorem d_Model_primary_12 : decode b_Model_primary 12 = .ok (.aload_n 0, 1) := by decide +kernel
theorem d_Model_primary_13 : decode b_Model_primary 13 = .ok (.iconst 0, 1) := by decide +kernel
theorem d_Model_primary_14 : decode b_Model_primary 14 = .ok (.iload_n 2, 1) := by decide +kernel
theorem d_Model_primary_15 : decode b_Model_primary 15 = .ok (.invokevirtual 478, 3) := by decide +kernel
theorem d_Model_primary_18 : decode b_Model_primary 18 = .ok (.ireturn, 1) := by decide +kernel
theorem d_Model_primary_19 : decode b_Model_primary 19 = .ok (.aload_n 0, 1) := by decide +kernel
theorem d_Model_primary_20 : decode b_Model_primary 20 = .ok (.bipush 40, 2) := by decide +kernel
theorem d_Model_primary_22 : decode b_Model_primary 22 = .ok (.invokevirtual 403, 3) := by decide +kernel
theorem d_Model_primary_25 : decode b_Model_primary 25 = .ok (.ifCond .eq 19, 3) := by decide +kernel
theorem d_Model_primary_28 : decode b_Model_primary 28 = .ok (.aload_n 0, 1) := by decide +kernel
theorem d_Model_primary_29 : decode b_Model_primary 29 = .ok (.iload_n 1, 1) := by decide +kernel
theorem d_Model_primary_30 : decode b_Model_primary 30 = .ok (.iconst 1, 1) := by decide +kernel
theorem d_Model_primary_31 : decode b_Model_primary 31 = .ok (.iadd, 1) := by decide +kernel
theorem d_Model_primary_32 : decode b_Model_primary 32 = .ok (.invokevirtual 494, 3) := by decide +kernel
theorem d_Model_primary_35 : decode b_Model_primary 35 = .ok (.istore_n 3, 1) := by decide +kernel
theorem d_Model_primary_36 : decode b_Model_primary 36 = .ok (.aload_n 0, 1) := by decide +kernel
theorem d_Model_primary_37 : decode b_Model_primary 37 = .ok (.bipush 41, 2) := by decide +kernel
theorem d_Model_primary_39 : decode b_Model_primary 39 = .ok (.invokevirtual 448, 3) := by decide +kernel
theorem d_Model_primary_42 : decode b_Model_primary 42 = .ok (.iload_n 3, 1) := by decide +kernel
theorem d_Model_primary_43 : decode b_Model_primary 43 = .ok (.ireturn, 1) := by decide +kernel
theorem d_Model_primary_44 : decode b_Model_primary 44 = .ok (.aload_n 0, 1) := by decide +kernel
theorem d_Model_primary_45 : decode b_Model_primary 45 = .ok (.getfield 352, 3) := by decide +kernel
theorem d_Model_primary_48 : decode b_Model_primary 48 = .ok (.iconst 5, 1) := by decide +kernel
theorem d_Model_primary_49 : decode b_Model_primary 49 = .ok (.if_icmp .ne 26, 3) := by decide +kernel
theorem d_Model_primary_52 : decode b_Model_primary 52 = .ok (.aload_n 0, 1) := by decide +kernel
theorem d_Model_primary_53 : decode b_Model_primary 53 = .ok (.iconst 0, 1) := by decide +kernel
theorem d_Model_primary_54 : decode b_Model_primary 54 = .ok (.iload_n 2, 1) := by decide +kernel
theorem d_Model_primary_55 : decode b_Model_primary 55 = .ok (.invokevirtual 478, 3) := by decide +kernel
theorem d_Model_primary_58 : decode b_Model_primary 58 = .ok (.istore_n 3, 1) := by decide +kernel
theorem d_Model_primary_59 : decode b_Model_primary 59 = .ok (.aload_n 0, 1) := by decide +kernel
theorem d_Model_primary_60 : decode b_Model_primary 60 = .ok (.getfield 126, 3) := by decide +kernel
theorem d_Model_primary_63 : decode b_Model_primary 63 = .ok (.iload_n 3, 1) := by decide +kernel
theorem d_Model_primary_64 : decode b_Model_primary 64 = .ok (.aload_n 0, 1) := by decide +kernel
theorem d_Model_primary_65 : decode b_Model_primary 65 = .ok (.getfield 369, 3) := by decide +kernel
theorem d_Model_primary_68 : decode b_Model_primary 68 = .ok (.iastore, 1) := by decide +kernel
theorem d_Model_primary_69 : decode b_Model_primary 69 = .ok (.aload_n 0, 1) := by decide +kernel
theorem d_Model_primary_70 : decode b_Model_primary 70 = .ok (.invokevirtual 396, 3) := by decide +kernel
theorem d_Model_primary_73 : decode b_Model_primary 73 = .ok (.iload_n 3, 1) := by decide +kernel
theorem d_Model_primary_74 : decode b_Model_primary 74 = .ok (.ireturn, 1) := by decide +kernel
theorem d_Model_primary_75 : decode b_Model_primary 75 = .ok (.aload_n 0, 1) := by decide +kernel
theorem d_Model_primary_76 : decode b_Model_primary 76 = .ok (.getfield 352, 3) := by decide +kernel
theorem d_Model_primary_79 : decode b_Model_primary 79 = .ok (.iconst 1, 1) := by decide +kernel
theorem d_Model_primary_80 : decode b_Model_primary 80 = .ok (.if_icmp .ne 10, 3) := by decide +kernel
theorem d_Model_primary_83 : decode b_Model_primary 83 = .ok (.aload_n 0, 1) := by decide +kernel
theorem d_Model_primary_84 : decode b_Model_primary 84 = .ok (.iload_n 2, 1) := by decide +kernel
theorem d_Model_primary_85 : decode b_Model_primary 85 = .ok (.iload_n 1, 1) := by decide +kernel
theorem d_Model_primary_86 : decode b_Model_primary 86 = .ok (.invokevirtual 524, 3) := by decide +kernel
theorem ml_Model_524 : Cond.methodLink R_Model 524 ⟨"PointerHouseModel", "readNamed", "(II)I"⟩ ∈ lw_good := lg_right (i := 2440) (by decide +kernel) rfl
theorem d_Model_primary_89 : decode b_Model_primary 89 = .ok (.ireturn, 1) := by decide +kernel
theorem d_Model_primary_90 : decode b_Model_primary 90 = .ok (.aload_n 0, 1) := by decide +kernel
theorem d_Model_primary_91 : decode b_Model_primary 91 = .ok (.ldc_w 527, 3) := by decide +kernel
theorem d_Model_primary_94 : decode b_Model_primary 94 = .ok (.invokevirtual 462, 3) := by decide +kernel
theorem d_Model_primary_97 : decode b_Model_primary 97 = .ok (.ifCond .eq 10, 3) := by decide +kernel
theorem d_Model_primary_100 : decode b_Model_primary 100 = .ok (.aload_n 0, 1) := by decide +kernel
theorem d_Model_primary_101 : decode b_Model_primary 101 = .ok (.iconst 1, 1) := by decide +kernel
theorem d_Model_primary_102 : decode b_Model_primary 102 = .ok (.iload_n 2, 1) := by decide +kernel
theorem d_Model_primary_103 : decode b_Model_primary 103 = .ok (.invokevirtual 478, 3) := by decide +kernel
theorem d_Model_primary_106 : decode b_Model_primary 106 = .ok (.ireturn, 1) := by decide +kernel
theorem d_Model_primary_107 : decode b_Model_primary 107 = .ok (.aload_n 0, 1) := by decide +kernel
theorem d_Model_primary_108 : decode b_Model_primary 108 = .ok (.ldc_w 529, 3) := by decide +kernel
theorem d_Model_primary_111 : decode b_Model_primary 111 = .ok (.invokevirtual 462, 3) := by decide +kernel
theorem d_Model_primary_114 : decode b_Model_primary 114 = .ok (.ifCond .eq 10, 3) := by decide +kernel
theorem d_Model_primary_117 : decode b_Model_primary 117 = .ok (.aload_n 0, 1) := by decide +kernel
theorem d_Model_primary_118 : decode b_Model_primary 118 = .ok (.iconst 2, 1) := by decide +kernel
theorem d_Model_primary_119 : decode b_Model_primary 119 = .ok (.iload_n 2, 1) := by decide +kernel
theorem d_Model_primary_120 : decode b_Model_primary 120 = .ok (.invokevirtual 478, 3) := by decide +kernel
theorem d_Model_primary_123 : decode b_Model_primary 123 = .ok (.ireturn, 1) := by decide +kernel
theorem d_Model_primary_124 : decode b_Model_primary 124 = .ok (.aload_n 0, 1) := by decide +kernel
theorem d_Model_primary_125 : decode b_Model_primary 125 = .ok (.ldc_w 531, 3) := by decide +kernel
theorem d_Model_primary_128 : decode b_Model_primary 128 = .ok (.invokevirtual 462, 3) := by decide +kernel
theorem d_Model_primary_131 : decode b_Model_primary 131 = .ok (.ifCond .eq 10, 3) := by decide +kernel
theorem d_Model_primary_134 : decode b_Model_primary 134 = .ok (.aload_n 0, 1) := by decide +kernel
theorem d_Model_primary_135 : decode b_Model_primary 135 = .ok (.iconst 3, 1) := by decide +kernel
theorem d_Model_primary_136 : decode b_Model_primary 136 = .ok (.iload_n 2, 1) := by decide +kernel
theorem d_Model_primary_137 : decode b_Model_primary 137 = .ok (.invokevirtual 478, 3) := by decide +kernel
theorem d_Model_primary_140 : decode b_Model_primary 140 = .ok (.ireturn, 1) := by decide +kernel
theorem d_Model_primary_141 : decode b_Model_primary 141 = .ok (.aload_n 0, 1) := by decide +kernel
theorem d_Model_primary_142 : decode b_Model_primary 142 = .ok (.ldc_w 532, 3) := by decide +kernel
theorem d_Model_primary_145 : decode b_Model_primary 145 = .ok (.invokevirtual 462, 3) := by decide +kernel
theorem d_Model_primary_148 : decode b_Model_primary 148 = .ok (.ifCond .eq 10, 3) := by decide +kernel
theorem d_Model_primary_151 : decode b_Model_primary 151 = .ok (.aload_n 0, 1) := by decide +kernel
theorem d_Model_primary_152 : decode b_Model_primary 152 = .ok (.iload_n 2, 1) := by decide +kernel
theorem d_Model_primary_153 : decode b_Model_primary 153 = .ok (.iload_n 1, 1) := by decide +kernel
theorem d_Model_primary_154 : decode b_Model_primary 154 = .ok (.invokevirtual 534, 3) := by decide +kernel
theorem ml_Model_534 : Cond.methodLink R_Model 534 ⟨"PointerHouseModel", "readNew", "(II)I"⟩ ∈ lw_good := lg_right (i := 2452) (by decide +kernel) rfl
theorem d_Model_primary_157 : decode b_Model_primary 157 = .ok (.ireturn, 1) := by decide +kernel
theorem d_Model_primary_158 : decode b_Model_primary 158 = .ok (.aload_n 0, 1) := by decide +kernel
theorem d_Model_primary_159 : decode b_Model_primary 159 = .ok (.ldc_w 537, 3) := by decide +kernel
theorem d_Model_primary_162 : decode b_Model_primary 162 = .ok (.invokevirtual 399, 3) := by decide +kernel
theorem d_Model_primary_165 : decode b_Model_primary 165 = .ok (.istore_n 3, 1) := by decide +kernel
theorem d_Model_primary_166 : decode b_Model_primary 166 = .ok (.iload_n 3, 1) := by decide +kernel
theorem d_Model_primary_167 : decode b_Model_primary 167 = .ok (.ifCond .ne 13, 3) := by decide +kernel
theorem d_Model_primary_170 : decode b_Model_primary 170 = .ok (.aload_n 0, 1) := by decide +kernel
theorem d_Model_primary_171 : decode b_Model_primary 171 = .ok (.ldc_w 538, 3) := by decide +kernel
theorem d_Model_primary_174 : decode b_Model_primary 174 = .ok (.invokevirtual 399, 3) := by decide +kernel
theorem d_Model_primary_177 : decode b_Model_primary 177 = .ok (.ifCond .eq 89, 3) := by decide +kernel
theorem d_Model_primary_180 : decode b_Model_primary 180 = .ok (.aload_n 0, 1) := by decide +kernel
theorem d_Model_primary_181 : decode b_Model_primary 181 = .ok (.invokevirtual 396, 3) := by decide +kernel
theorem d_Model_primary_184 : decode b_Model_primary 184 = .ok (.aload_n 0, 1) := by decide +kernel
theorem d_Model_primary_185 : decode b_Model_primary 185 = .ok (.iload_n 3, 1) := by decide +kernel
theorem d_Model_primary_186 : decode b_Model_primary 186 = .ok (.ifCond .eq 8, 3) := by decide +kernel
theorem d_Model_primary_189 : decode b_Model_primary 189 = .ok (.bipush 9, 2) := by decide +kernel
theorem d_Model_primary_191 : decode b_Model_primary 191 = .ok (.goto 5, 3) := by decide +kernel
theorem d_Model_primary_194 : decode b_Model_primary 194 = .ok (.bipush 8, 2) := by decide +kernel
theorem d_Model_primary_196 : decode b_Model_primary 196 = .ok (.iload_n 2, 1) := by decide +kernel
theorem d_Model_primary_197 : decode b_Model_primary 197 = .ok (.invokevirtual 478, 3) := by decide +kernel
theorem d_Model_primary_200 : decode b_Model_primary 200 = .ok (.istore 4, 2) := by decide +kernel
theorem d_Model_primary_202 : decode b_Model_primary 202 = .ok (.aload_n 0, 1) := by decide +kernel
theorem d_Model_primary_203 : decode b_Model_primary 203 = .ok (.getfield 144, 3) := by decide +kernel
theorem d_Model_primary_206 : decode b_Model_primary 206 = .ok (.iload 4, 2) := by decide +kernel
theorem d_Model_primary_208 : decode b_Model_primary 208 = .ok (.aload_n 0, 1) := by decide +kernel
theorem d_Model_primary_209 : decode b_Model_primary 209 = .ok (.invokevirtual 465, 3) := by decide +kernel
theorem d_Model_primary_212 : decode b_Model_primary 212 = .ok (.iastore, 1) := by decide +kernel
theorem d_Model_primary_213 : decode b_Model_primary 213 = .ok (.aload_n 0, 1) := by decide +kernel
theorem d_Model_primary_214 : decode b_Model_primary 214 = .ok (.bipush 40, 2) := by decide +kernel
theorem d_Model_primary_216 : decode b_Model_primary 216 = .ok (.invokevirtual 448, 3) := by decide +kernel
theorem d_Model_primary_219 : decode b_Model_primary 219 = .ok (.aload_n 0, 1) := by decide +kernel
theorem d_Model_primary_220 : decode b_Model_primary 220 = .ok (.getfield 126, 3) := by decide +kernel
theorem d_Model_primary_223 : decode b_Model_primary 223 = .ok (.iload 4, 2) := by decide +kernel
theorem d_Model_primary_225 : decode b_Model_primary 225 = .ok (.aload_n 0, 1) := by decide +kernel
theorem d_Model_primary_226 : decode b_Model_primary 226 = .ok (.iload_n 1, 1) := by decide +kernel
theorem d_Model_primary_227 : decode b_Model_primary 227 = .ok (.iconst 1, 1) := by decide +kernel
theorem d_Model_primary_228 : decode b_Model_primary 228 = .ok (.iadd, 1) := by decide +kernel
theorem d_Model_primary_229 : decode b_Model_primary 229 = .ok (.invokevirtual 494, 3) := by decide +kernel
theorem d_Model_primary_232 : decode b_Model_primary 232 = .ok (.iastore, 1) := by decide +kernel
theorem d_Model_primary_233 : decode b_Model_primary 233 = .ok (.iload_n 3, 1) := by decide +kernel
theorem d_Model_primary_234 : decode b_Model_primary 234 = .ok (.ifCond .eq 23, 3) := by decide +kernel
theorem d_Model_primary_237 : decode b_Model_primary 237 = .ok (.aload_n 0, 1) := by decide +kernel
theorem d_Model_primary_238 : decode b_Model_primary 238 = .ok (.bipush 44, 2) := by decide +kernel
theorem d_Model_primary_240 : decode b_Model_primary 240 = .ok (.invokevirtual 448, 3) := by decide +kernel
theorem d_Model_primary_243 : decode b_Model_primary 243 = .ok (.aload_n 0, 1) := by decide +kernel
theorem d_Model_primary_244 : decode b_Model_primary 244 = .ok (.getfield 129, 3) := by decide +kernel
theorem d_Model_primary_247 : decode b_Model_primary 247 = .ok (.iload 4, 2) := by decide +kernel
theorem d_Model_primary_249 : decode b_Model_primary 249 = .ok (.aload_n 0, 1) := by decide +kernel
theorem d_Model_primary_250 : decode b_Model_primary 250 = .ok (.iload_n 1, 1) := by decide +kernel
theorem d_Model_primary_251 : decode b_Model_primary 251 = .ok (.iconst 1, 1) := by decide +kernel
theorem d_Model_primary_252 : decode b_Model_primary 252 = .ok (.iadd, 1) := by decide +kernel
theorem d_Model_primary_253 : decode b_Model_primary 253 = .ok (.invokevirtual 494, 3) := by decide +kernel
theorem d_Model_primary_256 : decode b_Model_primary 256 = .ok (.iastore, 1) := by decide +kernel
theorem d_Model_primary_257 : decode b_Model_primary 257 = .ok (.aload_n 0, 1) := by decide +kernel
theorem d_Model_primary_258 : decode b_Model_primary 258 = .ok (.bipush 41, 2) := by decide +kernel
theorem d_Model_primary_260 : decode b_Model_primary 260 = .ok (.invokevirtual 448, 3) := by decide +kernel
theorem d_Model_primary_263 : decode b_Model_primary 263 = .ok (.iload 4, 2) := by decide +kernel
theorem d_Model_primary_265 : decode b_Model_primary 265 = .ok (.ireturn, 1) := by decide +kernel
theorem d_Model_primary_266 : decode b_Model_primary 266 = .ok (.aload_n 0, 1) := by decide +kernel
theorem d_Model_primary_267 : decode b_Model_primary 267 = .ok (.bipush 38, 2) := by decide +kernel
theorem d_Model_primary_269 : decode b_Model_primary 269 = .ok (.invokevirtual 403, 3) := by decide +kernel
theorem d_Model_primary_272 : decode b_Model_primary 272 = .ok (.ifCond .eq 41, 3) := by decide +kernel
theorem d_Model_primary_275 : decode b_Model_primary 275 = .ok (.aload_n 0, 1) := by decide +kernel
theorem d_Model_primary_276 : decode b_Model_primary 276 = .ok (.bipush 10, 2) := by decide +kernel
theorem d_Model_primary_278 : decode b_Model_primary 278 = .ok (.iload_n 2, 1) := by decide +kernel
theorem d_Model_primary_279 : decode b_Model_primary 279 = .ok (.invokevirtual 478, 3) := by decide +kernel
theorem d_Model_primary_282 : decode b_Model_primary 282 = .ok (.istore 4, 2) := by decide +kernel
theorem d_Model_primary_284 : decode b_Model_primary 284 = .ok (.iload_n 1, 1) := by decide +kernel
theorem d_Model_primary_285 : decode b_Model_primary 285 = .ok (.iconst 1, 1) := by decide +kernel
theorem d_Model_primary_286 : decode b_Model_primary 286 = .ok (.iadd, 1) := by decide +kernel
theorem d_Model_primary_287 : decode b_Model_primary 287 = .ok (.bipush 20, 2) := by decide +kernel
theorem d_Model_primary_289 : decode b_Model_primary 289 = .ok (.if_icmp .le 7, 3) := by decide +kernel
theorem d_Model_primary_292 : decode b_Model_primary 292 = .ok (.aload_n 0, 1) := by decide +kernel
theorem d_Model_primary_293 : decode b_Model_primary 293 = .ok (.invokevirtual 406, 3) := by decide +kernel
theorem d_Model_primary_296 : decode b_Model_primary 296 = .ok (.aload_n 0, 1) := by decide +kernel
theorem d_Model_primary_297 : decode b_Model_primary 297 = .ok (.getfield 126, 3) := by decide +kernel
theorem d_Model_primary_300 : decode b_Model_primary 300 = .ok (.iload 4, 2) := by decide +kernel
theorem d_Model_primary_302 : decode b_Model_primary 302 = .ok (.aload_n 0, 1) := by decide +kernel
theorem d_Model_primary_303 : decode b_Model_primary 303 = .ok (.iload_n 1, 1) := by decide +kernel
theorem d_Model_primary_304 : decode b_Model_primary 304 = .ok (.iconst 1, 1) := by decide +kernel
theorem d_Model_primary_305 : decode b_Model_primary 305 = .ok (.iadd, 1) := by decide +kernel
theorem d_Model_primary_306 : decode b_Model_primary 306 = .ok (.invokevirtual 513, 3) := by decide +kernel
theorem d_Model_primary_309 : decode b_Model_primary 309 = .ok (.iastore, 1) := by decide +kernel
theorem d_Model_primary_310 : decode b_Model_primary 310 = .ok (.iload 4, 2) := by decide +kernel
theorem d_Model_primary_312 : decode b_Model_primary 312 = .ok (.ireturn, 1) := by decide +kernel
theorem d_Model_primary_313 : decode b_Model_primary 313 = .ok (.aload_n 0, 1) := by decide +kernel
theorem d_Model_primary_314 : decode b_Model_primary 314 = .ok (.ldc_w 540, 3) := by decide +kernel
theorem d_Model_primary_317 : decode b_Model_primary 317 = .ok (.invokevirtual 399, 3) := by decide +kernel
theorem d_Model_primary_320 : decode b_Model_primary 320 = .ok (.istore 4, 2) := by decide +kernel
theorem d_Model_primary_322 : decode b_Model_primary 322 = .ok (.iload 4, 2) := by decide +kernel
theorem d_Model_primary_324 : decode b_Model_primary 324 = .ok (.ifCond .ne 17, 3) := by decide +kernel
theorem d_Model_primary_327 : decode b_Model_primary 327 = .ok (.aload_n 0, 1) := by decide +kernel
theorem d_Model_primary_328 : decode b_Model_primary 328 = .ok (.ldc_w 542, 3) := by decide +kernel
theorem d_Model_primary_331 : decode b_Model_primary 331 = .ok (.invokevirtual 399, 3) := by decide +kernel
theorem d_Model_primary_334 : decode b_Model_primary 334 = .ok (.ifCond .ne 7, 3) := by decide +kernel
theorem d_Model_primary_337 : decode b_Model_primary 337 = .ok (.aload_n 0, 1) := by decide +kernel
theorem d_Model_primary_338 : decode b_Model_primary 338 = .ok (.invokevirtual 406, 3) := by decide +kernel
theorem d_Model_primary_341 : decode b_Model_primary 341 = .ok (.aload_n 0, 1) := by decide +kernel
theorem d_Model_primary_342 : decode b_Model_primary 342 = .ok (.invokevirtual 385, 3) := by decide +kernel
theorem d_Model_primary_345 : decode b_Model_primary 345 = .ok (.ifCond .ne 7, 3) := by decide +kernel
theorem d_Model_primary_348 : decode b_Model_primary 348 = .ok (.aload_n 0, 1) := by decide +kernel
theorem d_Model_primary_349 : decode b_Model_primary 349 = .ok (.invokevirtual 396, 3) := by decide +kernel
theorem d_Model_primary_352 : decode b_Model_primary 352 = .ok (.aload_n 0, 1) := by decide +kernel
theorem d_Model_primary_353 : decode b_Model_primary 353 = .ok (.iload 4, 2) := by decide +kernel
theorem d_Model_primary_355 : decode b_Model_primary 355 = .ok (.ifCond .eq 8, 3) := by decide +kernel
theorem d_Model_primary_358 : decode b_Model_primary 358 = .ok (.bipush 11, 2) := by decide +kernel
theorem d_Model_primary_360 : decode b_Model_primary 360 = .ok (.goto 5, 3) := by decide +kernel
theorem d_Model_primary_363 : decode b_Model_primary 363 = .ok (.bipush 12, 2) := by decide +kernel
theorem d_Model_primary_365 : decode b_Model_primary 365 = .ok (.iload_n 2, 1) := by decide +kernel
theorem d_Model_primary_366 : decode b_Model_primary 366 = .ok (.invokevirtual 478, 3) := by decide +kernel
theorem d_Model_primary_369 : decode b_Model_primary 369 = .ok (.istore 5, 2) := by decide +kernel
theorem d_Model_primary_371 : decode b_Model_primary 371 = .ok (.aload_n 0, 1) := by decide +kernel
theorem d_Model_primary_372 : decode b_Model_primary 372 = .ok (.bipush 40, 2) := by decide +kernel
theorem d_Model_primary_374 : decode b_Model_primary 374 = .ok (.invokevirtual 448, 3) := by decide +kernel
theorem d_Model_primary_377 : decode b_Model_primary 377 = .ok (.aload_n 0, 1) := by decide +kernel
theorem d_Model_primary_378 : decode b_Model_primary 378 = .ok (.getfield 126, 3) := by decide +kernel
theorem d_Model_primary_381 : decode b_Model_primary 381 = .ok (.iload 5, 2) := by decide +kernel
theorem d_Model_primary_383 : decode b_Model_primary 383 = .ok (.aload_n 0, 1) := by decide +kernel
theorem d_Model_primary_384 : decode b_Model_primary 384 = .ok (.iload_n 1, 1) := by decide +kernel
theorem d_Model_primary_385 : decode b_Model_primary 385 = .ok (.iconst 1, 1) := by decide +kernel
theorem d_Model_primary_386 : decode b_Model_primary 386 = .ok (.iadd, 1) := by decide +kernel
theorem d_Model_primary_387 : decode b_Model_primary 387 = .ok (.invokevirtual 494, 3) := by decide +kernel
theorem d_Model_primary_390 : decode b_Model_primary 390 = .ok (.iastore, 1) := by decide +kernel
theorem d_Model_primary_391 : decode b_Model_primary 391 = .ok (.aload_n 0, 1) := by decide +kernel
theorem d_Model_primary_392 : decode b_Model_primary 392 = .ok (.bipush 41, 2) := by decide +kernel
theorem d_Model_primary_394 : decode b_Model_primary 394 = .ok (.invokevirtual 448, 3) := by decide +kernel
theorem d_Model_primary_397 : decode b_Model_primary 397 = .ok (.iload 5, 2) := by decide +kernel
theorem d_Model_primary_399 : decode b_Model_primary 399 = .ok (.ireturn, 1) := by decide +kernel
abbrev b_Model_arguments : ByteArray := prog_14_method_39_code
abbrev y_Model_arguments : MethodName := ⟨R_Model, "arguments", "(III)V"⟩
theorem co_Model_arguments : Cond.code y_Model_arguments b_Model_arguments 8 none ∈ lw_good := lg_in (tin_11 _ (List.mem_of_getElem? (i := 47) rfl)) rfl
abbrev w_Model_arguments : List Cond := Cond.code y_Model_arguments b_Model_arguments 8 none :: lw_good
theorem im_Model_arguments : Cond.instanceMethod y_Model_arguments ∈ lw_good := lg_right (i := 2446) (by decide +kernel) rfl
theorem se_Model_arguments : Cond.selects R_Model y_Model_arguments y_Model_arguments ∈ lw_good := lg_left (i := 145) (by decide +kernel) rfl
theorem d_Model_arguments_0 : decode b_Model_arguments 0 = .ok (.iconst 0, 1) := by decide +kernel
theorem d_Model_arguments_1 : decode b_Model_arguments 1 = .ok (.istore 4, 2) := by decide +kernel
theorem d_Model_arguments_3 : decode b_Model_arguments 3 = .ok (.iconst (-1), 1) := by decide +kernel
theorem d_Model_arguments_4 : decode b_Model_arguments 4 = .ok (.istore 5, 2) := by decide +kernel
theorem d_Model_arguments_6 : decode b_Model_arguments 6 = .ok (.aload_n 0, 1) := by decide +kernel
theorem d_Model_arguments_7 : decode b_Model_arguments 7 = .ok (.invokevirtual 385, 3) := by decide +kernel
theorem d_Model_arguments_10 : decode b_Model_arguments 10 = .ok (.ifCond .ne 101, 3) := by decide +kernel
theorem d_Model_arguments_13 : decode b_Model_arguments 13 = .ok (.aload_n 0, 1) := by decide +kernel
theorem d_Model_arguments_14 : decode b_Model_arguments 14 = .ok (.iload_n 3, 1) := by decide +kernel
theorem d_Model_arguments_15 : decode b_Model_arguments 15 = .ok (.invokevirtual 393, 3) := by decide +kernel
theorem d_Model_arguments_18 : decode b_Model_arguments 18 = .ok (.ifCond .ne 93, 3) := by decide +kernel
theorem d_Model_arguments_21 : decode b_Model_arguments 21 = .ok (.iload 4, 2) := by decide +kernel
theorem d_Model_arguments_23 : decode b_Model_arguments 23 = .ok (.ifCond .le 9, 3) := by decide +kernel
theorem d_Model_arguments_26 : decode b_Model_arguments 26 = .ok (.aload_n 0, 1) := by decide +kernel
theorem d_Model_arguments_27 : decode b_Model_arguments 27 = .ok (.bipush 44, 2) := by decide +kernel
theorem d_Model_arguments_29 : decode b_Model_arguments 29 = .ok (.invokevirtual 448, 3) := by decide +kernel
theorem d_Model_arguments_32 : decode b_Model_arguments 32 = .ok (.iload 4, 2) := by decide +kernel
theorem d_Model_arguments_34 : decode b_Model_arguments 34 = .ok (.bipush 8, 2) := by decide +kernel
theorem d_Model_arguments_36 : decode b_Model_arguments 36 = .ok (.if_icmp .ne 7, 3) := by decide +kernel
theorem d_Model_arguments_39 : decode b_Model_arguments 39 = .ok (.aload_n 0, 1) := by decide +kernel
theorem d_Model_arguments_40 : decode b_Model_arguments 40 = .ok (.invokevirtual 406, 3) := by decide +kernel
theorem d_Model_arguments_43 : decode b_Model_arguments 43 = .ok (.aload_n 0, 1) := by decide +kernel
theorem d_Model_arguments_44 : decode b_Model_arguments 44 = .ok (.iload_n 2, 1) := by decide +kernel
theorem d_Model_arguments_45 : decode b_Model_arguments 45 = .ok (.iconst 1, 1) := by decide +kernel
theorem d_Model_arguments_46 : decode b_Model_arguments 46 = .ok (.iadd, 1) := by decide +kernel
theorem d_Model_arguments_47 : decode b_Model_arguments 47 = .ok (.invokevirtual 494, 3) := by decide +kernel
theorem d_Model_arguments_50 : decode b_Model_arguments 50 = .ok (.istore 6, 2) := by decide +kernel
theorem d_Model_arguments_52 : decode b_Model_arguments 52 = .ok (.aload_n 0, 1) := by decide +kernel
theorem d_Model_arguments_53 : decode b_Model_arguments 53 = .ok (.bipush 30, 2) := by decide +kernel
theorem d_Model_arguments_55 : decode b_Model_arguments 55 = .ok (.aload_n 0, 1) := by decide +kernel
theorem d_Model_arguments_56 : decode b_Model_arguments 56 = .ok (.getfield 123, 3) := by decide +kernel
theorem d_Model_arguments_59 : decode b_Model_arguments 59 = .ok (.iload 6, 2) := by decide +kernel
theorem d_Model_arguments_61 : decode b_Model_arguments 61 = .ok (.iaload, 1) := by decide +kernel
theorem d_Model_arguments_62 : decode b_Model_arguments 62 = .ok (.invokevirtual 478, 3) := by decide +kernel
theorem d_Model_arguments_65 : decode b_Model_arguments 65 = .ok (.istore 7, 2) := by decide +kernel
theorem d_Model_arguments_67 : decode b_Model_arguments 67 = .ok (.aload_n 0, 1) := by decide +kernel
theorem d_Model_arguments_68 : decode b_Model_arguments 68 = .ok (.getfield 126, 3) := by decide +kernel
theorem d_Model_arguments_71 : decode b_Model_arguments 71 = .ok (.iload 7, 2) := by decide +kernel
theorem d_Model_arguments_73 : decode b_Model_arguments 73 = .ok (.iload 6, 2) := by decide +kernel
theorem d_Model_arguments_75 : decode b_Model_arguments 75 = .ok (.iastore, 1) := by decide +kernel
theorem d_Model_arguments_76 : decode b_Model_arguments 76 = .ok (.iload 5, 2) := by decide +kernel
theorem d_Model_arguments_78 : decode b_Model_arguments 78 = .ok (.ifCond .ge 14, 3) := by decide +kernel
theorem d_Model_arguments_81 : decode b_Model_arguments 81 = .ok (.aload_n 0, 1) := by decide +kernel
theorem d_Model_arguments_82 : decode b_Model_arguments 82 = .ok (.getfield 126, 3) := by decide +kernel
theorem d_Model_arguments_85 : decode b_Model_arguments 85 = .ok (.iload_n 1, 1) := by decide +kernel
theorem d_Model_arguments_86 : decode b_Model_arguments 86 = .ok (.iload 7, 2) := by decide +kernel
theorem d_Model_arguments_88 : decode b_Model_arguments 88 = .ok (.iastore, 1) := by decide +kernel
theorem d_Model_arguments_89 : decode b_Model_arguments 89 = .ok (.goto 12, 3) := by decide +kernel
theorem d_Model_arguments_92 : decode b_Model_arguments 92 = .ok (.aload_n 0, 1) := by decide +kernel
theorem d_Model_arguments_93 : decode b_Model_arguments 93 = .ok (.getfield 135, 3) := by decide +kernel
theorem d_Model_arguments_96 : decode b_Model_arguments 96 = .ok (.iload 5, 2) := by decide +kernel
theorem d_Model_arguments_98 : decode b_Model_arguments 98 = .ok (.iload 7, 2) := by decide +kernel
theorem d_Model_arguments_100 : decode b_Model_arguments 100 = .ok (.iastore, 1) := by decide +kernel
theorem d_Model_arguments_101 : decode b_Model_arguments 101 = .ok (.iload 7, 2) := by decide +kernel
theorem d_Model_arguments_103 : decode b_Model_arguments 103 = .ok (.istore 5, 2) := by decide +kernel
theorem d_Model_arguments_105 : decode b_Model_arguments 105 = .ok (.iinc 4 1, 3) := by decide +kernel
theorem d_Model_arguments_108 : decode b_Model_arguments 108 = .ok (.goto (-102), 3) := by decide +kernel
theorem d_Model_arguments_111 : decode b_Model_arguments 111 = .ok (.aload_n 0, 1) := by decide +kernel
theorem d_Model_arguments_112 : decode b_Model_arguments 112 = .ok (.iload_n 3, 1) := by decide +kernel
theorem d_Model_arguments_113 : decode b_Model_arguments 113 = .ok (.invokevirtual 448, 3) := by decide +kernel
theorem d_Model_arguments_116 : decode b_Model_arguments 116 = .ok (.aload_n 0, 1) := by decide +kernel
theorem d_Model_arguments_117 : decode b_Model_arguments 117 = .ok (.getfield 129, 3) := by decide +kernel
theorem d_Model_arguments_120 : decode b_Model_arguments 120 = .ok (.iload_n 1, 1) := by decide +kernel
theorem d_Model_arguments_121 : decode b_Model_arguments 121 = .ok (.iload 4, 2) := by decide +kernel
theorem d_Model_arguments_123 : decode b_Model_arguments 123 = .ok (.iastore, 1) := by decide +kernel
theorem d_Model_arguments_124 : decode b_Model_arguments 124 = .ok (.return_, 1) := by decide +kernel
abbrev b_Model_readNew : ByteArray := prog_14_method_42_code
abbrev y_Model_readNew : MethodName := ⟨R_Model, "readNew", "(II)I"⟩
theorem co_Model_readNew : Cond.code y_Model_readNew b_Model_readNew 6 (some .int) ∈ lw_good := lg_in (tin_11 _ (List.mem_of_getElem? (i := 55) rfl)) rfl
abbrev w_Model_readNew : List Cond := Cond.code y_Model_readNew b_Model_readNew 6 (some .int) :: lw_good
theorem im_Model_readNew : Cond.instanceMethod y_Model_readNew ∈ lw_good := lg_right (i := 2454) (by decide +kernel) rfl
theorem se_Model_readNew : Cond.selects R_Model y_Model_readNew y_Model_readNew ∈ lw_good := lg_left (i := 146) (by decide +kernel) rfl
theorem d_Model_readNew_0 : decode b_Model_readNew 0 = .ok (.aload_n 0, 1) := by decide +kernel
theorem d_Model_readNew_1 : decode b_Model_readNew 1 = .ok (.bipush 6, 2) := by decide +kernel
theorem d_Model_readNew_3 : decode b_Model_readNew 3 = .ok (.iload_n 1, 1) := by decide +kernel
theorem d_Model_readNew_4 : decode b_Model_readNew 4 = .ok (.invokevirtual 478, 3) := by decide +kernel
theorem d_Model_readNew_7 : decode b_Model_readNew 7 = .ok (.istore_n 3, 1) := by decide +kernel
theorem d_Model_readNew_8 : decode b_Model_readNew 8 = .ok (.aload_n 0, 1) := by decide +kernel
theorem d_Model_readNew_9 : decode b_Model_readNew 9 = .ok (.getfield 132, 3) := by decide +kernel
theorem d_Model_readNew_12 : decode b_Model_readNew 12 = .ok (.iload_n 3, 1) := by decide +kernel
theorem d_Model_readNew_13 : decode b_Model_readNew 13 = .ok (.aload_n 0, 1) := by decide +kernel
theorem d_Model_readNew_14 : decode b_Model_readNew 14 = .ok (.invokevirtual 465, 3) := by decide +kernel
theorem d_Model_readNew_17 : decode b_Model_readNew 17 = .ok (.iastore, 1) := by decide +kernel
theorem d_Model_readNew_18 : decode b_Model_readNew 18 = .ok (.aload_n 0, 1) := by decide +kernel
theorem d_Model_readNew_19 : decode b_Model_readNew 19 = .ok (.getfield 352, 3) := by decide +kernel
theorem d_Model_readNew_22 : decode b_Model_readNew 22 = .ok (.iconst 3, 1) := by decide +kernel
theorem d_Model_readNew_23 : decode b_Model_readNew 23 = .ok (.if_icmp .eq 7, 3) := by decide +kernel
theorem d_Model_readNew_26 : decode b_Model_readNew 26 = .ok (.aload_n 0, 1) := by decide +kernel
theorem d_Model_readNew_27 : decode b_Model_readNew 27 = .ok (.invokevirtual 406, 3) := by decide +kernel
theorem d_Model_readNew_30 : decode b_Model_readNew 30 = .ok (.aload_n 0, 1) := by decide +kernel
theorem d_Model_readNew_31 : decode b_Model_readNew 31 = .ok (.getfield 138, 3) := by decide +kernel
theorem d_Model_readNew_34 : decode b_Model_readNew 34 = .ok (.iload_n 3, 1) := by decide +kernel
theorem d_Model_readNew_35 : decode b_Model_readNew 35 = .ok (.aload_n 0, 1) := by decide +kernel
theorem d_Model_readNew_36 : decode b_Model_readNew 36 = .ok (.getfield 365, 3) := by decide +kernel
theorem d_Model_readNew_39 : decode b_Model_readNew 39 = .ok (.lastore, 1) := by decide +kernel
theorem d_Model_readNew_40 : decode b_Model_readNew 40 = .ok (.aload_n 0, 1) := by decide +kernel
theorem d_Model_readNew_41 : decode b_Model_readNew 41 = .ok (.getfield 141, 3) := by decide +kernel
theorem d_Model_readNew_44 : decode b_Model_readNew 44 = .ok (.iload_n 3, 1) := by decide +kernel
theorem d_Model_readNew_45 : decode b_Model_readNew 45 = .ok (.aload_n 0, 1) := by decide +kernel
theorem d_Model_readNew_46 : decode b_Model_readNew 46 = .ok (.getfield 349, 3) := by decide +kernel
theorem d_Model_readNew_49 : decode b_Model_readNew 49 = .ok (.iastore, 1) := by decide +kernel
theorem d_Model_readNew_50 : decode b_Model_readNew 50 = .ok (.aload_n 0, 1) := by decide +kernel
theorem d_Model_readNew_51 : decode b_Model_readNew 51 = .ok (.invokevirtual 385, 3) := by decide +kernel
theorem d_Model_readNew_54 : decode b_Model_readNew 54 = .ok (.ifCond .ne 7, 3) := by decide +kernel
theorem d_Model_readNew_57 : decode b_Model_readNew 57 = .ok (.aload_n 0, 1) := by decide +kernel
theorem d_Model_readNew_58 : decode b_Model_readNew 58 = .ok (.invokevirtual 396, 3) := by decide +kernel
theorem d_Model_readNew_61 : decode b_Model_readNew 61 = .ok (.aload_n 0, 1) := by decide +kernel
theorem d_Model_readNew_62 : decode b_Model_readNew 62 = .ok (.getfield 144, 3) := by decide +kernel
theorem d_Model_readNew_65 : decode b_Model_readNew 65 = .ok (.iload_n 3, 1) := by decide +kernel
theorem d_Model_readNew_66 : decode b_Model_readNew 66 = .ok (.aload_n 0, 1) := by decide +kernel
theorem d_Model_readNew_67 : decode b_Model_readNew 67 = .ok (.getfield 409, 3) := by decide +kernel
theorem d_Model_readNew_70 : decode b_Model_readNew 70 = .ok (.iastore, 1) := by decide +kernel
theorem d_Model_readNew_71 : decode b_Model_readNew 71 = .ok (.aload_n 0, 1) := by decide +kernel
theorem d_Model_readNew_72 : decode b_Model_readNew 72 = .ok (.getfield 147, 3) := by decide +kernel
theorem d_Model_readNew_75 : decode b_Model_readNew 75 = .ok (.iload_n 3, 1) := by decide +kernel
theorem d_Model_readNew_76 : decode b_Model_readNew 76 = .ok (.aload_n 0, 1) := by decide +kernel
theorem d_Model_readNew_77 : decode b_Model_readNew 77 = .ok (.invokevirtual 475, 3) := by decide +kernel
theorem d_Model_readNew_80 : decode b_Model_readNew 80 = .ok (.iastore, 1) := by decide +kernel
theorem d_Model_readNew_81 : decode b_Model_readNew 81 = .ok (.aload_n 0, 1) := by decide +kernel
theorem d_Model_readNew_82 : decode b_Model_readNew 82 = .ok (.getfield 349, 3) := by decide +kernel
theorem d_Model_readNew_85 : decode b_Model_readNew 85 = .ok (.istore 4, 2) := by decide +kernel
theorem d_Model_readNew_87 : decode b_Model_readNew 87 = .ok (.aload_n 0, 1) := by decide +kernel
theorem d_Model_readNew_88 : decode b_Model_readNew 88 = .ok (.bipush 46, 2) := by decide +kernel
theorem d_Model_readNew_90 : decode b_Model_readNew 90 = .ok (.invokevirtual 403, 3) := by decide +kernel
theorem d_Model_readNew_93 : decode b_Model_readNew 93 = .ok (.ifCond .eq 79, 3) := by decide +kernel
theorem d_Model_readNew_96 : decode b_Model_readNew 96 = .ok (.aload_n 0, 1) := by decide +kernel
theorem d_Model_readNew_97 : decode b_Model_readNew 97 = .ok (.getfield 120, 3) := by decide +kernel
theorem d_Model_readNew_100 : decode b_Model_readNew 100 = .ok (.iload_n 3, 1) := by decide +kernel
theorem d_Model_readNew_101 : decode b_Model_readNew 101 = .ok (.bipush 7, 2) := by decide +kernel
theorem d_Model_readNew_103 : decode b_Model_readNew 103 = .ok (.iastore, 1) := by decide +kernel
theorem d_Model_readNew_104 : decode b_Model_readNew 104 = .ok (.aload_n 0, 1) := by decide +kernel
theorem d_Model_readNew_105 : decode b_Model_readNew 105 = .ok (.bipush 30, 2) := by decide +kernel
theorem d_Model_readNew_107 : decode b_Model_readNew 107 = .ok (.iload 4, 2) := by decide +kernel
theorem d_Model_readNew_109 : decode b_Model_readNew 109 = .ok (.invokevirtual 478, 3) := by decide +kernel
theorem d_Model_readNew_112 : decode b_Model_readNew 112 = .ok (.istore 5, 2) := by decide +kernel
theorem d_Model_readNew_114 : decode b_Model_readNew 114 = .ok (.aload_n 0, 1) := by decide +kernel
theorem d_Model_readNew_115 : decode b_Model_readNew 115 = .ok (.getfield 141, 3) := by decide +kernel
theorem d_Model_readNew_118 : decode b_Model_readNew 118 = .ok (.iload 5, 2) := by decide +kernel
theorem d_Model_readNew_120 : decode b_Model_readNew 120 = .ok (.aload_n 0, 1) := by decide +kernel
theorem d_Model_readNew_121 : decode b_Model_readNew 121 = .ok (.getfield 349, 3) := by decide +kernel
theorem d_Model_readNew_124 : decode b_Model_readNew 124 = .ok (.iastore, 1) := by decide +kernel
theorem d_Model_readNew_125 : decode b_Model_readNew 125 = .ok (.aload_n 0, 1) := by decide +kernel
theorem d_Model_readNew_126 : decode b_Model_readNew 126 = .ok (.getfield 138, 3) := by decide +kernel
theorem d_Model_readNew_129 : decode b_Model_readNew 129 = .ok (.iload 5, 2) := by decide +kernel
theorem d_Model_readNew_131 : decode b_Model_readNew 131 = .ok (.aload_n 0, 1) := by decide +kernel
theorem d_Model_readNew_132 : decode b_Model_readNew 132 = .ok (.invokevirtual 454, 3) := by decide +kernel
theorem d_Model_readNew_135 : decode b_Model_readNew 135 = .ok (.lastore, 1) := by decide +kernel
theorem d_Model_readNew_136 : decode b_Model_readNew 136 = .ok (.aload_n 0, 1) := by decide +kernel
theorem d_Model_readNew_137 : decode b_Model_readNew 137 = .ok (.bipush 40, 2) := by decide +kernel
theorem d_Model_readNew_139 : decode b_Model_readNew 139 = .ok (.invokevirtual 448, 3) := by decide +kernel
theorem d_Model_readNew_142 : decode b_Model_readNew 142 = .ok (.aload_n 0, 1) := by decide +kernel
theorem d_Model_readNew_143 : decode b_Model_readNew 143 = .ok (.getfield 126, 3) := by decide +kernel
theorem d_Model_readNew_146 : decode b_Model_readNew 146 = .ok (.iload 5, 2) := by decide +kernel
theorem d_Model_readNew_148 : decode b_Model_readNew 148 = .ok (.aload_n 0, 1) := by decide +kernel
theorem d_Model_readNew_149 : decode b_Model_readNew 149 = .ok (.iload_n 2, 1) := by decide +kernel
theorem d_Model_readNew_150 : decode b_Model_readNew 150 = .ok (.iconst 1, 1) := by decide +kernel
theorem d_Model_readNew_151 : decode b_Model_readNew 151 = .ok (.iadd, 1) := by decide +kernel
theorem d_Model_readNew_152 : decode b_Model_readNew 152 = .ok (.invokevirtual 494, 3) := by decide +kernel
theorem d_Model_readNew_155 : decode b_Model_readNew 155 = .ok (.iastore, 1) := by decide +kernel
theorem d_Model_readNew_156 : decode b_Model_readNew 156 = .ok (.aload_n 0, 1) := by decide +kernel
theorem d_Model_readNew_157 : decode b_Model_readNew 157 = .ok (.bipush 41, 2) := by decide +kernel
theorem d_Model_readNew_159 : decode b_Model_readNew 159 = .ok (.invokevirtual 448, 3) := by decide +kernel
theorem d_Model_readNew_162 : decode b_Model_readNew 162 = .ok (.aload_n 0, 1) := by decide +kernel
theorem d_Model_readNew_163 : decode b_Model_readNew 163 = .ok (.getfield 126, 3) := by decide +kernel
theorem d_Model_readNew_166 : decode b_Model_readNew 166 = .ok (.iload_n 3, 1) := by decide +kernel
theorem d_Model_readNew_167 : decode b_Model_readNew 167 = .ok (.iload 5, 2) := by decide +kernel
theorem d_Model_readNew_169 : decode b_Model_readNew 169 = .ok (.iastore, 1) := by decide +kernel
theorem d_Model_readNew_170 : decode b_Model_readNew 170 = .ok (.iload_n 3, 1) := by decide +kernel
theorem d_Model_readNew_171 : decode b_Model_readNew 171 = .ok (.ireturn, 1) := by decide +kernel
theorem d_Model_readNew_172 : decode b_Model_readNew 172 = .ok (.aload_n 0, 1) := by decide +kernel
theorem d_Model_readNew_173 : decode b_Model_readNew 173 = .ok (.getfield 153, 3) := by decide +kernel
theorem d_Model_readNew_176 : decode b_Model_readNew 176 = .ok (.iload_n 3, 1) := by decide +kernel
theorem d_Model_readNew_177 : decode b_Model_readNew 177 = .ok (.iload 4, 2) := by decide +kernel
theorem d_Model_readNew_179 : decode b_Model_readNew 179 = .ok (.iastore, 1) := by decide +kernel
theorem d_Model_readNew_180 : decode b_Model_readNew 180 = .ok (.aload_n 0, 1) := by decide +kernel
theorem d_Model_readNew_181 : decode b_Model_readNew 181 = .ok (.bipush 123, 2) := by decide +kernel
theorem d_Model_readNew_183 : decode b_Model_readNew 183 = .ok (.invokevirtual 448, 3) := by decide +kernel
theorem d_Model_readNew_186 : decode b_Model_readNew 186 = .ok (.aload_n 0, 1) := by decide +kernel
theorem d_Model_readNew_187 : decode b_Model_readNew 187 = .ok (.iload_n 3, 1) := by decide +kernel
theorem d_Model_readNew_188 : decode b_Model_readNew 188 = .ok (.iload_n 2, 1) := by decide +kernel
theorem d_Model_readNew_189 : decode b_Model_readNew 189 = .ok (.bipush 125, 2) := by decide +kernel
theorem d_Model_readNew_191 : decode b_Model_readNew 191 = .ok (.invokevirtual 543, 3) := by decide +kernel
theorem ml_Model_543 : Cond.methodLink R_Model 543 ⟨"PointerHouseModel", "arguments", "(III)V"⟩ ∈ lw_good := lg_right (i := 2444) (by decide +kernel) rfl
theorem d_Model_readNew_194 : decode b_Model_readNew 194 = .ok (.iload_n 3, 1) := by decide +kernel
theorem d_Model_readNew_195 : decode b_Model_readNew 195 = .ok (.ireturn, 1) := by decide +kernel
abbrev b_Model_readNamed : ByteArray := prog_14_method_41_code
abbrev y_Model_readNamed : MethodName := ⟨R_Model, "readNamed", "(II)I"⟩
theorem co_Model_readNamed : Cond.code y_Model_readNamed b_Model_readNamed 4 (some .int) ∈ lw_good := lg_in (tin_11 _ (List.mem_of_getElem? (i := 43) rfl)) rfl
abbrev w_Model_readNamed : List Cond := Cond.code y_Model_readNamed b_Model_readNamed 4 (some .int) :: lw_good
theorem im_Model_readNamed : Cond.instanceMethod y_Model_readNamed ∈ lw_good := lg_right (i := 2442) (by decide +kernel) rfl
theorem se_Model_readNamed : Cond.selects R_Model y_Model_readNamed y_Model_readNamed ∈ lw_good := lg_left (i := 144) (by decide +kernel) rfl
theorem d_Model_readNamed_0 : decode b_Model_readNamed 0 = .ok (.aload_n 0, 1) := by decide +kernel
theorem d_Model_readNamed_1 : decode b_Model_readNamed 1 = .ok (.iconst 4, 1) := by decide +kernel
theorem d_Model_readNamed_2 : decode b_Model_readNamed 2 = .ok (.iload_n 1, 1) := by decide +kernel
theorem d_Model_readNamed_3 : decode b_Model_readNamed 3 = .ok (.invokevirtual 478, 3) := by decide +kernel
theorem d_Model_readNamed_6 : decode b_Model_readNamed 6 = .ok (.istore_n 3, 1) := by decide +kernel
theorem d_Model_readNamed_7 : decode b_Model_readNamed 7 = .ok (.aload_n 0, 1) := by decide +kernel
theorem d_Model_readNamed_8 : decode b_Model_readNamed 8 = .ok (.getfield 138, 3) := by decide +kernel
theorem d_Model_readNamed_11 : decode b_Model_readNamed 11 = .ok (.iload_n 3, 1) := by decide +kernel
theorem d_Model_readNamed_12 : decode b_Model_readNamed 12 = .ok (.aload_n 0, 1) := by decide +kernel
theorem d_Model_readNamed_13 : decode b_Model_readNamed 13 = .ok (.getfield 365, 3) := by decide +kernel
theorem d_Model_readNamed_16 : decode b_Model_readNamed 16 = .ok (.lastore, 1) := by decide +kernel
theorem d_Model_readNamed_17 : decode b_Model_readNamed 17 = .ok (.aload_n 0, 1) := by decide +kernel
theorem d_Model_readNamed_18 : decode b_Model_readNamed 18 = .ok (.getfield 141, 3) := by decide +kernel
theorem d_Model_readNamed_21 : decode b_Model_readNamed 21 = .ok (.iload_n 3, 1) := by decide +kernel
theorem d_Model_readNamed_22 : decode b_Model_readNamed 22 = .ok (.iload_n 1, 1) := by decide +kernel
theorem d_Model_readNamed_23 : decode b_Model_readNamed 23 = .ok (.iastore, 1) := by decide +kernel
theorem d_Model_readNamed_24 : decode b_Model_readNamed 24 = .ok (.aload_n 0, 1) := by decide +kernel
theorem d_Model_readNamed_25 : decode b_Model_readNamed 25 = .ok (.invokevirtual 396, 3) := by decide +kernel
theorem d_Model_readNamed_28 : decode b_Model_readNamed 28 = .ok (.aload_n 0, 1) := by decide +kernel
theorem d_Model_readNamed_29 : decode b_Model_readNamed 29 = .ok (.getfield 352, 3) := by decide +kernel
theorem d_Model_readNamed_32 : decode b_Model_readNamed 32 = .ok (.iconst 4, 1) := by decide +kernel
theorem d_Model_readNamed_33 : decode b_Model_readNamed 33 = .ok (.if_icmp .eq 14, 3) := by decide +kernel
theorem d_Model_readNamed_36 : decode b_Model_readNamed 36 = .ok (.aload_n 0, 1) := by decide +kernel
theorem d_Model_readNamed_37 : decode b_Model_readNamed 37 = .ok (.bipush 40, 2) := by decide +kernel
theorem d_Model_readNamed_39 : decode b_Model_readNamed 39 = .ok (.invokevirtual 393, 3) := by decide +kernel
theorem d_Model_readNamed_42 : decode b_Model_readNamed 42 = .ok (.ifCond .ne 5, 3) := by decide +kernel
theorem d_Model_readNamed_45 : decode b_Model_readNamed 45 = .ok (.iload_n 3, 1) := by decide +kernel
theorem d_Model_readNamed_46 : decode b_Model_readNamed 46 = .ok (.ireturn, 1) := by decide +kernel
theorem d_Model_readNamed_47 : decode b_Model_readNamed 47 = .ok (.aload_n 0, 1) := by decide +kernel
theorem d_Model_readNamed_48 : decode b_Model_readNamed 48 = .ok (.getfield 120, 3) := by decide +kernel
theorem d_Model_readNamed_51 : decode b_Model_readNamed 51 = .ok (.iload_n 3, 1) := by decide +kernel
theorem d_Model_readNamed_52 : decode b_Model_readNamed 52 = .ok (.iconst 5, 1) := by decide +kernel
theorem d_Model_readNamed_53 : decode b_Model_readNamed 53 = .ok (.iastore, 1) := by decide +kernel
theorem d_Model_readNamed_54 : decode b_Model_readNamed 54 = .ok (.aload_n 0, 1) := by decide +kernel
theorem d_Model_readNamed_55 : decode b_Model_readNamed 55 = .ok (.getfield 144, 3) := by decide +kernel
theorem d_Model_readNamed_58 : decode b_Model_readNamed 58 = .ok (.iload_n 3, 1) := by decide +kernel
theorem d_Model_readNamed_59 : decode b_Model_readNamed 59 = .ok (.aload_n 0, 1) := by decide +kernel
theorem d_Model_readNamed_60 : decode b_Model_readNamed 60 = .ok (.getfield 409, 3) := by decide +kernel
theorem d_Model_readNamed_63 : decode b_Model_readNamed 63 = .ok (.iastore, 1) := by decide +kernel
theorem d_Model_readNamed_64 : decode b_Model_readNamed 64 = .ok (.aload_n 0, 1) := by decide +kernel
theorem d_Model_readNamed_65 : decode b_Model_readNamed 65 = .ok (.getfield 147, 3) := by decide +kernel
theorem d_Model_readNamed_68 : decode b_Model_readNamed 68 = .ok (.iload_n 3, 1) := by decide +kernel
theorem d_Model_readNamed_69 : decode b_Model_readNamed 69 = .ok (.aload_n 0, 1) := by decide +kernel
theorem d_Model_readNamed_70 : decode b_Model_readNamed 70 = .ok (.invokevirtual 475, 3) := by decide +kernel
theorem d_Model_readNamed_73 : decode b_Model_readNamed 73 = .ok (.iastore, 1) := by decide +kernel
theorem d_Model_readNamed_74 : decode b_Model_readNamed 74 = .ok (.aload_n 0, 1) := by decide +kernel
theorem d_Model_readNamed_75 : decode b_Model_readNamed 75 = .ok (.bipush 40, 2) := by decide +kernel
theorem d_Model_readNamed_77 : decode b_Model_readNamed 77 = .ok (.invokevirtual 448, 3) := by decide +kernel
theorem d_Model_readNamed_80 : decode b_Model_readNamed 80 = .ok (.aload_n 0, 1) := by decide +kernel
theorem d_Model_readNamed_81 : decode b_Model_readNamed 81 = .ok (.iload_n 3, 1) := by decide +kernel
theorem d_Model_readNamed_82 : decode b_Model_readNamed 82 = .ok (.iload_n 2, 1) := by decide +kernel
theorem d_Model_readNamed_83 : decode b_Model_readNamed 83 = .ok (.bipush 41, 2) := by decide +kernel
theorem d_Model_readNamed_85 : decode b_Model_readNamed 85 = .ok (.invokevirtual 543, 3) := by decide +kernel
theorem d_Model_readNamed_88 : decode b_Model_readNamed 88 = .ok (.iload_n 3, 1) := by decide +kernel
theorem d_Model_readNamed_89 : decode b_Model_readNamed 89 = .ok (.ireturn, 1) := by decide +kernel
abbrev b_Model_known : ByteArray := prog_14_method_43_code
abbrev y_Model_known : MethodName := ⟨R_Model, "known", "(IIIII)I"⟩
theorem co_Model_known : Cond.code y_Model_known b_Model_known 7 (some .int) ∈ lw_good := lg_in (tin_11 _ (List.mem_of_getElem? (i := 115) rfl)) rfl
abbrev w_Model_known : List Cond := Cond.code y_Model_known b_Model_known 7 (some .int) :: lw_good
theorem im_Model_known : Cond.instanceMethod y_Model_known ∈ lw_good := lg_right (i := 2514) (by decide +kernel) rfl
theorem se_Model_known : Cond.selects R_Model y_Model_known y_Model_known ∈ lw_good := lg_left (i := 157) (by decide +kernel) rfl
theorem d_Model_known_0 : decode b_Model_known 0 = .ok (.iconst 1, 1) := by decide +kernel
theorem d_Model_known_1 : decode b_Model_known 1 = .ok (.istore 6, 2) := by decide +kernel
theorem d_Model_known_3 : decode b_Model_known 3 = .ok (.iload 6, 2) := by decide +kernel
theorem d_Model_known_5 : decode b_Model_known 5 = .ok (.aload_n 0, 1) := by decide +kernel
theorem d_Model_known_6 : decode b_Model_known 6 = .ok (.getfield 547, 3) := by decide +kernel
theorem fl_Model_547 : Cond.fieldLink R_Model 547 "PointerHouseModel" "types" "I" ∈ lw_good := lg_right (i := 1884) (by decide +kernel) rfl
theorem d_Model_known_9 : decode b_Model_known 9 = .ok (.if_icmp .ge 69, 3) := by decide +kernel
theorem d_Model_known_12 : decode b_Model_known 12 = .ok (.aload_n 0, 1) := by decide +kernel
theorem d_Model_known_13 : decode b_Model_known 13 = .ok (.getfield 156, 3) := by decide +kernel
theorem fl_Model_156 : Cond.fieldLink R_Model 156 "PointerHouseModel" "kindOf" "[I" ∈ lw_good := lg_right (i := 1885) (by decide +kernel) rfl
theorem d_Model_known_16 : decode b_Model_known 16 = .ok (.iload 6, 2) := by decide +kernel
theorem d_Model_known_18 : decode b_Model_known 18 = .ok (.iaload, 1) := by decide +kernel
theorem d_Model_known_19 : decode b_Model_known 19 = .ok (.iload_n 1, 1) := by decide +kernel
theorem d_Model_known_20 : decode b_Model_known 20 = .ok (.if_icmp .ne 52, 3) := by decide +kernel
theorem d_Model_known_23 : decode b_Model_known 23 = .ok (.aload_n 0, 1) := by decide +kernel
theorem d_Model_known_24 : decode b_Model_known 24 = .ok (.getfield 159, 3) := by decide +kernel
theorem fl_Model_159 : Cond.fieldLink R_Model 159 "PointerHouseModel" "regionOf" "[I" ∈ lw_good := lg_right (i := 1886) (by decide +kernel) rfl
theorem d_Model_known_27 : decode b_Model_known 27 = .ok (.iload 6, 2) := by decide +kernel
theorem d_Model_known_29 : decode b_Model_known 29 = .ok (.iaload, 1) := by decide +kernel
theorem d_Model_known_30 : decode b_Model_known 30 = .ok (.iload_n 2, 1) := by decide +kernel
theorem d_Model_known_31 : decode b_Model_known 31 = .ok (.if_icmp .ne 41, 3) := by decide +kernel
theorem d_Model_known_34 : decode b_Model_known 34 = .ok (.aload_n 0, 1) := by decide +kernel
theorem d_Model_known_35 : decode b_Model_known 35 = .ok (.getfield 162, 3) := by decide +kernel
theorem fl_Model_162 : Cond.fieldLink R_Model 162 "PointerHouseModel" "innerOf" "[I" ∈ lw_good := lg_right (i := 1887) (by decide +kernel) rfl
theorem d_Model_known_38 : decode b_Model_known 38 = .ok (.iload 6, 2) := by decide +kernel
theorem d_Model_known_40 : decode b_Model_known 40 = .ok (.iaload, 1) := by decide +kernel
theorem d_Model_known_41 : decode b_Model_known 41 = .ok (.iload_n 3, 1) := by decide +kernel
theorem d_Model_known_42 : decode b_Model_known 42 = .ok (.if_icmp .ne 30, 3) := by decide +kernel
theorem d_Model_known_45 : decode b_Model_known 45 = .ok (.aload_n 0, 1) := by decide +kernel
theorem d_Model_known_46 : decode b_Model_known 46 = .ok (.getfield 165, 3) := by decide +kernel
theorem fl_Model_165 : Cond.fieldLink R_Model 165 "PointerHouseModel" "titleOf" "[I" ∈ lw_good := lg_right (i := 1888) (by decide +kernel) rfl
theorem d_Model_known_49 : decode b_Model_known 49 = .ok (.iload 6, 2) := by decide +kernel
theorem d_Model_known_51 : decode b_Model_known 51 = .ok (.iaload, 1) := by decide +kernel
theorem d_Model_known_52 : decode b_Model_known 52 = .ok (.iload 4, 2) := by decide +kernel
theorem d_Model_known_54 : decode b_Model_known 54 = .ok (.if_icmp .ne 18, 3) := by decide +kernel
theorem d_Model_known_57 : decode b_Model_known 57 = .ok (.aload_n 0, 1) := by decide +kernel
theorem d_Model_known_58 : decode b_Model_known 58 = .ok (.getfield 168, 3) := by decide +kernel
theorem fl_Model_168 : Cond.fieldLink R_Model 168 "PointerHouseModel" "withOf" "[I" ∈ lw_good := lg_right (i := 1889) (by decide +kernel) rfl
theorem d_Model_known_61 : decode b_Model_known 61 = .ok (.iload 6, 2) := by decide +kernel
theorem d_Model_known_63 : decode b_Model_known 63 = .ok (.iaload, 1) := by decide +kernel
theorem d_Model_known_64 : decode b_Model_known 64 = .ok (.iload 5, 2) := by decide +kernel
theorem d_Model_known_66 : decode b_Model_known 66 = .ok (.if_icmp .ne 6, 3) := by decide +kernel
theorem d_Model_known_69 : decode b_Model_known 69 = .ok (.iload 6, 2) := by decide +kernel
theorem d_Model_known_71 : decode b_Model_known 71 = .ok (.ireturn, 1) := by decide +kernel
theorem d_Model_known_72 : decode b_Model_known 72 = .ok (.iinc 6 1, 3) := by decide +kernel
theorem d_Model_known_75 : decode b_Model_known 75 = .ok (.goto (-72), 3) := by decide +kernel
theorem d_Model_known_78 : decode b_Model_known 78 = .ok (.aload_n 0, 1) := by decide +kernel
theorem d_Model_known_79 : decode b_Model_known 79 = .ok (.getfield 156, 3) := by decide +kernel
theorem d_Model_known_82 : decode b_Model_known 82 = .ok (.aload_n 0, 1) := by decide +kernel
theorem d_Model_known_83 : decode b_Model_known 83 = .ok (.getfield 547, 3) := by decide +kernel
theorem d_Model_known_86 : decode b_Model_known 86 = .ok (.iload_n 1, 1) := by decide +kernel
theorem d_Model_known_87 : decode b_Model_known 87 = .ok (.iastore, 1) := by decide +kernel
theorem d_Model_known_88 : decode b_Model_known 88 = .ok (.aload_n 0, 1) := by decide +kernel
theorem d_Model_known_89 : decode b_Model_known 89 = .ok (.getfield 159, 3) := by decide +kernel
theorem d_Model_known_92 : decode b_Model_known 92 = .ok (.aload_n 0, 1) := by decide +kernel
theorem d_Model_known_93 : decode b_Model_known 93 = .ok (.getfield 547, 3) := by decide +kernel
theorem d_Model_known_96 : decode b_Model_known 96 = .ok (.iload_n 2, 1) := by decide +kernel
theorem d_Model_known_97 : decode b_Model_known 97 = .ok (.iastore, 1) := by decide +kernel
theorem d_Model_known_98 : decode b_Model_known 98 = .ok (.aload_n 0, 1) := by decide +kernel
theorem d_Model_known_99 : decode b_Model_known 99 = .ok (.getfield 162, 3) := by decide +kernel
theorem d_Model_known_102 : decode b_Model_known 102 = .ok (.aload_n 0, 1) := by decide +kernel
theorem d_Model_known_103 : decode b_Model_known 103 = .ok (.getfield 547, 3) := by decide +kernel
theorem d_Model_known_106 : decode b_Model_known 106 = .ok (.iload_n 3, 1) := by decide +kernel
theorem d_Model_known_107 : decode b_Model_known 107 = .ok (.iastore, 1) := by decide +kernel
theorem d_Model_known_108 : decode b_Model_known 108 = .ok (.aload_n 0, 1) := by decide +kernel
theorem d_Model_known_109 : decode b_Model_known 109 = .ok (.getfield 165, 3) := by decide +kernel
theorem d_Model_known_112 : decode b_Model_known 112 = .ok (.aload_n 0, 1) := by decide +kernel
theorem d_Model_known_113 : decode b_Model_known 113 = .ok (.getfield 547, 3) := by decide +kernel
theorem d_Model_known_116 : decode b_Model_known 116 = .ok (.iload 4, 2) := by decide +kernel
theorem d_Model_known_118 : decode b_Model_known 118 = .ok (.iastore, 1) := by decide +kernel
theorem d_Model_known_119 : decode b_Model_known 119 = .ok (.aload_n 0, 1) := by decide +kernel
theorem d_Model_known_120 : decode b_Model_known 120 = .ok (.getfield 168, 3) := by decide +kernel
theorem d_Model_known_123 : decode b_Model_known 123 = .ok (.aload_n 0, 1) := by decide +kernel
theorem d_Model_known_124 : decode b_Model_known 124 = .ok (.getfield 547, 3) := by decide +kernel
theorem d_Model_known_127 : decode b_Model_known 127 = .ok (.iload 5, 2) := by decide +kernel
theorem d_Model_known_129 : decode b_Model_known 129 = .ok (.iastore, 1) := by decide +kernel
theorem d_Model_known_130 : decode b_Model_known 130 = .ok (.aload_n 0, 1) := by decide +kernel
theorem d_Model_known_131 : decode b_Model_known 131 = .ok (.dup, 1) := by decide +kernel
theorem d_Model_known_132 : decode b_Model_known 132 = .ok (.getfield 547, 3) := by decide +kernel
theorem d_Model_known_135 : decode b_Model_known 135 = .ok (.iconst 1, 1) := by decide +kernel
theorem d_Model_known_136 : decode b_Model_known 136 = .ok (.iadd, 1) := by decide +kernel
theorem d_Model_known_137 : decode b_Model_known 137 = .ok (.putfield 547, 3) := by decide +kernel
theorem d_Model_known_140 : decode b_Model_known 140 = .ok (.aload_n 0, 1) := by decide +kernel
theorem d_Model_known_141 : decode b_Model_known 141 = .ok (.getfield 547, 3) := by decide +kernel
theorem d_Model_known_144 : decode b_Model_known 144 = .ok (.iconst 1, 1) := by decide +kernel
theorem d_Model_known_145 : decode b_Model_known 145 = .ok (.isub, 1) := by decide +kernel
theorem d_Model_known_146 : decode b_Model_known 146 = .ok (.ireturn, 1) := by decide +kernel
abbrev b_Model_part : ByteArray := prog_14_method_45_code
abbrev y_Model_part : MethodName := ⟨R_Model, "part", "(II)I"⟩
theorem co_Model_part : Cond.code y_Model_part b_Model_part 2 (some .int) ∈ lw_good := lg_in (tin_11 _ (List.mem_of_getElem? (i := 178) rfl)) rfl
abbrev w_Model_part : List Cond := Cond.code y_Model_part b_Model_part 2 (some .int) :: lw_good
theorem st_Model_part : Cond.static y_Model_part ∈ lw_good := lg_right (i := 2577) (by decide +kernel) rfl
theorem d_Model_part_0 : decode b_Model_part 0 = .ok (.iload_n 0, 1) := by decide +kernel
theorem d_Model_part_1 : decode b_Model_part 1 = .ok (.bipush 10, 2) := by decide +kernel
theorem d_Model_part_3 : decode b_Model_part 3 = .ok (.iload_n 1, 1) := by decide +kernel
theorem d_Model_part_4 : decode b_Model_part 4 = .ok (.imul, 1) := by decide +kernel
theorem d_Model_part_5 : decode b_Model_part 5 = .ok (.ishr, 1) := by decide +kernel
theorem d_Model_part_6 : decode b_Model_part 6 = .ok (.sipush 1023, 3) := by decide +kernel
theorem d_Model_part_9 : decode b_Model_part 9 = .ok (.iand, 1) := by decide +kernel
theorem d_Model_part_10 : decode b_Model_part 10 = .ok (.ireturn, 1) := by decide +kernel
section GV
variable {p : Program} {l : Launch} {e : Env} {R : Room} {s : State} {m : MethodId} {args : Array Value} {below : List Frame} {meth : Method} {c : Code} {H : Heap} {locs : List Loc} {cells slots : Nat} {Q : State → Prop}
variable {cc : ByteArray} {pc : Nat} {ls : Array Slot} {rest st0 : List Value} {dC : Nat → ClassId} {dI : Nat → Nat → Nat} {A : Nat → Prop} {ad ea ev : Nat → Nat} {km : Nat → ClassId} {T T' : gSt} {H0 : Heap}
theorem rd_Model_144 (hx : p.tables.exec = Jvm.exec) (hb : c.code = cc) (hT : ∀ w ∈ lw_good, w.before args s = true) (hown : s.vm.findClass R_Model = some m.cls) (hK : va_K (dC, dI) cls_all (gT LM km) s) (hP : va_P (dC, dI) cls_all (gW LM ad km T) H) (hdg : decode cc pc = .ok (.getfield 144, 3)) (kk : W p l e R s m args below meth c H locs cells slots Q (F0 m (pc + 3) ls (.ref (ad 44) :: rest))) : W p l e R s m args below meth c H locs cells slots Q (F0 m pc ls (.ref (ad 0) :: rest)) := gw_get hx hb hT i_Model hown hK hP 0 58 58 (Nat.le_of_ble_eq_true rfl) rfl rfl (Nat.le_of_ble_eq_true rfl) rfl (gv_a rfl) (hT _ fl_Model_144) (fun _ h9 => h9) hdg kk
theorem laM_43 (hx : p.tables.exec = Jvm.exec) (hb : c.code = cc) (hK : va_K (dC, dI) cls_all (gT LM km) s) (hP : va_P (dC, dI) cls_all (gW LM ad km T) H) {x : Int32} (hin : inb x 8200) (hdg : decode cc pc = .ok (.iaload, 1)) (kk : W p l e R s m args below meth c H locs cells slots Q (F0 m (pc + 1) ls (.int (T.1 58 x.toNatClampNeg) :: rest))) : W p l e R s m args below meth c H locs cells slots Q (F0 m pc ls (.int x :: .ref (ad 44) :: rest)) := gw_iald hx hb hK hP 43 58 8200 44 (Nat.le_of_ble_eq_true rfl) rfl rfl rfl rfl rfl hin hdg kk
theorem saM_43 (hx : p.tables.exec = Jvm.exec) (hb : c.code = cc) (hK : va_K (dC, dI) cls_all (gT LM km) s) (hP : va_P (dC, dI) cls_all (gW LM ad km T) H) (hD : va_D A (gW LM ad km T)) (hS : va_S A H0 H locs) {x : Int32} {v : Int32} (hin : inb x 8200) (hdg : decode cc pc = .ok (.iastore, 1)) (kk : ∀ (T1 : gSt), T1 = sI T 58 x.toNatClampNeg v → ∀ (H1 : Heap) (locs1 : List Loc), va_P (dC, dI) cls_all (gW LM ad km T1) H1 → va_D A (gW LM ad km T1) → va_S A H0 H1 locs1 → W p l e R s m args below meth c H1 locs1 cells slots Q (F0 m (pc + 1) ls rest)) : W p l e R s m args below meth c H locs cells slots Q (F0 m pc ls (.int v :: .int x :: .ref (ad 44) :: rest)) := gw_iast okM hx hb hK hP hD hS 43 58 8200 44 (Nat.le_of_ble_eq_true rfl) rfl rfl rfl rfl rfl hin hdg kk
theorem rd_Model_439 (hx : p.tables.exec = Jvm.exec) (hb : c.code = cc) (hT : ∀ w ∈ lw_good, w.before args s = true) (hown : s.vm.findClass R_Model = some m.cls) (hK : va_K (dC, dI) cls_all (gT LM km) s) (hP : va_P (dC, dI) cls_all (gW LM ad km T) H) (hdg : decode cc pc = .ok (.getfield 439, 3)) (kk : W p l e R s m args below meth c H locs cells slots Q (F0 m (pc + 3) ls (.int (T.1 63 0) :: rest))) : W p l e R s m args below meth c H locs cells slots Q (F0 m pc ls (.ref (ad 0) :: rest)) := gw_get hx hb hT i_Model hown hK hP 0 63 63 (Nat.le_of_ble_eq_true rfl) rfl rfl (Nat.le_of_ble_eq_true rfl) rfl (gv_i rfl) (hT _ fl_Model_439) (fun _ h9 => h9) hdg kk
theorem rd_Model_138 (hx : p.tables.exec = Jvm.exec) (hb : c.code = cc) (hT : ∀ w ∈ lw_good, w.before args s = true) (hown : s.vm.findClass R_Model = some m.cls) (hK : va_K (dC, dI) cls_all (gT LM km) s) (hP : va_P (dC, dI) cls_all (gW LM ad km T) H) (hdg : decode cc pc = .ok (.getfield 138, 3)) (kk : W p l e R s m args below meth c H locs cells slots Q (F0 m (pc + 3) ls (.ref (ad 42) :: rest))) : W p l e R s m args below meth c H locs cells slots Q (F0 m pc ls (.ref (ad 0) :: rest)) := gw_get hx hb hT i_Model hown hK hP 0 56 56 (Nat.le_of_ble_eq_true rfl) rfl rfl (Nat.le_of_ble_eq_true rfl) rfl (gv_a rfl) (hT _ fl_Model_138) (fun _ h9 => h9) hdg kk
theorem laM_41 (hx : p.tables.exec = Jvm.exec) (hb : c.code = cc) (hK : va_K (dC, dI) cls_all (gT LM km) s) (hP : va_P (dC, dI) cls_all (gW LM ad km T) H) {x : Int32} (hin : inb x 8200) (hdg : decode cc pc = .ok (.laload, 1)) (kk : W p l e R s m args below meth c H locs cells slots Q (F0 m (pc + 1) ls (.long (T.2 56 x.toNatClampNeg) :: rest))) : W p l e R s m args below meth c H locs cells slots Q (F0 m pc ls (.int x :: .ref (ad 42) :: rest)) := gw_lald hx hb hK hP 41 56 8200 42 (Nat.le_of_ble_eq_true rfl) rfl rfl rfl rfl rfl hin hdg kk
theorem saM_41 (hx : p.tables.exec = Jvm.exec) (hb : c.code = cc) (hK : va_K (dC, dI) cls_all (gT LM km) s) (hP : va_P (dC, dI) cls_all (gW LM ad km T) H) (hD : va_D A (gW LM ad km T)) (hS : va_S A H0 H locs) {x : Int32} {v : Int64} (hin : inb x 8200) (hdg : decode cc pc = .ok (.lastore, 1)) (kk : ∀ (T1 : gSt), T1 = sJ T 56 x.toNatClampNeg v → ∀ (H1 : Heap) (locs1 : List Loc), va_P (dC, dI) cls_all (gW LM ad km T1) H1 → va_D A (gW LM ad km T1) → va_S A H0 H1 locs1 → W p l e R s m args below meth c H1 locs1 cells slots Q (F0 m (pc + 1) ls rest)) : W p l e R s m args below meth c H locs cells slots Q (F0 m pc ls (.long v :: .int x :: .ref (ad 42) :: rest)) := gw_last okM hx hb hK hP hD hS 41 56 8200 42 (Nat.le_of_ble_eq_true rfl) rfl rfl rfl rfl rfl hin hdg kk
theorem rd_Model_153 (hx : p.tables.exec = Jvm.exec) (hb : c.code = cc) (hT : ∀ w ∈ lw_good, w.before args s = true) (hown : s.vm.findClass R_Model = some m.cls) (hK : va_K (dC, dI) cls_all (gT LM km) s) (hP : va_P (dC, dI) cls_all (gW LM ad km T) H) (hdg : decode cc pc = .ok (.getfield 153, 3)) (kk : W p l e R s m args below meth c H locs cells slots Q (F0 m (pc + 3) ls (.ref (ad 47) :: rest))) : W p l e R s m args below meth c H locs cells slots Q (F0 m pc ls (.ref (ad 0) :: rest)) := gw_get hx hb hT i_Model hown hK hP 0 61 61 (Nat.le_of_ble_eq_true rfl) rfl rfl (Nat.le_of_ble_eq_true rfl) rfl (gv_a rfl) (hT _ fl_Model_153) (fun _ h9 => h9) hdg kk
theorem laM_46 (hx : p.tables.exec = Jvm.exec) (hb : c.code = cc) (hK : va_K (dC, dI) cls_all (gT LM km) s) (hP : va_P (dC, dI) cls_all (gW LM ad km T) H) {x : Int32} (hin : inb x 8200) (hdg : decode cc pc = .ok (.iaload, 1)) (kk : W p l e R s m args below meth c H locs cells slots Q (F0 m (pc + 1) ls (.int (T.1 61 x.toNatClampNeg) :: rest))) : W p l e R s m args below meth c H locs cells slots Q (F0 m pc ls (.int x :: .ref (ad 47) :: rest)) := gw_iald hx hb hK hP 46 61 8200 47 (Nat.le_of_ble_eq_true rfl) rfl rfl rfl rfl rfl hin hdg kk
theorem saM_46 (hx : p.tables.exec = Jvm.exec) (hb : c.code = cc) (hK : va_K (dC, dI) cls_all (gT LM km) s) (hP : va_P (dC, dI) cls_all (gW LM ad km T) H) (hD : va_D A (gW LM ad km T)) (hS : va_S A H0 H locs) {x : Int32} {v : Int32} (hin : inb x 8200) (hdg : decode cc pc = .ok (.iastore, 1)) (kk : ∀ (T1 : gSt), T1 = sI T 61 x.toNatClampNeg v → ∀ (H1 : Heap) (locs1 : List Loc), va_P (dC, dI) cls_all (gW LM ad km T1) H1 → va_D A (gW LM ad km T1) → va_S A H0 H1 locs1 → W p l e R s m args below meth c H1 locs1 cells slots Q (F0 m (pc + 1) ls rest)) : W p l e R s m args below meth c H locs cells slots Q (F0 m pc ls (.int v :: .int x :: .ref (ad 47) :: rest)) := gw_iast okM hx hb hK hP hD hS 46 61 8200 47 (Nat.le_of_ble_eq_true rfl) rfl rfl rfl rfl rfl hin hdg kk
theorem rd_Model_547 (hx : p.tables.exec = Jvm.exec) (hb : c.code = cc) (hT : ∀ w ∈ lw_good, w.before args s = true) (hown : s.vm.findClass R_Model = some m.cls) (hK : va_K (dC, dI) cls_all (gT LM km) s) (hP : va_P (dC, dI) cls_all (gW LM ad km T) H) (hdg : decode cc pc = .ok (.getfield 547, 3)) (kk : W p l e R s m args below meth c H locs cells slots Q (F0 m (pc + 3) ls (.int (T.1 65 0) :: rest))) : W p l e R s m args below meth c H locs cells slots Q (F0 m pc ls (.ref (ad 0) :: rest)) := gw_get hx hb hT i_Model hown hK hP 0 65 65 (Nat.le_of_ble_eq_true rfl) rfl rfl (Nat.le_of_ble_eq_true rfl) rfl (gv_i rfl) (hT _ fl_Model_547) (fun _ h9 => h9) hdg kk
theorem rd_Model_156 (hx : p.tables.exec = Jvm.exec) (hb : c.code = cc) (hT : ∀ w ∈ lw_good, w.before args s = true) (hown : s.vm.findClass R_Model = some m.cls) (hK : va_K (dC, dI) cls_all (gT LM km) s) (hP : va_P (dC, dI) cls_all (gW LM ad km T) H) (hdg : decode cc pc = .ok (.getfield 156, 3)) (kk : W p l e R s m args below meth c H locs cells slots Q (F0 m (pc + 3) ls (.ref (ad 48) :: rest))) : W p l e R s m args below meth c H locs cells slots Q (F0 m pc ls (.ref (ad 0) :: rest)) := gw_get hx hb hT i_Model hown hK hP 0 66 66 (Nat.le_of_ble_eq_true rfl) rfl rfl (Nat.le_of_ble_eq_true rfl) rfl (gv_a rfl) (hT _ fl_Model_156) (fun _ h9 => h9) hdg kk
theorem laM_47 (hx : p.tables.exec = Jvm.exec) (hb : c.code = cc) (hK : va_K (dC, dI) cls_all (gT LM km) s) (hP : va_P (dC, dI) cls_all (gW LM ad km T) H) {x : Int32} (hin : inb x 6000) (hdg : decode cc pc = .ok (.iaload, 1)) (kk : W p l e R s m args below meth c H locs cells slots Q (F0 m (pc + 1) ls (.int (T.1 66 x.toNatClampNeg) :: rest))) : W p l e R s m args below meth c H locs cells slots Q (F0 m pc ls (.int x :: .ref (ad 48) :: rest)) := gw_iald hx hb hK hP 47 66 6000 48 (Nat.le_of_ble_eq_true rfl) rfl rfl rfl rfl rfl hin hdg kk
theorem saM_47 (hx : p.tables.exec = Jvm.exec) (hb : c.code = cc) (hK : va_K (dC, dI) cls_all (gT LM km) s) (hP : va_P (dC, dI) cls_all (gW LM ad km T) H) (hD : va_D A (gW LM ad km T)) (hS : va_S A H0 H locs) {x : Int32} {v : Int32} (hin : inb x 6000) (hdg : decode cc pc = .ok (.iastore, 1)) (kk : ∀ (T1 : gSt), T1 = sI T 66 x.toNatClampNeg v → ∀ (H1 : Heap) (locs1 : List Loc), va_P (dC, dI) cls_all (gW LM ad km T1) H1 → va_D A (gW LM ad km T1) → va_S A H0 H1 locs1 → W p l e R s m args below meth c H1 locs1 cells slots Q (F0 m (pc + 1) ls rest)) : W p l e R s m args below meth c H locs cells slots Q (F0 m pc ls (.int v :: .int x :: .ref (ad 48) :: rest)) := gw_iast okM hx hb hK hP hD hS 47 66 6000 48 (Nat.le_of_ble_eq_true rfl) rfl rfl rfl rfl rfl hin hdg kk
theorem rd_Model_159 (hx : p.tables.exec = Jvm.exec) (hb : c.code = cc) (hT : ∀ w ∈ lw_good, w.before args s = true) (hown : s.vm.findClass R_Model = some m.cls) (hK : va_K (dC, dI) cls_all (gT LM km) s) (hP : va_P (dC, dI) cls_all (gW LM ad km T) H) (hdg : decode cc pc = .ok (.getfield 159, 3)) (kk : W p l e R s m args below meth c H locs cells slots Q (F0 m (pc + 3) ls (.ref (ad 49) :: rest))) : W p l e R s m args below meth c H locs cells slots Q (F0 m pc ls (.ref (ad 0) :: rest)) := gw_get hx hb hT i_Model hown hK hP 0 67 67 (Nat.le_of_ble_eq_true rfl) rfl rfl (Nat.le_of_ble_eq_true rfl) rfl (gv_a rfl) (hT _ fl_Model_159) (fun _ h9 => h9) hdg kk
theorem laM_48 (hx : p.tables.exec = Jvm.exec) (hb : c.code = cc) (hK : va_K (dC, dI) cls_all (gT LM km) s) (hP : va_P (dC, dI) cls_all (gW LM ad km T) H) {x : Int32} (hin : inb x 6000) (hdg : decode cc pc = .ok (.iaload, 1)) (kk : W p l e R s m args below meth c H locs cells slots Q (F0 m (pc + 1) ls (.int (T.1 67 x.toNatClampNeg) :: rest))) : W p l e R s m args below meth c H locs cells slots Q (F0 m pc ls (.int x :: .ref (ad 49) :: rest)) := gw_iald hx hb hK hP 48 67 6000 49 (Nat.le_of_ble_eq_true rfl) rfl rfl rfl rfl rfl hin hdg kk
theorem saM_48 (hx : p.tables.exec = Jvm.exec) (hb : c.code = cc) (hK : va_K (dC, dI) cls_all (gT LM km) s) (hP : va_P (dC, dI) cls_all (gW LM ad km T) H) (hD : va_D A (gW LM ad km T)) (hS : va_S A H0 H locs) {x : Int32} {v : Int32} (hin : inb x 6000) (hdg : decode cc pc = .ok (.iastore, 1)) (kk : ∀ (T1 : gSt), T1 = sI T 67 x.toNatClampNeg v → ∀ (H1 : Heap) (locs1 : List Loc), va_P (dC, dI) cls_all (gW LM ad km T1) H1 → va_D A (gW LM ad km T1) → va_S A H0 H1 locs1 → W p l e R s m args below meth c H1 locs1 cells slots Q (F0 m (pc + 1) ls rest)) : W p l e R s m args below meth c H locs cells slots Q (F0 m pc ls (.int v :: .int x :: .ref (ad 49) :: rest)) := gw_iast okM hx hb hK hP hD hS 48 67 6000 49 (Nat.le_of_ble_eq_true rfl) rfl rfl rfl rfl rfl hin hdg kk
theorem rd_Model_162 (hx : p.tables.exec = Jvm.exec) (hb : c.code = cc) (hT : ∀ w ∈ lw_good, w.before args s = true) (hown : s.vm.findClass R_Model = some m.cls) (hK : va_K (dC, dI) cls_all (gT LM km) s) (hP : va_P (dC, dI) cls_all (gW LM ad km T) H) (hdg : decode cc pc = .ok (.getfield 162, 3)) (kk : W p l e R s m args below meth c H locs cells slots Q (F0 m (pc + 3) ls (.ref (ad 50) :: rest))) : W p l e R s m args below meth c H locs cells slots Q (F0 m pc ls (.ref (ad 0) :: rest)) := gw_get hx hb hT i_Model hown hK hP 0 68 68 (Nat.le_of_ble_eq_true rfl) rfl rfl (Nat.le_of_ble_eq_true rfl) rfl (gv_a rfl) (hT _ fl_Model_162) (fun _ h9 => h9) hdg kk
theorem laM_49 (hx : p.tables.exec = Jvm.exec) (hb : c.code = cc) (hK : va_K (dC, dI) cls_all (gT LM km) s) (hP : va_P (dC, dI) cls_all (gW LM ad km T) H) {x : Int32} (hin : inb x 6000) (hdg : decode cc pc = .ok (.iaload, 1)) (kk : W p l e R s m args below meth c H locs cells slots Q (F0 m (pc + 1) ls (.int (T.1 68 x.toNatClampNeg) :: rest))) : W p l e R s m args below meth c H locs cells slots Q (F0 m pc ls (.int x :: .ref (ad 50) :: rest)) := gw_iald hx hb hK hP 49 68 6000 50 (Nat.le_of_ble_eq_true rfl) rfl rfl rfl rfl rfl hin hdg kk
theorem saM_49 (hx : p.tables.exec = Jvm.exec) (hb : c.code = cc) (hK : va_K (dC, dI) cls_all (gT LM km) s) (hP : va_P (dC, dI) cls_all (gW LM ad km T) H) (hD : va_D A (gW LM ad km T)) (hS : va_S A H0 H locs) {x : Int32} {v : Int32} (hin : inb x 6000) (hdg : decode cc pc = .ok (.iastore, 1)) (kk : ∀ (T1 : gSt), T1 = sI T 68 x.toNatClampNeg v → ∀ (H1 : Heap) (locs1 : List Loc), va_P (dC, dI) cls_all (gW LM ad km T1) H1 → va_D A (gW LM ad km T1) → va_S A H0 H1 locs1 → W p l e R s m args below meth c H1 locs1 cells slots Q (F0 m (pc + 1) ls rest)) : W p l e R s m args below meth c H locs cells slots Q (F0 m pc ls (.int v :: .int x :: .ref (ad 50) :: rest)) := gw_iast okM hx hb hK hP hD hS 49 68 6000 50 (Nat.le_of_ble_eq_true rfl) rfl rfl rfl rfl rfl hin hdg kk
theorem rd_Model_165 (hx : p.tables.exec = Jvm.exec) (hb : c.code = cc) (hT : ∀ w ∈ lw_good, w.before args s = true) (hown : s.vm.findClass R_Model = some m.cls) (hK : va_K (dC, dI) cls_all (gT LM km) s) (hP : va_P (dC, dI) cls_all (gW LM ad km T) H) (hdg : decode cc pc = .ok (.getfield 165, 3)) (kk : W p l e R s m args below meth c H locs cells slots Q (F0 m (pc + 3) ls (.ref (ad 51) :: rest))) : W p l e R s m args below meth c H locs cells slots Q (F0 m pc ls (.ref (ad 0) :: rest)) := gw_get hx hb hT i_Model hown hK hP 0 69 69 (Nat.le_of_ble_eq_true rfl) rfl rfl (Nat.le_of_ble_eq_true rfl) rfl (gv_a rfl) (hT _ fl_Model_165) (fun _ h9 => h9) hdg kk
theorem laM_50 (hx : p.tables.exec = Jvm.exec) (hb : c.code = cc) (hK : va_K (dC, dI) cls_all (gT LM km) s) (hP : va_P (dC, dI) cls_all (gW LM ad km T) H) {x : Int32} (hin : inb x 6000) (hdg : decode cc pc = .ok (.iaload, 1)) (kk : W p l e R s m args below meth c H locs cells slots Q (F0 m (pc + 1) ls (.int (T.1 69 x.toNatClampNeg) :: rest))) : W p l e R s m args below meth c H locs cells slots Q (F0 m pc ls (.int x :: .ref (ad 51) :: rest)) := gw_iald hx hb hK hP 50 69 6000 51 (Nat.le_of_ble_eq_true rfl) rfl rfl rfl rfl rfl hin hdg kk
theorem saM_50 (hx : p.tables.exec = Jvm.exec) (hb : c.code = cc) (hK : va_K (dC, dI) cls_all (gT LM km) s) (hP : va_P (dC, dI) cls_all (gW LM ad km T) H) (hD : va_D A (gW LM ad km T)) (hS : va_S A H0 H locs) {x : Int32} {v : Int32} (hin : inb x 6000) (hdg : decode cc pc = .ok (.iastore, 1)) (kk : ∀ (T1 : gSt), T1 = sI T 69 x.toNatClampNeg v → ∀ (H1 : Heap) (locs1 : List Loc), va_P (dC, dI) cls_all (gW LM ad km T1) H1 → va_D A (gW LM ad km T1) → va_S A H0 H1 locs1 → W p l e R s m args below meth c H1 locs1 cells slots Q (F0 m (pc + 1) ls rest)) : W p l e R s m args below meth c H locs cells slots Q (F0 m pc ls (.int v :: .int x :: .ref (ad 51) :: rest)) := gw_iast okM hx hb hK hP hD hS 50 69 6000 51 (Nat.le_of_ble_eq_true rfl) rfl rfl rfl rfl rfl hin hdg kk
theorem rd_Model_168 (hx : p.tables.exec = Jvm.exec) (hb : c.code = cc) (hT : ∀ w ∈ lw_good, w.before args s = true) (hown : s.vm.findClass R_Model = some m.cls) (hK : va_K (dC, dI) cls_all (gT LM km) s) (hP : va_P (dC, dI) cls_all (gW LM ad km T) H) (hdg : decode cc pc = .ok (.getfield 168, 3)) (kk : W p l e R s m args below meth c H locs cells slots Q (F0 m (pc + 3) ls (.ref (ad 52) :: rest))) : W p l e R s m args below meth c H locs cells slots Q (F0 m pc ls (.ref (ad 0) :: rest)) := gw_get hx hb hT i_Model hown hK hP 0 70 70 (Nat.le_of_ble_eq_true rfl) rfl rfl (Nat.le_of_ble_eq_true rfl) rfl (gv_a rfl) (hT _ fl_Model_168) (fun _ h9 => h9) hdg kk
theorem laM_51 (hx : p.tables.exec = Jvm.exec) (hb : c.code = cc) (hK : va_K (dC, dI) cls_all (gT LM km) s) (hP : va_P (dC, dI) cls_all (gW LM ad km T) H) {x : Int32} (hin : inb x 6000) (hdg : decode cc pc = .ok (.iaload, 1)) (kk : W p l e R s m args below meth c H locs cells slots Q (F0 m (pc + 1) ls (.int (T.1 70 x.toNatClampNeg) :: rest))) : W p l e R s m args below meth c H locs cells slots Q (F0 m pc ls (.int x :: .ref (ad 52) :: rest)) := gw_iald hx hb hK hP 51 70 6000 52 (Nat.le_of_ble_eq_true rfl) rfl rfl rfl rfl rfl hin hdg kk
theorem saM_51 (hx : p.tables.exec = Jvm.exec) (hb : c.code = cc) (hK : va_K (dC, dI) cls_all (gT LM km) s) (hP : va_P (dC, dI) cls_all (gW LM ad km T) H) (hD : va_D A (gW LM ad km T)) (hS : va_S A H0 H locs) {x : Int32} {v : Int32} (hin : inb x 6000) (hdg : decode cc pc = .ok (.iastore, 1)) (kk : ∀ (T1 : gSt), T1 = sI T 70 x.toNatClampNeg v → ∀ (H1 : Heap) (locs1 : List Loc), va_P (dC, dI) cls_all (gW LM ad km T1) H1 → va_D A (gW LM ad km T1) → va_S A H0 H1 locs1 → W p l e R s m args below meth c H1 locs1 cells slots Q (F0 m (pc + 1) ls rest)) : W p l e R s m args below meth c H locs cells slots Q (F0 m pc ls (.int v :: .int x :: .ref (ad 52) :: rest)) := gw_iast okM hx hb hK hP hD hS 51 70 6000 52 (Nat.le_of_ble_eq_true rfl) rfl rfl rfl rfl rfl hin hdg kk
theorem wr_Model_547 (hx : p.tables.exec = Jvm.exec) (hb : c.code = cc) (hT : ∀ w ∈ lw_good, w.before args s = true) (hown : s.vm.findClass R_Model = some m.cls) (hK : va_K (dC, dI) cls_all (gT LM km) s) (hP : va_P (dC, dI) cls_all (gW LM ad km T) H) (hD : va_D A (gW LM ad km T)) (hS : va_S A H0 H locs) {v : Int32} (hdg : decode cc pc = .ok (.putfield 547, 3)) (kk : ∀ (T1 : gSt), T1 = sI T 65 0 v → ∀ (H1 : Heap) (locs1 : List Loc), va_P (dC, dI) cls_all (gW LM ad km T1) H1 → va_D A (gW LM ad km T1) → va_S A H0 H1 locs1 → W p l e R s m args below meth c H1 locs1 cells slots Q (F0 m (pc + 3) ls rest)) : W p l e R s m args below meth c H locs cells slots Q (F0 m pc ls (.int v :: .ref (ad 0) :: rest)) := gw_puti okM hx hb hT i_Model t_Model t_Model_ok n_Model hown hK hP hD hS 0 65 65 (Nat.le_of_ble_eq_true rfl) rfl rfl (Nat.le_of_ble_eq_true rfl) rfl rfl (hT _ fl_Model_547) (fun _ h9 => h9) rfl (ty := .int) (by decide +kernel) rfl rfl hdg kk
end GV
def mt_Model_expression (l : Launch) (dC : Nat → ClassId) (dI : Nat → Nat → Nat) (ea ev ad : Nat → Nat) (km : Nat → ClassId) (F : gF) (d : Nat) : Prop := ∀ (T : gSt) (p1 : Int32) (r : Int32) (rl : Int64) (T' : gSt), F 35 T [p1] [] = some (r, rl, T') → GMi l dC dI LM ad km ea ev y_Model_expression w_Model_expression (rmD d) [.ref (ad 0), .int p1] T r T'
theorem pd_Model_expression : (y_Model_expression).cls = R_Model ∧ (y_Model_expression).cls ≠ "java/lang/invoke/MethodHandle" ∧ (y_Model_expression).cls ≠ "java/lang/invoke/VarHandle" ∧ (parseMethodDescriptor (y_Model_expression).desc).map (fun d => d.parameters.length) = some 1 := by decide +kernel
def mt_Model_readVar (l : Launch) (dC : Nat → ClassId) (dI : Nat → Nat → Nat) (ea ev ad : Nat → Nat) (km : Nat → ClassId) (F : gF) (d : Nat) : Prop := ∀ (T : gSt) (p1 : Int32) (p2 : Int32) (r : Int32) (rl : Int64) (T' : gSt), F 33 T [p1, p2] [] = some (r, rl, T') → GMi l dC dI LM ad km ea ev y_Model_readVar w_Model_readVar (rmD d) [.ref (ad 0), .int p1, .int p2] T r T'
theorem pd_Model_readVar : (y_Model_readVar).cls = R_Model ∧ (y_Model_readVar).cls ≠ "java/lang/invoke/MethodHandle" ∧ (y_Model_readVar).cls ≠ "java/lang/invoke/VarHandle" ∧ (parseMethodDescriptor (y_Model_readVar).desc).map (fun d => d.parameters.length) = some 2 := by decide +kernel
def mt_Model_operator (l : Launch) (dC : Nat → ClassId) (dI : Nat → Nat → Nat) (ea ev ad : Nat → Nat) (km : Nat → ClassId) (F : gF) (d : Nat) : Prop := ∀ (T : gSt)  (r : Int32) (rl : Int64) (T' : gSt), F 34 T [] [] = some (r, rl, T') → GMi l dC dI LM ad km ea ev y_Model_operator w_Model_operator (rmD d) [.ref (ad 0)] T r T'
theorem pd_Model_operator : (y_Model_operator).cls = R_Model ∧ (y_Model_operator).cls ≠ "java/lang/invoke/MethodHandle" ∧ (y_Model_operator).cls ≠ "java/lang/invoke/VarHandle" ∧ (parseMethodDescriptor (y_Model_operator).desc).map (fun d => d.parameters.length) = some 0 := by decide +kernel
def mt_Model_term (l : Launch) (dC : Nat → ClassId) (dI : Nat → Nat → Nat) (ea ev ad : Nat → Nat) (km : Nat → ClassId) (F : gF) (d : Nat) : Prop := ∀ (T : gSt) (p1 : Int32) (r : Int32) (rl : Int64) (T' : gSt), F 36 T [p1] [] = some (r, rl, T') → GMi l dC dI LM ad km ea ev y_Model_term w_Model_term (rmD d) [.ref (ad 0), .int p1] T r T'
theorem pd_Model_term : (y_Model_term).cls = R_Model ∧ (y_Model_term).cls ≠ "java/lang/invoke/MethodHandle" ∧ (y_Model_term).cls ≠ "java/lang/invoke/VarHandle" ∧ (parseMethodDescriptor (y_Model_term).desc).map (fun d => d.parameters.length) = some 1 := by decide +kernel
def mt_Model_primary (l : Launch) (dC : Nat → ClassId) (dI : Nat → Nat → Nat) (ea ev ad : Nat → Nat) (km : Nat → ClassId) (F : gF) (d : Nat) : Prop := ∀ (T : gSt) (p1 : Int32) (r : Int32) (rl : Int64) (T' : gSt), F 38 T [p1] [] = some (r, rl, T') → GMi l dC dI LM ad km ea ev y_Model_primary w_Model_primary (rmD d) [.ref (ad 0), .int p1] T r T'
theorem pd_Model_primary : (y_Model_primary).cls = R_Model ∧ (y_Model_primary).cls ≠ "java/lang/invoke/MethodHandle" ∧ (y_Model_primary).cls ≠ "java/lang/invoke/VarHandle" ∧ (parseMethodDescriptor (y_Model_primary).desc).map (fun d => d.parameters.length) = some 1 := by decide +kernel
def mt_Model_arguments (l : Launch) (dC : Nat → ClassId) (dI : Nat → Nat → Nat) (ea ev ad : Nat → Nat) (km : Nat → ClassId) (F : gF) (d : Nat) : Prop := ∀ (T : gSt) (p1 : Int32) (p2 : Int32) (p3 : Int32) (r : Int32) (rl : Int64) (T' : gSt), F 37 T [p1, p2, p3] [] = some (r, rl, T') → GMv l dC dI LM ad km ea ev y_Model_arguments w_Model_arguments (rmD d) [.ref (ad 0), .int p1, .int p2, .int p3] T T'
theorem pd_Model_arguments : (y_Model_arguments).cls = R_Model ∧ (y_Model_arguments).cls ≠ "java/lang/invoke/MethodHandle" ∧ (y_Model_arguments).cls ≠ "java/lang/invoke/VarHandle" ∧ (parseMethodDescriptor (y_Model_arguments).desc).map (fun d => d.parameters.length) = some 3 := by decide +kernel
def mt_Model_readNew (l : Launch) (dC : Nat → ClassId) (dI : Nat → Nat → Nat) (ea ev ad : Nat → Nat) (km : Nat → ClassId) (F : gF) (d : Nat) : Prop := ∀ (T : gSt) (p1 : Int32) (p2 : Int32) (r : Int32) (rl : Int64) (T' : gSt), F 40 T [p1, p2] [] = some (r, rl, T') → GMi l dC dI LM ad km ea ev y_Model_readNew w_Model_readNew (rmD d) [.ref (ad 0), .int p1, .int p2] T r T'
theorem pd_Model_readNew : (y_Model_readNew).cls = R_Model ∧ (y_Model_readNew).cls ≠ "java/lang/invoke/MethodHandle" ∧ (y_Model_readNew).cls ≠ "java/lang/invoke/VarHandle" ∧ (parseMethodDescriptor (y_Model_readNew).desc).map (fun d => d.parameters.length) = some 2 := by decide +kernel
def mt_Model_readNamed (l : Launch) (dC : Nat → ClassId) (dI : Nat → Nat → Nat) (ea ev ad : Nat → Nat) (km : Nat → ClassId) (F : gF) (d : Nat) : Prop := ∀ (T : gSt) (p1 : Int32) (p2 : Int32) (r : Int32) (rl : Int64) (T' : gSt), F 39 T [p1, p2] [] = some (r, rl, T') → GMi l dC dI LM ad km ea ev y_Model_readNamed w_Model_readNamed (rmD d) [.ref (ad 0), .int p1, .int p2] T r T'
theorem pd_Model_readNamed : (y_Model_readNamed).cls = R_Model ∧ (y_Model_readNamed).cls ≠ "java/lang/invoke/MethodHandle" ∧ (y_Model_readNamed).cls ≠ "java/lang/invoke/VarHandle" ∧ (parseMethodDescriptor (y_Model_readNamed).desc).map (fun d => d.parameters.length) = some 2 := by decide +kernel
def mt_Model_known (l : Launch) (dC : Nat → ClassId) (dI : Nat → Nat → Nat) (ea ev ad : Nat → Nat) (km : Nat → ClassId) (F : gF) (d : Nat) : Prop := ∀ (T : gSt) (p1 : Int32) (p2 : Int32) (p3 : Int32) (p4 : Int32) (p5 : Int32) (r : Int32) (rl : Int64) (T' : gSt), F 41 T [p1, p2, p3, p4, p5] [] = some (r, rl, T') → GMi l dC dI LM ad km ea ev y_Model_known w_Model_known (rmD d) [.ref (ad 0), .int p1, .int p2, .int p3, .int p4, .int p5] T r T'
theorem pd_Model_known : (y_Model_known).cls = R_Model ∧ (y_Model_known).cls ≠ "java/lang/invoke/MethodHandle" ∧ (y_Model_known).cls ≠ "java/lang/invoke/VarHandle" ∧ (parseMethodDescriptor (y_Model_known).desc).map (fun d => d.parameters.length) = some 5 := by decide +kernel
def mt_Model_part (l : Launch) (dC : Nat → ClassId) (dI : Nat → Nat → Nat) (ea ev ad : Nat → Nat) (km : Nat → ClassId) (F : gF) (d : Nat) : Prop := ∀ (T : gSt) (p1 : Int32) (p2 : Int32) (r : Int32) (rl : Int64) (T' : gSt), F 42 T [p1, p2] [] = some (r, rl, T') → GMi l dC dI LM ad km ea ev y_Model_part w_Model_part (rmD d) [.int p1, .int p2] T r T'
theorem pd_Model_part : (y_Model_part).cls ≠ "java/lang/invoke/MethodHandle" ∧ (y_Model_part).cls ≠ "java/lang/invoke/VarHandle" ∧ (parseMethodDescriptor (y_Model_part).desc).map (fun d => d.parameters.length) = some 2 := by decide +kernel
set_option maxHeartbeats 4000000 in
set_option maxRecDepth 100000 in
theorem sp_Model_step (l : Launch) (dC : Nat → ClassId) (dI : Nat → Nat → Nat) (ea ev ad : Nat → Nat) (km : Nat → ClassId) (F : gF) (nf d : Nat) (h_Model_takesWord : mt_Model_takesWord l dC dI ea ev ad km F d) (h_Model_isWord : mt_Model_isWord l dC dI ea ev ad km F d) (h_Model_advance : mt_Model_advance l dC dI ea ev ad km F d) (h_Model_node : mt_Model_node l dC dI ea ev ad km F d) (h_Model_block : mt_Model_block l dC dI ea ev ad km F d) (h_Model_wrong : mt_Model_wrong l dC dI ea ev ad km F d) (h_Model_needRegion : mt_Model_needRegion l dC dI ea ev ad km F d) (h_Model_need : mt_Model_need l dC dI ea ev ad km F d) (h_Model_fail : mt_Model_fail l dC dI ea ev ad km F d) (h_Model_isSign : mt_Model_isSign l dC dI ea ev ad km F d) (h_Model_expression : mt_Model_expression l dC dI ea ev ad km F d) (h_Model_readVar : mt_Model_readVar l dC dI ea ev ad km F d) (h_Model_takes : mt_Model_takes l dC dI ea ev ad km F d) (T0 : gSt) (p1 : Int32) (r0 : Int32) (rl0 : Int64) (T9 : gSt) (hR : rb_Model_step F nf T0 p1 = some (r0, rl0, T9)) : GMi l dC dI LM ad km ea ev y_Model_step w_Model_step (rmD (d + 1)) [.ref (ad 0), .int p1] T0 r0 T9 := by
  intro sz
  refine Met.ofW (cc := b_Model_step) (maxL := 8) (ret := (some .int)) (by decide) rfl ?_
  intro p e s m args below meth c s₁ B hml hv
  obtain ⟨rfl, hsz, hP, hK, hD0, hnw, henv⟩ := hv
  have hx := B.exec
  have hb := B.bytes
  have hr := B.returns
  have hT : ∀ w ∈ lw_good, w.before _ s = true := fun w h => atoms_spec (ws := w_Model_step) B.pre w (List.mem_cons_of_mem _ h)
  have hown : s.vm.findClass R_Model = some m.cls := findClass_of_methodNamed B.named
  subst hsz
  have hD := hD0.self (sz := s.heap.size)
  clear hD0
  generalize hAe : va_A (gW LM ad km T0) s.heap.size = A at hD henv ⊢
  have hA : ∀ q : Nat, s.heap.size ≤ q → A q := fun q h => by rw [← hAe]; exact Or.inr h
  have hS : va_S A s.heap s.heap [] := va_S.rf
  have hl := lv_entry ([.ref (ad 0), .int p1]) (n := 8) (Nat.le_of_ble_eq_true rfl)
  rw [lg_entry_eq]
  generalize (lg_sl ([.ref (ad 0), .int p1]) ++ List.replicate (8 - (lg_sl ([.ref (ad 0), .int p1])).length) Slot.unset).toArray = ls at hl ⊢
  have hl : lv_has ls 8 [(0, .ref (ad 0)), (1, .int p1)] := hl
  obtain ⟨G, hG⟩ : ∃ G : Nat → List (Nat × Value) → List Value → gSt → Prop, G = (fun pc lv stk T => ∀ (H : Heap) (locs : List Loc), va_P (dC, dI) cls_all (gW LM ad km T) H → va_D A (gW LM ad km T) → va_S A s.heap H locs → ∀ (ls : Array Slot), lv_has ls 8 lv → W p l e (headSpec w_Model_step (rmD (d + 1))).room s m ([.ref (ad 0), .int p1] : List Value).toArray below meth c H locs 0 0 (MQ below (va_Qi (fun (z : Int32) (_ : Unit) => z = r0) (fun _ t => gPost dC dI LM ad km T9 A t) A) ([.ref (ad 0), .int p1] : List Value).toArray s 0 0 A) (F0 m pc ls stk)) := ⟨_, rfl⟩
  have lb_415 : ∀ (T : gSt) (x1 : Int32) (x2 : Int32) (x4 : Int32) (x5 : Int32) (x6 : Int32) (y0 : Int32), rj_Model_step_415 F nf T x1 x2 x4 x5 x6 y0 = some (r0, rl0, T9) → G 415 [(0, .ref (ad 0)), (1, .int x1), (2, .int x2), (4, .int x4), (5, .int x5), (6, .int x6)] [.int y0, .ref (ad 0)] T := by
    intro T x1 x2 x4 x5 x6 y0 hR; unfold rj_Model_step_415 at hR; rw [hG]; intro H locs hP hD hS ls hl
    refine lv_iload_n hx hb d_Model_step_415 rfl (lv_at hl 2 rfl) ?_
    replace hR := bi_e hR
    obtain ⟨r79, l79, T79, hc79, hR⟩ := hR
    refine gcV_i (rest := []) ⟨hx, hb, hml, hown, hT⟩ (h_Model_node _ _ _ _ _ _ hc79) (cwV 2 hT (gV ml_Model_478 im_Model_node se_Model_node ini_Model co_Model_node) rfl rfl rfl pd_Model_node ⟨rm_hi, rm_lo (Nat.le_of_ble_eq_true rfl)⟩) hK hP hD hS hA hnw henv (Nat.le_of_ble_eq_true rfl) rfl rfl hl.1 rfl (Nat.le_of_ble_eq_true rfl) d_Model_step_416 ⟨Nat.le_refl _, Nat.le_refl _⟩ (fun H locs hP hD hS => ?_)
    clear hc79
    refine lv_istore (lv' := [(7, .int r79), (0, .ref (ad 0)), (1, .int x1), (2, .int x2), (4, .int x4), (5, .int x5), (6, .int x6)]) hx hb d_Model_step_419 hl (by decide) rfl (fun ls hl => ?_)
    refine lv_aload_n hx hb d_Model_step_421 rfl (lv_at hl 1 rfl) ?_
    refine rd_Model_126 hx hb hT hown hK hP d_Model_step_422 ?_
    refine lv_iload hx hb d_Model_step_425 (lv_at hl 0 rfl) ?_
    refine lv_iload hx hb d_Model_step_427 (lv_at hl 6 rfl) ?_
    replace hR := gd_e hR
    obtain ⟨b80, hR⟩ := hR
    refine saM_37 hx hb hK hP hD hS b80 d_Model_step_429 (fun T80 eT H locs hP hD hS => ?_)
    replace hR := stK_e eT hR
    clear eT
    refine lv_iload hx hb d_Model_step_430 (lv_at hl 4 rfl) ?_
    refine lv_if_ne (tgt := 472) hx hb d_Model_step_432 (by decide) (fun c81 => ?_) (fun c81 => ?_)
    · replace hR := if_n c81 hR
      refine lv_aload_n hx hb d_Model_step_472 rfl (lv_at hl 1 rfl) ?_
      refine lv_bipush (v := 59) hx hb d_Model_step_473 (by decide) ?_
      replace hR := bi_e hR
      obtain ⟨r82, l82, T82, hc82, hR⟩ := hR
      refine gcV_v (rest := []) ⟨hx, hb, hml, hown, hT⟩ (h_Model_need _ _ _ _ _ hc82) (cwV 1 hT (gV ml_Model_448 im_Model_need se_Model_need ini_Model co_Model_need) rfl rfl rfl pd_Model_need ⟨rm_hi, rm_lo (Nat.le_of_ble_eq_true rfl)⟩) hK hP hD hS hA hnw henv (Nat.le_of_ble_eq_true rfl) rfl rfl hl.1 rfl (Nat.le_of_ble_eq_true rfl) d_Model_step_475 ⟨Nat.le_refl _, Nat.le_refl _⟩ (fun H locs hP hD hS => ?_)
      clear hc82
      refine lv_iload hx hb d_Model_step_478 (lv_at hl 0 rfl) ?_
      obtain ⟨e1, -, e3⟩ := re_e hR
      subst e1; subst e3
      exact W.iret (v := r79) hx hb hr (fun t ht hW => ⟨⟨r79, (), rfl, rfl, by rw [ht]; exact hP, va_K.moved hW.alike hK, hD⟩, hS.F ht⟩) hS.2.2 d_Model_step_480
    · replace hR := if_p c81 hR
      refine lv_iload hx hb d_Model_step_435 (lv_at hl 5 rfl) ?_
      refine lv_if_ne (tgt := 472) hx hb d_Model_step_437 (by decide) (fun c84 => ?_) (fun c84 => ?_)
      · replace hR := if_n c84 hR
        refine lv_aload_n hx hb d_Model_step_472 rfl (lv_at hl 1 rfl) ?_
        refine lv_bipush (v := 59) hx hb d_Model_step_473 (by decide) ?_
        replace hR := bi_e hR
        obtain ⟨r85, l85, T85, hc85, hR⟩ := hR
        refine gcV_v (rest := []) ⟨hx, hb, hml, hown, hT⟩ (h_Model_need _ _ _ _ _ hc85) (cwV 1 hT (gV ml_Model_448 im_Model_need se_Model_need ini_Model co_Model_need) rfl rfl rfl pd_Model_need ⟨rm_hi, rm_lo (Nat.le_of_ble_eq_true rfl)⟩) hK hP hD hS hA hnw henv (Nat.le_of_ble_eq_true rfl) rfl rfl hl.1 rfl (Nat.le_of_ble_eq_true rfl) d_Model_step_475 ⟨Nat.le_refl _, Nat.le_refl _⟩ (fun H locs hP hD hS => ?_)
        clear hc85
        refine lv_iload hx hb d_Model_step_478 (lv_at hl 0 rfl) ?_
        obtain ⟨e1, -, e3⟩ := re_e hR
        subst e1; subst e3
        exact W.iret (v := r79) hx hb hr (fun t ht hW => ⟨⟨r79, (), rfl, rfl, by rw [ht]; exact hP, va_K.moved hW.alike hK, hD⟩, hS.F ht⟩) hS.2.2 d_Model_step_480
      · replace hR := if_p c84 hR
        refine lv_aload_n hx hb d_Model_step_440 rfl (lv_at hl 1 rfl) ?_
        refine lv_bipush (v := 61) hx hb d_Model_step_441 (by decide) ?_
        replace hR := bi_e hR
        obtain ⟨r87, l87, T87, hc87, hR⟩ := hR
        refine gcV_i (rest := []) ⟨hx, hb, hml, hown, hT⟩ (h_Model_takes _ _ _ _ _ hc87) (cwV 1 hT (gV ml_Model_403 im_Model_takes se_Model_takes ini_Model co_Model_takes) rfl rfl rfl pd_Model_takes ⟨rm_hi, rm_lo (Nat.le_of_ble_eq_true rfl)⟩) hK hP hD hS hA hnw henv (Nat.le_of_ble_eq_true rfl) rfl rfl hl.1 rfl (Nat.le_of_ble_eq_true rfl) d_Model_step_443 ⟨Nat.le_refl _, Nat.le_refl _⟩ (fun H locs hP hD hS => ?_)
        clear hc87
        refine lv_if_eq (tgt := 472) hx hb d_Model_step_446 (by decide) (fun c88 => ?_) (fun c88 => ?_)
        · replace hR := if_p c88 hR
          refine lv_aload_n hx hb d_Model_step_472 rfl (lv_at hl 1 rfl) ?_
          refine lv_bipush (v := 59) hx hb d_Model_step_473 (by decide) ?_
          replace hR := bi_e hR
          obtain ⟨r89, l89, T89, hc89, hR⟩ := hR
          refine gcV_v (rest := []) ⟨hx, hb, hml, hown, hT⟩ (h_Model_need _ _ _ _ _ hc89) (cwV 1 hT (gV ml_Model_448 im_Model_need se_Model_need ini_Model co_Model_need) rfl rfl rfl pd_Model_need ⟨rm_hi, rm_lo (Nat.le_of_ble_eq_true rfl)⟩) hK hP hD hS hA hnw henv (Nat.le_of_ble_eq_true rfl) rfl rfl hl.1 rfl (Nat.le_of_ble_eq_true rfl) d_Model_step_475 ⟨Nat.le_refl _, Nat.le_refl _⟩ (fun H locs hP hD hS => ?_)
          clear hc89
          refine lv_iload hx hb d_Model_step_478 (lv_at hl 0 rfl) ?_
          obtain ⟨e1, -, e3⟩ := re_e hR
          subst e1; subst e3
          exact W.iret (v := r79) hx hb hr (fun t ht hW => ⟨⟨r79, (), rfl, rfl, by rw [ht]; exact hP, va_K.moved hW.alike hK, hD⟩, hS.F ht⟩) hS.2.2 d_Model_step_480
        · replace hR := if_n c88 hR
          refine lv_aload_n hx hb d_Model_step_449 rfl (lv_at hl 1 rfl) ?_
          refine rd_Model_120 hx hb hT hown hK hP d_Model_step_450 ?_
          refine lv_iload hx hb d_Model_step_453 (lv_at hl 0 rfl) ?_
          refine lv_bipush (v := 29) hx hb d_Model_step_455 (by decide) ?_
          replace hR := gd_e hR
          obtain ⟨b91, hR⟩ := hR
          refine saM_35 hx hb hK hP hD hS b91 d_Model_step_457 (fun T91 eT H locs hP hD hS => ?_)
          replace hR := stK_e eT hR
          clear eT
          refine lv_aload_n hx hb d_Model_step_458 rfl (lv_at hl 1 rfl) ?_
          refine rd_Model_129 hx hb hT hown hK hP d_Model_step_459 ?_
          refine lv_iload hx hb d_Model_step_462 (lv_at hl 0 rfl) ?_
          refine lv_aload_n hx hb d_Model_step_464 rfl (lv_at hl 1 rfl) ?_
          refine lv_iload_n hx hb d_Model_step_465 rfl (lv_at hl 2 rfl) ?_
          refine lv_iconst (v := 1) hx hb d_Model_step_466 (by decide) ?_
          refine lv_iadd hx hb d_Model_step_467 ?_
          replace hR := bi_e hR
          obtain ⟨r92, l92, T92, hc92, hR⟩ := hR
          refine gcV_i (rest := [.int r79, .ref (ad 39)]) ⟨hx, hb, hml, hown, hT⟩ (h_Model_expression _ _ _ _ _ hc92) (cwV 1 hT (gV ml_Model_494 im_Model_expression se_Model_expression ini_Model co_Model_expression) rfl rfl rfl pd_Model_expression ⟨rm_hi, rm_lo (Nat.le_of_ble_eq_true rfl)⟩) hK hP hD hS hA hnw henv (Nat.le_of_ble_eq_true rfl) rfl rfl hl.1 rfl (Nat.le_of_ble_eq_true rfl) d_Model_step_468 ⟨Nat.le_refl _, Nat.le_refl _⟩ (fun H locs hP hD hS => ?_)
          clear hc92
          replace hR := gd_e hR
          obtain ⟨b93, hR⟩ := hR
          refine saM_38 hx hb hK hP hD hS b93 d_Model_step_471 (fun T93 eT H locs hP hD hS => ?_)
          replace hR := stK_e eT hR
          clear eT
          refine lv_aload_n hx hb d_Model_step_472 rfl (lv_at hl 1 rfl) ?_
          refine lv_bipush (v := 59) hx hb d_Model_step_473 (by decide) ?_
          replace hR := bi_e hR
          obtain ⟨r94, l94, T94, hc94, hR⟩ := hR
          refine gcV_v (rest := []) ⟨hx, hb, hml, hown, hT⟩ (h_Model_need _ _ _ _ _ hc94) (cwV 1 hT (gV ml_Model_448 im_Model_need se_Model_need ini_Model co_Model_need) rfl rfl rfl pd_Model_need ⟨rm_hi, rm_lo (Nat.le_of_ble_eq_true rfl)⟩) hK hP hD hS hA hnw henv (Nat.le_of_ble_eq_true rfl) rfl rfl hl.1 rfl (Nat.le_of_ble_eq_true rfl) d_Model_step_475 ⟨Nat.le_refl _, Nat.le_refl _⟩ (fun H locs hP hD hS => ?_)
          clear hc94
          refine lv_iload hx hb d_Model_step_478 (lv_at hl 0 rfl) ?_
          obtain ⟨e1, -, e3⟩ := re_e hR
          subst e1; subst e3
          exact W.iret (v := r79) hx hb hr (fun t ht hW => ⟨⟨r79, (), rfl, rfl, by rw [ht]; exact hP, va_K.moved hW.alike hK, hD⟩, hS.F ht⟩) hS.2.2 d_Model_step_480
  have lb_383 : ∀ (T : gSt) (x1 : Int32) (x2 : Int32) (x4 : Int32) (x5 : Int32), rj_Model_step_383 F nf T x1 x2 x4 x5 = some (r0, rl0, T9) → G 383 [(0, .ref (ad 0)), (1, .int x1), (2, .int x2), (4, .int x4), (5, .int x5)] [] T := by
    intro T x1 x2 x4 x5 hR; unfold rj_Model_step_383 at hR; rw [hG]; intro H locs hP hD hS ls hl
    refine lv_aload_n hx hb d_Model_step_383 rfl (lv_at hl 0 rfl) ?_
    refine lv_iload_n hx hb d_Model_step_384 rfl (lv_at hl 1 rfl) ?_
    refine lv_iconst (v := 1) hx hb d_Model_step_385 (by decide) ?_
    refine lv_iadd hx hb d_Model_step_386 ?_
    replace hR := bi_e hR
    obtain ⟨r76, l76, T76, hc76, hR⟩ := hR
    refine gcV_i (rest := []) ⟨hx, hb, hml, hown, hT⟩ (h_Model_expression _ _ _ _ _ hc76) (cwV 1 hT (gV ml_Model_494 im_Model_expression se_Model_expression ini_Model co_Model_expression) rfl rfl rfl pd_Model_expression ⟨rm_hi, rm_lo (Nat.le_of_ble_eq_true rfl)⟩) hK hP hD hS hA hnw henv (Nat.le_of_ble_eq_true rfl) rfl rfl hl.1 rfl (Nat.le_of_ble_eq_true rfl) d_Model_step_387 ⟨Nat.le_refl _, Nat.le_refl _⟩ (fun H locs hP hD hS => ?_)
    clear hc76
    refine lv_istore (lv' := [(6, .int r76), (0, .ref (ad 0)), (1, .int x1), (2, .int x2), (4, .int x4), (5, .int x5)]) hx hb d_Model_step_390 hl (by decide) rfl (fun ls hl => ?_)
    refine lv_aload_n hx hb d_Model_step_392 rfl (lv_at hl 1 rfl) ?_
    refine lv_iload hx hb d_Model_step_393 (lv_at hl 4 rfl) ?_
    refine lv_if_eq (tgt := 403) hx hb d_Model_step_395 (by decide) (fun c77 => ?_) (fun c77 => ?_)
    · replace hR := if_p c77 hR
      refine lv_iload hx hb d_Model_step_403 (lv_at hl 5 rfl) ?_
      refine lv_if_eq (tgt := 413) hx hb d_Model_step_405 (by decide) (fun c78 => ?_) (fun c78 => ?_)
      · replace hR := if_p c78 hR
        refine lv_bipush (v := 30) hx hb d_Model_step_413 (by decide) ?_
        have g := lb_415 T76 x1 x2 x4 x5 r76 (30 : Int32) hR
        rw [hG] at g
        exact g _ _ hP hD hS _ (lv_sub hl [1, 2, 3, 4, 5, 0] rfl)
      · replace hR := if_n c78 hR
        refine lv_bipush (v := 25) hx hb d_Model_step_408 (by decide) ?_
        refine lv_goto (tgt := 415) hx hb d_Model_step_410 (by decide) ?_
        have g := lb_415 T76 x1 x2 x4 x5 r76 (25 : Int32) hR
        rw [hG] at g
        exact g _ _ hP hD hS _ (lv_sub hl [1, 2, 3, 4, 5, 0] rfl)
    · replace hR := if_n c77 hR
      refine lv_bipush (v := 24) hx hb d_Model_step_398 (by decide) ?_
      refine lv_goto (tgt := 415) hx hb d_Model_step_400 (by decide) ?_
      have g := lb_415 T76 x1 x2 x4 x5 r76 (24 : Int32) hR
      rw [hG] at g
      exact g _ _ hP hD hS _ (lv_sub hl [1, 2, 3, 4, 5, 0] rfl)
  have lb_201 : ∀ (T : gSt) (x1 : Int32) (x2 : Int32), rj_Model_step_201 F nf T x1 x2 = some (r0, rl0, T9) → G 201 [(0, .ref (ad 0)), (1, .int x1), (2, .int x2)] [] T := by
    intro T x1 x2 hR; unfold rj_Model_step_201 at hR; rw [hG]; intro H locs hP hD hS ls hl
    refine lv_aload_n hx hb d_Model_step_201 rfl (lv_at hl 0 rfl) ?_
    refine lv_dup hx hb d_Model_step_202 rfl ?_
    refine rd_Model_439 hx hb hT hown hK hP d_Model_step_203 ?_
    refine lv_iconst (v := 1) hx hb d_Model_step_206 (by decide) ?_
    refine lv_iadd hx hb d_Model_step_207 ?_
    refine wr_Model_439 hx hb hT hown hK hP hD hS d_Model_step_208 (fun T69 eT H locs hP hD hS => ?_)
    replace hR := stK_e eT hR
    clear eT
    refine lv_aload_n hx hb d_Model_step_211 rfl (lv_at hl 0 rfl) ?_
    refine lv_bipush (v := 26) hx hb d_Model_step_212 (by decide) ?_
    refine lv_iload_n hx hb d_Model_step_214 rfl (lv_at hl 2 rfl) ?_
    replace hR := bi_e hR
    obtain ⟨r70, l70, T70, hc70, hR⟩ := hR
    refine gcV_i (rest := []) ⟨hx, hb, hml, hown, hT⟩ (h_Model_node _ _ _ _ _ _ hc70) (cwV 2 hT (gV ml_Model_478 im_Model_node se_Model_node ini_Model co_Model_node) rfl rfl rfl pd_Model_node ⟨rm_hi, rm_lo (Nat.le_of_ble_eq_true rfl)⟩) hK hP hD hS hA hnw henv (Nat.le_of_ble_eq_true rfl) rfl rfl hl.1 rfl (Nat.le_of_ble_eq_true rfl) d_Model_step_215 ⟨Nat.le_refl _, Nat.le_refl _⟩ (fun H locs hP hD hS => ?_)
    clear hc70
    refine lv_istore (lv' := [(4, .int r70), (0, .ref (ad 0)), (1, .int x1), (2, .int x2)]) hx hb d_Model_step_218 hl (by decide) rfl (fun ls hl => ?_)
    refine lv_aload_n hx hb d_Model_step_220 rfl (lv_at hl 1 rfl) ?_
    refine rd_Model_144 hx hb hT hown hK hP d_Model_step_221 ?_
    refine lv_iload hx hb d_Model_step_224 (lv_at hl 0 rfl) ?_
    refine lv_aload_n hx hb d_Model_step_226 rfl (lv_at hl 1 rfl) ?_
    replace hR := bi_e hR
    obtain ⟨r71, l71, T71, hc71, hR⟩ := hR
    refine gcV_i (rest := [.int r70, .ref (ad 44)]) ⟨hx, hb, hml, hown, hT⟩ (h_Model_needRegion _ _ _ _ hc71) (cwV 0 hT (gV ml_Model_465 im_Model_needRegion se_Model_needRegion ini_Model co_Model_needRegion) rfl rfl rfl pd_Model_needRegion ⟨rm_hi, rm_lo (Nat.le_of_ble_eq_true rfl)⟩) hK hP hD hS hA hnw henv (Nat.le_of_ble_eq_true rfl) rfl rfl hl.1 rfl (Nat.le_of_ble_eq_true rfl) d_Model_step_227 ⟨Nat.le_refl _, Nat.le_refl _⟩ (fun H locs hP hD hS => ?_)
    clear hc71
    replace hR := gd_e hR
    obtain ⟨b72, hR⟩ := hR
    refine saM_43 hx hb hK hP hD hS b72 d_Model_step_230 (fun T72 eT H locs hP hD hS => ?_)
    replace hR := stK_e eT hR
    clear eT
    refine lv_aload_n hx hb d_Model_step_231 rfl (lv_at hl 1 rfl) ?_
    refine rd_Model_126 hx hb hT hown hK hP d_Model_step_232 ?_
    refine lv_iload hx hb d_Model_step_235 (lv_at hl 0 rfl) ?_
    refine lv_aload_n hx hb d_Model_step_237 rfl (lv_at hl 1 rfl) ?_
    refine lv_iload_n hx hb d_Model_step_238 rfl (lv_at hl 2 rfl) ?_
    refine lv_iconst (v := 1) hx hb d_Model_step_239 (by decide) ?_
    refine lv_iadd hx hb d_Model_step_240 ?_
    replace hR := bi_e hR
    obtain ⟨r73, l73, T73, hc73, hR⟩ := hR
    refine gcV_i (rest := [.int r70, .ref (ad 38)]) ⟨hx, hb, hml, hown, hT⟩ (h_Model_block _ _ _ _ _ hc73) (cwV 1 hT (gV ml_Model_445 im_Model_block se_Model_block ini_Model co_Model_block) rfl rfl rfl pd_Model_block ⟨rm_hi, rm_lo (Nat.le_of_ble_eq_true rfl)⟩) hK hP hD hS hA hnw henv (Nat.le_of_ble_eq_true rfl) rfl rfl hl.1 rfl (Nat.le_of_ble_eq_true rfl) d_Model_step_241 ⟨Nat.le_refl _, Nat.le_refl _⟩ (fun H locs hP hD hS => ?_)
    clear hc73
    replace hR := gd_e hR
    obtain ⟨b74, hR⟩ := hR
    refine saM_37 hx hb hK hP hD hS b74 d_Model_step_244 (fun T74 eT H locs hP hD hS => ?_)
    replace hR := stK_e eT hR
    clear eT
    refine lv_iload hx hb d_Model_step_245 (lv_at hl 0 rfl) ?_
    obtain ⟨e1, -, e3⟩ := re_e hR
    subst e1; subst e3
    exact W.iret (v := r70) hx hb hr (fun t ht hW => ⟨⟨r70, (), rfl, rfl, by rw [ht]; exact hP, va_K.moved hW.alike hK, hD⟩, hS.F ht⟩) hS.2.2 d_Model_step_247
  have lb_60 : ∀ (T : gSt) (x1 : Int32) (x2 : Int32) (x3 : Int32) (y0 : Int32), rj_Model_step_60 F nf T x1 x2 x3 y0 = some (r0, rl0, T9) → G 60 [(0, .ref (ad 0)), (1, .int x1), (2, .int x2), (3, .int x3)] [.int y0, .ref (ad 0)] T := by
    intro T x1 x2 x3 y0 hR; unfold rj_Model_step_60 at hR; rw [hG]; intro H locs hP hD hS ls hl
    refine lv_iload_n hx hb d_Model_step_60 rfl (lv_at hl 2 rfl) ?_
    replace hR := bi_e hR
    obtain ⟨r56, l56, T56, hc56, hR⟩ := hR
    refine gcV_i (rest := []) ⟨hx, hb, hml, hown, hT⟩ (h_Model_node _ _ _ _ _ _ hc56) (cwV 2 hT (gV ml_Model_478 im_Model_node se_Model_node ini_Model co_Model_node) rfl rfl rfl pd_Model_node ⟨rm_hi, rm_lo (Nat.le_of_ble_eq_true rfl)⟩) hK hP hD hS hA hnw henv (Nat.le_of_ble_eq_true rfl) rfl rfl hl.1 rfl (Nat.le_of_ble_eq_true rfl) d_Model_step_61 ⟨Nat.le_refl _, Nat.le_refl _⟩ (fun H locs hP hD hS => ?_)
    clear hc56
    refine lv_istore (lv' := [(4, .int r56), (0, .ref (ad 0)), (1, .int x1), (2, .int x2), (3, .int x3)]) hx hb d_Model_step_64 hl (by decide) rfl (fun ls hl => ?_)
    refine lv_aload_n hx hb d_Model_step_66 rfl (lv_at hl 1 rfl) ?_
    refine rd_Model_126 hx hb hT hown hK hP d_Model_step_67 ?_
    refine lv_iload hx hb d_Model_step_70 (lv_at hl 0 rfl) ?_
    refine lv_aload_n hx hb d_Model_step_72 rfl (lv_at hl 1 rfl) ?_
    refine lv_iload_n hx hb d_Model_step_73 rfl (lv_at hl 2 rfl) ?_
    refine lv_iconst (v := 1) hx hb d_Model_step_74 (by decide) ?_
    refine lv_iadd hx hb d_Model_step_75 ?_
    replace hR := bi_e hR
    obtain ⟨r57, l57, T57, hc57, hR⟩ := hR
    refine gcV_i (rest := [.int r56, .ref (ad 38)]) ⟨hx, hb, hml, hown, hT⟩ (h_Model_expression _ _ _ _ _ hc57) (cwV 1 hT (gV ml_Model_494 im_Model_expression se_Model_expression ini_Model co_Model_expression) rfl rfl rfl pd_Model_expression ⟨rm_hi, rm_lo (Nat.le_of_ble_eq_true rfl)⟩) hK hP hD hS hA hnw henv (Nat.le_of_ble_eq_true rfl) rfl rfl hl.1 rfl (Nat.le_of_ble_eq_true rfl) d_Model_step_76 ⟨Nat.le_refl _, Nat.le_refl _⟩ (fun H locs hP hD hS => ?_)
    clear hc57
    replace hR := gd_e hR
    obtain ⟨b58, hR⟩ := hR
    refine saM_37 hx hb hK hP hD hS b58 d_Model_step_79 (fun T58 eT H locs hP hD hS => ?_)
    replace hR := stK_e eT hR
    clear eT
    refine lv_aload_n hx hb d_Model_step_80 rfl (lv_at hl 1 rfl) ?_
    refine rd_Model_129 hx hb hT hown hK hP d_Model_step_81 ?_
    refine lv_iload hx hb d_Model_step_84 (lv_at hl 0 rfl) ?_
    refine lv_aload_n hx hb d_Model_step_86 rfl (lv_at hl 1 rfl) ?_
    refine lv_iload_n hx hb d_Model_step_87 rfl (lv_at hl 2 rfl) ?_
    refine lv_iconst (v := 1) hx hb d_Model_step_88 (by decide) ?_
    refine lv_iadd hx hb d_Model_step_89 ?_
    replace hR := bi_e hR
    obtain ⟨r59, l59, T59, hc59, hR⟩ := hR
    refine gcV_i (rest := [.int r56, .ref (ad 39)]) ⟨hx, hb, hml, hown, hT⟩ (h_Model_block _ _ _ _ _ hc59) (cwV 1 hT (gV ml_Model_445 im_Model_block se_Model_block ini_Model co_Model_block) rfl rfl rfl pd_Model_block ⟨rm_hi, rm_lo (Nat.le_of_ble_eq_true rfl)⟩) hK hP hD hS hA hnw henv (Nat.le_of_ble_eq_true rfl) rfl rfl hl.1 rfl (Nat.le_of_ble_eq_true rfl) d_Model_step_90 ⟨Nat.le_refl _, Nat.le_refl _⟩ (fun H locs hP hD hS => ?_)
    clear hc59
    replace hR := gd_e hR
    obtain ⟨b60, hR⟩ := hR
    refine saM_38 hx hb hK hP hD hS b60 d_Model_step_93 (fun T60 eT H locs hP hD hS => ?_)
    replace hR := stK_e eT hR
    clear eT
    refine lv_iload_n hx hb d_Model_step_94 rfl (lv_at hl 4 rfl) ?_
    refine lv_if_ne (tgt := 122) hx hb d_Model_step_95 (by decide) (fun c61 => ?_) (fun c61 => ?_)
    · replace hR := if_n c61 hR
      refine lv_iload hx hb d_Model_step_122 (lv_at hl 0 rfl) ?_
      obtain ⟨e1, -, e3⟩ := re_e hR
      subst e1; subst e3
      exact W.iret (v := r56) hx hb hr (fun t ht hW => ⟨⟨r56, (), rfl, rfl, by rw [ht]; exact hP, va_K.moved hW.alike hK, hD⟩, hS.F ht⟩) hS.2.2 d_Model_step_124
    · replace hR := if_p c61 hR
      refine lv_aload_n hx hb d_Model_step_98 rfl (lv_at hl 1 rfl) ?_
      refine gldcw (own := R_Model) (index := 497) (q := ea 24) hx hb hown (henv.2.2 24 (by decide)).2 d_Model_step_99 ?_
      replace hR := bi_e hR
      obtain ⟨r63, l63, T63, hc63, hR⟩ := hR
      refine gcV_i (rest := []) ⟨hx, hb, hml, hown, hT⟩ (h_Model_takesWord _ 24 _ _ _ (by first | decide | assumption) hc63) (cwV 1 hT (gV ml_Model_462 im_Model_takesWord se_Model_takesWord ini_Model co_Model_takesWord) rfl rfl rfl pd_Model_takesWord ⟨rm_hi, rm_lo (Nat.le_of_ble_eq_true rfl)⟩) hK hP hD hS hA hnw henv (Nat.le_of_ble_eq_true rfl) rfl rfl hl.1 rfl (Nat.le_of_ble_eq_true rfl) d_Model_step_102 ⟨Nat.le_refl _, Nat.le_refl _⟩ (fun H locs hP hD hS => ?_)
      clear hc63
      refine lv_if_eq (tgt := 122) hx hb d_Model_step_105 (by decide) (fun c64 => ?_) (fun c64 => ?_)
      · replace hR := if_p c64 hR
        refine lv_iload hx hb d_Model_step_122 (lv_at hl 0 rfl) ?_
        obtain ⟨e1, -, e3⟩ := re_e hR
        subst e1; subst e3
        exact W.iret (v := r56) hx hb hr (fun t ht hW => ⟨⟨r56, (), rfl, rfl, by rw [ht]; exact hP, va_K.moved hW.alike hK, hD⟩, hS.F ht⟩) hS.2.2 d_Model_step_124
      · replace hR := if_n c64 hR
        refine lv_aload_n hx hb d_Model_step_108 rfl (lv_at hl 1 rfl) ?_
        refine rd_Model_132 hx hb hT hown hK hP d_Model_step_109 ?_
        refine lv_iload hx hb d_Model_step_112 (lv_at hl 0 rfl) ?_
        refine lv_aload_n hx hb d_Model_step_114 rfl (lv_at hl 1 rfl) ?_
        refine lv_iload_n hx hb d_Model_step_115 rfl (lv_at hl 2 rfl) ?_
        refine lv_iconst (v := 1) hx hb d_Model_step_116 (by decide) ?_
        refine lv_iadd hx hb d_Model_step_117 ?_
        replace hR := bi_e hR
        obtain ⟨r66, l66, T66, hc66, hR⟩ := hR
        refine gcV_i (rest := [.int r56, .ref (ad 40)]) ⟨hx, hb, hml, hown, hT⟩ (h_Model_block _ _ _ _ _ hc66) (cwV 1 hT (gV ml_Model_445 im_Model_block se_Model_block ini_Model co_Model_block) rfl rfl rfl pd_Model_block ⟨rm_hi, rm_lo (Nat.le_of_ble_eq_true rfl)⟩) hK hP hD hS hA hnw henv (Nat.le_of_ble_eq_true rfl) rfl rfl hl.1 rfl (Nat.le_of_ble_eq_true rfl) d_Model_step_118 ⟨Nat.le_refl _, Nat.le_refl _⟩ (fun H locs hP hD hS => ?_)
        clear hc66
        replace hR := gd_e hR
        obtain ⟨b67, hR⟩ := hR
        refine saM_39 hx hb hK hP hD hS b67 d_Model_step_121 (fun T67 eT H locs hP hD hS => ?_)
        replace hR := stK_e eT hR
        clear eT
        refine lv_iload hx hb d_Model_step_122 (lv_at hl 0 rfl) ?_
        obtain ⟨e1, -, e3⟩ := re_e hR
        subst e1; subst e3
        exact W.iret (v := r56) hx hb hr (fun t ht hW => ⟨⟨r56, (), rfl, rfl, by rw [ht]; exact hP, va_K.moved hW.alike hK, hD⟩, hS.F ht⟩) hS.2.2 d_Model_step_124
  unfold rb_Model_step at hR
  refine lv_aload_n hx hb d_Model_step_0 rfl (lv_at hl 0 rfl) ?_
  refine rd_Model_349 hx hb hT hown hK hP d_Model_step_1 ?_
  refine lv_topi (fun z1 e1 => ?_)
  replace hR := vK_e e1 hR
  refine lv_istore_n (lv' := [(2, .int z1), (0, .ref (ad 0)), (1, .int p1)]) hx hb d_Model_step_4 rfl hl (by decide) rfl (fun ls hl => ?_)
  refine lv_aload_n hx hb d_Model_step_5 rfl (lv_at hl 1 rfl) ?_
  refine gldcw (own := R_Model) (index := 485) (q := ea 12) hx hb hown (henv.2.2 12 (by decide)).2 d_Model_step_6 ?_
  replace hR := bi_e hR
  obtain ⟨r2, l2, T2, hc2, hR⟩ := hR
  refine gcV_i (rest := []) ⟨hx, hb, hml, hown, hT⟩ (h_Model_takesWord _ 12 _ _ _ (by first | decide | assumption) hc2) (cwV 1 hT (gV ml_Model_462 im_Model_takesWord se_Model_takesWord ini_Model co_Model_takesWord) rfl rfl rfl pd_Model_takesWord ⟨rm_hi, rm_lo (Nat.le_of_ble_eq_true rfl)⟩) hK hP hD hS hA hnw henv (Nat.le_of_ble_eq_true rfl) rfl rfl hl.1 rfl (Nat.le_of_ble_eq_true rfl) d_Model_step_9 ⟨Nat.le_refl _, Nat.le_refl _⟩ (fun H locs hP hD hS => ?_)
  clear hc2
  refine lv_if_eq (tgt := 22) hx hb d_Model_step_12 (by decide) (fun c3 => ?_) (fun c3 => ?_)
  · replace hR := if_p c3 hR
    refine lv_aload_n hx hb d_Model_step_22 rfl (lv_at hl 1 rfl) ?_
    refine gldcw (own := R_Model) (index := 490) (q := ea 22) hx hb hown (henv.2.2 22 (by decide)).2 d_Model_step_23 ?_
    replace hR := bi_e hR
    obtain ⟨r4, l4, T4, hc4, hR⟩ := hR
    refine gcV_i (rest := []) ⟨hx, hb, hml, hown, hT⟩ (h_Model_isWord _ 22 _ _ _ (by first | decide | assumption) hc4) (cwV 1 hT (gV ml_Model_399 im_Model_isWord se_Model_isWord ini_Model co_Model_isWord) rfl rfl rfl pd_Model_isWord ⟨rm_hi, rm_lo (Nat.le_of_ble_eq_true rfl)⟩) hK hP hD hS hA hnw henv (Nat.le_of_ble_eq_true rfl) rfl rfl hl.1 rfl (Nat.le_of_ble_eq_true rfl) d_Model_step_26 ⟨Nat.le_refl _, Nat.le_refl _⟩ (fun H locs hP hD hS => ?_)
    clear hc4
    refine lv_istore_n (lv' := [(3, .int r4), (2, .int z1), (0, .ref (ad 0)), (1, .int p1)]) hx hb d_Model_step_29 rfl hl (by decide) rfl (fun ls hl => ?_)
    refine lv_iload_n hx hb d_Model_step_30 rfl (lv_at hl 0 rfl) ?_
    refine lv_if_ne (tgt := 44) hx hb d_Model_step_31 (by decide) (fun c5 => ?_) (fun c5 => ?_)
    · replace hR := if_n c5 hR
      refine lv_aload_n hx hb d_Model_step_44 rfl (lv_at hl 2 rfl) ?_
      replace hR := bi_e hR
      obtain ⟨r6, l6, T6, hc6, hR⟩ := hR
      refine gcV_v (rest := []) ⟨hx, hb, hml, hown, hT⟩ (h_Model_advance _ _ _ _ hc6) (cwV 0 hT (gV ml_Model_396 im_Model_advance se_Model_advance ini_Model co_Model_advance) rfl rfl rfl pd_Model_advance ⟨rm_hi, rm_lo (Nat.le_of_ble_eq_true rfl)⟩) hK hP hD hS hA hnw henv (Nat.le_of_ble_eq_true rfl) rfl rfl hl.1 rfl (Nat.le_of_ble_eq_true rfl) d_Model_step_45 ⟨Nat.le_refl _, Nat.le_refl _⟩ (fun H locs hP hD hS => ?_)
      clear hc6
      refine lv_aload_n hx hb d_Model_step_48 rfl (lv_at hl 2 rfl) ?_
      refine lv_iload_n hx hb d_Model_step_49 rfl (lv_at hl 0 rfl) ?_
      refine lv_if_eq (tgt := 58) hx hb d_Model_step_50 (by decide) (fun c7 => ?_) (fun c7 => ?_)
      · replace hR := if_p c7 hR
        refine lv_bipush (v := 21) hx hb d_Model_step_58 (by decide) ?_
        have g := lb_60 T6 p1 z1 r4 (21 : Int32) hR
        rw [hG] at g
        exact g _ _ hP hD hS _ (lv_sub hl [2, 3, 1, 0] rfl)
      · replace hR := if_n c7 hR
        refine lv_bipush (v := 22) hx hb d_Model_step_53 (by decide) ?_
        refine lv_goto (tgt := 60) hx hb d_Model_step_55 (by decide) ?_
        have g := lb_60 T6 p1 z1 r4 (22 : Int32) hR
        rw [hG] at g
        exact g _ _ hP hD hS _ (lv_sub hl [2, 3, 1, 0] rfl)
    · replace hR := if_p c5 hR
      refine lv_aload_n hx hb d_Model_step_34 rfl (lv_at hl 2 rfl) ?_
      refine gldcw (own := R_Model) (index := 492) (q := ea 23) hx hb hown (henv.2.2 23 (by decide)).2 d_Model_step_35 ?_
      replace hR := bi_e hR
      obtain ⟨r8, l8, T8, hc8, hR⟩ := hR
      refine gcV_i (rest := []) ⟨hx, hb, hml, hown, hT⟩ (h_Model_isWord _ 23 _ _ _ (by first | decide | assumption) hc8) (cwV 1 hT (gV ml_Model_399 im_Model_isWord se_Model_isWord ini_Model co_Model_isWord) rfl rfl rfl pd_Model_isWord ⟨rm_hi, rm_lo (Nat.le_of_ble_eq_true rfl)⟩) hK hP hD hS hA hnw henv (Nat.le_of_ble_eq_true rfl) rfl rfl hl.1 rfl (Nat.le_of_ble_eq_true rfl) d_Model_step_38 ⟨Nat.le_refl _, Nat.le_refl _⟩ (fun H locs hP hD hS => ?_)
      clear hc8
      refine lv_if_eq (tgt := 125) hx hb d_Model_step_41 (by decide) (fun c9 => ?_) (fun c9 => ?_)
      · replace hR := if_p c9 hR
        refine lv_aload_n hx hb d_Model_step_125 rfl (lv_at hl 2 rfl) ?_
        refine gldcw (own := R_Model) (index := 499) (q := ea 25) hx hb hown (henv.2.2 25 (by decide)).2 d_Model_step_126 ?_
        replace hR := bi_e hR
        obtain ⟨r10, l10, T10, hc10, hR⟩ := hR
        refine gcV_i (rest := []) ⟨hx, hb, hml, hown, hT⟩ (h_Model_takesWord _ 25 _ _ _ (by first | decide | assumption) hc10) (cwV 1 hT (gV ml_Model_462 im_Model_takesWord se_Model_takesWord ini_Model co_Model_takesWord) rfl rfl rfl pd_Model_takesWord ⟨rm_hi, rm_lo (Nat.le_of_ble_eq_true rfl)⟩) hK hP hD hS hA hnw henv (Nat.le_of_ble_eq_true rfl) rfl rfl hl.1 rfl (Nat.le_of_ble_eq_true rfl) d_Model_step_129 ⟨Nat.le_refl _, Nat.le_refl _⟩ (fun H locs hP hD hS => ?_)
        clear hc10
        refine lv_if_eq (tgt := 176) hx hb d_Model_step_132 (by decide) (fun c11 => ?_) (fun c11 => ?_)
        · replace hR := if_p c11 hR
          refine lv_aload_n hx hb d_Model_step_176 rfl (lv_at hl 2 rfl) ?_
          refine gldcw (own := R_Model) (index := 501) (q := ea 26) hx hb hown (henv.2.2 26 (by decide)).2 d_Model_step_177 ?_
          replace hR := bi_e hR
          obtain ⟨r12, l12, T12, hc12, hR⟩ := hR
          refine gcV_i (rest := []) ⟨hx, hb, hml, hown, hT⟩ (h_Model_takesWord _ 26 _ _ _ (by first | decide | assumption) hc12) (cwV 1 hT (gV ml_Model_462 im_Model_takesWord se_Model_takesWord ini_Model co_Model_takesWord) rfl rfl rfl pd_Model_takesWord ⟨rm_hi, rm_lo (Nat.le_of_ble_eq_true rfl)⟩) hK hP hD hS hA hnw henv (Nat.le_of_ble_eq_true rfl) rfl rfl hl.1 rfl (Nat.le_of_ble_eq_true rfl) d_Model_step_180 ⟨Nat.le_refl _, Nat.le_refl _⟩ (fun H locs hP hD hS => ?_)
          clear hc12
          refine lv_if_eq (tgt := 248) hx hb d_Model_step_183 (by decide) (fun c13 => ?_) (fun c13 => ?_)
          · replace hR := if_p c13 hR
            refine lv_aload_n hx hb d_Model_step_248 rfl (lv_at hl 2 rfl) ?_
            refine gldcw (own := R_Model) (index := 503) (q := ea 27) hx hb hown (henv.2.2 27 (by decide)).2 d_Model_step_249 ?_
            replace hR := bi_e hR
            obtain ⟨r14, l14, T14, hc14, hR⟩ := hR
            refine gcV_i (rest := []) ⟨hx, hb, hml, hown, hT⟩ (h_Model_takesWord _ 27 _ _ _ (by first | decide | assumption) hc14) (cwV 1 hT (gV ml_Model_462 im_Model_takesWord se_Model_takesWord ini_Model co_Model_takesWord) rfl rfl rfl pd_Model_takesWord ⟨rm_hi, rm_lo (Nat.le_of_ble_eq_true rfl)⟩) hK hP hD hS hA hnw henv (Nat.le_of_ble_eq_true rfl) rfl rfl hl.1 rfl (Nat.le_of_ble_eq_true rfl) d_Model_step_252 ⟨Nat.le_refl _, Nat.le_refl _⟩ (fun H locs hP hD hS => ?_)
            clear hc14
            refine lv_if_eq (tgt := 287) hx hb d_Model_step_255 (by decide) (fun c15 => ?_) (fun c15 => ?_)
            · replace hR := if_p c15 hR
              refine lv_aload_n hx hb d_Model_step_287 rfl (lv_at hl 2 rfl) ?_
              refine gldcw (own := R_Model) (index := 505) (q := ea 28) hx hb hown (henv.2.2 28 (by decide)).2 d_Model_step_288 ?_
              replace hR := bi_e hR
              obtain ⟨r16, l16, T16, hc16, hR⟩ := hR
              refine gcV_i (rest := []) ⟨hx, hb, hml, hown, hT⟩ (h_Model_takesWord _ 28 _ _ _ (by first | decide | assumption) hc16) (cwV 1 hT (gV ml_Model_462 im_Model_takesWord se_Model_takesWord ini_Model co_Model_takesWord) rfl rfl rfl pd_Model_takesWord ⟨rm_hi, rm_lo (Nat.le_of_ble_eq_true rfl)⟩) hK hP hD hS hA hnw henv (Nat.le_of_ble_eq_true rfl) rfl rfl hl.1 rfl (Nat.le_of_ble_eq_true rfl) d_Model_step_291 ⟨Nat.le_refl _, Nat.le_refl _⟩ (fun H locs hP hD hS => ?_)
              clear hc16
              refine lv_if_eq (tgt := 351) hx hb d_Model_step_294 (by decide) (fun c17 => ?_) (fun c17 => ?_)
              · replace hR := if_p c17 hR
                refine lv_aload_n hx hb d_Model_step_351 rfl (lv_at hl 2 rfl) ?_
                refine gldcw (own := R_Model) (index := 509) (q := ea 30) hx hb hown (henv.2.2 30 (by decide)).2 d_Model_step_352 ?_
                replace hR := bi_e hR
                obtain ⟨r18, l18, T18, hc18, hR⟩ := hR
                refine gcV_i (rest := []) ⟨hx, hb, hml, hown, hT⟩ (h_Model_isWord _ 30 _ _ _ (by first | decide | assumption) hc18) (cwV 1 hT (gV ml_Model_399 im_Model_isWord se_Model_isWord ini_Model co_Model_isWord) rfl rfl rfl pd_Model_isWord ⟨rm_hi, rm_lo (Nat.le_of_ble_eq_true rfl)⟩) hK hP hD hS hA hnw henv (Nat.le_of_ble_eq_true rfl) rfl rfl hl.1 rfl (Nat.le_of_ble_eq_true rfl) d_Model_step_355 ⟨Nat.le_refl _, Nat.le_refl _⟩ (fun H locs hP hD hS => ?_)
                clear hc18
                refine lv_istore (lv' := [(4, .int r18), (3, .int r4), (2, .int z1), (0, .ref (ad 0)), (1, .int p1)]) hx hb d_Model_step_358 hl (by decide) rfl (fun ls hl => ?_)
                refine lv_aload_n hx hb d_Model_step_360 rfl (lv_at hl 3 rfl) ?_
                refine gldcw (own := R_Model) (index := 511) (q := ea 31) hx hb hown (henv.2.2 31 (by decide)).2 d_Model_step_361 ?_
                replace hR := bi_e hR
                obtain ⟨r19, l19, T19, hc19, hR⟩ := hR
                refine gcV_i (rest := []) ⟨hx, hb, hml, hown, hT⟩ (h_Model_isWord _ 31 _ _ _ (by first | decide | assumption) hc19) (cwV 1 hT (gV ml_Model_399 im_Model_isWord se_Model_isWord ini_Model co_Model_isWord) rfl rfl rfl pd_Model_isWord ⟨rm_hi, rm_lo (Nat.le_of_ble_eq_true rfl)⟩) hK hP hD hS hA hnw henv (Nat.le_of_ble_eq_true rfl) rfl rfl hl.1 rfl (Nat.le_of_ble_eq_true rfl) d_Model_step_364 ⟨Nat.le_refl _, Nat.le_refl _⟩ (fun H locs hP hD hS => ?_)
                clear hc19
                refine lv_istore (lv' := [(5, .int r19), (4, .int r18), (3, .int r4), (2, .int z1), (0, .ref (ad 0)), (1, .int p1)]) hx hb d_Model_step_367 hl (by decide) rfl (fun ls hl => ?_)
                refine lv_iload hx hb d_Model_step_369 (lv_at hl 1 rfl) ?_
                refine lv_if_ne (tgt := 379) hx hb d_Model_step_371 (by decide) (fun c20 => ?_) (fun c20 => ?_)
                · replace hR := if_n c20 hR
                  refine lv_aload_n hx hb d_Model_step_379 rfl (lv_at hl 4 rfl) ?_
                  replace hR := bi_e hR
                  obtain ⟨r21, l21, T21, hc21, hR⟩ := hR
                  refine gcV_v (rest := []) ⟨hx, hb, hml, hown, hT⟩ (h_Model_advance _ _ _ _ hc21) (cwV 0 hT (gV ml_Model_396 im_Model_advance se_Model_advance ini_Model co_Model_advance) rfl rfl rfl pd_Model_advance ⟨rm_hi, rm_lo (Nat.le_of_ble_eq_true rfl)⟩) hK hP hD hS hA hnw henv (Nat.le_of_ble_eq_true rfl) rfl rfl hl.1 rfl (Nat.le_of_ble_eq_true rfl) d_Model_step_380 ⟨Nat.le_refl _, Nat.le_refl _⟩ (fun H locs hP hD hS => ?_)
                  clear hc21
                  have g := lb_383 T21 p1 z1 r18 r19 hR
                  rw [hG] at g
                  exact g _ _ hP hD hS _ (lv_sub hl [4, 5, 3, 1, 0] rfl)
                · replace hR := if_p c20 hR
                  refine lv_iload hx hb d_Model_step_374 (lv_at hl 0 rfl) ?_
                  refine lv_if_eq (tgt := 383) hx hb d_Model_step_376 (by decide) (fun c22 => ?_) (fun c22 => ?_)
                  · replace hR := if_p c22 hR
                    have g := lb_383 T19 p1 z1 r18 r19 hR
                    rw [hG] at g
                    exact g _ _ hP hD hS _ (lv_sub hl [4, 5, 3, 1, 0] rfl)
                  · replace hR := if_n c22 hR
                    refine lv_aload_n hx hb d_Model_step_379 rfl (lv_at hl 4 rfl) ?_
                    replace hR := bi_e hR
                    obtain ⟨r23, l23, T23, hc23, hR⟩ := hR
                    refine gcV_v (rest := []) ⟨hx, hb, hml, hown, hT⟩ (h_Model_advance _ _ _ _ hc23) (cwV 0 hT (gV ml_Model_396 im_Model_advance se_Model_advance ini_Model co_Model_advance) rfl rfl rfl pd_Model_advance ⟨rm_hi, rm_lo (Nat.le_of_ble_eq_true rfl)⟩) hK hP hD hS hA hnw henv (Nat.le_of_ble_eq_true rfl) rfl rfl hl.1 rfl (Nat.le_of_ble_eq_true rfl) d_Model_step_380 ⟨Nat.le_refl _, Nat.le_refl _⟩ (fun H locs hP hD hS => ?_)
                    clear hc23
                    have g := lb_383 T23 p1 z1 r18 r19 hR
                    rw [hG] at g
                    exact g _ _ hP hD hS _ (lv_sub hl [4, 5, 3, 1, 0] rfl)
              · replace hR := if_n c17 hR
                refine lv_aload_n hx hb d_Model_step_297 rfl (lv_at hl 2 rfl) ?_
                refine lv_bipush (v := 28) hx hb d_Model_step_298 (by decide) ?_
                refine lv_iload_n hx hb d_Model_step_300 rfl (lv_at hl 1 rfl) ?_
                replace hR := bi_e hR
                obtain ⟨r24, l24, T24, hc24, hR⟩ := hR
                refine gcV_i (rest := []) ⟨hx, hb, hml, hown, hT⟩ (h_Model_node _ _ _ _ _ _ hc24) (cwV 2 hT (gV ml_Model_478 im_Model_node se_Model_node ini_Model co_Model_node) rfl rfl rfl pd_Model_node ⟨rm_hi, rm_lo (Nat.le_of_ble_eq_true rfl)⟩) hK hP hD hS hA hnw henv (Nat.le_of_ble_eq_true rfl) rfl rfl hl.1 rfl (Nat.le_of_ble_eq_true rfl) d_Model_step_301 ⟨Nat.le_refl _, Nat.le_refl _⟩ (fun H locs hP hD hS => ?_)
                clear hc24
                refine lv_istore (lv' := [(4, .int r24), (3, .int r4), (2, .int z1), (0, .ref (ad 0)), (1, .int p1)]) hx hb d_Model_step_304 hl (by decide) rfl (fun ls hl => ?_)
                refine lv_aload_n hx hb d_Model_step_306 rfl (lv_at hl 3 rfl) ?_
                refine rd_Model_126 hx hb hT hown hK hP d_Model_step_307 ?_
                refine lv_iload hx hb d_Model_step_310 (lv_at hl 0 rfl) ?_
                refine lv_aload_n hx hb d_Model_step_312 rfl (lv_at hl 3 rfl) ?_
                refine lv_iload_n hx hb d_Model_step_313 rfl (lv_at hl 4 rfl) ?_
                refine lv_iconst (v := 1) hx hb d_Model_step_314 (by decide) ?_
                refine lv_iadd hx hb d_Model_step_315 ?_
                replace hR := bi_e hR
                obtain ⟨r25, l25, T25, hc25, hR⟩ := hR
                refine gcV_i (rest := [.int r24, .ref (ad 38)]) ⟨hx, hb, hml, hown, hT⟩ (h_Model_block _ _ _ _ _ hc25) (cwV 1 hT (gV ml_Model_445 im_Model_block se_Model_block ini_Model co_Model_block) rfl rfl rfl pd_Model_block ⟨rm_hi, rm_lo (Nat.le_of_ble_eq_true rfl)⟩) hK hP hD hS hA hnw henv (Nat.le_of_ble_eq_true rfl) rfl rfl hl.1 rfl (Nat.le_of_ble_eq_true rfl) d_Model_step_316 ⟨Nat.le_refl _, Nat.le_refl _⟩ (fun H locs hP hD hS => ?_)
                clear hc25
                replace hR := gd_e hR
                obtain ⟨b26, hR⟩ := hR
                refine saM_37 hx hb hK hP hD hS b26 d_Model_step_319 (fun T26 eT H locs hP hD hS => ?_)
                replace hR := stK_e eT hR
                clear eT
                refine lv_aload_n hx hb d_Model_step_320 rfl (lv_at hl 3 rfl) ?_
                refine gldcw (own := R_Model) (index := 507) (q := ea 29) hx hb hown (henv.2.2 29 (by decide)).2 d_Model_step_321 ?_
                replace hR := bi_e hR
                obtain ⟨r27, l27, T27, hc27, hR⟩ := hR
                refine gcV_i (rest := []) ⟨hx, hb, hml, hown, hT⟩ (h_Model_takesWord _ 29 _ _ _ (by first | decide | assumption) hc27) (cwV 1 hT (gV ml_Model_462 im_Model_takesWord se_Model_takesWord ini_Model co_Model_takesWord) rfl rfl rfl pd_Model_takesWord ⟨rm_hi, rm_lo (Nat.le_of_ble_eq_true rfl)⟩) hK hP hD hS hA hnw henv (Nat.le_of_ble_eq_true rfl) rfl rfl hl.1 rfl (Nat.le_of_ble_eq_true rfl) d_Model_step_324 ⟨Nat.le_refl _, Nat.le_refl _⟩ (fun H locs hP hD hS => ?_)
                clear hc27
                refine lv_if_ne (tgt := 334) hx hb d_Model_step_327 (by decide) (fun c28 => ?_) (fun c28 => ?_)
                · replace hR := if_n c28 hR
                  refine lv_aload_n hx hb d_Model_step_334 rfl (lv_at hl 3 rfl) ?_
                  refine rd_Model_129 hx hb hT hown hK hP d_Model_step_335 ?_
                  refine lv_iload hx hb d_Model_step_338 (lv_at hl 0 rfl) ?_
                  refine lv_aload_n hx hb d_Model_step_340 rfl (lv_at hl 3 rfl) ?_
                  refine lv_iload_n hx hb d_Model_step_341 rfl (lv_at hl 4 rfl) ?_
                  refine lv_iconst (v := 1) hx hb d_Model_step_342 (by decide) ?_
                  refine lv_iadd hx hb d_Model_step_343 ?_
                  replace hR := bi_e hR
                  obtain ⟨r29, l29, T29, hc29, hR⟩ := hR
                  refine gcV_i (rest := [.int r24, .ref (ad 39)]) ⟨hx, hb, hml, hown, hT⟩ (h_Model_block _ _ _ _ _ hc29) (cwV 1 hT (gV ml_Model_445 im_Model_block se_Model_block ini_Model co_Model_block) rfl rfl rfl pd_Model_block ⟨rm_hi, rm_lo (Nat.le_of_ble_eq_true rfl)⟩) hK hP hD hS hA hnw henv (Nat.le_of_ble_eq_true rfl) rfl rfl hl.1 rfl (Nat.le_of_ble_eq_true rfl) d_Model_step_344 ⟨Nat.le_refl _, Nat.le_refl _⟩ (fun H locs hP hD hS => ?_)
                  clear hc29
                  replace hR := gd_e hR
                  obtain ⟨b30, hR⟩ := hR
                  refine saM_38 hx hb hK hP hD hS b30 d_Model_step_347 (fun T30 eT H locs hP hD hS => ?_)
                  replace hR := stK_e eT hR
                  clear eT
                  refine lv_iload hx hb d_Model_step_348 (lv_at hl 0 rfl) ?_
                  obtain ⟨e1, -, e3⟩ := re_e hR
                  subst e1; subst e3
                  exact W.iret (v := r24) hx hb hr (fun t ht hW => ⟨⟨r24, (), rfl, rfl, by rw [ht]; exact hP, va_K.moved hW.alike hK, hD⟩, hS.F ht⟩) hS.2.2 d_Model_step_350
                · replace hR := if_p c28 hR
                  refine lv_aload_n hx hb d_Model_step_330 rfl (lv_at hl 3 rfl) ?_
                  replace hR := bi_e hR
                  obtain ⟨r32, l32, T32, hc32, hR⟩ := hR
                  refine gcV_v (rest := []) ⟨hx, hb, hml, hown, hT⟩ (h_Model_wrong _ _ _ _ hc32) (cwV 0 hT (gV ml_Model_406 im_Model_wrong se_Model_wrong ini_Model co_Model_wrong) rfl rfl rfl pd_Model_wrong ⟨rm_hi, rm_lo (Nat.le_of_ble_eq_true rfl)⟩) hK hP hD hS hA hnw henv (Nat.le_of_ble_eq_true rfl) rfl rfl hl.1 rfl (Nat.le_of_ble_eq_true rfl) d_Model_step_331 ⟨Nat.le_refl _, Nat.le_refl _⟩ (fun H locs hP hD hS => ?_)
                  clear hc32
                  refine lv_aload_n hx hb d_Model_step_334 rfl (lv_at hl 3 rfl) ?_
                  refine rd_Model_129 hx hb hT hown hK hP d_Model_step_335 ?_
                  refine lv_iload hx hb d_Model_step_338 (lv_at hl 0 rfl) ?_
                  refine lv_aload_n hx hb d_Model_step_340 rfl (lv_at hl 3 rfl) ?_
                  refine lv_iload_n hx hb d_Model_step_341 rfl (lv_at hl 4 rfl) ?_
                  refine lv_iconst (v := 1) hx hb d_Model_step_342 (by decide) ?_
                  refine lv_iadd hx hb d_Model_step_343 ?_
                  replace hR := bi_e hR
                  obtain ⟨r33, l33, T33, hc33, hR⟩ := hR
                  refine gcV_i (rest := [.int r24, .ref (ad 39)]) ⟨hx, hb, hml, hown, hT⟩ (h_Model_block _ _ _ _ _ hc33) (cwV 1 hT (gV ml_Model_445 im_Model_block se_Model_block ini_Model co_Model_block) rfl rfl rfl pd_Model_block ⟨rm_hi, rm_lo (Nat.le_of_ble_eq_true rfl)⟩) hK hP hD hS hA hnw henv (Nat.le_of_ble_eq_true rfl) rfl rfl hl.1 rfl (Nat.le_of_ble_eq_true rfl) d_Model_step_344 ⟨Nat.le_refl _, Nat.le_refl _⟩ (fun H locs hP hD hS => ?_)
                  clear hc33
                  replace hR := gd_e hR
                  obtain ⟨b34, hR⟩ := hR
                  refine saM_38 hx hb hK hP hD hS b34 d_Model_step_347 (fun T34 eT H locs hP hD hS => ?_)
                  replace hR := stK_e eT hR
                  clear eT
                  refine lv_iload hx hb d_Model_step_348 (lv_at hl 0 rfl) ?_
                  obtain ⟨e1, -, e3⟩ := re_e hR
                  subst e1; subst e3
                  exact W.iret (v := r24) hx hb hr (fun t ht hW => ⟨⟨r24, (), rfl, rfl, by rw [ht]; exact hP, va_K.moved hW.alike hK, hD⟩, hS.F ht⟩) hS.2.2 d_Model_step_350
            · replace hR := if_n c15 hR
              refine lv_aload_n hx hb d_Model_step_258 rfl (lv_at hl 2 rfl) ?_
              refine lv_bipush (v := 27) hx hb d_Model_step_259 (by decide) ?_
              refine lv_iload_n hx hb d_Model_step_261 rfl (lv_at hl 1 rfl) ?_
              replace hR := bi_e hR
              obtain ⟨r36, l36, T36, hc36, hR⟩ := hR
              refine gcV_i (rest := []) ⟨hx, hb, hml, hown, hT⟩ (h_Model_node _ _ _ _ _ _ hc36) (cwV 2 hT (gV ml_Model_478 im_Model_node se_Model_node ini_Model co_Model_node) rfl rfl rfl pd_Model_node ⟨rm_hi, rm_lo (Nat.le_of_ble_eq_true rfl)⟩) hK hP hD hS hA hnw henv (Nat.le_of_ble_eq_true rfl) rfl rfl hl.1 rfl (Nat.le_of_ble_eq_true rfl) d_Model_step_262 ⟨Nat.le_refl _, Nat.le_refl _⟩ (fun H locs hP hD hS => ?_)
              clear hc36
              refine lv_istore (lv' := [(4, .int r36), (3, .int r4), (2, .int z1), (0, .ref (ad 0)), (1, .int p1)]) hx hb d_Model_step_265 hl (by decide) rfl (fun ls hl => ?_)
              refine lv_aload_n hx hb d_Model_step_267 rfl (lv_at hl 3 rfl) ?_
              refine rd_Model_144 hx hb hT hown hK hP d_Model_step_268 ?_
              refine lv_iload hx hb d_Model_step_271 (lv_at hl 0 rfl) ?_
              refine lv_aload_n hx hb d_Model_step_273 rfl (lv_at hl 3 rfl) ?_
              replace hR := bi_e hR
              obtain ⟨r37, l37, T37, hc37, hR⟩ := hR
              refine gcV_i (rest := [.int r36, .ref (ad 44)]) ⟨hx, hb, hml, hown, hT⟩ (h_Model_needRegion _ _ _ _ hc37) (cwV 0 hT (gV ml_Model_465 im_Model_needRegion se_Model_needRegion ini_Model co_Model_needRegion) rfl rfl rfl pd_Model_needRegion ⟨rm_hi, rm_lo (Nat.le_of_ble_eq_true rfl)⟩) hK hP hD hS hA hnw henv (Nat.le_of_ble_eq_true rfl) rfl rfl hl.1 rfl (Nat.le_of_ble_eq_true rfl) d_Model_step_274 ⟨Nat.le_refl _, Nat.le_refl _⟩ (fun H locs hP hD hS => ?_)
              clear hc37
              replace hR := gd_e hR
              obtain ⟨b38, hR⟩ := hR
              refine saM_43 hx hb hK hP hD hS b38 d_Model_step_277 (fun T38 eT H locs hP hD hS => ?_)
              replace hR := stK_e eT hR
              clear eT
              refine lv_aload_n hx hb d_Model_step_278 rfl (lv_at hl 3 rfl) ?_
              refine lv_bipush (v := 59) hx hb d_Model_step_279 (by decide) ?_
              replace hR := bi_e hR
              obtain ⟨r39, l39, T39, hc39, hR⟩ := hR
              refine gcV_v (rest := []) ⟨hx, hb, hml, hown, hT⟩ (h_Model_need _ _ _ _ _ hc39) (cwV 1 hT (gV ml_Model_448 im_Model_need se_Model_need ini_Model co_Model_need) rfl rfl rfl pd_Model_need ⟨rm_hi, rm_lo (Nat.le_of_ble_eq_true rfl)⟩) hK hP hD hS hA hnw henv (Nat.le_of_ble_eq_true rfl) rfl rfl hl.1 rfl (Nat.le_of_ble_eq_true rfl) d_Model_step_281 ⟨Nat.le_refl _, Nat.le_refl _⟩ (fun H locs hP hD hS => ?_)
              clear hc39
              refine lv_iload hx hb d_Model_step_284 (lv_at hl 0 rfl) ?_
              obtain ⟨e1, -, e3⟩ := re_e hR
              subst e1; subst e3
              exact W.iret (v := r36) hx hb hr (fun t ht hW => ⟨⟨r36, (), rfl, rfl, by rw [ht]; exact hP, va_K.moved hW.alike hK, hD⟩, hS.F ht⟩) hS.2.2 d_Model_step_286
          · replace hR := if_n c13 hR
            refine lv_aload_n hx hb d_Model_step_186 rfl (lv_at hl 2 rfl) ?_
            refine rd_Model_439 hx hb hT hown hK hP d_Model_step_187 ?_
            refine lv_bipush (v := 8) hx hb d_Model_step_190 (by decide) ?_
            refine lv_icmp_ne (tgt := 201) hx hb d_Model_step_192 (by decide) (fun c41 => ?_) (fun c41 => ?_)
            · replace hR := if_n c41 hR
              have g := lb_201 T12 p1 z1 hR
              rw [hG] at g
              exact g _ _ hP hD hS _ (lv_sub hl [2, 3, 1] rfl)
            · replace hR := if_p c41 hR
              refine lv_aload_n hx hb d_Model_step_195 rfl (lv_at hl 2 rfl) ?_
              refine lv_iconst (v := 1) hx hb d_Model_step_196 (by decide) ?_
              refine lv_iload_n hx hb d_Model_step_197 rfl (lv_at hl 1 rfl) ?_
              replace hR := bi_e hR
              obtain ⟨r42, l42, T42, hc42, hR⟩ := hR
              refine gcV_v (rest := []) ⟨hx, hb, hml, hown, hT⟩ (h_Model_fail _ _ _ _ _ _ hc42) (cwV 2 hT (gV ml_Model_381 im_Model_fail se_Model_fail ini_Model co_Model_fail) rfl rfl rfl pd_Model_fail ⟨rm_hi, rm_lo (Nat.le_of_ble_eq_true rfl)⟩) hK hP hD hS hA hnw henv (Nat.le_of_ble_eq_true rfl) rfl rfl hl.1 rfl (Nat.le_of_ble_eq_true rfl) d_Model_step_198 ⟨Nat.le_refl _, Nat.le_refl _⟩ (fun H locs hP hD hS => ?_)
              clear hc42
              have g := lb_201 T42 p1 z1 hR
              rw [hG] at g
              exact g _ _ hP hD hS _ (lv_sub hl [2, 3, 1] rfl)
        · replace hR := if_n c11 hR
          refine lv_aload_n hx hb d_Model_step_135 rfl (lv_at hl 2 rfl) ?_
          refine lv_bipush (v := 23) hx hb d_Model_step_136 (by decide) ?_
          refine lv_iload_n hx hb d_Model_step_138 rfl (lv_at hl 1 rfl) ?_
          replace hR := bi_e hR
          obtain ⟨r43, l43, T43, hc43, hR⟩ := hR
          refine gcV_i (rest := []) ⟨hx, hb, hml, hown, hT⟩ (h_Model_node _ _ _ _ _ _ hc43) (cwV 2 hT (gV ml_Model_478 im_Model_node se_Model_node ini_Model co_Model_node) rfl rfl rfl pd_Model_node ⟨rm_hi, rm_lo (Nat.le_of_ble_eq_true rfl)⟩) hK hP hD hS hA hnw henv (Nat.le_of_ble_eq_true rfl) rfl rfl hl.1 rfl (Nat.le_of_ble_eq_true rfl) d_Model_step_139 ⟨Nat.le_refl _, Nat.le_refl _⟩ (fun H locs hP hD hS => ?_)
          clear hc43
          refine lv_istore (lv' := [(4, .int r43), (3, .int r4), (2, .int z1), (0, .ref (ad 0)), (1, .int p1)]) hx hb d_Model_step_142 hl (by decide) rfl (fun ls hl => ?_)
          refine lv_aload_n hx hb d_Model_step_144 rfl (lv_at hl 3 rfl) ?_
          refine lv_bipush (v := 59) hx hb d_Model_step_145 (by decide) ?_
          replace hR := bi_e hR
          obtain ⟨r44, l44, T44, hc44, hR⟩ := hR
          refine gcV_i (rest := []) ⟨hx, hb, hml, hown, hT⟩ (h_Model_isSign _ _ _ _ _ hc44) (cwV 1 hT (gV ml_Model_393 im_Model_isSign se_Model_isSign ini_Model co_Model_isSign) rfl rfl rfl pd_Model_isSign ⟨rm_hi, rm_lo (Nat.le_of_ble_eq_true rfl)⟩) hK hP hD hS hA hnw henv (Nat.le_of_ble_eq_true rfl) rfl rfl hl.1 rfl (Nat.le_of_ble_eq_true rfl) d_Model_step_147 ⟨Nat.le_refl _, Nat.le_refl _⟩ (fun H locs hP hD hS => ?_)
          clear hc44
          refine lv_if_ne (tgt := 167) hx hb d_Model_step_150 (by decide) (fun c45 => ?_) (fun c45 => ?_)
          · replace hR := if_n c45 hR
            refine lv_aload_n hx hb d_Model_step_167 rfl (lv_at hl 3 rfl) ?_
            refine lv_bipush (v := 59) hx hb d_Model_step_168 (by decide) ?_
            replace hR := bi_e hR
            obtain ⟨r46, l46, T46, hc46, hR⟩ := hR
            refine gcV_v (rest := []) ⟨hx, hb, hml, hown, hT⟩ (h_Model_need _ _ _ _ _ hc46) (cwV 1 hT (gV ml_Model_448 im_Model_need se_Model_need ini_Model co_Model_need) rfl rfl rfl pd_Model_need ⟨rm_hi, rm_lo (Nat.le_of_ble_eq_true rfl)⟩) hK hP hD hS hA hnw henv (Nat.le_of_ble_eq_true rfl) rfl rfl hl.1 rfl (Nat.le_of_ble_eq_true rfl) d_Model_step_170 ⟨Nat.le_refl _, Nat.le_refl _⟩ (fun H locs hP hD hS => ?_)
            clear hc46
            refine lv_iload hx hb d_Model_step_173 (lv_at hl 0 rfl) ?_
            obtain ⟨e1, -, e3⟩ := re_e hR
            subst e1; subst e3
            exact W.iret (v := r43) hx hb hr (fun t ht hW => ⟨⟨r43, (), rfl, rfl, by rw [ht]; exact hP, va_K.moved hW.alike hK, hD⟩, hS.F ht⟩) hS.2.2 d_Model_step_175
          · replace hR := if_p c45 hR
            refine lv_aload_n hx hb d_Model_step_153 rfl (lv_at hl 3 rfl) ?_
            refine rd_Model_126 hx hb hT hown hK hP d_Model_step_154 ?_
            refine lv_iload hx hb d_Model_step_157 (lv_at hl 0 rfl) ?_
            refine lv_aload_n hx hb d_Model_step_159 rfl (lv_at hl 3 rfl) ?_
            refine lv_iload_n hx hb d_Model_step_160 rfl (lv_at hl 4 rfl) ?_
            refine lv_iconst (v := 1) hx hb d_Model_step_161 (by decide) ?_
            refine lv_iadd hx hb d_Model_step_162 ?_
            replace hR := bi_e hR
            obtain ⟨r48, l48, T48, hc48, hR⟩ := hR
            refine gcV_i (rest := [.int r43, .ref (ad 38)]) ⟨hx, hb, hml, hown, hT⟩ (h_Model_expression _ _ _ _ _ hc48) (cwV 1 hT (gV ml_Model_494 im_Model_expression se_Model_expression ini_Model co_Model_expression) rfl rfl rfl pd_Model_expression ⟨rm_hi, rm_lo (Nat.le_of_ble_eq_true rfl)⟩) hK hP hD hS hA hnw henv (Nat.le_of_ble_eq_true rfl) rfl rfl hl.1 rfl (Nat.le_of_ble_eq_true rfl) d_Model_step_163 ⟨Nat.le_refl _, Nat.le_refl _⟩ (fun H locs hP hD hS => ?_)
            clear hc48
            replace hR := gd_e hR
            obtain ⟨b49, hR⟩ := hR
            refine saM_37 hx hb hK hP hD hS b49 d_Model_step_166 (fun T49 eT H locs hP hD hS => ?_)
            replace hR := stK_e eT hR
            clear eT
            refine lv_aload_n hx hb d_Model_step_167 rfl (lv_at hl 3 rfl) ?_
            refine lv_bipush (v := 59) hx hb d_Model_step_168 (by decide) ?_
            replace hR := bi_e hR
            obtain ⟨r50, l50, T50, hc50, hR⟩ := hR
            refine gcV_v (rest := []) ⟨hx, hb, hml, hown, hT⟩ (h_Model_need _ _ _ _ _ hc50) (cwV 1 hT (gV ml_Model_448 im_Model_need se_Model_need ini_Model co_Model_need) rfl rfl rfl pd_Model_need ⟨rm_hi, rm_lo (Nat.le_of_ble_eq_true rfl)⟩) hK hP hD hS hA hnw henv (Nat.le_of_ble_eq_true rfl) rfl rfl hl.1 rfl (Nat.le_of_ble_eq_true rfl) d_Model_step_170 ⟨Nat.le_refl _, Nat.le_refl _⟩ (fun H locs hP hD hS => ?_)
            clear hc50
            refine lv_iload hx hb d_Model_step_173 (lv_at hl 0 rfl) ?_
            obtain ⟨e1, -, e3⟩ := re_e hR
            subst e1; subst e3
            exact W.iret (v := r43) hx hb hr (fun t ht hW => ⟨⟨r43, (), rfl, rfl, by rw [ht]; exact hP, va_K.moved hW.alike hK, hD⟩, hS.F ht⟩) hS.2.2 d_Model_step_175
      · replace hR := if_n c9 hR
        refine lv_aload_n hx hb d_Model_step_44 rfl (lv_at hl 2 rfl) ?_
        replace hR := bi_e hR
        obtain ⟨r52, l52, T52, hc52, hR⟩ := hR
        refine gcV_v (rest := []) ⟨hx, hb, hml, hown, hT⟩ (h_Model_advance _ _ _ _ hc52) (cwV 0 hT (gV ml_Model_396 im_Model_advance se_Model_advance ini_Model co_Model_advance) rfl rfl rfl pd_Model_advance ⟨rm_hi, rm_lo (Nat.le_of_ble_eq_true rfl)⟩) hK hP hD hS hA hnw henv (Nat.le_of_ble_eq_true rfl) rfl rfl hl.1 rfl (Nat.le_of_ble_eq_true rfl) d_Model_step_45 ⟨Nat.le_refl _, Nat.le_refl _⟩ (fun H locs hP hD hS => ?_)
        clear hc52
        refine lv_aload_n hx hb d_Model_step_48 rfl (lv_at hl 2 rfl) ?_
        refine lv_iload_n hx hb d_Model_step_49 rfl (lv_at hl 0 rfl) ?_
        refine lv_if_eq (tgt := 58) hx hb d_Model_step_50 (by decide) (fun c53 => ?_) (fun c53 => ?_)
        · replace hR := if_p c53 hR
          refine lv_bipush (v := 21) hx hb d_Model_step_58 (by decide) ?_
          have g := lb_60 T52 p1 z1 r4 (21 : Int32) hR
          rw [hG] at g
          exact g _ _ hP hD hS _ (lv_sub hl [2, 3, 1, 0] rfl)
        · replace hR := if_n c53 hR
          refine lv_bipush (v := 22) hx hb d_Model_step_53 (by decide) ?_
          refine lv_goto (tgt := 60) hx hb d_Model_step_55 (by decide) ?_
          have g := lb_60 T52 p1 z1 r4 (22 : Int32) hR
          rw [hG] at g
          exact g _ _ hP hD hS _ (lv_sub hl [2, 3, 1, 0] rfl)
  · replace hR := if_n c3 hR
    refine lv_aload_n hx hb d_Model_step_15 rfl (lv_at hl 1 rfl) ?_
    refine lv_iload_n hx hb d_Model_step_16 rfl (lv_at hl 0 rfl) ?_
    refine lv_iload_n hx hb d_Model_step_17 rfl (lv_at hl 2 rfl) ?_
    replace hR := bi_e hR
    obtain ⟨r54, l54, T54, hc54, hR⟩ := hR
    refine gcV_i (rest := []) ⟨hx, hb, hml, hown, hT⟩ (h_Model_readVar _ _ _ _ _ _ hc54) (cwV 2 hT (gV ml_Model_487 im_Model_readVar se_Model_readVar ini_Model co_Model_readVar) rfl rfl rfl pd_Model_readVar ⟨rm_hi, rm_lo (Nat.le_of_ble_eq_true rfl)⟩) hK hP hD hS hA hnw henv (Nat.le_of_ble_eq_true rfl) rfl rfl hl.1 rfl (Nat.le_of_ble_eq_true rfl) d_Model_step_18 ⟨Nat.le_refl _, Nat.le_refl _⟩ (fun H locs hP hD hS => ?_)
    clear hc54
    obtain ⟨e1, -, e3⟩ := re_e hR
    subst e1; subst e3
    exact W.iret (v := r54) hx hb hr (fun t ht hW => ⟨⟨r54, (), rfl, rfl, by rw [ht]; exact hP, va_K.moved hW.alike hK, hD⟩, hS.F ht⟩) hS.2.2 d_Model_step_21
set_option maxHeartbeats 4000000 in
set_option maxRecDepth 100000 in
theorem sp_Model_readVar (l : Launch) (dC : Nat → ClassId) (dI : Nat → Nat → Nat) (ea ev ad : Nat → Nat) (km : Nat → ClassId) (F : gF) (nf d : Nat) (h_Model_node : mt_Model_node l dC dI ea ev ad km F d) (h_Model_wrong : mt_Model_wrong l dC dI ea ev ad km F d) (h_Model_needName : mt_Model_needName l dC dI ea ev ad km F d) (h_Model_need : mt_Model_need l dC dI ea ev ad km F d) (h_Model_type : mt_Model_type l dC dI ea ev ad km F d) (h_Model_takes : mt_Model_takes l dC dI ea ev ad km F d) (h_Model_expression : mt_Model_expression l dC dI ea ev ad km F d) (T0 : gSt) (p1 : Int32) (p2 : Int32) (r0 : Int32) (rl0 : Int64) (T9 : gSt) (hR : rb_Model_readVar F nf T0 p1 p2 = some (r0, rl0, T9)) : GMi l dC dI LM ad km ea ev y_Model_readVar w_Model_readVar (rmD (d + 1)) [.ref (ad 0), .int p1, .int p2] T0 r0 T9 := by
  intro sz
  refine Met.ofW (cc := b_Model_readVar) (maxL := 4) (ret := (some .int)) (by decide) rfl ?_
  intro p e s m args below meth c s₁ B hml hv
  obtain ⟨rfl, hsz, hP, hK, hD0, hnw, henv⟩ := hv
  have hx := B.exec
  have hb := B.bytes
  have hr := B.returns
  have hT : ∀ w ∈ lw_good, w.before _ s = true := fun w h => atoms_spec (ws := w_Model_readVar) B.pre w (List.mem_cons_of_mem _ h)
  have hown : s.vm.findClass R_Model = some m.cls := findClass_of_methodNamed B.named
  subst hsz
  have hD := hD0.self (sz := s.heap.size)
  clear hD0
  generalize hAe : va_A (gW LM ad km T0) s.heap.size = A at hD henv ⊢
  have hA : ∀ q : Nat, s.heap.size ≤ q → A q := fun q h => by rw [← hAe]; exact Or.inr h
  have hS : va_S A s.heap s.heap [] := va_S.rf
  have hl := lv_entry ([.ref (ad 0), .int p1, .int p2]) (n := 4) (Nat.le_of_ble_eq_true rfl)
  rw [lg_entry_eq]
  generalize (lg_sl ([.ref (ad 0), .int p1, .int p2]) ++ List.replicate (4 - (lg_sl ([.ref (ad 0), .int p1, .int p2])).length) Slot.unset).toArray = ls at hl ⊢
  have hl : lv_has ls 4 [(0, .ref (ad 0)), (1, .int p1), (2, .int p2)] := hl
  obtain ⟨G, hG⟩ : ∃ G : Nat → List (Nat × Value) → List Value → gSt → Prop, G = (fun pc lv stk T => ∀ (H : Heap) (locs : List Loc), va_P (dC, dI) cls_all (gW LM ad km T) H → va_D A (gW LM ad km T) → va_S A s.heap H locs → ∀ (ls : Array Slot), lv_has ls 4 lv → W p l e (headSpec w_Model_readVar (rmD (d + 1))).room s m ([.ref (ad 0), .int p1, .int p2] : List Value).toArray below meth c H locs 0 0 (MQ below (va_Qi (fun (z : Int32) (_ : Unit) => z = r0) (fun _ t => gPost dC dI LM ad km T9 A t) A) ([.ref (ad 0), .int p1, .int p2] : List Value).toArray s 0 0 A) (F0 m pc ls stk)) := ⟨_, rfl⟩
  have lb_49 : ∀ (T : gSt) (x2 : Int32) (x3 : Int32), rj_Model_readVar_49 F nf T x2 x3 = some (r0, rl0, T9) → G 49 [(0, .ref (ad 0)), (2, .int x2), (3, .int x3)] [] T := by
    intro T x2 x3 hR; unfold rj_Model_readVar_49 at hR; rw [hG]; intro H locs hP hD hS ls hl
    refine lv_aload_n hx hb d_Model_readVar_49 rfl (lv_at hl 0 rfl) ?_
    replace hR := bi_e hR
    obtain ⟨r7, l7, T7, hc7, hR⟩ := hR
    refine gcV_l (rest := []) ⟨hx, hb, hml, hown, hT⟩ (h_Model_needName _ _ _ _ hc7) (cwV 0 hT (gV ml_Model_454 im_Model_needName se_Model_needName ini_Model co_Model_needName) rfl rfl rfl pd_Model_needName ⟨rm_hi, rm_lo (Nat.le_of_ble_eq_true rfl)⟩) hK hP hD hS hA hnw henv (Nat.le_of_ble_eq_true rfl) rfl rfl hl.1 rfl (Nat.le_of_ble_eq_true rfl) d_Model_readVar_50 ⟨Nat.le_refl _, Nat.le_refl _⟩ (fun H locs hP hD hS => ?_)
    clear hc7
    refine lv_pop2_2 hx hb d_Model_readVar_53 rfl ?_
    refine lv_aload_n hx hb d_Model_readVar_54 rfl (lv_at hl 0 rfl) ?_
    refine rd_Model_153 hx hb hT hown hK hP d_Model_readVar_55 ?_
    refine lv_iload_n hx hb d_Model_readVar_58 rfl (lv_at hl 2 rfl) ?_
    refine lv_aload_n hx hb d_Model_readVar_59 rfl (lv_at hl 0 rfl) ?_
    refine rd_Model_436 hx hb hT hown hK hP d_Model_readVar_60 ?_
    replace hR := gd_e hR
    obtain ⟨b8, hR⟩ := hR
    refine saM_46 hx hb hK hP hD hS b8 d_Model_readVar_63 (fun T8 eT H locs hP hD hS => ?_)
    replace hR := stK_e eT hR
    clear eT
    refine lv_aload_n hx hb d_Model_readVar_64 rfl (lv_at hl 0 rfl) ?_
    refine lv_dup hx hb d_Model_readVar_65 rfl ?_
    refine rd_Model_436 hx hb hT hown hK hP d_Model_readVar_66 ?_
    refine lv_iconst (v := 1) hx hb d_Model_readVar_69 (by decide) ?_
    refine lv_iadd hx hb d_Model_readVar_70 ?_
    refine wr_Model_436 hx hb hT hown hK hP hD hS d_Model_readVar_71 (fun T9 eT H locs hP hD hS => ?_)
    replace hR := stK_e eT hR
    clear eT
    refine lv_aload_n hx hb d_Model_readVar_74 rfl (lv_at hl 0 rfl) ?_
    refine lv_bipush (v := 58) hx hb d_Model_readVar_75 (by decide) ?_
    replace hR := bi_e hR
    obtain ⟨r10, l10, T10, hc10, hR⟩ := hR
    refine gcV_v (rest := []) ⟨hx, hb, hml, hown, hT⟩ (h_Model_need _ _ _ _ _ hc10) (cwV 1 hT (gV ml_Model_448 im_Model_need se_Model_need ini_Model co_Model_need) rfl rfl rfl pd_Model_need ⟨rm_hi, rm_lo (Nat.le_of_ble_eq_true rfl)⟩) hK hP hD hS hA hnw henv (Nat.le_of_ble_eq_true rfl) rfl rfl hl.1 rfl (Nat.le_of_ble_eq_true rfl) d_Model_readVar_77 ⟨Nat.le_refl _, Nat.le_refl _⟩ (fun H locs hP hD hS => ?_)
    clear hc10
    refine lv_aload_n hx hb d_Model_readVar_80 rfl (lv_at hl 0 rfl) ?_
    refine rd_Model_129 hx hb hT hown hK hP d_Model_readVar_81 ?_
    refine lv_iload_n hx hb d_Model_readVar_84 rfl (lv_at hl 2 rfl) ?_
    refine lv_aload_n hx hb d_Model_readVar_85 rfl (lv_at hl 0 rfl) ?_
    refine lv_iconst (v := 1) hx hb d_Model_readVar_86 (by decide) ?_
    replace hR := bi_e hR
    obtain ⟨r11, l11, T11, hc11, hR⟩ := hR
    refine gcV_i (rest := [.int x3, .ref (ad 39)]) ⟨hx, hb, hml, hown, hT⟩ (h_Model_type _ _ _ _ _ hc11) (cwV 1 hT (gV ml_Model_458 im_Model_type se_Model_type ini_Model co_Model_type) rfl rfl rfl pd_Model_type ⟨rm_hi, rm_lo (Nat.le_of_ble_eq_true rfl)⟩) hK hP hD hS hA hnw henv (Nat.le_of_ble_eq_true rfl) rfl rfl hl.1 rfl (Nat.le_of_ble_eq_true rfl) d_Model_readVar_87 ⟨Nat.le_refl _, Nat.le_refl _⟩ (fun H locs hP hD hS => ?_)
    clear hc11
    replace hR := gd_e hR
    obtain ⟨b12, hR⟩ := hR
    refine saM_38 hx hb hK hP hD hS b12 d_Model_readVar_90 (fun T12 eT H locs hP hD hS => ?_)
    replace hR := stK_e eT hR
    clear eT
    refine lv_aload_n hx hb d_Model_readVar_91 rfl (lv_at hl 0 rfl) ?_
    refine lv_bipush (v := 61) hx hb d_Model_readVar_92 (by decide) ?_
    replace hR := bi_e hR
    obtain ⟨r13, l13, T13, hc13, hR⟩ := hR
    refine gcV_i (rest := []) ⟨hx, hb, hml, hown, hT⟩ (h_Model_takes _ _ _ _ _ hc13) (cwV 1 hT (gV ml_Model_403 im_Model_takes se_Model_takes ini_Model co_Model_takes) rfl rfl rfl pd_Model_takes ⟨rm_hi, rm_lo (Nat.le_of_ble_eq_true rfl)⟩) hK hP hD hS hA hnw henv (Nat.le_of_ble_eq_true rfl) rfl rfl hl.1 rfl (Nat.le_of_ble_eq_true rfl) d_Model_readVar_94 ⟨Nat.le_refl _, Nat.le_refl _⟩ (fun H locs hP hD hS => ?_)
    clear hc13
    refine lv_if_eq (tgt := 113) hx hb d_Model_readVar_97 (by decide) (fun c14 => ?_) (fun c14 => ?_)
    · replace hR := if_p c14 hR
      refine lv_aload_n hx hb d_Model_readVar_113 rfl (lv_at hl 0 rfl) ?_
      refine lv_bipush (v := 59) hx hb d_Model_readVar_114 (by decide) ?_
      replace hR := bi_e hR
      obtain ⟨r15, l15, T15, hc15, hR⟩ := hR
      refine gcV_v (rest := []) ⟨hx, hb, hml, hown, hT⟩ (h_Model_need _ _ _ _ _ hc15) (cwV 1 hT (gV ml_Model_448 im_Model_need se_Model_need ini_Model co_Model_need) rfl rfl rfl pd_Model_need ⟨rm_hi, rm_lo (Nat.le_of_ble_eq_true rfl)⟩) hK hP hD hS hA hnw henv (Nat.le_of_ble_eq_true rfl) rfl rfl hl.1 rfl (Nat.le_of_ble_eq_true rfl) d_Model_readVar_116 ⟨Nat.le_refl _, Nat.le_refl _⟩ (fun H locs hP hD hS => ?_)
      clear hc15
      refine lv_iload_n hx hb d_Model_readVar_119 rfl (lv_at hl 2 rfl) ?_
      obtain ⟨e1, -, e3⟩ := re_e hR
      subst e1; subst e3
      exact W.iret (v := x3) hx hb hr (fun t ht hW => ⟨⟨x3, (), rfl, rfl, by rw [ht]; exact hP, va_K.moved hW.alike hK, hD⟩, hS.F ht⟩) hS.2.2 d_Model_readVar_120
    · replace hR := if_n c14 hR
      refine lv_aload_n hx hb d_Model_readVar_100 rfl (lv_at hl 0 rfl) ?_
      refine rd_Model_126 hx hb hT hown hK hP d_Model_readVar_101 ?_
      refine lv_iload_n hx hb d_Model_readVar_104 rfl (lv_at hl 2 rfl) ?_
      refine lv_aload_n hx hb d_Model_readVar_105 rfl (lv_at hl 0 rfl) ?_
      refine lv_iload_n hx hb d_Model_readVar_106 rfl (lv_at hl 1 rfl) ?_
      refine lv_iconst (v := 1) hx hb d_Model_readVar_107 (by decide) ?_
      refine lv_iadd hx hb d_Model_readVar_108 ?_
      replace hR := bi_e hR
      obtain ⟨r17, l17, T17, hc17, hR⟩ := hR
      refine gcV_i (rest := [.int x3, .ref (ad 38)]) ⟨hx, hb, hml, hown, hT⟩ (h_Model_expression _ _ _ _ _ hc17) (cwV 1 hT (gV ml_Model_494 im_Model_expression se_Model_expression ini_Model co_Model_expression) rfl rfl rfl pd_Model_expression ⟨rm_hi, rm_lo (Nat.le_of_ble_eq_true rfl)⟩) hK hP hD hS hA hnw henv (Nat.le_of_ble_eq_true rfl) rfl rfl hl.1 rfl (Nat.le_of_ble_eq_true rfl) d_Model_readVar_109 ⟨Nat.le_refl _, Nat.le_refl _⟩ (fun H locs hP hD hS => ?_)
      clear hc17
      replace hR := gd_e hR
      obtain ⟨b18, hR⟩ := hR
      refine saM_37 hx hb hK hP hD hS b18 d_Model_readVar_112 (fun T18 eT H locs hP hD hS => ?_)
      replace hR := stK_e eT hR
      clear eT
      refine lv_aload_n hx hb d_Model_readVar_113 rfl (lv_at hl 0 rfl) ?_
      refine lv_bipush (v := 59) hx hb d_Model_readVar_114 (by decide) ?_
      replace hR := bi_e hR
      obtain ⟨r19, l19, T19, hc19, hR⟩ := hR
      refine gcV_v (rest := []) ⟨hx, hb, hml, hown, hT⟩ (h_Model_need _ _ _ _ _ hc19) (cwV 1 hT (gV ml_Model_448 im_Model_need se_Model_need ini_Model co_Model_need) rfl rfl rfl pd_Model_need ⟨rm_hi, rm_lo (Nat.le_of_ble_eq_true rfl)⟩) hK hP hD hS hA hnw henv (Nat.le_of_ble_eq_true rfl) rfl rfl hl.1 rfl (Nat.le_of_ble_eq_true rfl) d_Model_readVar_116 ⟨Nat.le_refl _, Nat.le_refl _⟩ (fun H locs hP hD hS => ?_)
      clear hc19
      refine lv_iload_n hx hb d_Model_readVar_119 rfl (lv_at hl 2 rfl) ?_
      obtain ⟨e1, -, e3⟩ := re_e hR
      subst e1; subst e3
      exact W.iret (v := x3) hx hb hr (fun t ht hW => ⟨⟨x3, (), rfl, rfl, by rw [ht]; exact hP, va_K.moved hW.alike hK, hD⟩, hS.F ht⟩) hS.2.2 d_Model_readVar_120
  unfold rb_Model_readVar at hR
  refine lv_aload_n hx hb d_Model_readVar_0 rfl (lv_at hl 0 rfl) ?_
  refine lv_bipush (v := 20) hx hb d_Model_readVar_1 (by decide) ?_
  refine lv_iload_n hx hb d_Model_readVar_3 rfl (lv_at hl 1 rfl) ?_
  replace hR := bi_e hR
  obtain ⟨r1, l1, T1, hc1, hR⟩ := hR
  refine gcV_i (rest := []) ⟨hx, hb, hml, hown, hT⟩ (h_Model_node _ _ _ _ _ _ hc1) (cwV 2 hT (gV ml_Model_478 im_Model_node se_Model_node ini_Model co_Model_node) rfl rfl rfl pd_Model_node ⟨rm_hi, rm_lo (Nat.le_of_ble_eq_true rfl)⟩) hK hP hD hS hA hnw henv (Nat.le_of_ble_eq_true rfl) rfl rfl hl.1 rfl (Nat.le_of_ble_eq_true rfl) d_Model_readVar_4 ⟨Nat.le_refl _, Nat.le_refl _⟩ (fun H locs hP hD hS => ?_)
  clear hc1
  refine lv_istore_n (lv' := [(3, .int r1), (0, .ref (ad 0)), (1, .int p1), (2, .int p2)]) hx hb d_Model_readVar_7 rfl hl (by decide) rfl (fun ls hl => ?_)
  refine lv_aload_n hx hb d_Model_readVar_8 rfl (lv_at hl 1 rfl) ?_
  refine rd_Model_141 hx hb hT hown hK hP d_Model_readVar_9 ?_
  refine lv_iload_n hx hb d_Model_readVar_12 rfl (lv_at hl 0 rfl) ?_
  refine lv_aload_n hx hb d_Model_readVar_13 rfl (lv_at hl 1 rfl) ?_
  refine rd_Model_349 hx hb hT hown hK hP d_Model_readVar_14 ?_
  replace hR := gd_e hR
  obtain ⟨b2, hR⟩ := hR
  refine saM_42 hx hb hK hP hD hS b2 d_Model_readVar_17 (fun T2 eT H locs hP hD hS => ?_)
  replace hR := stK_e eT hR
  clear eT
  refine lv_aload_n hx hb d_Model_readVar_18 rfl (lv_at hl 1 rfl) ?_
  refine rd_Model_138 hx hb hT hown hK hP d_Model_readVar_19 ?_
  refine lv_iload_n hx hb d_Model_readVar_22 rfl (lv_at hl 0 rfl) ?_
  refine lv_aload_n hx hb d_Model_readVar_23 rfl (lv_at hl 1 rfl) ?_
  refine rd_Model_365 hx hb hT hown hK hP d_Model_readVar_24 ?_
  replace hR := gd_e hR
  obtain ⟨b3, hR⟩ := hR
  refine saM_41 hx hb hK hP hD hS b3 d_Model_readVar_27 (fun T3 eT H locs hP hD hS => ?_)
  replace hR := stK_e eT hR
  clear eT
  refine lv_aload_n hx hb d_Model_readVar_28 rfl (lv_at hl 1 rfl) ?_
  refine rd_Model_352 hx hb hT hown hK hP d_Model_readVar_29 ?_
  refine lv_iconst (v := 1) hx hb d_Model_readVar_32 (by decide) ?_
  refine lv_icmp_ne (tgt := 49) hx hb d_Model_readVar_33 (by decide) (fun c4 => ?_) (fun c4 => ?_)
  · replace hR := if_n c4 hR
    have g := lb_49 T3 p2 r1 hR
    rw [hG] at g
    exact g _ _ hP hD hS _ (lv_sub hl [1, 3, 0] rfl)
  · replace hR := if_p c4 hR
    refine lv_aload_n hx hb d_Model_readVar_36 rfl (lv_at hl 1 rfl) ?_
    refine rd_Model_436 hx hb hT hown hK hP d_Model_readVar_37 ?_
    refine lv_bipush (v := 20) hx hb d_Model_readVar_40 (by decide) ?_
    refine lv_icmp_ne (tgt := 49) hx hb d_Model_readVar_42 (by decide) (fun c5 => ?_) (fun c5 => ?_)
    · replace hR := if_n c5 hR
      have g := lb_49 T3 p2 r1 hR
      rw [hG] at g
      exact g _ _ hP hD hS _ (lv_sub hl [1, 3, 0] rfl)
    · replace hR := if_p c5 hR
      refine lv_aload_n hx hb d_Model_readVar_45 rfl (lv_at hl 1 rfl) ?_
      replace hR := bi_e hR
      obtain ⟨r6, l6, T6, hc6, hR⟩ := hR
      refine gcV_v (rest := []) ⟨hx, hb, hml, hown, hT⟩ (h_Model_wrong _ _ _ _ hc6) (cwV 0 hT (gV ml_Model_406 im_Model_wrong se_Model_wrong ini_Model co_Model_wrong) rfl rfl rfl pd_Model_wrong ⟨rm_hi, rm_lo (Nat.le_of_ble_eq_true rfl)⟩) hK hP hD hS hA hnw henv (Nat.le_of_ble_eq_true rfl) rfl rfl hl.1 rfl (Nat.le_of_ble_eq_true rfl) d_Model_readVar_46 ⟨Nat.le_refl _, Nat.le_refl _⟩ (fun H locs hP hD hS => ?_)
      clear hc6
      have g := lb_49 T6 p2 r1 hR
      rw [hG] at g
      exact g _ _ hP hD hS _ (lv_sub hl [1, 3, 0] rfl)
set_option maxHeartbeats 4000000 in
set_option maxRecDepth 100000 in
theorem sp_Model_operator (l : Launch) (dC : Nat → ClassId) (dI : Nat → Nat → Nat) (ea ev ad : Nat → Nat) (km : Nat → ClassId) (F : gF) (nf d : Nat) (h_Model_bad : mt_Model_bad l dC dI ea ev ad km F d) (T0 : gSt) (r0 : Int32) (rl0 : Int64) (T9 : gSt) (hR : rb_Model_operator F nf T0 = some (r0, rl0, T9)) : GMi l dC dI LM ad km ea ev y_Model_operator w_Model_operator (rmD (d + 1)) [.ref (ad 0)] T0 r0 T9 := by
  intro sz
  refine Met.ofW (cc := b_Model_operator) (maxL := 1) (ret := (some .int)) (by decide) rfl ?_
  intro p e s m args below meth c s₁ B hml hv
  obtain ⟨rfl, hsz, hP, hK, hD0, hnw, henv⟩ := hv
  have hx := B.exec
  have hb := B.bytes
  have hr := B.returns
  have hT : ∀ w ∈ lw_good, w.before _ s = true := fun w h => atoms_spec (ws := w_Model_operator) B.pre w (List.mem_cons_of_mem _ h)
  have hown : s.vm.findClass R_Model = some m.cls := findClass_of_methodNamed B.named
  subst hsz
  have hD := hD0.self (sz := s.heap.size)
  clear hD0
  generalize hAe : va_A (gW LM ad km T0) s.heap.size = A at hD henv ⊢
  have hA : ∀ q : Nat, s.heap.size ≤ q → A q := fun q h => by rw [← hAe]; exact Or.inr h
  have hS : va_S A s.heap s.heap [] := va_S.rf
  have hl := lv_entry ([.ref (ad 0)]) (n := 1) (Nat.le_of_ble_eq_true rfl)
  rw [lg_entry_eq]
  generalize (lg_sl ([.ref (ad 0)]) ++ List.replicate (1 - (lg_sl ([.ref (ad 0)])).length) Slot.unset).toArray = ls at hl ⊢
  have hl : lv_has ls 1 [(0, .ref (ad 0))] := hl
  unfold rb_Model_operator at hR
  refine lv_aload_n hx hb d_Model_operator_0 rfl (lv_at hl 0 rfl) ?_
  refine rd_Model_352 hx hb hT hown hK hP d_Model_operator_1 ?_
  refine lv_bipush (v := 6) hx hb d_Model_operator_4 (by decide) ?_
  refine lv_icmp_ne (tgt := 16) hx hb d_Model_operator_6 (by decide) (fun c1 => ?_) (fun c1 => ?_)
  · replace hR := if_n c1 hR
    refine lv_iconst (v := (-1)) hx hb d_Model_operator_16 (by decide) ?_
    obtain ⟨e1, -, e3⟩ := re_e hR
    subst e1; subst e3
    exact W.iret (v := (-1 : Int32)) hx hb hr (fun t ht hW => ⟨⟨(-1 : Int32), (), rfl, rfl, by rw [ht]; exact hP, va_K.moved hW.alike hK, hD⟩, hS.F ht⟩) hS.2.2 d_Model_operator_17
  · replace hR := if_p c1 hR
    refine lv_aload_n hx hb d_Model_operator_9 rfl (lv_at hl 0 rfl) ?_
    replace hR := bi_e hR
    obtain ⟨r3, l3, T3, hc3, hR⟩ := hR
    refine gcV_i (rest := []) ⟨hx, hb, hml, hown, hT⟩ (h_Model_bad _ _ _ _ hc3) (cwV 0 hT (gV ml_Model_385 im_Model_bad se_Model_bad ini_Model co_Model_bad) rfl rfl rfl pd_Model_bad ⟨rm_hi, rm_lo (Nat.le_of_ble_eq_true rfl)⟩) hK hP hD hS hA hnw henv (Nat.le_of_ble_eq_true rfl) rfl rfl hl.1 rfl (Nat.le_of_ble_eq_true rfl) d_Model_operator_10 ⟨Nat.le_refl _, Nat.le_refl _⟩ (fun H locs hP hD hS => ?_)
    clear hc3
    refine lv_if_eq (tgt := 18) hx hb d_Model_operator_13 (by decide) (fun c4 => ?_) (fun c4 => ?_)
    · replace hR := if_p c4 hR
      refine lv_aload_n hx hb d_Model_operator_18 rfl (lv_at hl 0 rfl) ?_
      refine rd_Model_369 hx hb hT hown hK hP d_Model_operator_19 ?_
      refine lv_bipush (v := 43) hx hb d_Model_operator_22 (by decide) ?_
      refine lv_icmp_eq (tgt := 82) hx hb d_Model_operator_24 (by decide) (fun c5 => ?_) (fun c5 => ?_)
      · replace hR := if_p c5 hR
        refine lv_aload_n hx hb d_Model_operator_82 rfl (lv_at hl 0 rfl) ?_
        refine rd_Model_369 hx hb hT hown hK hP d_Model_operator_83 ?_
        refine lv_goto (tgt := 90) hx hb d_Model_operator_86 (by decide) ?_
        obtain ⟨e1, -, e3⟩ := re_e hR
        subst e1; subst e3
        exact W.iret (v := T3.1 5 0) hx hb hr (fun t ht hW => ⟨⟨T3.1 5 0, (), rfl, rfl, by rw [ht]; exact hP, va_K.moved hW.alike hK, hD⟩, hS.F ht⟩) hS.2.2 d_Model_operator_90
      · replace hR := if_n c5 hR
        refine lv_aload_n hx hb d_Model_operator_27 rfl (lv_at hl 0 rfl) ?_
        refine rd_Model_369 hx hb hT hown hK hP d_Model_operator_28 ?_
        refine lv_bipush (v := 45) hx hb d_Model_operator_31 (by decide) ?_
        refine lv_icmp_eq (tgt := 82) hx hb d_Model_operator_33 (by decide) (fun c7 => ?_) (fun c7 => ?_)
        · replace hR := if_p c7 hR
          refine lv_aload_n hx hb d_Model_operator_82 rfl (lv_at hl 0 rfl) ?_
          refine rd_Model_369 hx hb hT hown hK hP d_Model_operator_83 ?_
          refine lv_goto (tgt := 90) hx hb d_Model_operator_86 (by decide) ?_
          obtain ⟨e1, -, e3⟩ := re_e hR
          subst e1; subst e3
          exact W.iret (v := T3.1 5 0) hx hb hr (fun t ht hW => ⟨⟨T3.1 5 0, (), rfl, rfl, by rw [ht]; exact hP, va_K.moved hW.alike hK, hD⟩, hS.F ht⟩) hS.2.2 d_Model_operator_90
        · replace hR := if_n c7 hR
          refine lv_aload_n hx hb d_Model_operator_36 rfl (lv_at hl 0 rfl) ?_
          refine rd_Model_369 hx hb hT hown hK hP d_Model_operator_37 ?_
          refine lv_bipush (v := 42) hx hb d_Model_operator_40 (by decide) ?_
          refine lv_icmp_eq (tgt := 82) hx hb d_Model_operator_42 (by decide) (fun c9 => ?_) (fun c9 => ?_)
          · replace hR := if_p c9 hR
            refine lv_aload_n hx hb d_Model_operator_82 rfl (lv_at hl 0 rfl) ?_
            refine rd_Model_369 hx hb hT hown hK hP d_Model_operator_83 ?_
            refine lv_goto (tgt := 90) hx hb d_Model_operator_86 (by decide) ?_
            obtain ⟨e1, -, e3⟩ := re_e hR
            subst e1; subst e3
            exact W.iret (v := T3.1 5 0) hx hb hr (fun t ht hW => ⟨⟨T3.1 5 0, (), rfl, rfl, by rw [ht]; exact hP, va_K.moved hW.alike hK, hD⟩, hS.F ht⟩) hS.2.2 d_Model_operator_90
          · replace hR := if_n c9 hR
            refine lv_aload_n hx hb d_Model_operator_45 rfl (lv_at hl 0 rfl) ?_
            refine rd_Model_369 hx hb hT hown hK hP d_Model_operator_46 ?_
            refine lv_bipush (v := 47) hx hb d_Model_operator_49 (by decide) ?_
            refine lv_icmp_eq (tgt := 82) hx hb d_Model_operator_51 (by decide) (fun c11 => ?_) (fun c11 => ?_)
            · replace hR := if_p c11 hR
              refine lv_aload_n hx hb d_Model_operator_82 rfl (lv_at hl 0 rfl) ?_
              refine rd_Model_369 hx hb hT hown hK hP d_Model_operator_83 ?_
              refine lv_goto (tgt := 90) hx hb d_Model_operator_86 (by decide) ?_
              obtain ⟨e1, -, e3⟩ := re_e hR
              subst e1; subst e3
              exact W.iret (v := T3.1 5 0) hx hb hr (fun t ht hW => ⟨⟨T3.1 5 0, (), rfl, rfl, by rw [ht]; exact hP, va_K.moved hW.alike hK, hD⟩, hS.F ht⟩) hS.2.2 d_Model_operator_90
            · replace hR := if_n c11 hR
              refine lv_aload_n hx hb d_Model_operator_54 rfl (lv_at hl 0 rfl) ?_
              refine rd_Model_369 hx hb hT hown hK hP d_Model_operator_55 ?_
              refine lv_bipush (v := 37) hx hb d_Model_operator_58 (by decide) ?_
              refine lv_icmp_eq (tgt := 82) hx hb d_Model_operator_60 (by decide) (fun c13 => ?_) (fun c13 => ?_)
              · replace hR := if_p c13 hR
                refine lv_aload_n hx hb d_Model_operator_82 rfl (lv_at hl 0 rfl) ?_
                refine rd_Model_369 hx hb hT hown hK hP d_Model_operator_83 ?_
                refine lv_goto (tgt := 90) hx hb d_Model_operator_86 (by decide) ?_
                obtain ⟨e1, -, e3⟩ := re_e hR
                subst e1; subst e3
                exact W.iret (v := T3.1 5 0) hx hb hr (fun t ht hW => ⟨⟨T3.1 5 0, (), rfl, rfl, by rw [ht]; exact hP, va_K.moved hW.alike hK, hD⟩, hS.F ht⟩) hS.2.2 d_Model_operator_90
              · replace hR := if_n c13 hR
                refine lv_aload_n hx hb d_Model_operator_63 rfl (lv_at hl 0 rfl) ?_
                refine rd_Model_369 hx hb hT hown hK hP d_Model_operator_64 ?_
                refine lv_sipush (v := 256) hx hb d_Model_operator_67 (by decide) ?_
                refine lv_icmp_eq (tgt := 82) hx hb d_Model_operator_70 (by decide) (fun c15 => ?_) (fun c15 => ?_)
                · replace hR := if_p c15 hR
                  refine lv_aload_n hx hb d_Model_operator_82 rfl (lv_at hl 0 rfl) ?_
                  refine rd_Model_369 hx hb hT hown hK hP d_Model_operator_83 ?_
                  refine lv_goto (tgt := 90) hx hb d_Model_operator_86 (by decide) ?_
                  obtain ⟨e1, -, e3⟩ := re_e hR
                  subst e1; subst e3
                  exact W.iret (v := T3.1 5 0) hx hb hr (fun t ht hW => ⟨⟨T3.1 5 0, (), rfl, rfl, by rw [ht]; exact hP, va_K.moved hW.alike hK, hD⟩, hS.F ht⟩) hS.2.2 d_Model_operator_90
                · replace hR := if_n c15 hR
                  refine lv_aload_n hx hb d_Model_operator_73 rfl (lv_at hl 0 rfl) ?_
                  refine rd_Model_369 hx hb hT hown hK hP d_Model_operator_74 ?_
                  refine lv_bipush (v := 60) hx hb d_Model_operator_77 (by decide) ?_
                  refine lv_icmp_ne (tgt := 89) hx hb d_Model_operator_79 (by decide) (fun c17 => ?_) (fun c17 => ?_)
                  · replace hR := if_n c17 hR
                    refine lv_iconst (v := (-1)) hx hb d_Model_operator_89 (by decide) ?_
                    obtain ⟨e1, -, e3⟩ := re_e hR
                    subst e1; subst e3
                    exact W.iret (v := (-1 : Int32)) hx hb hr (fun t ht hW => ⟨⟨(-1 : Int32), (), rfl, rfl, by rw [ht]; exact hP, va_K.moved hW.alike hK, hD⟩, hS.F ht⟩) hS.2.2 d_Model_operator_90
                  · replace hR := if_p c17 hR
                    refine lv_aload_n hx hb d_Model_operator_82 rfl (lv_at hl 0 rfl) ?_
                    refine rd_Model_369 hx hb hT hown hK hP d_Model_operator_83 ?_
                    refine lv_goto (tgt := 90) hx hb d_Model_operator_86 (by decide) ?_
                    obtain ⟨e1, -, e3⟩ := re_e hR
                    subst e1; subst e3
                    exact W.iret (v := T3.1 5 0) hx hb hr (fun t ht hW => ⟨⟨T3.1 5 0, (), rfl, rfl, by rw [ht]; exact hP, va_K.moved hW.alike hK, hD⟩, hS.F ht⟩) hS.2.2 d_Model_operator_90
    · replace hR := if_n c4 hR
      refine lv_iconst (v := (-1)) hx hb d_Model_operator_16 (by decide) ?_
      obtain ⟨e1, -, e3⟩ := re_e hR
      subst e1; subst e3
      exact W.iret (v := (-1 : Int32)) hx hb hr (fun t ht hW => ⟨⟨(-1 : Int32), (), rfl, rfl, by rw [ht]; exact hP, va_K.moved hW.alike hK, hD⟩, hS.F ht⟩) hS.2.2 d_Model_operator_17
set_option maxHeartbeats 4000000 in
set_option maxRecDepth 100000 in
theorem sp_Model_expression (l : Launch) (dC : Nat → ClassId) (dI : Nat → Nat → Nat) (ea ev ad : Nat → Nat) (km : Nat → ClassId) (F : gF) (nf d : Nat) (h_Model_term : mt_Model_term l dC dI ea ev ad km F d) (h_Model_wrong : mt_Model_wrong l dC dI ea ev ad km F d) (h_Model_operator : mt_Model_operator l dC dI ea ev ad km F d) (h_Model_advance : mt_Model_advance l dC dI ea ev ad km F d) (h_Model_node : mt_Model_node l dC dI ea ev ad km F d) (T0 : gSt) (p1 : Int32) (r0 : Int32) (rl0 : Int64) (T9 : gSt) (hR : rb_Model_expression F nf T0 p1 = some (r0, rl0, T9)) : GMi l dC dI LM ad km ea ev y_Model_expression w_Model_expression (rmD (d + 1)) [.ref (ad 0), .int p1] T0 r0 T9 := by
  intro sz
  refine Met.ofW (cc := b_Model_expression) (maxL := 5) (ret := (some .int)) (by decide) rfl ?_
  intro p e s m args below meth c s₁ B hml hv
  obtain ⟨rfl, hsz, hP, hK, hD0, hnw, henv⟩ := hv
  have hx := B.exec
  have hb := B.bytes
  have hr := B.returns
  have hT : ∀ w ∈ lw_good, w.before _ s = true := fun w h => atoms_spec (ws := w_Model_expression) B.pre w (List.mem_cons_of_mem _ h)
  have hown : s.vm.findClass R_Model = some m.cls := findClass_of_methodNamed B.named
  subst hsz
  have hD := hD0.self (sz := s.heap.size)
  clear hD0
  generalize hAe : va_A (gW LM ad km T0) s.heap.size = A at hD henv ⊢
  have hA : ∀ q : Nat, s.heap.size ≤ q → A q := fun q h => by rw [← hAe]; exact Or.inr h
  have hS : va_S A s.heap s.heap [] := va_S.rf
  have hl := lv_entry ([.ref (ad 0), .int p1]) (n := 5) (Nat.le_of_ble_eq_true rfl)
  rw [lg_entry_eq]
  generalize (lg_sl ([.ref (ad 0), .int p1]) ++ List.replicate (5 - (lg_sl ([.ref (ad 0), .int p1])).length) Slot.unset).toArray = ls at hl ⊢
  have hl : lv_has ls 5 [(0, .ref (ad 0)), (1, .int p1)] := hl
  obtain ⟨G, hG⟩ : ∃ G : Nat → List (Nat × Value) → List Value → gSt → Prop, G = (fun pc lv stk T => ∀ (H : Heap) (locs : List Loc), va_P (dC, dI) cls_all (gW LM ad km T) H → va_D A (gW LM ad km T) → va_S A s.heap H locs → ∀ (ls : Array Slot), lv_has ls 5 lv → W p l e (headSpec w_Model_expression (rmD (d + 1))).room s m ([.ref (ad 0), .int p1] : List Value).toArray below meth c H locs 0 0 (MQ below (va_Qi (fun (z : Int32) (_ : Unit) => z = r0) (fun _ t => gPost dC dI LM ad km T9 A t) A) ([.ref (ad 0), .int p1] : List Value).toArray s 0 0 A) (F0 m pc ls stk)) := ⟨_, rfl⟩
  have lb_16 : ∀ (n : Nat) (T : gSt) (x1 : Int32) (x2 : Int32), rl_Model_expression_16 F nf n T x1 x2 = some (r0, rl0, T9) → G 16 [(0, .ref (ad 0)), (1, .int x1), (2, .int x2)] [] T := by
    intro n
    induction n with
    | zero => intro T x1 x2 hR; rw [rl_Model_expression_16] at hR; cases hR
    | succ n ih =>
      intro T x1 x2 hR; rw [rl_Model_expression_16] at hR; rw [hG]; intro H locs hP hD hS ls hl
      refine lv_aload_n hx hb d_Model_expression_16 rfl (lv_at hl 0 rfl) ?_
      replace hR := bi_e hR
      obtain ⟨r5, l5, T5, hc5, hR⟩ := hR
      refine gcV_i (rest := []) ⟨hx, hb, hml, hown, hT⟩ (h_Model_operator _ _ _ _ hc5) (cwV 0 hT (gV ml_Model_516 im_Model_operator se_Model_operator ini_Model co_Model_operator) rfl rfl rfl pd_Model_operator ⟨rm_hi, rm_lo (Nat.le_of_ble_eq_true rfl)⟩) hK hP hD hS hA hnw henv (Nat.le_of_ble_eq_true rfl) rfl rfl hl.1 rfl (Nat.le_of_ble_eq_true rfl) d_Model_expression_17 ⟨Nat.le_refl _, Nat.le_refl _⟩ (fun H locs hP hD hS => ?_)
      clear hc5
      refine lv_if_lt (tgt := 80) hx hb d_Model_expression_20 (by decide) (fun c6 => ?_) (fun c6 => ?_)
      · replace hR := if_p c6 hR
        refine lv_iload_n hx hb d_Model_expression_80 rfl (lv_at hl 2 rfl) ?_
        obtain ⟨e1, -, e3⟩ := re_e hR
        subst e1; subst e3
        exact W.iret (v := x2) hx hb hr (fun t ht hW => ⟨⟨x2, (), rfl, rfl, by rw [ht]; exact hP, va_K.moved hW.alike hK, hD⟩, hS.F ht⟩) hS.2.2 d_Model_expression_81
      · replace hR := if_n c6 hR
        refine lv_aload_n hx hb d_Model_expression_23 rfl (lv_at hl 0 rfl) ?_
        replace hR := bi_e hR
        obtain ⟨r8, l8, T8, hc8, hR⟩ := hR
        refine gcV_i (rest := []) ⟨hx, hb, hml, hown, hT⟩ (h_Model_operator _ _ _ _ hc8) (cwV 0 hT (gV ml_Model_516 im_Model_operator se_Model_operator ini_Model co_Model_operator) rfl rfl rfl pd_Model_operator ⟨rm_hi, rm_lo (Nat.le_of_ble_eq_true rfl)⟩) hK hP hD hS hA hnw henv (Nat.le_of_ble_eq_true rfl) rfl rfl hl.1 rfl (Nat.le_of_ble_eq_true rfl) d_Model_expression_24 ⟨Nat.le_refl _, Nat.le_refl _⟩ (fun H locs hP hD hS => ?_)
        clear hc8
        refine lv_istore_n (lv' := [(3, .int r8), (0, .ref (ad 0)), (1, .int x1), (2, .int x2)]) hx hb d_Model_expression_27 rfl hl (by decide) rfl (fun ls hl => ?_)
        refine lv_aload_n hx hb d_Model_expression_28 rfl (lv_at hl 1 rfl) ?_
        replace hR := bi_e hR
        obtain ⟨r9, l9, T9, hc9, hR⟩ := hR
        refine gcV_v (rest := []) ⟨hx, hb, hml, hown, hT⟩ (h_Model_advance _ _ _ _ hc9) (cwV 0 hT (gV ml_Model_396 im_Model_advance se_Model_advance ini_Model co_Model_advance) rfl rfl rfl pd_Model_advance ⟨rm_hi, rm_lo (Nat.le_of_ble_eq_true rfl)⟩) hK hP hD hS hA hnw henv (Nat.le_of_ble_eq_true rfl) rfl rfl hl.1 rfl (Nat.le_of_ble_eq_true rfl) d_Model_expression_29 ⟨Nat.le_refl _, Nat.le_refl _⟩ (fun H locs hP hD hS => ?_)
        clear hc9
        refine lv_aload_n hx hb d_Model_expression_32 rfl (lv_at hl 1 rfl) ?_
        refine lv_bipush (v := 13) hx hb d_Model_expression_33 (by decide) ?_
        refine lv_aload_n hx hb d_Model_expression_35 rfl (lv_at hl 1 rfl) ?_
        refine rd_Model_123 hx hb hT hown hK hP d_Model_expression_36 ?_
        refine lv_iload_n hx hb d_Model_expression_39 rfl (lv_at hl 3 rfl) ?_
        replace hR := gd_e hR
        obtain ⟨b10, hR⟩ := hR
        refine laM_36 hx hb hK hP b10 d_Model_expression_40 ?_
        replace hR := bi_e hR
        obtain ⟨r11, l11, T11, hc11, hR⟩ := hR
        refine gcV_i (rest := []) ⟨hx, hb, hml, hown, hT⟩ (h_Model_node _ _ _ _ _ _ hc11) (cwV 2 hT (gV ml_Model_478 im_Model_node se_Model_node ini_Model co_Model_node) rfl rfl rfl pd_Model_node ⟨rm_hi, rm_lo (Nat.le_of_ble_eq_true rfl)⟩) hK hP hD hS hA hnw henv (Nat.le_of_ble_eq_true rfl) rfl rfl hl.1 rfl (Nat.le_of_ble_eq_true rfl) d_Model_expression_41 ⟨Nat.le_refl _, Nat.le_refl _⟩ (fun H locs hP hD hS => ?_)
        clear hc11
        refine lv_istore (lv' := [(4, .int r11), (3, .int r8), (0, .ref (ad 0)), (1, .int x1), (2, .int x2)]) hx hb d_Model_expression_44 hl (by decide) rfl (fun ls hl => ?_)
        refine lv_aload_n hx hb d_Model_expression_46 rfl (lv_at hl 2 rfl) ?_
        refine rd_Model_132 hx hb hT hown hK hP d_Model_expression_47 ?_
        refine lv_iload hx hb d_Model_expression_50 (lv_at hl 0 rfl) ?_
        refine lv_iload_n hx hb d_Model_expression_52 rfl (lv_at hl 1 rfl) ?_
        replace hR := gd_e hR
        obtain ⟨b12, hR⟩ := hR
        refine saM_39 hx hb hK hP hD hS b12 d_Model_expression_53 (fun T12 eT H locs hP hD hS => ?_)
        replace hR := stK_e eT hR
        clear eT
        refine lv_aload_n hx hb d_Model_expression_54 rfl (lv_at hl 2 rfl) ?_
        refine rd_Model_126 hx hb hT hown hK hP d_Model_expression_55 ?_
        refine lv_iload hx hb d_Model_expression_58 (lv_at hl 0 rfl) ?_
        refine lv_iload_n hx hb d_Model_expression_60 rfl (lv_at hl 4 rfl) ?_
        replace hR := gd_e hR
        obtain ⟨b13, hR⟩ := hR
        refine saM_37 hx hb hK hP hD hS b13 d_Model_expression_61 (fun T13 eT H locs hP hD hS => ?_)
        replace hR := stK_e eT hR
        clear eT
        refine lv_aload_n hx hb d_Model_expression_62 rfl (lv_at hl 2 rfl) ?_
        refine rd_Model_129 hx hb hT hown hK hP d_Model_expression_63 ?_
        refine lv_iload hx hb d_Model_expression_66 (lv_at hl 0 rfl) ?_
        refine lv_aload_n hx hb d_Model_expression_68 rfl (lv_at hl 2 rfl) ?_
        refine lv_iload_n hx hb d_Model_expression_69 rfl (lv_at hl 3 rfl) ?_
        replace hR := bi_e hR
        obtain ⟨r14, l14, T14, hc14, hR⟩ := hR
        refine gcV_i (rest := [.int r11, .ref (ad 39)]) ⟨hx, hb, hml, hown, hT⟩ (h_Model_term _ _ _ _ _ hc14) (cwV 1 hT (gV ml_Model_513 im_Model_term se_Model_term ini_Model co_Model_term) rfl rfl rfl pd_Model_term ⟨rm_hi, rm_lo (Nat.le_of_ble_eq_true rfl)⟩) hK hP hD hS hA hnw henv (Nat.le_of_ble_eq_true rfl) rfl rfl hl.1 rfl (Nat.le_of_ble_eq_true rfl) d_Model_expression_70 ⟨Nat.le_refl _, Nat.le_refl _⟩ (fun H locs hP hD hS => ?_)
        clear hc14
        replace hR := gd_e hR
        obtain ⟨b15, hR⟩ := hR
        refine saM_38 hx hb hK hP hD hS b15 d_Model_expression_73 (fun T15 eT H locs hP hD hS => ?_)
        replace hR := stK_e eT hR
        clear eT
        refine lv_iload hx hb d_Model_expression_74 (lv_at hl 0 rfl) ?_
        refine lv_istore_n (lv' := [(2, .int r11), (4, .int r11), (3, .int r8), (0, .ref (ad 0)), (1, .int x1)]) hx hb d_Model_expression_76 rfl hl (by decide) rfl (fun ls hl => ?_)
        refine lv_goto (tgt := 16) hx hb d_Model_expression_77 (by decide) ?_
        have g := ih T15 x1 r11 hR
        rw [hG] at g
        exact g _ _ hP hD hS _ (lv_sub hl [3, 4, 0] rfl)
  unfold rb_Model_expression at hR
  refine lv_iload_n hx hb d_Model_expression_0 rfl (lv_at hl 1 rfl) ?_
  refine lv_bipush (v := 20) hx hb d_Model_expression_1 (by decide) ?_
  refine lv_icmp_le (tgt := 10) hx hb d_Model_expression_3 (by decide) (fun c1 => ?_) (fun c1 => ?_)
  · replace hR := if_p c1 hR
    refine lv_aload_n hx hb d_Model_expression_10 rfl (lv_at hl 0 rfl) ?_
    refine lv_iload_n hx hb d_Model_expression_11 rfl (lv_at hl 1 rfl) ?_
    replace hR := bi_e hR
    obtain ⟨r2, l2, T2, hc2, hR⟩ := hR
    refine gcV_i (rest := []) ⟨hx, hb, hml, hown, hT⟩ (h_Model_term _ _ _ _ _ hc2) (cwV 1 hT (gV ml_Model_513 im_Model_term se_Model_term ini_Model co_Model_term) rfl rfl rfl pd_Model_term ⟨rm_hi, rm_lo (Nat.le_of_ble_eq_true rfl)⟩) hK hP hD hS hA hnw henv (Nat.le_of_ble_eq_true rfl) rfl rfl hl.1 rfl (Nat.le_of_ble_eq_true rfl) d_Model_expression_12 ⟨Nat.le_refl _, Nat.le_refl _⟩ (fun H locs hP hD hS => ?_)
    clear hc2
    refine lv_istore_n (lv' := [(2, .int r2), (0, .ref (ad 0)), (1, .int p1)]) hx hb d_Model_expression_15 rfl hl (by decide) rfl (fun ls hl => ?_)
    have g := lb_16 nf T2 p1 r2 hR
    rw [hG] at g
    exact g _ _ hP hD hS _ (lv_sub hl [1, 2, 0] rfl)
  · replace hR := if_n c1 hR
    refine lv_aload_n hx hb d_Model_expression_6 rfl (lv_at hl 0 rfl) ?_
    replace hR := bi_e hR
    obtain ⟨r3, l3, T3, hc3, hR⟩ := hR
    refine gcV_v (rest := []) ⟨hx, hb, hml, hown, hT⟩ (h_Model_wrong _ _ _ _ hc3) (cwV 0 hT (gV ml_Model_406 im_Model_wrong se_Model_wrong ini_Model co_Model_wrong) rfl rfl rfl pd_Model_wrong ⟨rm_hi, rm_lo (Nat.le_of_ble_eq_true rfl)⟩) hK hP hD hS hA hnw henv (Nat.le_of_ble_eq_true rfl) rfl rfl hl.1 rfl (Nat.le_of_ble_eq_true rfl) d_Model_expression_7 ⟨Nat.le_refl _, Nat.le_refl _⟩ (fun H locs hP hD hS => ?_)
    clear hc3
    refine lv_aload_n hx hb d_Model_expression_10 rfl (lv_at hl 0 rfl) ?_
    refine lv_iload_n hx hb d_Model_expression_11 rfl (lv_at hl 1 rfl) ?_
    replace hR := bi_e hR
    obtain ⟨r4, l4, T4, hc4, hR⟩ := hR
    refine gcV_i (rest := []) ⟨hx, hb, hml, hown, hT⟩ (h_Model_term _ _ _ _ _ hc4) (cwV 1 hT (gV ml_Model_513 im_Model_term se_Model_term ini_Model co_Model_term) rfl rfl rfl pd_Model_term ⟨rm_hi, rm_lo (Nat.le_of_ble_eq_true rfl)⟩) hK hP hD hS hA hnw henv (Nat.le_of_ble_eq_true rfl) rfl rfl hl.1 rfl (Nat.le_of_ble_eq_true rfl) d_Model_expression_12 ⟨Nat.le_refl _, Nat.le_refl _⟩ (fun H locs hP hD hS => ?_)
    clear hc4
    refine lv_istore_n (lv' := [(2, .int r4), (0, .ref (ad 0)), (1, .int p1)]) hx hb d_Model_expression_15 rfl hl (by decide) rfl (fun ls hl => ?_)
    have g := lb_16 nf T4 p1 r4 hR
    rw [hG] at g
    exact g _ _ hP hD hS _ (lv_sub hl [1, 2, 0] rfl)
set_option maxHeartbeats 4000000 in
set_option maxRecDepth 100000 in
theorem sp_Model_term (l : Launch) (dC : Nat → ClassId) (dI : Nat → Nat → Nat) (ea ev ad : Nat → Nat) (km : Nat → ClassId) (F : gF) (nf d : Nat) (h_Model_primary : mt_Model_primary l dC dI ea ev ad km F d) (h_Model_bad : mt_Model_bad l dC dI ea ev ad km F d) (h_Model_takes : mt_Model_takes l dC dI ea ev ad km F d) (h_Model_takesWord : mt_Model_takesWord l dC dI ea ev ad km F d) (h_Model_node : mt_Model_node l dC dI ea ev ad km F d) (h_Model_needName : mt_Model_needName l dC dI ea ev ad km F d) (h_Model_expression : mt_Model_expression l dC dI ea ev ad km F d) (h_Model_need : mt_Model_need l dC dI ea ev ad km F d) (T0 : gSt) (p1 : Int32) (r0 : Int32) (rl0 : Int64) (T9 : gSt) (hR : rb_Model_term F nf T0 p1 = some (r0, rl0, T9)) : GMi l dC dI LM ad km ea ev y_Model_term w_Model_term (rmD (d + 1)) [.ref (ad 0), .int p1] T0 r0 T9 := by
  intro sz
  refine Met.ofW (cc := b_Model_term) (maxL := 4) (ret := (some .int)) (by decide) rfl ?_
  intro p e s m args below meth c s₁ B hml hv
  obtain ⟨rfl, hsz, hP, hK, hD0, hnw, henv⟩ := hv
  have hx := B.exec
  have hb := B.bytes
  have hr := B.returns
  have hT : ∀ w ∈ lw_good, w.before _ s = true := fun w h => atoms_spec (ws := w_Model_term) B.pre w (List.mem_cons_of_mem _ h)
  have hown : s.vm.findClass R_Model = some m.cls := findClass_of_methodNamed B.named
  subst hsz
  have hD := hD0.self (sz := s.heap.size)
  clear hD0
  generalize hAe : va_A (gW LM ad km T0) s.heap.size = A at hD henv ⊢
  have hA : ∀ q : Nat, s.heap.size ≤ q → A q := fun q h => by rw [← hAe]; exact Or.inr h
  have hS : va_S A s.heap s.heap [] := va_S.rf
  have hl := lv_entry ([.ref (ad 0), .int p1]) (n := 4) (Nat.le_of_ble_eq_true rfl)
  rw [lg_entry_eq]
  generalize (lg_sl ([.ref (ad 0), .int p1]) ++ List.replicate (4 - (lg_sl ([.ref (ad 0), .int p1])).length) Slot.unset).toArray = ls at hl ⊢
  have hl : lv_has ls 4 [(0, .ref (ad 0)), (1, .int p1)] := hl
  obtain ⟨G, hG⟩ : ∃ G : Nat → List (Nat × Value) → List Value → gSt → Prop, G = (fun pc lv stk T => ∀ (H : Heap) (locs : List Loc), va_P (dC, dI) cls_all (gW LM ad km T) H → va_D A (gW LM ad km T) → va_S A s.heap H locs → ∀ (ls : Array Slot), lv_has ls 4 lv → W p l e (headSpec w_Model_term (rmD (d + 1))).room s m ([.ref (ad 0), .int p1] : List Value).toArray below meth c H locs 0 0 (MQ below (va_Qi (fun (z : Int32) (_ : Unit) => z = r0) (fun _ t => gPost dC dI LM ad km T9 A t) A) ([.ref (ad 0), .int p1] : List Value).toArray s 0 0 A) (F0 m pc ls stk)) := ⟨_, rfl⟩
  have lb_6 : ∀ (n : Nat) (T : gSt) (x1 : Int32) (x2 : Int32), rl_Model_term_6 F nf n T x1 x2 = some (r0, rl0, T9) → G 6 [(0, .ref (ad 0)), (1, .int x1), (2, .int x2)] [] T := by
    intro n
    induction n with
    | zero => intro T x1 x2 hR; rw [rl_Model_term_6] at hR; cases hR
    | succ n ih =>
      intro T x1 x2 hR; rw [rl_Model_term_6] at hR; rw [hG]; intro H locs hP hD hS ls hl
      refine lv_aload_n hx hb d_Model_term_6 rfl (lv_at hl 0 rfl) ?_
      replace hR := bi_e hR
      obtain ⟨r2, l2, T2, hc2, hR⟩ := hR
      refine gcV_i (rest := []) ⟨hx, hb, hml, hown, hT⟩ (h_Model_bad _ _ _ _ hc2) (cwV 0 hT (gV ml_Model_385 im_Model_bad se_Model_bad ini_Model co_Model_bad) rfl rfl rfl pd_Model_bad ⟨rm_hi, rm_lo (Nat.le_of_ble_eq_true rfl)⟩) hK hP hD hS hA hnw henv (Nat.le_of_ble_eq_true rfl) rfl rfl hl.1 rfl (Nat.le_of_ble_eq_true rfl) d_Model_term_7 ⟨Nat.le_refl _, Nat.le_refl _⟩ (fun H locs hP hD hS => ?_)
      clear hc2
      refine lv_if_ne (tgt := 187) hx hb d_Model_term_10 (by decide) (fun c3 => ?_) (fun c3 => ?_)
      · replace hR := if_n c3 hR
        refine lv_iload_n hx hb d_Model_term_187 rfl (lv_at hl 2 rfl) ?_
        obtain ⟨e1, -, e3⟩ := re_e hR
        subst e1; subst e3
        exact W.iret (v := x2) hx hb hr (fun t ht hW => ⟨⟨x2, (), rfl, rfl, by rw [ht]; exact hP, va_K.moved hW.alike hK, hD⟩, hS.F ht⟩) hS.2.2 d_Model_term_188
      · replace hR := if_p c3 hR
        refine lv_aload_n hx hb d_Model_term_13 rfl (lv_at hl 0 rfl) ?_
        refine lv_bipush (v := 46) hx hb d_Model_term_14 (by decide) ?_
        replace hR := bi_e hR
        obtain ⟨r5, l5, T5, hc5, hR⟩ := hR
        refine gcV_i (rest := []) ⟨hx, hb, hml, hown, hT⟩ (h_Model_takes _ _ _ _ _ hc5) (cwV 1 hT (gV ml_Model_403 im_Model_takes se_Model_takes ini_Model co_Model_takes) rfl rfl rfl pd_Model_takes ⟨rm_hi, rm_lo (Nat.le_of_ble_eq_true rfl)⟩) hK hP hD hS hA hnw henv (Nat.le_of_ble_eq_true rfl) rfl rfl hl.1 rfl (Nat.le_of_ble_eq_true rfl) d_Model_term_16 ⟨Nat.le_refl _, Nat.le_refl _⟩ (fun H locs hP hD hS => ?_)
        clear hc5
        refine lv_if_eq (tgt := 58) hx hb d_Model_term_19 (by decide) (fun c6 => ?_) (fun c6 => ?_)
        · replace hR := if_p c6 hR
          refine lv_aload_n hx hb d_Model_term_58 rfl (lv_at hl 0 rfl) ?_
          refine lv_bipush (v := 91) hx hb d_Model_term_59 (by decide) ?_
          replace hR := bi_e hR
          obtain ⟨r7, l7, T7, hc7, hR⟩ := hR
          refine gcV_i (rest := []) ⟨hx, hb, hml, hown, hT⟩ (h_Model_takes _ _ _ _ _ hc7) (cwV 1 hT (gV ml_Model_403 im_Model_takes se_Model_takes ini_Model co_Model_takes) rfl rfl rfl pd_Model_takes ⟨rm_hi, rm_lo (Nat.le_of_ble_eq_true rfl)⟩) hK hP hD hS hA hnw henv (Nat.le_of_ble_eq_true rfl) rfl rfl hl.1 rfl (Nat.le_of_ble_eq_true rfl) d_Model_term_61 ⟨Nat.le_refl _, Nat.le_refl _⟩ (fun H locs hP hD hS => ?_)
          clear hc7
          refine lv_if_eq (tgt := 102) hx hb d_Model_term_64 (by decide) (fun c8 => ?_) (fun c8 => ?_)
          · replace hR := if_p c8 hR
            refine lv_aload_n hx hb d_Model_term_102 rfl (lv_at hl 0 rfl) ?_
            refine lv_bipush (v := 94) hx hb d_Model_term_103 (by decide) ?_
            replace hR := bi_e hR
            obtain ⟨r9, l9, T9, hc9, hR⟩ := hR
            refine gcV_i (rest := []) ⟨hx, hb, hml, hown, hT⟩ (h_Model_takes _ _ _ _ _ hc9) (cwV 1 hT (gV ml_Model_403 im_Model_takes se_Model_takes ini_Model co_Model_takes) rfl rfl rfl pd_Model_takes ⟨rm_hi, rm_lo (Nat.le_of_ble_eq_true rfl)⟩) hK hP hD hS hA hnw henv (Nat.le_of_ble_eq_true rfl) rfl rfl hl.1 rfl (Nat.le_of_ble_eq_true rfl) d_Model_term_105 ⟨Nat.le_refl _, Nat.le_refl _⟩ (fun H locs hP hD hS => ?_)
            clear hc9
            refine lv_if_eq (tgt := 127) hx hb d_Model_term_108 (by decide) (fun c10 => ?_) (fun c10 => ?_)
            · replace hR := if_p c10 hR
              refine lv_aload_n hx hb d_Model_term_127 rfl (lv_at hl 0 rfl) ?_
              refine gldcw (own := R_Model) (index := 522) (q := ea 21) hx hb hown (henv.2.2 21 (by decide)).2 d_Model_term_128 ?_
              replace hR := bi_e hR
              obtain ⟨r11, l11, T11, hc11, hR⟩ := hR
              refine gcV_i (rest := []) ⟨hx, hb, hml, hown, hT⟩ (h_Model_takesWord _ 21 _ _ _ (by first | decide | assumption) hc11) (cwV 1 hT (gV ml_Model_462 im_Model_takesWord se_Model_takesWord ini_Model co_Model_takesWord) rfl rfl rfl pd_Model_takesWord ⟨rm_hi, rm_lo (Nat.le_of_ble_eq_true rfl)⟩) hK hP hD hS hA hnw henv (Nat.le_of_ble_eq_true rfl) rfl rfl hl.1 rfl (Nat.le_of_ble_eq_true rfl) d_Model_term_131 ⟨Nat.le_refl _, Nat.le_refl _⟩ (fun H locs hP hD hS => ?_)
              clear hc11
              refine lv_if_eq (tgt := 173) hx hb d_Model_term_134 (by decide) (fun c12 => ?_) (fun c12 => ?_)
              · replace hR := if_p c12 hR
                refine lv_iload_n hx hb d_Model_term_173 rfl (lv_at hl 2 rfl) ?_
                obtain ⟨e1, -, e3⟩ := re_e hR
                subst e1; subst e3
                exact W.iret (v := x2) hx hb hr (fun t ht hW => ⟨⟨x2, (), rfl, rfl, by rw [ht]; exact hP, va_K.moved hW.alike hK, hD⟩, hS.F ht⟩) hS.2.2 d_Model_term_174
              · replace hR := if_n c12 hR
                refine lv_aload_n hx hb d_Model_term_137 rfl (lv_at hl 0 rfl) ?_
                refine lv_bipush (v := 17) hx hb d_Model_term_138 (by decide) ?_
                refine lv_aload_n hx hb d_Model_term_140 rfl (lv_at hl 0 rfl) ?_
                refine rd_Model_123 hx hb hT hown hK hP d_Model_term_141 ?_
                refine lv_iload_n hx hb d_Model_term_144 rfl (lv_at hl 2 rfl) ?_
                replace hR := gd_e hR
                obtain ⟨b14, hR⟩ := hR
                refine laM_36 hx hb hK hP b14 d_Model_term_145 ?_
                replace hR := bi_e hR
                obtain ⟨r15, l15, T15, hc15, hR⟩ := hR
                refine gcV_i (rest := []) ⟨hx, hb, hml, hown, hT⟩ (h_Model_node _ _ _ _ _ _ hc15) (cwV 2 hT (gV ml_Model_478 im_Model_node se_Model_node ini_Model co_Model_node) rfl rfl rfl pd_Model_node ⟨rm_hi, rm_lo (Nat.le_of_ble_eq_true rfl)⟩) hK hP hD hS hA hnw henv (Nat.le_of_ble_eq_true rfl) rfl rfl hl.1 rfl (Nat.le_of_ble_eq_true rfl) d_Model_term_146 ⟨Nat.le_refl _, Nat.le_refl _⟩ (fun H locs hP hD hS => ?_)
                clear hc15
                refine lv_istore_n (lv' := [(3, .int r15), (0, .ref (ad 0)), (1, .int x1), (2, .int x2)]) hx hb d_Model_term_149 rfl hl (by decide) rfl (fun ls hl => ?_)
                refine lv_aload_n hx hb d_Model_term_150 rfl (lv_at hl 1 rfl) ?_
                refine rd_Model_141 hx hb hT hown hK hP d_Model_term_151 ?_
                refine lv_iload_n hx hb d_Model_term_154 rfl (lv_at hl 0 rfl) ?_
                refine lv_aload_n hx hb d_Model_term_155 rfl (lv_at hl 1 rfl) ?_
                refine rd_Model_349 hx hb hT hown hK hP d_Model_term_156 ?_
                replace hR := gd_e hR
                obtain ⟨b16, hR⟩ := hR
                refine saM_42 hx hb hK hP hD hS b16 d_Model_term_159 (fun T16 eT H locs hP hD hS => ?_)
                replace hR := stK_e eT hR
                clear eT
                refine lv_aload_n hx hb d_Model_term_160 rfl (lv_at hl 1 rfl) ?_
                refine rd_Model_138 hx hb hT hown hK hP d_Model_term_161 ?_
                refine lv_iload_n hx hb d_Model_term_164 rfl (lv_at hl 0 rfl) ?_
                refine lv_aload_n hx hb d_Model_term_165 rfl (lv_at hl 1 rfl) ?_
                replace hR := bi_e hR
                obtain ⟨r17, l17, T17, hc17, hR⟩ := hR
                refine gcV_l (rest := [.int r15, .ref (ad 42)]) ⟨hx, hb, hml, hown, hT⟩ (h_Model_needName _ _ _ _ hc17) (cwV 0 hT (gV ml_Model_454 im_Model_needName se_Model_needName ini_Model co_Model_needName) rfl rfl rfl pd_Model_needName ⟨rm_hi, rm_lo (Nat.le_of_ble_eq_true rfl)⟩) hK hP hD hS hA hnw henv (Nat.le_of_ble_eq_true rfl) rfl rfl hl.1 rfl (Nat.le_of_ble_eq_true rfl) d_Model_term_166 ⟨Nat.le_refl _, Nat.le_refl _⟩ (fun H locs hP hD hS => ?_)
                clear hc17
                replace hR := gd_e hR
                obtain ⟨b18, hR⟩ := hR
                refine saM_41 hx hb hK hP hD hS b18 d_Model_term_169 (fun T18 eT H locs hP hD hS => ?_)
                replace hR := stK_e eT hR
                clear eT
                refine lv_goto (tgt := 175) hx hb d_Model_term_170 (by decide) ?_
                refine lv_aload_n hx hb d_Model_term_175 rfl (lv_at hl 1 rfl) ?_
                refine rd_Model_126 hx hb hT hown hK hP d_Model_term_176 ?_
                refine lv_iload_n hx hb d_Model_term_179 rfl (lv_at hl 0 rfl) ?_
                refine lv_iload_n hx hb d_Model_term_180 rfl (lv_at hl 3 rfl) ?_
                replace hR := gd_e hR
                obtain ⟨b19, hR⟩ := hR
                refine saM_37 hx hb hK hP hD hS b19 d_Model_term_181 (fun T19 eT H locs hP hD hS => ?_)
                replace hR := stK_e eT hR
                clear eT
                refine lv_iload_n hx hb d_Model_term_182 rfl (lv_at hl 0 rfl) ?_
                refine lv_istore_n (lv' := [(2, .int r15), (3, .int r15), (0, .ref (ad 0)), (1, .int x1)]) hx hb d_Model_term_183 rfl hl (by decide) rfl (fun ls hl => ?_)
                refine lv_goto (tgt := 6) hx hb d_Model_term_184 (by decide) ?_
                have g := ih T19 x1 r15 hR
                rw [hG] at g
                exact g _ _ hP hD hS _ (lv_sub hl [2, 3, 0] rfl)
            · replace hR := if_n c10 hR
              refine lv_aload_n hx hb d_Model_term_111 rfl (lv_at hl 0 rfl) ?_
              refine lv_bipush (v := 16) hx hb d_Model_term_112 (by decide) ?_
              refine lv_aload_n hx hb d_Model_term_114 rfl (lv_at hl 0 rfl) ?_
              refine rd_Model_123 hx hb hT hown hK hP d_Model_term_115 ?_
              refine lv_iload_n hx hb d_Model_term_118 rfl (lv_at hl 2 rfl) ?_
              replace hR := gd_e hR
              obtain ⟨b20, hR⟩ := hR
              refine laM_36 hx hb hK hP b20 d_Model_term_119 ?_
              replace hR := bi_e hR
              obtain ⟨r21, l21, T21, hc21, hR⟩ := hR
              refine gcV_i (rest := []) ⟨hx, hb, hml, hown, hT⟩ (h_Model_node _ _ _ _ _ _ hc21) (cwV 2 hT (gV ml_Model_478 im_Model_node se_Model_node ini_Model co_Model_node) rfl rfl rfl pd_Model_node ⟨rm_hi, rm_lo (Nat.le_of_ble_eq_true rfl)⟩) hK hP hD hS hA hnw henv (Nat.le_of_ble_eq_true rfl) rfl rfl hl.1 rfl (Nat.le_of_ble_eq_true rfl) d_Model_term_120 ⟨Nat.le_refl _, Nat.le_refl _⟩ (fun H locs hP hD hS => ?_)
              clear hc21
              refine lv_istore_n (lv' := [(3, .int r21), (0, .ref (ad 0)), (1, .int x1), (2, .int x2)]) hx hb d_Model_term_123 rfl hl (by decide) rfl (fun ls hl => ?_)
              refine lv_goto (tgt := 175) hx hb d_Model_term_124 (by decide) ?_
              refine lv_aload_n hx hb d_Model_term_175 rfl (lv_at hl 1 rfl) ?_
              refine rd_Model_126 hx hb hT hown hK hP d_Model_term_176 ?_
              refine lv_iload_n hx hb d_Model_term_179 rfl (lv_at hl 0 rfl) ?_
              refine lv_iload_n hx hb d_Model_term_180 rfl (lv_at hl 3 rfl) ?_
              replace hR := gd_e hR
              obtain ⟨b22, hR⟩ := hR
              refine saM_37 hx hb hK hP hD hS b22 d_Model_term_181 (fun T22 eT H locs hP hD hS => ?_)
              replace hR := stK_e eT hR
              clear eT
              refine lv_iload_n hx hb d_Model_term_182 rfl (lv_at hl 0 rfl) ?_
              refine lv_istore_n (lv' := [(2, .int r21), (3, .int r21), (0, .ref (ad 0)), (1, .int x1)]) hx hb d_Model_term_183 rfl hl (by decide) rfl (fun ls hl => ?_)
              refine lv_goto (tgt := 6) hx hb d_Model_term_184 (by decide) ?_
              have g := ih T22 x1 r21 hR
              rw [hG] at g
              exact g _ _ hP hD hS _ (lv_sub hl [2, 3, 0] rfl)
          · replace hR := if_n c8 hR
            refine lv_aload_n hx hb d_Model_term_67 rfl (lv_at hl 0 rfl) ?_
            refine lv_bipush (v := 15) hx hb d_Model_term_68 (by decide) ?_
            refine lv_aload_n hx hb d_Model_term_70 rfl (lv_at hl 0 rfl) ?_
            refine rd_Model_123 hx hb hT hown hK hP d_Model_term_71 ?_
            refine lv_iload_n hx hb d_Model_term_74 rfl (lv_at hl 2 rfl) ?_
            replace hR := gd_e hR
            obtain ⟨b23, hR⟩ := hR
            refine laM_36 hx hb hK hP b23 d_Model_term_75 ?_
            replace hR := bi_e hR
            obtain ⟨r24, l24, T24, hc24, hR⟩ := hR
            refine gcV_i (rest := []) ⟨hx, hb, hml, hown, hT⟩ (h_Model_node _ _ _ _ _ _ hc24) (cwV 2 hT (gV ml_Model_478 im_Model_node se_Model_node ini_Model co_Model_node) rfl rfl rfl pd_Model_node ⟨rm_hi, rm_lo (Nat.le_of_ble_eq_true rfl)⟩) hK hP hD hS hA hnw henv (Nat.le_of_ble_eq_true rfl) rfl rfl hl.1 rfl (Nat.le_of_ble_eq_true rfl) d_Model_term_76 ⟨Nat.le_refl _, Nat.le_refl _⟩ (fun H locs hP hD hS => ?_)
            clear hc24
            refine lv_istore_n (lv' := [(3, .int r24), (0, .ref (ad 0)), (1, .int x1), (2, .int x2)]) hx hb d_Model_term_79 rfl hl (by decide) rfl (fun ls hl => ?_)
            refine lv_aload_n hx hb d_Model_term_80 rfl (lv_at hl 1 rfl) ?_
            refine rd_Model_129 hx hb hT hown hK hP d_Model_term_81 ?_
            refine lv_iload_n hx hb d_Model_term_84 rfl (lv_at hl 0 rfl) ?_
            refine lv_aload_n hx hb d_Model_term_85 rfl (lv_at hl 1 rfl) ?_
            refine lv_iload_n hx hb d_Model_term_86 rfl (lv_at hl 2 rfl) ?_
            refine lv_iconst (v := 1) hx hb d_Model_term_87 (by decide) ?_
            refine lv_iadd hx hb d_Model_term_88 ?_
            replace hR := bi_e hR
            obtain ⟨r25, l25, T25, hc25, hR⟩ := hR
            refine gcV_i (rest := [.int r24, .ref (ad 39)]) ⟨hx, hb, hml, hown, hT⟩ (h_Model_expression _ _ _ _ _ hc25) (cwV 1 hT (gV ml_Model_494 im_Model_expression se_Model_expression ini_Model co_Model_expression) rfl rfl rfl pd_Model_expression ⟨rm_hi, rm_lo (Nat.le_of_ble_eq_true rfl)⟩) hK hP hD hS hA hnw henv (Nat.le_of_ble_eq_true rfl) rfl rfl hl.1 rfl (Nat.le_of_ble_eq_true rfl) d_Model_term_89 ⟨Nat.le_refl _, Nat.le_refl _⟩ (fun H locs hP hD hS => ?_)
            clear hc25
            replace hR := gd_e hR
            obtain ⟨b26, hR⟩ := hR
            refine saM_38 hx hb hK hP hD hS b26 d_Model_term_92 (fun T26 eT H locs hP hD hS => ?_)
            replace hR := stK_e eT hR
            clear eT
            refine lv_aload_n hx hb d_Model_term_93 rfl (lv_at hl 1 rfl) ?_
            refine lv_bipush (v := 93) hx hb d_Model_term_94 (by decide) ?_
            replace hR := bi_e hR
            obtain ⟨r27, l27, T27, hc27, hR⟩ := hR
            refine gcV_v (rest := []) ⟨hx, hb, hml, hown, hT⟩ (h_Model_need _ _ _ _ _ hc27) (cwV 1 hT (gV ml_Model_448 im_Model_need se_Model_need ini_Model co_Model_need) rfl rfl rfl pd_Model_need ⟨rm_hi, rm_lo (Nat.le_of_ble_eq_true rfl)⟩) hK hP hD hS hA hnw henv (Nat.le_of_ble_eq_true rfl) rfl rfl hl.1 rfl (Nat.le_of_ble_eq_true rfl) d_Model_term_96 ⟨Nat.le_refl _, Nat.le_refl _⟩ (fun H locs hP hD hS => ?_)
            clear hc27
            refine lv_goto (tgt := 175) hx hb d_Model_term_99 (by decide) ?_
            refine lv_aload_n hx hb d_Model_term_175 rfl (lv_at hl 1 rfl) ?_
            refine rd_Model_126 hx hb hT hown hK hP d_Model_term_176 ?_
            refine lv_iload_n hx hb d_Model_term_179 rfl (lv_at hl 0 rfl) ?_
            refine lv_iload_n hx hb d_Model_term_180 rfl (lv_at hl 3 rfl) ?_
            replace hR := gd_e hR
            obtain ⟨b28, hR⟩ := hR
            refine saM_37 hx hb hK hP hD hS b28 d_Model_term_181 (fun T28 eT H locs hP hD hS => ?_)
            replace hR := stK_e eT hR
            clear eT
            refine lv_iload_n hx hb d_Model_term_182 rfl (lv_at hl 0 rfl) ?_
            refine lv_istore_n (lv' := [(2, .int r24), (3, .int r24), (0, .ref (ad 0)), (1, .int x1)]) hx hb d_Model_term_183 rfl hl (by decide) rfl (fun ls hl => ?_)
            refine lv_goto (tgt := 6) hx hb d_Model_term_184 (by decide) ?_
            have g := ih T28 x1 r24 hR
            rw [hG] at g
            exact g _ _ hP hD hS _ (lv_sub hl [2, 3, 0] rfl)
        · replace hR := if_n c6 hR
          refine lv_aload_n hx hb d_Model_term_22 rfl (lv_at hl 0 rfl) ?_
          refine lv_bipush (v := 14) hx hb d_Model_term_23 (by decide) ?_
          refine lv_aload_n hx hb d_Model_term_25 rfl (lv_at hl 0 rfl) ?_
          refine rd_Model_123 hx hb hT hown hK hP d_Model_term_26 ?_
          refine lv_iload_n hx hb d_Model_term_29 rfl (lv_at hl 2 rfl) ?_
          replace hR := gd_e hR
          obtain ⟨b29, hR⟩ := hR
          refine laM_36 hx hb hK hP b29 d_Model_term_30 ?_
          replace hR := bi_e hR
          obtain ⟨r30, l30, T30, hc30, hR⟩ := hR
          refine gcV_i (rest := []) ⟨hx, hb, hml, hown, hT⟩ (h_Model_node _ _ _ _ _ _ hc30) (cwV 2 hT (gV ml_Model_478 im_Model_node se_Model_node ini_Model co_Model_node) rfl rfl rfl pd_Model_node ⟨rm_hi, rm_lo (Nat.le_of_ble_eq_true rfl)⟩) hK hP hD hS hA hnw henv (Nat.le_of_ble_eq_true rfl) rfl rfl hl.1 rfl (Nat.le_of_ble_eq_true rfl) d_Model_term_31 ⟨Nat.le_refl _, Nat.le_refl _⟩ (fun H locs hP hD hS => ?_)
          clear hc30
          refine lv_istore_n (lv' := [(3, .int r30), (0, .ref (ad 0)), (1, .int x1), (2, .int x2)]) hx hb d_Model_term_34 rfl hl (by decide) rfl (fun ls hl => ?_)
          refine lv_aload_n hx hb d_Model_term_35 rfl (lv_at hl 1 rfl) ?_
          refine rd_Model_141 hx hb hT hown hK hP d_Model_term_36 ?_
          refine lv_iload_n hx hb d_Model_term_39 rfl (lv_at hl 0 rfl) ?_
          refine lv_aload_n hx hb d_Model_term_40 rfl (lv_at hl 1 rfl) ?_
          refine rd_Model_349 hx hb hT hown hK hP d_Model_term_41 ?_
          replace hR := gd_e hR
          obtain ⟨b31, hR⟩ := hR
          refine saM_42 hx hb hK hP hD hS b31 d_Model_term_44 (fun T31 eT H locs hP hD hS => ?_)
          replace hR := stK_e eT hR
          clear eT
          refine lv_aload_n hx hb d_Model_term_45 rfl (lv_at hl 1 rfl) ?_
          refine rd_Model_138 hx hb hT hown hK hP d_Model_term_46 ?_
          refine lv_iload_n hx hb d_Model_term_49 rfl (lv_at hl 0 rfl) ?_
          refine lv_aload_n hx hb d_Model_term_50 rfl (lv_at hl 1 rfl) ?_
          replace hR := bi_e hR
          obtain ⟨r32, l32, T32, hc32, hR⟩ := hR
          refine gcV_l (rest := [.int r30, .ref (ad 42)]) ⟨hx, hb, hml, hown, hT⟩ (h_Model_needName _ _ _ _ hc32) (cwV 0 hT (gV ml_Model_454 im_Model_needName se_Model_needName ini_Model co_Model_needName) rfl rfl rfl pd_Model_needName ⟨rm_hi, rm_lo (Nat.le_of_ble_eq_true rfl)⟩) hK hP hD hS hA hnw henv (Nat.le_of_ble_eq_true rfl) rfl rfl hl.1 rfl (Nat.le_of_ble_eq_true rfl) d_Model_term_51 ⟨Nat.le_refl _, Nat.le_refl _⟩ (fun H locs hP hD hS => ?_)
          clear hc32
          replace hR := gd_e hR
          obtain ⟨b33, hR⟩ := hR
          refine saM_41 hx hb hK hP hD hS b33 d_Model_term_54 (fun T33 eT H locs hP hD hS => ?_)
          replace hR := stK_e eT hR
          clear eT
          refine lv_goto (tgt := 175) hx hb d_Model_term_55 (by decide) ?_
          refine lv_aload_n hx hb d_Model_term_175 rfl (lv_at hl 1 rfl) ?_
          refine rd_Model_126 hx hb hT hown hK hP d_Model_term_176 ?_
          refine lv_iload_n hx hb d_Model_term_179 rfl (lv_at hl 0 rfl) ?_
          refine lv_iload_n hx hb d_Model_term_180 rfl (lv_at hl 3 rfl) ?_
          replace hR := gd_e hR
          obtain ⟨b34, hR⟩ := hR
          refine saM_37 hx hb hK hP hD hS b34 d_Model_term_181 (fun T34 eT H locs hP hD hS => ?_)
          replace hR := stK_e eT hR
          clear eT
          refine lv_iload_n hx hb d_Model_term_182 rfl (lv_at hl 0 rfl) ?_
          refine lv_istore_n (lv' := [(2, .int r30), (3, .int r30), (0, .ref (ad 0)), (1, .int x1)]) hx hb d_Model_term_183 rfl hl (by decide) rfl (fun ls hl => ?_)
          refine lv_goto (tgt := 6) hx hb d_Model_term_184 (by decide) ?_
          have g := ih T34 x1 r30 hR
          rw [hG] at g
          exact g _ _ hP hD hS _ (lv_sub hl [2, 3, 0] rfl)
  unfold rb_Model_term at hR
  refine lv_aload_n hx hb d_Model_term_0 rfl (lv_at hl 0 rfl) ?_
  refine lv_iload_n hx hb d_Model_term_1 rfl (lv_at hl 1 rfl) ?_
  replace hR := bi_e hR
  obtain ⟨r1, l1, T1, hc1, hR⟩ := hR
  refine gcV_i (rest := []) ⟨hx, hb, hml, hown, hT⟩ (h_Model_primary _ _ _ _ _ hc1) (cwV 1 hT (gV ml_Model_519 im_Model_primary se_Model_primary ini_Model co_Model_primary) rfl rfl rfl pd_Model_primary ⟨rm_hi, rm_lo (Nat.le_of_ble_eq_true rfl)⟩) hK hP hD hS hA hnw henv (Nat.le_of_ble_eq_true rfl) rfl rfl hl.1 rfl (Nat.le_of_ble_eq_true rfl) d_Model_term_2 ⟨Nat.le_refl _, Nat.le_refl _⟩ (fun H locs hP hD hS => ?_)
  clear hc1
  refine lv_istore_n (lv' := [(2, .int r1), (0, .ref (ad 0)), (1, .int p1)]) hx hb d_Model_term_5 rfl hl (by decide) rfl (fun ls hl => ?_)
  have g := lb_6 nf T1 p1 r1 hR
  rw [hG] at g
  exact g _ _ hP hD hS _ (lv_sub hl [1, 2, 0] rfl)
set_option maxHeartbeats 4000000 in
set_option maxRecDepth 100000 in
theorem sp_Model_arguments (l : Launch) (dC : Nat → ClassId) (dI : Nat → Nat → Nat) (ea ev ad : Nat → Nat) (km : Nat → ClassId) (F : gF) (nf d : Nat) (h_Model_bad : mt_Model_bad l dC dI ea ev ad km F d) (h_Model_need : mt_Model_need l dC dI ea ev ad km F d) (h_Model_isSign : mt_Model_isSign l dC dI ea ev ad km F d) (h_Model_wrong : mt_Model_wrong l dC dI ea ev ad km F d) (h_Model_expression : mt_Model_expression l dC dI ea ev ad km F d) (h_Model_node : mt_Model_node l dC dI ea ev ad km F d) (T0 : gSt) (p1 : Int32) (p2 : Int32) (p3 : Int32) (r0 : Int32) (rl0 : Int64) (T9 : gSt) (hR : rb_Model_arguments F nf T0 p1 p2 p3 = some (r0, rl0, T9)) : GMv l dC dI LM ad km ea ev y_Model_arguments w_Model_arguments (rmD (d + 1)) [.ref (ad 0), .int p1, .int p2, .int p3] T0 T9 := by
  intro sz
  refine Met.ofW (cc := b_Model_arguments) (maxL := 8) (ret := none) (by decide) rfl ?_
  intro p e s m args below meth c s₁ B hml hv
  obtain ⟨rfl, hsz, hP, hK, hD0, hnw, henv⟩ := hv
  have hx := B.exec
  have hb := B.bytes
  have hr := B.returns
  have hT : ∀ w ∈ lw_good, w.before _ s = true := fun w h => atoms_spec (ws := w_Model_arguments) B.pre w (List.mem_cons_of_mem _ h)
  have hown : s.vm.findClass R_Model = some m.cls := findClass_of_methodNamed B.named
  subst hsz
  have hD := hD0.self (sz := s.heap.size)
  clear hD0
  generalize hAe : va_A (gW LM ad km T0) s.heap.size = A at hD henv ⊢
  have hA : ∀ q : Nat, s.heap.size ≤ q → A q := fun q h => by rw [← hAe]; exact Or.inr h
  have hS : va_S A s.heap s.heap [] := va_S.rf
  have hl := lv_entry ([.ref (ad 0), .int p1, .int p2, .int p3]) (n := 8) (Nat.le_of_ble_eq_true rfl)
  rw [lg_entry_eq]
  generalize (lg_sl ([.ref (ad 0), .int p1, .int p2, .int p3]) ++ List.replicate (8 - (lg_sl ([.ref (ad 0), .int p1, .int p2, .int p3])).length) Slot.unset).toArray = ls at hl ⊢
  have hl : lv_has ls 8 [(0, .ref (ad 0)), (1, .int p1), (2, .int p2), (3, .int p3)] := hl
  obtain ⟨G, hG⟩ : ∃ G : Nat → List (Nat × Value) → List Value → gSt → Prop, G = (fun pc lv stk T => ∀ (H : Heap) (locs : List Loc), va_P (dC, dI) cls_all (gW LM ad km T) H → va_D A (gW LM ad km T) → va_S A s.heap H locs → ∀ (ls : Array Slot), lv_has ls 8 lv → W p l e (headSpec w_Model_arguments (rmD (d + 1))).room s m ([.ref (ad 0), .int p1, .int p2, .int p3] : List Value).toArray below meth c H locs 0 0 (MQ below (va_Qv (fun (_ : Unit) => True) (fun _ t => gPost dC dI LM ad km T9 A t) A) ([.ref (ad 0), .int p1, .int p2, .int p3] : List Value).toArray s 0 0 A) (F0 m pc ls stk)) := ⟨_, rfl⟩
  have lb_43 : ∀ (rec_6 : gSt → Int32 → Int32 → Int32 → Int32 → Int32 → gR) (hrec_6 : ∀ (T : gSt) (x1 : Int32) (x2 : Int32) (x3 : Int32) (x4 : Int32) (x5 : Int32), rec_6 T x1 x2 x3 x4 x5 = some (r0, rl0, T9) → G 6 [(0, .ref (ad 0)), (1, .int x1), (2, .int x2), (3, .int x3), (4, .int x4), (5, .int x5)] [] T) (T : gSt) (x1 : Int32) (x2 : Int32) (x3 : Int32) (x4 : Int32) (x5 : Int32), rj_Model_arguments_43 F nf rec_6 T x1 x2 x3 x4 x5 = some (r0, rl0, T9) → G 43 [(0, .ref (ad 0)), (1, .int x1), (2, .int x2), (3, .int x3), (4, .int x4), (5, .int x5)] [] T := by
    intro rec_6 hrec_6 T x1 x2 x3 x4 x5 hR; unfold rj_Model_arguments_43 at hR; rw [hG]; intro H locs hP hD hS ls hl
    refine lv_aload_n hx hb d_Model_arguments_43 rfl (lv_at hl 0 rfl) ?_
    refine lv_iload_n hx hb d_Model_arguments_44 rfl (lv_at hl 2 rfl) ?_
    refine lv_iconst (v := 1) hx hb d_Model_arguments_45 (by decide) ?_
    refine lv_iadd hx hb d_Model_arguments_46 ?_
    replace hR := bi_e hR
    obtain ⟨r15, l15, T15, hc15, hR⟩ := hR
    refine gcV_i (rest := []) ⟨hx, hb, hml, hown, hT⟩ (h_Model_expression _ _ _ _ _ hc15) (cwV 1 hT (gV ml_Model_494 im_Model_expression se_Model_expression ini_Model co_Model_expression) rfl rfl rfl pd_Model_expression ⟨rm_hi, rm_lo (Nat.le_of_ble_eq_true rfl)⟩) hK hP hD hS hA hnw henv (Nat.le_of_ble_eq_true rfl) rfl rfl hl.1 rfl (Nat.le_of_ble_eq_true rfl) d_Model_arguments_47 ⟨Nat.le_refl _, Nat.le_refl _⟩ (fun H locs hP hD hS => ?_)
    clear hc15
    refine lv_istore (lv' := [(6, .int r15), (0, .ref (ad 0)), (1, .int x1), (2, .int x2), (3, .int x3), (4, .int x4), (5, .int x5)]) hx hb d_Model_arguments_50 hl (by decide) rfl (fun ls hl => ?_)
    refine lv_aload_n hx hb d_Model_arguments_52 rfl (lv_at hl 1 rfl) ?_
    refine lv_bipush (v := 30) hx hb d_Model_arguments_53 (by decide) ?_
    refine lv_aload_n hx hb d_Model_arguments_55 rfl (lv_at hl 1 rfl) ?_
    refine rd_Model_123 hx hb hT hown hK hP d_Model_arguments_56 ?_
    refine lv_iload hx hb d_Model_arguments_59 (lv_at hl 0 rfl) ?_
    replace hR := gd_e hR
    obtain ⟨b16, hR⟩ := hR
    refine laM_36 hx hb hK hP b16 d_Model_arguments_61 ?_
    replace hR := bi_e hR
    obtain ⟨r17, l17, T17, hc17, hR⟩ := hR
    refine gcV_i (rest := []) ⟨hx, hb, hml, hown, hT⟩ (h_Model_node _ _ _ _ _ _ hc17) (cwV 2 hT (gV ml_Model_478 im_Model_node se_Model_node ini_Model co_Model_node) rfl rfl rfl pd_Model_node ⟨rm_hi, rm_lo (Nat.le_of_ble_eq_true rfl)⟩) hK hP hD hS hA hnw henv (Nat.le_of_ble_eq_true rfl) rfl rfl hl.1 rfl (Nat.le_of_ble_eq_true rfl) d_Model_arguments_62 ⟨Nat.le_refl _, Nat.le_refl _⟩ (fun H locs hP hD hS => ?_)
    clear hc17
    refine lv_istore (lv' := [(7, .int r17), (6, .int r15), (0, .ref (ad 0)), (1, .int x1), (2, .int x2), (3, .int x3), (4, .int x4), (5, .int x5)]) hx hb d_Model_arguments_65 hl (by decide) rfl (fun ls hl => ?_)
    refine lv_aload_n hx hb d_Model_arguments_67 rfl (lv_at hl 2 rfl) ?_
    refine rd_Model_126 hx hb hT hown hK hP d_Model_arguments_68 ?_
    refine lv_iload hx hb d_Model_arguments_71 (lv_at hl 0 rfl) ?_
    refine lv_iload hx hb d_Model_arguments_73 (lv_at hl 1 rfl) ?_
    replace hR := gd_e hR
    obtain ⟨b18, hR⟩ := hR
    refine saM_37 hx hb hK hP hD hS b18 d_Model_arguments_75 (fun T18 eT H locs hP hD hS => ?_)
    replace hR := stK_e eT hR
    clear eT
    refine lv_iload hx hb d_Model_arguments_76 (lv_at hl 7 rfl) ?_
    refine lv_if_ge (tgt := 92) hx hb d_Model_arguments_78 (by decide) (fun c19 => ?_) (fun c19 => ?_)
    · replace hR := if_p c19 hR
      refine lv_aload_n hx hb d_Model_arguments_92 rfl (lv_at hl 2 rfl) ?_
      refine rd_Model_135 hx hb hT hown hK hP d_Model_arguments_93 ?_
      refine lv_iload hx hb d_Model_arguments_96 (lv_at hl 7 rfl) ?_
      refine lv_iload hx hb d_Model_arguments_98 (lv_at hl 0 rfl) ?_
      replace hR := gd_e hR
      obtain ⟨b20, hR⟩ := hR
      refine saM_40 hx hb hK hP hD hS b20 d_Model_arguments_100 (fun T20 eT H locs hP hD hS => ?_)
      replace hR := stK_e eT hR
      clear eT
      refine lv_iload hx hb d_Model_arguments_101 (lv_at hl 0 rfl) ?_
      refine lv_istore (lv' := [(5, .int r17), (7, .int r17), (6, .int r15), (0, .ref (ad 0)), (1, .int x1), (2, .int x2), (3, .int x3), (4, .int x4)]) hx hb d_Model_arguments_103 hl (by decide) rfl (fun ls hl => ?_)
      obtain ⟨z21, e21⟩ : ∃ y : Int32, y = x4 + (1 : Int32) := ⟨_, rfl⟩
      replace hR := vK_e e21 hR
      refine lv_iinc (v := z21) (lv' := [(4, .int z21), (5, .int r17), (7, .int r17), (6, .int r15), (0, .ref (ad 0)), (1, .int x1), (2, .int x2), (3, .int x3)]) hx hb d_Model_arguments_105 hl (k := 7) rfl (by rw [e21]; rfl) (by decide) rfl (fun ls hl => ?_)
      refine lv_goto (tgt := 6) hx hb d_Model_arguments_108 (by decide) ?_
      have g := hrec_6 T20 x1 x2 x3 z21 r17 hR
      rw [hG] at g
      exact g _ _ hP hD hS _ (lv_sub hl [4, 5, 6, 7, 0, 1] rfl)
    · replace hR := if_n c19 hR
      refine lv_aload_n hx hb d_Model_arguments_81 rfl (lv_at hl 2 rfl) ?_
      refine rd_Model_126 hx hb hT hown hK hP d_Model_arguments_82 ?_
      refine lv_iload_n hx hb d_Model_arguments_85 rfl (lv_at hl 3 rfl) ?_
      refine lv_iload hx hb d_Model_arguments_86 (lv_at hl 0 rfl) ?_
      replace hR := gd_e hR
      obtain ⟨b22, hR⟩ := hR
      refine saM_37 hx hb hK hP hD hS b22 d_Model_arguments_88 (fun T22 eT H locs hP hD hS => ?_)
      replace hR := stK_e eT hR
      clear eT
      refine lv_goto (tgt := 101) hx hb d_Model_arguments_89 (by decide) ?_
      refine lv_iload hx hb d_Model_arguments_101 (lv_at hl 0 rfl) ?_
      refine lv_istore (lv' := [(5, .int r17), (7, .int r17), (6, .int r15), (0, .ref (ad 0)), (1, .int x1), (2, .int x2), (3, .int x3), (4, .int x4)]) hx hb d_Model_arguments_103 hl (by decide) rfl (fun ls hl => ?_)
      obtain ⟨z23, e23⟩ : ∃ y : Int32, y = x4 + (1 : Int32) := ⟨_, rfl⟩
      replace hR := vK_e e23 hR
      refine lv_iinc (v := z23) (lv' := [(4, .int z23), (5, .int r17), (7, .int r17), (6, .int r15), (0, .ref (ad 0)), (1, .int x1), (2, .int x2), (3, .int x3)]) hx hb d_Model_arguments_105 hl (k := 7) rfl (by rw [e23]; rfl) (by decide) rfl (fun ls hl => ?_)
      refine lv_goto (tgt := 6) hx hb d_Model_arguments_108 (by decide) ?_
      have g := hrec_6 T22 x1 x2 x3 z23 r17 hR
      rw [hG] at g
      exact g _ _ hP hD hS _ (lv_sub hl [4, 5, 6, 7, 0, 1] rfl)
  have lb_6 : ∀ (n : Nat) (T : gSt) (x1 : Int32) (x2 : Int32) (x3 : Int32) (x4 : Int32) (x5 : Int32), rl_Model_arguments_6 F nf n T x1 x2 x3 x4 x5 = some (r0, rl0, T9) → G 6 [(0, .ref (ad 0)), (1, .int x1), (2, .int x2), (3, .int x3), (4, .int x4), (5, .int x5)] [] T := by
    intro n
    induction n with
    | zero => intro T x1 x2 x3 x4 x5 hR; rw [rl_Model_arguments_6] at hR; cases hR
    | succ n ih =>
      intro T x1 x2 x3 x4 x5 hR; rw [rl_Model_arguments_6] at hR; rw [hG]; intro H locs hP hD hS ls hl
      refine lv_aload_n hx hb d_Model_arguments_6 rfl (lv_at hl 0 rfl) ?_
      replace hR := bi_e hR
      obtain ⟨r1, l1, T1, hc1, hR⟩ := hR
      refine gcV_i (rest := []) ⟨hx, hb, hml, hown, hT⟩ (h_Model_bad _ _ _ _ hc1) (cwV 0 hT (gV ml_Model_385 im_Model_bad se_Model_bad ini_Model co_Model_bad) rfl rfl rfl pd_Model_bad ⟨rm_hi, rm_lo (Nat.le_of_ble_eq_true rfl)⟩) hK hP hD hS hA hnw henv (Nat.le_of_ble_eq_true rfl) rfl rfl hl.1 rfl (Nat.le_of_ble_eq_true rfl) d_Model_arguments_7 ⟨Nat.le_refl _, Nat.le_refl _⟩ (fun H locs hP hD hS => ?_)
      clear hc1
      refine lv_if_ne (tgt := 111) hx hb d_Model_arguments_10 (by decide) (fun c2 => ?_) (fun c2 => ?_)
      · replace hR := if_n c2 hR
        refine lv_aload_n hx hb d_Model_arguments_111 rfl (lv_at hl 0 rfl) ?_
        refine lv_iload_n hx hb d_Model_arguments_112 rfl (lv_at hl 3 rfl) ?_
        replace hR := bi_e hR
        obtain ⟨r3, l3, T3, hc3, hR⟩ := hR
        refine gcV_v (rest := []) ⟨hx, hb, hml, hown, hT⟩ (h_Model_need _ _ _ _ _ hc3) (cwV 1 hT (gV ml_Model_448 im_Model_need se_Model_need ini_Model co_Model_need) rfl rfl rfl pd_Model_need ⟨rm_hi, rm_lo (Nat.le_of_ble_eq_true rfl)⟩) hK hP hD hS hA hnw henv (Nat.le_of_ble_eq_true rfl) rfl rfl hl.1 rfl (Nat.le_of_ble_eq_true rfl) d_Model_arguments_113 ⟨Nat.le_refl _, Nat.le_refl _⟩ (fun H locs hP hD hS => ?_)
        clear hc3
        refine lv_aload_n hx hb d_Model_arguments_116 rfl (lv_at hl 0 rfl) ?_
        refine rd_Model_129 hx hb hT hown hK hP d_Model_arguments_117 ?_
        refine lv_iload_n hx hb d_Model_arguments_120 rfl (lv_at hl 1 rfl) ?_
        refine lv_iload hx hb d_Model_arguments_121 (lv_at hl 4 rfl) ?_
        replace hR := gd_e hR
        obtain ⟨b4, hR⟩ := hR
        refine saM_38 hx hb hK hP hD hS b4 d_Model_arguments_123 (fun T4 eT H locs hP hD hS => ?_)
        replace hR := stK_e eT hR
        clear eT
        obtain ⟨-, -, e3⟩ := re_e hR
        subst e3
        exact W.vret hx hb hr (fun t ht hW => ⟨⟨(), rfl, trivial, by rw [ht]; exact hP, va_K.moved hW.alike hK, hD⟩, hS.F ht⟩) hS.2.2 d_Model_arguments_124
      · replace hR := if_p c2 hR
        refine lv_aload_n hx hb d_Model_arguments_13 rfl (lv_at hl 0 rfl) ?_
        refine lv_iload_n hx hb d_Model_arguments_14 rfl (lv_at hl 3 rfl) ?_
        replace hR := bi_e hR
        obtain ⟨r5, l5, T5, hc5, hR⟩ := hR
        refine gcV_i (rest := []) ⟨hx, hb, hml, hown, hT⟩ (h_Model_isSign _ _ _ _ _ hc5) (cwV 1 hT (gV ml_Model_393 im_Model_isSign se_Model_isSign ini_Model co_Model_isSign) rfl rfl rfl pd_Model_isSign ⟨rm_hi, rm_lo (Nat.le_of_ble_eq_true rfl)⟩) hK hP hD hS hA hnw henv (Nat.le_of_ble_eq_true rfl) rfl rfl hl.1 rfl (Nat.le_of_ble_eq_true rfl) d_Model_arguments_15 ⟨Nat.le_refl _, Nat.le_refl _⟩ (fun H locs hP hD hS => ?_)
        clear hc5
        refine lv_if_ne (tgt := 111) hx hb d_Model_arguments_18 (by decide) (fun c6 => ?_) (fun c6 => ?_)
        · replace hR := if_n c6 hR
          refine lv_aload_n hx hb d_Model_arguments_111 rfl (lv_at hl 0 rfl) ?_
          refine lv_iload_n hx hb d_Model_arguments_112 rfl (lv_at hl 3 rfl) ?_
          replace hR := bi_e hR
          obtain ⟨r7, l7, T7, hc7, hR⟩ := hR
          refine gcV_v (rest := []) ⟨hx, hb, hml, hown, hT⟩ (h_Model_need _ _ _ _ _ hc7) (cwV 1 hT (gV ml_Model_448 im_Model_need se_Model_need ini_Model co_Model_need) rfl rfl rfl pd_Model_need ⟨rm_hi, rm_lo (Nat.le_of_ble_eq_true rfl)⟩) hK hP hD hS hA hnw henv (Nat.le_of_ble_eq_true rfl) rfl rfl hl.1 rfl (Nat.le_of_ble_eq_true rfl) d_Model_arguments_113 ⟨Nat.le_refl _, Nat.le_refl _⟩ (fun H locs hP hD hS => ?_)
          clear hc7
          refine lv_aload_n hx hb d_Model_arguments_116 rfl (lv_at hl 0 rfl) ?_
          refine rd_Model_129 hx hb hT hown hK hP d_Model_arguments_117 ?_
          refine lv_iload_n hx hb d_Model_arguments_120 rfl (lv_at hl 1 rfl) ?_
          refine lv_iload hx hb d_Model_arguments_121 (lv_at hl 4 rfl) ?_
          replace hR := gd_e hR
          obtain ⟨b8, hR⟩ := hR
          refine saM_38 hx hb hK hP hD hS b8 d_Model_arguments_123 (fun T8 eT H locs hP hD hS => ?_)
          replace hR := stK_e eT hR
          clear eT
          obtain ⟨-, -, e3⟩ := re_e hR
          subst e3
          exact W.vret hx hb hr (fun t ht hW => ⟨⟨(), rfl, trivial, by rw [ht]; exact hP, va_K.moved hW.alike hK, hD⟩, hS.F ht⟩) hS.2.2 d_Model_arguments_124
        · replace hR := if_p c6 hR
          refine lv_iload hx hb d_Model_arguments_21 (lv_at hl 4 rfl) ?_
          refine lv_if_le (tgt := 32) hx hb d_Model_arguments_23 (by decide) (fun c9 => ?_) (fun c9 => ?_)
          · replace hR := if_p c9 hR
            refine lv_iload hx hb d_Model_arguments_32 (lv_at hl 4 rfl) ?_
            refine lv_bipush (v := 8) hx hb d_Model_arguments_34 (by decide) ?_
            refine lv_icmp_ne (tgt := 43) hx hb d_Model_arguments_36 (by decide) (fun c10 => ?_) (fun c10 => ?_)
            · replace hR := if_n c10 hR
              have g := lb_43 (rl_Model_arguments_6 F nf n) ih T5 x1 x2 x3 x4 x5 hR
              rw [hG] at g
              exact g _ _ hP hD hS _ (lv_sub hl [0, 1, 2, 3, 4, 5] rfl)
            · replace hR := if_p c10 hR
              refine lv_aload_n hx hb d_Model_arguments_39 rfl (lv_at hl 0 rfl) ?_
              replace hR := bi_e hR
              obtain ⟨r11, l11, T11, hc11, hR⟩ := hR
              refine gcV_v (rest := []) ⟨hx, hb, hml, hown, hT⟩ (h_Model_wrong _ _ _ _ hc11) (cwV 0 hT (gV ml_Model_406 im_Model_wrong se_Model_wrong ini_Model co_Model_wrong) rfl rfl rfl pd_Model_wrong ⟨rm_hi, rm_lo (Nat.le_of_ble_eq_true rfl)⟩) hK hP hD hS hA hnw henv (Nat.le_of_ble_eq_true rfl) rfl rfl hl.1 rfl (Nat.le_of_ble_eq_true rfl) d_Model_arguments_40 ⟨Nat.le_refl _, Nat.le_refl _⟩ (fun H locs hP hD hS => ?_)
              clear hc11
              have g := lb_43 (rl_Model_arguments_6 F nf n) ih T11 x1 x2 x3 x4 x5 hR
              rw [hG] at g
              exact g _ _ hP hD hS _ (lv_sub hl [0, 1, 2, 3, 4, 5] rfl)
          · replace hR := if_n c9 hR
            refine lv_aload_n hx hb d_Model_arguments_26 rfl (lv_at hl 0 rfl) ?_
            refine lv_bipush (v := 44) hx hb d_Model_arguments_27 (by decide) ?_
            replace hR := bi_e hR
            obtain ⟨r12, l12, T12, hc12, hR⟩ := hR
            refine gcV_v (rest := []) ⟨hx, hb, hml, hown, hT⟩ (h_Model_need _ _ _ _ _ hc12) (cwV 1 hT (gV ml_Model_448 im_Model_need se_Model_need ini_Model co_Model_need) rfl rfl rfl pd_Model_need ⟨rm_hi, rm_lo (Nat.le_of_ble_eq_true rfl)⟩) hK hP hD hS hA hnw henv (Nat.le_of_ble_eq_true rfl) rfl rfl hl.1 rfl (Nat.le_of_ble_eq_true rfl) d_Model_arguments_29 ⟨Nat.le_refl _, Nat.le_refl _⟩ (fun H locs hP hD hS => ?_)
            clear hc12
            refine lv_iload hx hb d_Model_arguments_32 (lv_at hl 4 rfl) ?_
            refine lv_bipush (v := 8) hx hb d_Model_arguments_34 (by decide) ?_
            refine lv_icmp_ne (tgt := 43) hx hb d_Model_arguments_36 (by decide) (fun c13 => ?_) (fun c13 => ?_)
            · replace hR := if_n c13 hR
              have g := lb_43 (rl_Model_arguments_6 F nf n) ih T12 x1 x2 x3 x4 x5 hR
              rw [hG] at g
              exact g _ _ hP hD hS _ (lv_sub hl [0, 1, 2, 3, 4, 5] rfl)
            · replace hR := if_p c13 hR
              refine lv_aload_n hx hb d_Model_arguments_39 rfl (lv_at hl 0 rfl) ?_
              replace hR := bi_e hR
              obtain ⟨r14, l14, T14, hc14, hR⟩ := hR
              refine gcV_v (rest := []) ⟨hx, hb, hml, hown, hT⟩ (h_Model_wrong _ _ _ _ hc14) (cwV 0 hT (gV ml_Model_406 im_Model_wrong se_Model_wrong ini_Model co_Model_wrong) rfl rfl rfl pd_Model_wrong ⟨rm_hi, rm_lo (Nat.le_of_ble_eq_true rfl)⟩) hK hP hD hS hA hnw henv (Nat.le_of_ble_eq_true rfl) rfl rfl hl.1 rfl (Nat.le_of_ble_eq_true rfl) d_Model_arguments_40 ⟨Nat.le_refl _, Nat.le_refl _⟩ (fun H locs hP hD hS => ?_)
              clear hc14
              have g := lb_43 (rl_Model_arguments_6 F nf n) ih T14 x1 x2 x3 x4 x5 hR
              rw [hG] at g
              exact g _ _ hP hD hS _ (lv_sub hl [0, 1, 2, 3, 4, 5] rfl)
  unfold rb_Model_arguments at hR
  refine lv_iconst (v := 0) hx hb d_Model_arguments_0 (by decide) ?_
  refine lv_istore (lv' := [(4, .int (0 : Int32)), (0, .ref (ad 0)), (1, .int p1), (2, .int p2), (3, .int p3)]) hx hb d_Model_arguments_1 hl (by decide) rfl (fun ls hl => ?_)
  refine lv_iconst (v := (-1)) hx hb d_Model_arguments_3 (by decide) ?_
  refine lv_istore (lv' := [(5, .int (-1 : Int32)), (4, .int (0 : Int32)), (0, .ref (ad 0)), (1, .int p1), (2, .int p2), (3, .int p3)]) hx hb d_Model_arguments_4 hl (by decide) rfl (fun ls hl => ?_)
  have g := lb_6 nf T0 p1 p2 p3 (0 : Int32) (-1 : Int32) hR
  rw [hG] at g
  exact g _ _ hP hD hS _ (lv_sub hl [2, 3, 4, 5, 1, 0] rfl)
set_option maxHeartbeats 4000000 in
set_option maxRecDepth 100000 in
theorem sp_Model_primary (l : Launch) (dC : Nat → ClassId) (dI : Nat → Nat → Nat) (ea ev ad : Nat → Nat) (km : Nat → ClassId) (F : gF) (nf d : Nat) (h_Model_bad : mt_Model_bad l dC dI ea ev ad km F d) (h_Model_takes : mt_Model_takes l dC dI ea ev ad km F d) (h_Model_takesWord : mt_Model_takesWord l dC dI ea ev ad km F d) (h_Model_isWord : mt_Model_isWord l dC dI ea ev ad km F d) (h_Model_advance : mt_Model_advance l dC dI ea ev ad km F d) (h_Model_wrong : mt_Model_wrong l dC dI ea ev ad km F d) (h_Model_node : mt_Model_node l dC dI ea ev ad km F d) (h_Model_term : mt_Model_term l dC dI ea ev ad km F d) (h_Model_readNew : mt_Model_readNew l dC dI ea ev ad km F d) (h_Model_readNamed : mt_Model_readNamed l dC dI ea ev ad km F d) (h_Model_expression : mt_Model_expression l dC dI ea ev ad km F d) (h_Model_need : mt_Model_need l dC dI ea ev ad km F d) (h_Model_needRegion : mt_Model_needRegion l dC dI ea ev ad km F d) (T0 : gSt) (p1 : Int32) (r0 : Int32) (rl0 : Int64) (T9 : gSt) (hR : rb_Model_primary F nf T0 p1 = some (r0, rl0, T9)) : GMi l dC dI LM ad km ea ev y_Model_primary w_Model_primary (rmD (d + 1)) [.ref (ad 0), .int p1] T0 r0 T9 := by
  intro sz
  refine Met.ofW (cc := b_Model_primary) (maxL := 6) (ret := (some .int)) (by decide) rfl ?_
  intro p e s m args below meth c s₁ B hml hv
  obtain ⟨rfl, hsz, hP, hK, hD0, hnw, henv⟩ := hv
  have hx := B.exec
  have hb := B.bytes
  have hr := B.returns
  have hT : ∀ w ∈ lw_good, w.before _ s = true := fun w h => atoms_spec (ws := w_Model_primary) B.pre w (List.mem_cons_of_mem _ h)
  have hown : s.vm.findClass R_Model = some m.cls := findClass_of_methodNamed B.named
  subst hsz
  have hD := hD0.self (sz := s.heap.size)
  clear hD0
  generalize hAe : va_A (gW LM ad km T0) s.heap.size = A at hD henv ⊢
  have hA : ∀ q : Nat, s.heap.size ≤ q → A q := fun q h => by rw [← hAe]; exact Or.inr h
  have hS : va_S A s.heap s.heap [] := va_S.rf
  have hl := lv_entry ([.ref (ad 0), .int p1]) (n := 6) (Nat.le_of_ble_eq_true rfl)
  rw [lg_entry_eq]
  generalize (lg_sl ([.ref (ad 0), .int p1]) ++ List.replicate (6 - (lg_sl ([.ref (ad 0), .int p1])).length) Slot.unset).toArray = ls at hl ⊢
  have hl : lv_has ls 6 [(0, .ref (ad 0)), (1, .int p1)] := hl
  obtain ⟨G, hG⟩ : ∃ G : Nat → List (Nat × Value) → List Value → gSt → Prop, G = (fun pc lv stk T => ∀ (H : Heap) (locs : List Loc), va_P (dC, dI) cls_all (gW LM ad km T) H → va_D A (gW LM ad km T) → va_S A s.heap H locs → ∀ (ls : Array Slot), lv_has ls 6 lv → W p l e (headSpec w_Model_primary (rmD (d + 1))).room s m ([.ref (ad 0), .int p1] : List Value).toArray below meth c H locs 0 0 (MQ below (va_Qi (fun (z : Int32) (_ : Unit) => z = r0) (fun _ t => gPost dC dI LM ad km T9 A t) A) ([.ref (ad 0), .int p1] : List Value).toArray s 0 0 A) (F0 m pc ls stk)) := ⟨_, rfl⟩
  have lb_365 : ∀ (T : gSt) (x1 : Int32) (x2 : Int32) (y0 : Int32), rj_Model_primary_365 F nf T x1 x2 y0 = some (r0, rl0, T9) → G 365 [(0, .ref (ad 0)), (1, .int x1), (2, .int x2)] [.int y0, .ref (ad 0)] T := by
    intro T x1 x2 y0 hR; unfold rj_Model_primary_365 at hR; rw [hG]; intro H locs hP hD hS ls hl
    refine lv_iload_n hx hb d_Model_primary_365 rfl (lv_at hl 2 rfl) ?_
    replace hR := bi_e hR
    obtain ⟨r78, l78, T78, hc78, hR⟩ := hR
    refine gcV_i (rest := []) ⟨hx, hb, hml, hown, hT⟩ (h_Model_node _ _ _ _ _ _ hc78) (cwV 2 hT (gV ml_Model_478 im_Model_node se_Model_node ini_Model co_Model_node) rfl rfl rfl pd_Model_node ⟨rm_hi, rm_lo (Nat.le_of_ble_eq_true rfl)⟩) hK hP hD hS hA hnw henv (Nat.le_of_ble_eq_true rfl) rfl rfl hl.1 rfl (Nat.le_of_ble_eq_true rfl) d_Model_primary_366 ⟨Nat.le_refl _, Nat.le_refl _⟩ (fun H locs hP hD hS => ?_)
    clear hc78
    refine lv_istore (lv' := [(5, .int r78), (0, .ref (ad 0)), (1, .int x1), (2, .int x2)]) hx hb d_Model_primary_369 hl (by decide) rfl (fun ls hl => ?_)
    refine lv_aload_n hx hb d_Model_primary_371 rfl (lv_at hl 1 rfl) ?_
    refine lv_bipush (v := 40) hx hb d_Model_primary_372 (by decide) ?_
    replace hR := bi_e hR
    obtain ⟨r79, l79, T79, hc79, hR⟩ := hR
    refine gcV_v (rest := []) ⟨hx, hb, hml, hown, hT⟩ (h_Model_need _ _ _ _ _ hc79) (cwV 1 hT (gV ml_Model_448 im_Model_need se_Model_need ini_Model co_Model_need) rfl rfl rfl pd_Model_need ⟨rm_hi, rm_lo (Nat.le_of_ble_eq_true rfl)⟩) hK hP hD hS hA hnw henv (Nat.le_of_ble_eq_true rfl) rfl rfl hl.1 rfl (Nat.le_of_ble_eq_true rfl) d_Model_primary_374 ⟨Nat.le_refl _, Nat.le_refl _⟩ (fun H locs hP hD hS => ?_)
    clear hc79
    refine lv_aload_n hx hb d_Model_primary_377 rfl (lv_at hl 1 rfl) ?_
    refine rd_Model_126 hx hb hT hown hK hP d_Model_primary_378 ?_
    refine lv_iload hx hb d_Model_primary_381 (lv_at hl 0 rfl) ?_
    refine lv_aload_n hx hb d_Model_primary_383 rfl (lv_at hl 1 rfl) ?_
    refine lv_iload_n hx hb d_Model_primary_384 rfl (lv_at hl 2 rfl) ?_
    refine lv_iconst (v := 1) hx hb d_Model_primary_385 (by decide) ?_
    refine lv_iadd hx hb d_Model_primary_386 ?_
    replace hR := bi_e hR
    obtain ⟨r80, l80, T80, hc80, hR⟩ := hR
    refine gcV_i (rest := [.int r78, .ref (ad 38)]) ⟨hx, hb, hml, hown, hT⟩ (h_Model_expression _ _ _ _ _ hc80) (cwV 1 hT (gV ml_Model_494 im_Model_expression se_Model_expression ini_Model co_Model_expression) rfl rfl rfl pd_Model_expression ⟨rm_hi, rm_lo (Nat.le_of_ble_eq_true rfl)⟩) hK hP hD hS hA hnw henv (Nat.le_of_ble_eq_true rfl) rfl rfl hl.1 rfl (Nat.le_of_ble_eq_true rfl) d_Model_primary_387 ⟨Nat.le_refl _, Nat.le_refl _⟩ (fun H locs hP hD hS => ?_)
    clear hc80
    replace hR := gd_e hR
    obtain ⟨b81, hR⟩ := hR
    refine saM_37 hx hb hK hP hD hS b81 d_Model_primary_390 (fun T81 eT H locs hP hD hS => ?_)
    replace hR := stK_e eT hR
    clear eT
    refine lv_aload_n hx hb d_Model_primary_391 rfl (lv_at hl 1 rfl) ?_
    refine lv_bipush (v := 41) hx hb d_Model_primary_392 (by decide) ?_
    replace hR := bi_e hR
    obtain ⟨r82, l82, T82, hc82, hR⟩ := hR
    refine gcV_v (rest := []) ⟨hx, hb, hml, hown, hT⟩ (h_Model_need _ _ _ _ _ hc82) (cwV 1 hT (gV ml_Model_448 im_Model_need se_Model_need ini_Model co_Model_need) rfl rfl rfl pd_Model_need ⟨rm_hi, rm_lo (Nat.le_of_ble_eq_true rfl)⟩) hK hP hD hS hA hnw henv (Nat.le_of_ble_eq_true rfl) rfl rfl hl.1 rfl (Nat.le_of_ble_eq_true rfl) d_Model_primary_394 ⟨Nat.le_refl _, Nat.le_refl _⟩ (fun H locs hP hD hS => ?_)
    clear hc82
    refine lv_iload hx hb d_Model_primary_397 (lv_at hl 0 rfl) ?_
    obtain ⟨e1, -, e3⟩ := re_e hR
    subst e1; subst e3
    exact W.iret (v := r78) hx hb hr (fun t ht hW => ⟨⟨r78, (), rfl, rfl, by rw [ht]; exact hP, va_K.moved hW.alike hK, hD⟩, hS.F ht⟩) hS.2.2 d_Model_primary_399
  have lb_341 : ∀ (T : gSt) (x1 : Int32) (x2 : Int32) (x4 : Int32), rj_Model_primary_341 F nf T x1 x2 x4 = some (r0, rl0, T9) → G 341 [(0, .ref (ad 0)), (1, .int x1), (2, .int x2), (4, .int x4)] [] T := by
    intro T x1 x2 x4 hR; unfold rj_Model_primary_341 at hR; rw [hG]; intro H locs hP hD hS ls hl
    refine lv_aload_n hx hb d_Model_primary_341 rfl (lv_at hl 0 rfl) ?_
    replace hR := bi_e hR
    obtain ⟨r73, l73, T73, hc73, hR⟩ := hR
    refine gcV_i (rest := []) ⟨hx, hb, hml, hown, hT⟩ (h_Model_bad _ _ _ _ hc73) (cwV 0 hT (gV ml_Model_385 im_Model_bad se_Model_bad ini_Model co_Model_bad) rfl rfl rfl pd_Model_bad ⟨rm_hi, rm_lo (Nat.le_of_ble_eq_true rfl)⟩) hK hP hD hS hA hnw henv (Nat.le_of_ble_eq_true rfl) rfl rfl hl.1 rfl (Nat.le_of_ble_eq_true rfl) d_Model_primary_342 ⟨Nat.le_refl _, Nat.le_refl _⟩ (fun H locs hP hD hS => ?_)
    clear hc73
    refine lv_if_ne (tgt := 352) hx hb d_Model_primary_345 (by decide) (fun c74 => ?_) (fun c74 => ?_)
    · replace hR := if_n c74 hR
      refine lv_aload_n hx hb d_Model_primary_352 rfl (lv_at hl 0 rfl) ?_
      refine lv_iload hx hb d_Model_primary_353 (lv_at hl 3 rfl) ?_
      refine lv_if_eq (tgt := 363) hx hb d_Model_primary_355 (by decide) (fun c75 => ?_) (fun c75 => ?_)
      · replace hR := if_p c75 hR
        refine lv_bipush (v := 12) hx hb d_Model_primary_363 (by decide) ?_
        have g := lb_365 T73 x1 x2 (12 : Int32) hR
        rw [hG] at g
        exact g _ _ hP hD hS _ (lv_sub hl [0, 1, 2] rfl)
      · replace hR := if_n c75 hR
        refine lv_bipush (v := 11) hx hb d_Model_primary_358 (by decide) ?_
        refine lv_goto (tgt := 365) hx hb d_Model_primary_360 (by decide) ?_
        have g := lb_365 T73 x1 x2 (11 : Int32) hR
        rw [hG] at g
        exact g _ _ hP hD hS _ (lv_sub hl [0, 1, 2] rfl)
    · replace hR := if_p c74 hR
      refine lv_aload_n hx hb d_Model_primary_348 rfl (lv_at hl 0 rfl) ?_
      replace hR := bi_e hR
      obtain ⟨r76, l76, T76, hc76, hR⟩ := hR
      refine gcV_v (rest := []) ⟨hx, hb, hml, hown, hT⟩ (h_Model_advance _ _ _ _ hc76) (cwV 0 hT (gV ml_Model_396 im_Model_advance se_Model_advance ini_Model co_Model_advance) rfl rfl rfl pd_Model_advance ⟨rm_hi, rm_lo (Nat.le_of_ble_eq_true rfl)⟩) hK hP hD hS hA hnw henv (Nat.le_of_ble_eq_true rfl) rfl rfl hl.1 rfl (Nat.le_of_ble_eq_true rfl) d_Model_primary_349 ⟨Nat.le_refl _, Nat.le_refl _⟩ (fun H locs hP hD hS => ?_)
      clear hc76
      refine lv_aload_n hx hb d_Model_primary_352 rfl (lv_at hl 0 rfl) ?_
      refine lv_iload hx hb d_Model_primary_353 (lv_at hl 3 rfl) ?_
      refine lv_if_eq (tgt := 363) hx hb d_Model_primary_355 (by decide) (fun c77 => ?_) (fun c77 => ?_)
      · replace hR := if_p c77 hR
        refine lv_bipush (v := 12) hx hb d_Model_primary_363 (by decide) ?_
        have g := lb_365 T76 x1 x2 (12 : Int32) hR
        rw [hG] at g
        exact g _ _ hP hD hS _ (lv_sub hl [0, 1, 2] rfl)
      · replace hR := if_n c77 hR
        refine lv_bipush (v := 11) hx hb d_Model_primary_358 (by decide) ?_
        refine lv_goto (tgt := 365) hx hb d_Model_primary_360 (by decide) ?_
        have g := lb_365 T76 x1 x2 (11 : Int32) hR
        rw [hG] at g
        exact g _ _ hP hD hS _ (lv_sub hl [0, 1, 2] rfl)
  have lb_196 : ∀ (T : gSt) (x1 : Int32) (x2 : Int32) (x3 : Int32) (y0 : Int32), rj_Model_primary_196 F nf T x1 x2 x3 y0 = some (r0, rl0, T9) → G 196 [(0, .ref (ad 0)), (1, .int x1), (2, .int x2), (3, .int x3)] [.int y0, .ref (ad 0)] T := by
    intro T x1 x2 x3 y0 hR; unfold rj_Model_primary_196 at hR; rw [hG]; intro H locs hP hD hS ls hl
    refine lv_iload_n hx hb d_Model_primary_196 rfl (lv_at hl 2 rfl) ?_
    replace hR := bi_e hR
    obtain ⟨r59, l59, T59, hc59, hR⟩ := hR
    refine gcV_i (rest := []) ⟨hx, hb, hml, hown, hT⟩ (h_Model_node _ _ _ _ _ _ hc59) (cwV 2 hT (gV ml_Model_478 im_Model_node se_Model_node ini_Model co_Model_node) rfl rfl rfl pd_Model_node ⟨rm_hi, rm_lo (Nat.le_of_ble_eq_true rfl)⟩) hK hP hD hS hA hnw henv (Nat.le_of_ble_eq_true rfl) rfl rfl hl.1 rfl (Nat.le_of_ble_eq_true rfl) d_Model_primary_197 ⟨Nat.le_refl _, Nat.le_refl _⟩ (fun H locs hP hD hS => ?_)
    clear hc59
    refine lv_istore (lv' := [(4, .int r59), (0, .ref (ad 0)), (1, .int x1), (2, .int x2), (3, .int x3)]) hx hb d_Model_primary_200 hl (by decide) rfl (fun ls hl => ?_)
    refine lv_aload_n hx hb d_Model_primary_202 rfl (lv_at hl 1 rfl) ?_
    refine rd_Model_144 hx hb hT hown hK hP d_Model_primary_203 ?_
    refine lv_iload hx hb d_Model_primary_206 (lv_at hl 0 rfl) ?_
    refine lv_aload_n hx hb d_Model_primary_208 rfl (lv_at hl 1 rfl) ?_
    replace hR := bi_e hR
    obtain ⟨r60, l60, T60, hc60, hR⟩ := hR
    refine gcV_i (rest := [.int r59, .ref (ad 44)]) ⟨hx, hb, hml, hown, hT⟩ (h_Model_needRegion _ _ _ _ hc60) (cwV 0 hT (gV ml_Model_465 im_Model_needRegion se_Model_needRegion ini_Model co_Model_needRegion) rfl rfl rfl pd_Model_needRegion ⟨rm_hi, rm_lo (Nat.le_of_ble_eq_true rfl)⟩) hK hP hD hS hA hnw henv (Nat.le_of_ble_eq_true rfl) rfl rfl hl.1 rfl (Nat.le_of_ble_eq_true rfl) d_Model_primary_209 ⟨Nat.le_refl _, Nat.le_refl _⟩ (fun H locs hP hD hS => ?_)
    clear hc60
    replace hR := gd_e hR
    obtain ⟨b61, hR⟩ := hR
    refine saM_43 hx hb hK hP hD hS b61 d_Model_primary_212 (fun T61 eT H locs hP hD hS => ?_)
    replace hR := stK_e eT hR
    clear eT
    refine lv_aload_n hx hb d_Model_primary_213 rfl (lv_at hl 1 rfl) ?_
    refine lv_bipush (v := 40) hx hb d_Model_primary_214 (by decide) ?_
    replace hR := bi_e hR
    obtain ⟨r62, l62, T62, hc62, hR⟩ := hR
    refine gcV_v (rest := []) ⟨hx, hb, hml, hown, hT⟩ (h_Model_need _ _ _ _ _ hc62) (cwV 1 hT (gV ml_Model_448 im_Model_need se_Model_need ini_Model co_Model_need) rfl rfl rfl pd_Model_need ⟨rm_hi, rm_lo (Nat.le_of_ble_eq_true rfl)⟩) hK hP hD hS hA hnw henv (Nat.le_of_ble_eq_true rfl) rfl rfl hl.1 rfl (Nat.le_of_ble_eq_true rfl) d_Model_primary_216 ⟨Nat.le_refl _, Nat.le_refl _⟩ (fun H locs hP hD hS => ?_)
    clear hc62
    refine lv_aload_n hx hb d_Model_primary_219 rfl (lv_at hl 1 rfl) ?_
    refine rd_Model_126 hx hb hT hown hK hP d_Model_primary_220 ?_
    refine lv_iload hx hb d_Model_primary_223 (lv_at hl 0 rfl) ?_
    refine lv_aload_n hx hb d_Model_primary_225 rfl (lv_at hl 1 rfl) ?_
    refine lv_iload_n hx hb d_Model_primary_226 rfl (lv_at hl 2 rfl) ?_
    refine lv_iconst (v := 1) hx hb d_Model_primary_227 (by decide) ?_
    refine lv_iadd hx hb d_Model_primary_228 ?_
    replace hR := bi_e hR
    obtain ⟨r63, l63, T63, hc63, hR⟩ := hR
    refine gcV_i (rest := [.int r59, .ref (ad 38)]) ⟨hx, hb, hml, hown, hT⟩ (h_Model_expression _ _ _ _ _ hc63) (cwV 1 hT (gV ml_Model_494 im_Model_expression se_Model_expression ini_Model co_Model_expression) rfl rfl rfl pd_Model_expression ⟨rm_hi, rm_lo (Nat.le_of_ble_eq_true rfl)⟩) hK hP hD hS hA hnw henv (Nat.le_of_ble_eq_true rfl) rfl rfl hl.1 rfl (Nat.le_of_ble_eq_true rfl) d_Model_primary_229 ⟨Nat.le_refl _, Nat.le_refl _⟩ (fun H locs hP hD hS => ?_)
    clear hc63
    replace hR := gd_e hR
    obtain ⟨b64, hR⟩ := hR
    refine saM_37 hx hb hK hP hD hS b64 d_Model_primary_232 (fun T64 eT H locs hP hD hS => ?_)
    replace hR := stK_e eT hR
    clear eT
    refine lv_iload_n hx hb d_Model_primary_233 rfl (lv_at hl 4 rfl) ?_
    refine lv_if_eq (tgt := 257) hx hb d_Model_primary_234 (by decide) (fun c65 => ?_) (fun c65 => ?_)
    · replace hR := if_p c65 hR
      refine lv_aload_n hx hb d_Model_primary_257 rfl (lv_at hl 1 rfl) ?_
      refine lv_bipush (v := 41) hx hb d_Model_primary_258 (by decide) ?_
      replace hR := bi_e hR
      obtain ⟨r66, l66, T66, hc66, hR⟩ := hR
      refine gcV_v (rest := []) ⟨hx, hb, hml, hown, hT⟩ (h_Model_need _ _ _ _ _ hc66) (cwV 1 hT (gV ml_Model_448 im_Model_need se_Model_need ini_Model co_Model_need) rfl rfl rfl pd_Model_need ⟨rm_hi, rm_lo (Nat.le_of_ble_eq_true rfl)⟩) hK hP hD hS hA hnw henv (Nat.le_of_ble_eq_true rfl) rfl rfl hl.1 rfl (Nat.le_of_ble_eq_true rfl) d_Model_primary_260 ⟨Nat.le_refl _, Nat.le_refl _⟩ (fun H locs hP hD hS => ?_)
      clear hc66
      refine lv_iload hx hb d_Model_primary_263 (lv_at hl 0 rfl) ?_
      obtain ⟨e1, -, e3⟩ := re_e hR
      subst e1; subst e3
      exact W.iret (v := r59) hx hb hr (fun t ht hW => ⟨⟨r59, (), rfl, rfl, by rw [ht]; exact hP, va_K.moved hW.alike hK, hD⟩, hS.F ht⟩) hS.2.2 d_Model_primary_265
    · replace hR := if_n c65 hR
      refine lv_aload_n hx hb d_Model_primary_237 rfl (lv_at hl 1 rfl) ?_
      refine lv_bipush (v := 44) hx hb d_Model_primary_238 (by decide) ?_
      replace hR := bi_e hR
      obtain ⟨r68, l68, T68, hc68, hR⟩ := hR
      refine gcV_v (rest := []) ⟨hx, hb, hml, hown, hT⟩ (h_Model_need _ _ _ _ _ hc68) (cwV 1 hT (gV ml_Model_448 im_Model_need se_Model_need ini_Model co_Model_need) rfl rfl rfl pd_Model_need ⟨rm_hi, rm_lo (Nat.le_of_ble_eq_true rfl)⟩) hK hP hD hS hA hnw henv (Nat.le_of_ble_eq_true rfl) rfl rfl hl.1 rfl (Nat.le_of_ble_eq_true rfl) d_Model_primary_240 ⟨Nat.le_refl _, Nat.le_refl _⟩ (fun H locs hP hD hS => ?_)
      clear hc68
      refine lv_aload_n hx hb d_Model_primary_243 rfl (lv_at hl 1 rfl) ?_
      refine rd_Model_129 hx hb hT hown hK hP d_Model_primary_244 ?_
      refine lv_iload hx hb d_Model_primary_247 (lv_at hl 0 rfl) ?_
      refine lv_aload_n hx hb d_Model_primary_249 rfl (lv_at hl 1 rfl) ?_
      refine lv_iload_n hx hb d_Model_primary_250 rfl (lv_at hl 2 rfl) ?_
      refine lv_iconst (v := 1) hx hb d_Model_primary_251 (by decide) ?_
      refine lv_iadd hx hb d_Model_primary_252 ?_
      replace hR := bi_e hR
      obtain ⟨r69, l69, T69, hc69, hR⟩ := hR
      refine gcV_i (rest := [.int r59, .ref (ad 39)]) ⟨hx, hb, hml, hown, hT⟩ (h_Model_expression _ _ _ _ _ hc69) (cwV 1 hT (gV ml_Model_494 im_Model_expression se_Model_expression ini_Model co_Model_expression) rfl rfl rfl pd_Model_expression ⟨rm_hi, rm_lo (Nat.le_of_ble_eq_true rfl)⟩) hK hP hD hS hA hnw henv (Nat.le_of_ble_eq_true rfl) rfl rfl hl.1 rfl (Nat.le_of_ble_eq_true rfl) d_Model_primary_253 ⟨Nat.le_refl _, Nat.le_refl _⟩ (fun H locs hP hD hS => ?_)
      clear hc69
      replace hR := gd_e hR
      obtain ⟨b70, hR⟩ := hR
      refine saM_38 hx hb hK hP hD hS b70 d_Model_primary_256 (fun T70 eT H locs hP hD hS => ?_)
      replace hR := stK_e eT hR
      clear eT
      refine lv_aload_n hx hb d_Model_primary_257 rfl (lv_at hl 1 rfl) ?_
      refine lv_bipush (v := 41) hx hb d_Model_primary_258 (by decide) ?_
      replace hR := bi_e hR
      obtain ⟨r71, l71, T71, hc71, hR⟩ := hR
      refine gcV_v (rest := []) ⟨hx, hb, hml, hown, hT⟩ (h_Model_need _ _ _ _ _ hc71) (cwV 1 hT (gV ml_Model_448 im_Model_need se_Model_need ini_Model co_Model_need) rfl rfl rfl pd_Model_need ⟨rm_hi, rm_lo (Nat.le_of_ble_eq_true rfl)⟩) hK hP hD hS hA hnw henv (Nat.le_of_ble_eq_true rfl) rfl rfl hl.1 rfl (Nat.le_of_ble_eq_true rfl) d_Model_primary_260 ⟨Nat.le_refl _, Nat.le_refl _⟩ (fun H locs hP hD hS => ?_)
      clear hc71
      refine lv_iload hx hb d_Model_primary_263 (lv_at hl 0 rfl) ?_
      obtain ⟨e1, -, e3⟩ := re_e hR
      subst e1; subst e3
      exact W.iret (v := r59) hx hb hr (fun t ht hW => ⟨⟨r59, (), rfl, rfl, by rw [ht]; exact hP, va_K.moved hW.alike hK, hD⟩, hS.F ht⟩) hS.2.2 d_Model_primary_265
  unfold rb_Model_primary at hR
  refine lv_aload_n hx hb d_Model_primary_0 rfl (lv_at hl 0 rfl) ?_
  refine rd_Model_349 hx hb hT hown hK hP d_Model_primary_1 ?_
  refine lv_topi (fun z1 e1 => ?_)
  replace hR := vK_e e1 hR
  refine lv_istore_n (lv' := [(2, .int z1), (0, .ref (ad 0)), (1, .int p1)]) hx hb d_Model_primary_4 rfl hl (by decide) rfl (fun ls hl => ?_)
  refine lv_aload_n hx hb d_Model_primary_5 rfl (lv_at hl 1 rfl) ?_
  replace hR := bi_e hR
  obtain ⟨r2, l2, T2, hc2, hR⟩ := hR
  refine gcV_i (rest := []) ⟨hx, hb, hml, hown, hT⟩ (h_Model_bad _ _ _ _ hc2) (cwV 0 hT (gV ml_Model_385 im_Model_bad se_Model_bad ini_Model co_Model_bad) rfl rfl rfl pd_Model_bad ⟨rm_hi, rm_lo (Nat.le_of_ble_eq_true rfl)⟩) hK hP hD hS hA hnw henv (Nat.le_of_ble_eq_true rfl) rfl rfl hl.1 rfl (Nat.le_of_ble_eq_true rfl) d_Model_primary_6 ⟨Nat.le_refl _, Nat.le_refl _⟩ (fun H locs hP hD hS => ?_)
  clear hc2
  refine lv_if_eq (tgt := 19) hx hb d_Model_primary_9 (by decide) (fun c3 => ?_) (fun c3 => ?_)
  · replace hR := if_p c3 hR
    refine lv_aload_n hx hb d_Model_primary_19 rfl (lv_at hl 1 rfl) ?_
    refine lv_bipush (v := 40) hx hb d_Model_primary_20 (by decide) ?_
    replace hR := bi_e hR
    obtain ⟨r4, l4, T4, hc4, hR⟩ := hR
    refine gcV_i (rest := []) ⟨hx, hb, hml, hown, hT⟩ (h_Model_takes _ _ _ _ _ hc4) (cwV 1 hT (gV ml_Model_403 im_Model_takes se_Model_takes ini_Model co_Model_takes) rfl rfl rfl pd_Model_takes ⟨rm_hi, rm_lo (Nat.le_of_ble_eq_true rfl)⟩) hK hP hD hS hA hnw henv (Nat.le_of_ble_eq_true rfl) rfl rfl hl.1 rfl (Nat.le_of_ble_eq_true rfl) d_Model_primary_22 ⟨Nat.le_refl _, Nat.le_refl _⟩ (fun H locs hP hD hS => ?_)
    clear hc4
    refine lv_if_eq (tgt := 44) hx hb d_Model_primary_25 (by decide) (fun c5 => ?_) (fun c5 => ?_)
    · replace hR := if_p c5 hR
      refine lv_aload_n hx hb d_Model_primary_44 rfl (lv_at hl 1 rfl) ?_
      refine rd_Model_352 hx hb hT hown hK hP d_Model_primary_45 ?_
      refine lv_iconst (v := 5) hx hb d_Model_primary_48 (by decide) ?_
      refine lv_icmp_ne (tgt := 75) hx hb d_Model_primary_49 (by decide) (fun c6 => ?_) (fun c6 => ?_)
      · replace hR := if_n c6 hR
        refine lv_aload_n hx hb d_Model_primary_75 rfl (lv_at hl 1 rfl) ?_
        refine rd_Model_352 hx hb hT hown hK hP d_Model_primary_76 ?_
        refine lv_iconst (v := 1) hx hb d_Model_primary_79 (by decide) ?_
        refine lv_icmp_ne (tgt := 90) hx hb d_Model_primary_80 (by decide) (fun c7 => ?_) (fun c7 => ?_)
        · replace hR := if_n c7 hR
          refine lv_aload_n hx hb d_Model_primary_90 rfl (lv_at hl 1 rfl) ?_
          refine gldcw (own := R_Model) (index := 527) (q := ea 13) hx hb hown (henv.2.2 13 (by decide)).2 d_Model_primary_91 ?_
          replace hR := bi_e hR
          obtain ⟨r8, l8, T8, hc8, hR⟩ := hR
          refine gcV_i (rest := []) ⟨hx, hb, hml, hown, hT⟩ (h_Model_takesWord _ 13 _ _ _ (by first | decide | assumption) hc8) (cwV 1 hT (gV ml_Model_462 im_Model_takesWord se_Model_takesWord ini_Model co_Model_takesWord) rfl rfl rfl pd_Model_takesWord ⟨rm_hi, rm_lo (Nat.le_of_ble_eq_true rfl)⟩) hK hP hD hS hA hnw henv (Nat.le_of_ble_eq_true rfl) rfl rfl hl.1 rfl (Nat.le_of_ble_eq_true rfl) d_Model_primary_94 ⟨Nat.le_refl _, Nat.le_refl _⟩ (fun H locs hP hD hS => ?_)
          clear hc8
          refine lv_if_eq (tgt := 107) hx hb d_Model_primary_97 (by decide) (fun c9 => ?_) (fun c9 => ?_)
          · replace hR := if_p c9 hR
            refine lv_aload_n hx hb d_Model_primary_107 rfl (lv_at hl 1 rfl) ?_
            refine gldcw (own := R_Model) (index := 529) (q := ea 14) hx hb hown (henv.2.2 14 (by decide)).2 d_Model_primary_108 ?_
            replace hR := bi_e hR
            obtain ⟨r10, l10, T10, hc10, hR⟩ := hR
            refine gcV_i (rest := []) ⟨hx, hb, hml, hown, hT⟩ (h_Model_takesWord _ 14 _ _ _ (by first | decide | assumption) hc10) (cwV 1 hT (gV ml_Model_462 im_Model_takesWord se_Model_takesWord ini_Model co_Model_takesWord) rfl rfl rfl pd_Model_takesWord ⟨rm_hi, rm_lo (Nat.le_of_ble_eq_true rfl)⟩) hK hP hD hS hA hnw henv (Nat.le_of_ble_eq_true rfl) rfl rfl hl.1 rfl (Nat.le_of_ble_eq_true rfl) d_Model_primary_111 ⟨Nat.le_refl _, Nat.le_refl _⟩ (fun H locs hP hD hS => ?_)
            clear hc10
            refine lv_if_eq (tgt := 124) hx hb d_Model_primary_114 (by decide) (fun c11 => ?_) (fun c11 => ?_)
            · replace hR := if_p c11 hR
              refine lv_aload_n hx hb d_Model_primary_124 rfl (lv_at hl 1 rfl) ?_
              refine gldcw (own := R_Model) (index := 531) (q := ea 15) hx hb hown (henv.2.2 15 (by decide)).2 d_Model_primary_125 ?_
              replace hR := bi_e hR
              obtain ⟨r12, l12, T12, hc12, hR⟩ := hR
              refine gcV_i (rest := []) ⟨hx, hb, hml, hown, hT⟩ (h_Model_takesWord _ 15 _ _ _ (by first | decide | assumption) hc12) (cwV 1 hT (gV ml_Model_462 im_Model_takesWord se_Model_takesWord ini_Model co_Model_takesWord) rfl rfl rfl pd_Model_takesWord ⟨rm_hi, rm_lo (Nat.le_of_ble_eq_true rfl)⟩) hK hP hD hS hA hnw henv (Nat.le_of_ble_eq_true rfl) rfl rfl hl.1 rfl (Nat.le_of_ble_eq_true rfl) d_Model_primary_128 ⟨Nat.le_refl _, Nat.le_refl _⟩ (fun H locs hP hD hS => ?_)
              clear hc12
              refine lv_if_eq (tgt := 141) hx hb d_Model_primary_131 (by decide) (fun c13 => ?_) (fun c13 => ?_)
              · replace hR := if_p c13 hR
                refine lv_aload_n hx hb d_Model_primary_141 rfl (lv_at hl 1 rfl) ?_
                refine gldcw (own := R_Model) (index := 532) (q := ea 16) hx hb hown (henv.2.2 16 (by decide)).2 d_Model_primary_142 ?_
                replace hR := bi_e hR
                obtain ⟨r14, l14, T14, hc14, hR⟩ := hR
                refine gcV_i (rest := []) ⟨hx, hb, hml, hown, hT⟩ (h_Model_takesWord _ 16 _ _ _ (by first | decide | assumption) hc14) (cwV 1 hT (gV ml_Model_462 im_Model_takesWord se_Model_takesWord ini_Model co_Model_takesWord) rfl rfl rfl pd_Model_takesWord ⟨rm_hi, rm_lo (Nat.le_of_ble_eq_true rfl)⟩) hK hP hD hS hA hnw henv (Nat.le_of_ble_eq_true rfl) rfl rfl hl.1 rfl (Nat.le_of_ble_eq_true rfl) d_Model_primary_145 ⟨Nat.le_refl _, Nat.le_refl _⟩ (fun H locs hP hD hS => ?_)
                clear hc14
                refine lv_if_eq (tgt := 158) hx hb d_Model_primary_148 (by decide) (fun c15 => ?_) (fun c15 => ?_)
                · replace hR := if_p c15 hR
                  refine lv_aload_n hx hb d_Model_primary_158 rfl (lv_at hl 1 rfl) ?_
                  refine gldcw (own := R_Model) (index := 537) (q := ea 17) hx hb hown (henv.2.2 17 (by decide)).2 d_Model_primary_159 ?_
                  replace hR := bi_e hR
                  obtain ⟨r16, l16, T16, hc16, hR⟩ := hR
                  refine gcV_i (rest := []) ⟨hx, hb, hml, hown, hT⟩ (h_Model_isWord _ 17 _ _ _ (by first | decide | assumption) hc16) (cwV 1 hT (gV ml_Model_399 im_Model_isWord se_Model_isWord ini_Model co_Model_isWord) rfl rfl rfl pd_Model_isWord ⟨rm_hi, rm_lo (Nat.le_of_ble_eq_true rfl)⟩) hK hP hD hS hA hnw henv (Nat.le_of_ble_eq_true rfl) rfl rfl hl.1 rfl (Nat.le_of_ble_eq_true rfl) d_Model_primary_162 ⟨Nat.le_refl _, Nat.le_refl _⟩ (fun H locs hP hD hS => ?_)
                  clear hc16
                  refine lv_istore_n (lv' := [(3, .int r16), (2, .int z1), (0, .ref (ad 0)), (1, .int p1)]) hx hb d_Model_primary_165 rfl hl (by decide) rfl (fun ls hl => ?_)
                  refine lv_iload_n hx hb d_Model_primary_166 rfl (lv_at hl 0 rfl) ?_
                  refine lv_if_ne (tgt := 180) hx hb d_Model_primary_167 (by decide) (fun c17 => ?_) (fun c17 => ?_)
                  · replace hR := if_n c17 hR
                    refine lv_aload_n hx hb d_Model_primary_180 rfl (lv_at hl 2 rfl) ?_
                    replace hR := bi_e hR
                    obtain ⟨r18, l18, T18, hc18, hR⟩ := hR
                    refine gcV_v (rest := []) ⟨hx, hb, hml, hown, hT⟩ (h_Model_advance _ _ _ _ hc18) (cwV 0 hT (gV ml_Model_396 im_Model_advance se_Model_advance ini_Model co_Model_advance) rfl rfl rfl pd_Model_advance ⟨rm_hi, rm_lo (Nat.le_of_ble_eq_true rfl)⟩) hK hP hD hS hA hnw henv (Nat.le_of_ble_eq_true rfl) rfl rfl hl.1 rfl (Nat.le_of_ble_eq_true rfl) d_Model_primary_181 ⟨Nat.le_refl _, Nat.le_refl _⟩ (fun H locs hP hD hS => ?_)
                    clear hc18
                    refine lv_aload_n hx hb d_Model_primary_184 rfl (lv_at hl 2 rfl) ?_
                    refine lv_iload_n hx hb d_Model_primary_185 rfl (lv_at hl 0 rfl) ?_
                    refine lv_if_eq (tgt := 194) hx hb d_Model_primary_186 (by decide) (fun c19 => ?_) (fun c19 => ?_)
                    · replace hR := if_p c19 hR
                      refine lv_bipush (v := 8) hx hb d_Model_primary_194 (by decide) ?_
                      have g := lb_196 T18 p1 z1 r16 (8 : Int32) hR
                      rw [hG] at g
                      exact g _ _ hP hD hS _ (lv_sub hl [2, 3, 1, 0] rfl)
                    · replace hR := if_n c19 hR
                      refine lv_bipush (v := 9) hx hb d_Model_primary_189 (by decide) ?_
                      refine lv_goto (tgt := 196) hx hb d_Model_primary_191 (by decide) ?_
                      have g := lb_196 T18 p1 z1 r16 (9 : Int32) hR
                      rw [hG] at g
                      exact g _ _ hP hD hS _ (lv_sub hl [2, 3, 1, 0] rfl)
                  · replace hR := if_p c17 hR
                    refine lv_aload_n hx hb d_Model_primary_170 rfl (lv_at hl 2 rfl) ?_
                    refine gldcw (own := R_Model) (index := 538) (q := ea 18) hx hb hown (henv.2.2 18 (by decide)).2 d_Model_primary_171 ?_
                    replace hR := bi_e hR
                    obtain ⟨r20, l20, T20, hc20, hR⟩ := hR
                    refine gcV_i (rest := []) ⟨hx, hb, hml, hown, hT⟩ (h_Model_isWord _ 18 _ _ _ (by first | decide | assumption) hc20) (cwV 1 hT (gV ml_Model_399 im_Model_isWord se_Model_isWord ini_Model co_Model_isWord) rfl rfl rfl pd_Model_isWord ⟨rm_hi, rm_lo (Nat.le_of_ble_eq_true rfl)⟩) hK hP hD hS hA hnw henv (Nat.le_of_ble_eq_true rfl) rfl rfl hl.1 rfl (Nat.le_of_ble_eq_true rfl) d_Model_primary_174 ⟨Nat.le_refl _, Nat.le_refl _⟩ (fun H locs hP hD hS => ?_)
                    clear hc20
                    refine lv_if_eq (tgt := 266) hx hb d_Model_primary_177 (by decide) (fun c21 => ?_) (fun c21 => ?_)
                    · replace hR := if_p c21 hR
                      refine lv_aload_n hx hb d_Model_primary_266 rfl (lv_at hl 2 rfl) ?_
                      refine lv_bipush (v := 38) hx hb d_Model_primary_267 (by decide) ?_
                      replace hR := bi_e hR
                      obtain ⟨r22, l22, T22, hc22, hR⟩ := hR
                      refine gcV_i (rest := []) ⟨hx, hb, hml, hown, hT⟩ (h_Model_takes _ _ _ _ _ hc22) (cwV 1 hT (gV ml_Model_403 im_Model_takes se_Model_takes ini_Model co_Model_takes) rfl rfl rfl pd_Model_takes ⟨rm_hi, rm_lo (Nat.le_of_ble_eq_true rfl)⟩) hK hP hD hS hA hnw henv (Nat.le_of_ble_eq_true rfl) rfl rfl hl.1 rfl (Nat.le_of_ble_eq_true rfl) d_Model_primary_269 ⟨Nat.le_refl _, Nat.le_refl _⟩ (fun H locs hP hD hS => ?_)
                      clear hc22
                      refine lv_if_eq (tgt := 313) hx hb d_Model_primary_272 (by decide) (fun c23 => ?_) (fun c23 => ?_)
                      · replace hR := if_p c23 hR
                        refine lv_aload_n hx hb d_Model_primary_313 rfl (lv_at hl 2 rfl) ?_
                        refine gldcw (own := R_Model) (index := 540) (q := ea 19) hx hb hown (henv.2.2 19 (by decide)).2 d_Model_primary_314 ?_
                        replace hR := bi_e hR
                        obtain ⟨r24, l24, T24, hc24, hR⟩ := hR
                        refine gcV_i (rest := []) ⟨hx, hb, hml, hown, hT⟩ (h_Model_isWord _ 19 _ _ _ (by first | decide | assumption) hc24) (cwV 1 hT (gV ml_Model_399 im_Model_isWord se_Model_isWord ini_Model co_Model_isWord) rfl rfl rfl pd_Model_isWord ⟨rm_hi, rm_lo (Nat.le_of_ble_eq_true rfl)⟩) hK hP hD hS hA hnw henv (Nat.le_of_ble_eq_true rfl) rfl rfl hl.1 rfl (Nat.le_of_ble_eq_true rfl) d_Model_primary_317 ⟨Nat.le_refl _, Nat.le_refl _⟩ (fun H locs hP hD hS => ?_)
                        clear hc24
                        refine lv_istore (lv' := [(4, .int r24), (3, .int r16), (2, .int z1), (0, .ref (ad 0)), (1, .int p1)]) hx hb d_Model_primary_320 hl (by decide) rfl (fun ls hl => ?_)
                        refine lv_iload hx hb d_Model_primary_322 (lv_at hl 0 rfl) ?_
                        refine lv_if_ne (tgt := 341) hx hb d_Model_primary_324 (by decide) (fun c25 => ?_) (fun c25 => ?_)
                        · replace hR := if_n c25 hR
                          have g := lb_341 T24 p1 z1 r24 hR
                          rw [hG] at g
                          exact g _ _ hP hD hS _ (lv_sub hl [3, 4, 2, 0] rfl)
                        · replace hR := if_p c25 hR
                          refine lv_aload_n hx hb d_Model_primary_327 rfl (lv_at hl 3 rfl) ?_
                          refine gldcw (own := R_Model) (index := 542) (q := ea 20) hx hb hown (henv.2.2 20 (by decide)).2 d_Model_primary_328 ?_
                          replace hR := bi_e hR
                          obtain ⟨r26, l26, T26, hc26, hR⟩ := hR
                          refine gcV_i (rest := []) ⟨hx, hb, hml, hown, hT⟩ (h_Model_isWord _ 20 _ _ _ (by first | decide | assumption) hc26) (cwV 1 hT (gV ml_Model_399 im_Model_isWord se_Model_isWord ini_Model co_Model_isWord) rfl rfl rfl pd_Model_isWord ⟨rm_hi, rm_lo (Nat.le_of_ble_eq_true rfl)⟩) hK hP hD hS hA hnw henv (Nat.le_of_ble_eq_true rfl) rfl rfl hl.1 rfl (Nat.le_of_ble_eq_true rfl) d_Model_primary_331 ⟨Nat.le_refl _, Nat.le_refl _⟩ (fun H locs hP hD hS => ?_)
                          clear hc26
                          refine lv_if_ne (tgt := 341) hx hb d_Model_primary_334 (by decide) (fun c27 => ?_) (fun c27 => ?_)
                          · replace hR := if_n c27 hR
                            have g := lb_341 T26 p1 z1 r24 hR
                            rw [hG] at g
                            exact g _ _ hP hD hS _ (lv_sub hl [3, 4, 2, 0] rfl)
                          · replace hR := if_p c27 hR
                            refine lv_aload_n hx hb d_Model_primary_337 rfl (lv_at hl 3 rfl) ?_
                            replace hR := bi_e hR
                            obtain ⟨r28, l28, T28, hc28, hR⟩ := hR
                            refine gcV_v (rest := []) ⟨hx, hb, hml, hown, hT⟩ (h_Model_wrong _ _ _ _ hc28) (cwV 0 hT (gV ml_Model_406 im_Model_wrong se_Model_wrong ini_Model co_Model_wrong) rfl rfl rfl pd_Model_wrong ⟨rm_hi, rm_lo (Nat.le_of_ble_eq_true rfl)⟩) hK hP hD hS hA hnw henv (Nat.le_of_ble_eq_true rfl) rfl rfl hl.1 rfl (Nat.le_of_ble_eq_true rfl) d_Model_primary_338 ⟨Nat.le_refl _, Nat.le_refl _⟩ (fun H locs hP hD hS => ?_)
                            clear hc28
                            have g := lb_341 T28 p1 z1 r24 hR
                            rw [hG] at g
                            exact g _ _ hP hD hS _ (lv_sub hl [3, 4, 2, 0] rfl)
                      · replace hR := if_n c23 hR
                        refine lv_aload_n hx hb d_Model_primary_275 rfl (lv_at hl 2 rfl) ?_
                        refine lv_bipush (v := 10) hx hb d_Model_primary_276 (by decide) ?_
                        refine lv_iload_n hx hb d_Model_primary_278 rfl (lv_at hl 1 rfl) ?_
                        replace hR := bi_e hR
                        obtain ⟨r29, l29, T29, hc29, hR⟩ := hR
                        refine gcV_i (rest := []) ⟨hx, hb, hml, hown, hT⟩ (h_Model_node _ _ _ _ _ _ hc29) (cwV 2 hT (gV ml_Model_478 im_Model_node se_Model_node ini_Model co_Model_node) rfl rfl rfl pd_Model_node ⟨rm_hi, rm_lo (Nat.le_of_ble_eq_true rfl)⟩) hK hP hD hS hA hnw henv (Nat.le_of_ble_eq_true rfl) rfl rfl hl.1 rfl (Nat.le_of_ble_eq_true rfl) d_Model_primary_279 ⟨Nat.le_refl _, Nat.le_refl _⟩ (fun H locs hP hD hS => ?_)
                        clear hc29
                        refine lv_istore (lv' := [(4, .int r29), (3, .int r16), (2, .int z1), (0, .ref (ad 0)), (1, .int p1)]) hx hb d_Model_primary_282 hl (by decide) rfl (fun ls hl => ?_)
                        refine lv_iload_n hx hb d_Model_primary_284 rfl (lv_at hl 4 rfl) ?_
                        refine lv_iconst (v := 1) hx hb d_Model_primary_285 (by decide) ?_
                        refine lv_iadd hx hb d_Model_primary_286 ?_
                        refine lv_bipush (v := 20) hx hb d_Model_primary_287 (by decide) ?_
                        refine lv_icmp_le (tgt := 296) hx hb d_Model_primary_289 (by decide) (fun c30 => ?_) (fun c30 => ?_)
                        · replace hR := if_p c30 hR
                          refine lv_aload_n hx hb d_Model_primary_296 rfl (lv_at hl 3 rfl) ?_
                          refine rd_Model_126 hx hb hT hown hK hP d_Model_primary_297 ?_
                          refine lv_iload hx hb d_Model_primary_300 (lv_at hl 0 rfl) ?_
                          refine lv_aload_n hx hb d_Model_primary_302 rfl (lv_at hl 3 rfl) ?_
                          refine lv_iload_n hx hb d_Model_primary_303 rfl (lv_at hl 4 rfl) ?_
                          refine lv_iconst (v := 1) hx hb d_Model_primary_304 (by decide) ?_
                          refine lv_iadd hx hb d_Model_primary_305 ?_
                          replace hR := bi_e hR
                          obtain ⟨r31, l31, T31, hc31, hR⟩ := hR
                          refine gcV_i (rest := [.int r29, .ref (ad 38)]) ⟨hx, hb, hml, hown, hT⟩ (h_Model_term _ _ _ _ _ hc31) (cwV 1 hT (gV ml_Model_513 im_Model_term se_Model_term ini_Model co_Model_term) rfl rfl rfl pd_Model_term ⟨rm_hi, rm_lo (Nat.le_of_ble_eq_true rfl)⟩) hK hP hD hS hA hnw henv (Nat.le_of_ble_eq_true rfl) rfl rfl hl.1 rfl (Nat.le_of_ble_eq_true rfl) d_Model_primary_306 ⟨Nat.le_refl _, Nat.le_refl _⟩ (fun H locs hP hD hS => ?_)
                          clear hc31
                          replace hR := gd_e hR
                          obtain ⟨b32, hR⟩ := hR
                          refine saM_37 hx hb hK hP hD hS b32 d_Model_primary_309 (fun T32 eT H locs hP hD hS => ?_)
                          replace hR := stK_e eT hR
                          clear eT
                          refine lv_iload hx hb d_Model_primary_310 (lv_at hl 0 rfl) ?_
                          obtain ⟨e1, -, e3⟩ := re_e hR
                          subst e1; subst e3
                          exact W.iret (v := r29) hx hb hr (fun t ht hW => ⟨⟨r29, (), rfl, rfl, by rw [ht]; exact hP, va_K.moved hW.alike hK, hD⟩, hS.F ht⟩) hS.2.2 d_Model_primary_312
                        · replace hR := if_n c30 hR
                          refine lv_aload_n hx hb d_Model_primary_292 rfl (lv_at hl 3 rfl) ?_
                          replace hR := bi_e hR
                          obtain ⟨r34, l34, T34, hc34, hR⟩ := hR
                          refine gcV_v (rest := []) ⟨hx, hb, hml, hown, hT⟩ (h_Model_wrong _ _ _ _ hc34) (cwV 0 hT (gV ml_Model_406 im_Model_wrong se_Model_wrong ini_Model co_Model_wrong) rfl rfl rfl pd_Model_wrong ⟨rm_hi, rm_lo (Nat.le_of_ble_eq_true rfl)⟩) hK hP hD hS hA hnw henv (Nat.le_of_ble_eq_true rfl) rfl rfl hl.1 rfl (Nat.le_of_ble_eq_true rfl) d_Model_primary_293 ⟨Nat.le_refl _, Nat.le_refl _⟩ (fun H locs hP hD hS => ?_)
                          clear hc34
                          refine lv_aload_n hx hb d_Model_primary_296 rfl (lv_at hl 3 rfl) ?_
                          refine rd_Model_126 hx hb hT hown hK hP d_Model_primary_297 ?_
                          refine lv_iload hx hb d_Model_primary_300 (lv_at hl 0 rfl) ?_
                          refine lv_aload_n hx hb d_Model_primary_302 rfl (lv_at hl 3 rfl) ?_
                          refine lv_iload_n hx hb d_Model_primary_303 rfl (lv_at hl 4 rfl) ?_
                          refine lv_iconst (v := 1) hx hb d_Model_primary_304 (by decide) ?_
                          refine lv_iadd hx hb d_Model_primary_305 ?_
                          replace hR := bi_e hR
                          obtain ⟨r35, l35, T35, hc35, hR⟩ := hR
                          refine gcV_i (rest := [.int r29, .ref (ad 38)]) ⟨hx, hb, hml, hown, hT⟩ (h_Model_term _ _ _ _ _ hc35) (cwV 1 hT (gV ml_Model_513 im_Model_term se_Model_term ini_Model co_Model_term) rfl rfl rfl pd_Model_term ⟨rm_hi, rm_lo (Nat.le_of_ble_eq_true rfl)⟩) hK hP hD hS hA hnw henv (Nat.le_of_ble_eq_true rfl) rfl rfl hl.1 rfl (Nat.le_of_ble_eq_true rfl) d_Model_primary_306 ⟨Nat.le_refl _, Nat.le_refl _⟩ (fun H locs hP hD hS => ?_)
                          clear hc35
                          replace hR := gd_e hR
                          obtain ⟨b36, hR⟩ := hR
                          refine saM_37 hx hb hK hP hD hS b36 d_Model_primary_309 (fun T36 eT H locs hP hD hS => ?_)
                          replace hR := stK_e eT hR
                          clear eT
                          refine lv_iload hx hb d_Model_primary_310 (lv_at hl 0 rfl) ?_
                          obtain ⟨e1, -, e3⟩ := re_e hR
                          subst e1; subst e3
                          exact W.iret (v := r29) hx hb hr (fun t ht hW => ⟨⟨r29, (), rfl, rfl, by rw [ht]; exact hP, va_K.moved hW.alike hK, hD⟩, hS.F ht⟩) hS.2.2 d_Model_primary_312
                    · replace hR := if_n c21 hR
                      refine lv_aload_n hx hb d_Model_primary_180 rfl (lv_at hl 2 rfl) ?_
                      replace hR := bi_e hR
                      obtain ⟨r38, l38, T38, hc38, hR⟩ := hR
                      refine gcV_v (rest := []) ⟨hx, hb, hml, hown, hT⟩ (h_Model_advance _ _ _ _ hc38) (cwV 0 hT (gV ml_Model_396 im_Model_advance se_Model_advance ini_Model co_Model_advance) rfl rfl rfl pd_Model_advance ⟨rm_hi, rm_lo (Nat.le_of_ble_eq_true rfl)⟩) hK hP hD hS hA hnw henv (Nat.le_of_ble_eq_true rfl) rfl rfl hl.1 rfl (Nat.le_of_ble_eq_true rfl) d_Model_primary_181 ⟨Nat.le_refl _, Nat.le_refl _⟩ (fun H locs hP hD hS => ?_)
                      clear hc38
                      refine lv_aload_n hx hb d_Model_primary_184 rfl (lv_at hl 2 rfl) ?_
                      refine lv_iload_n hx hb d_Model_primary_185 rfl (lv_at hl 0 rfl) ?_
                      refine lv_if_eq (tgt := 194) hx hb d_Model_primary_186 (by decide) (fun c39 => ?_) (fun c39 => ?_)
                      · replace hR := if_p c39 hR
                        refine lv_bipush (v := 8) hx hb d_Model_primary_194 (by decide) ?_
                        have g := lb_196 T38 p1 z1 r16 (8 : Int32) hR
                        rw [hG] at g
                        exact g _ _ hP hD hS _ (lv_sub hl [2, 3, 1, 0] rfl)
                      · replace hR := if_n c39 hR
                        refine lv_bipush (v := 9) hx hb d_Model_primary_189 (by decide) ?_
                        refine lv_goto (tgt := 196) hx hb d_Model_primary_191 (by decide) ?_
                        have g := lb_196 T38 p1 z1 r16 (9 : Int32) hR
                        rw [hG] at g
                        exact g _ _ hP hD hS _ (lv_sub hl [2, 3, 1, 0] rfl)
                · replace hR := if_n c15 hR
                  refine lv_aload_n hx hb d_Model_primary_151 rfl (lv_at hl 1 rfl) ?_
                  refine lv_iload_n hx hb d_Model_primary_152 rfl (lv_at hl 0 rfl) ?_
                  refine lv_iload_n hx hb d_Model_primary_153 rfl (lv_at hl 2 rfl) ?_
                  replace hR := bi_e hR
                  obtain ⟨r40, l40, T40, hc40, hR⟩ := hR
                  refine gcV_i (rest := []) ⟨hx, hb, hml, hown, hT⟩ (h_Model_readNew _ _ _ _ _ _ hc40) (cwV 2 hT (gV ml_Model_534 im_Model_readNew se_Model_readNew ini_Model co_Model_readNew) rfl rfl rfl pd_Model_readNew ⟨rm_hi, rm_lo (Nat.le_of_ble_eq_true rfl)⟩) hK hP hD hS hA hnw henv (Nat.le_of_ble_eq_true rfl) rfl rfl hl.1 rfl (Nat.le_of_ble_eq_true rfl) d_Model_primary_154 ⟨Nat.le_refl _, Nat.le_refl _⟩ (fun H locs hP hD hS => ?_)
                  clear hc40
                  obtain ⟨e1, -, e3⟩ := re_e hR
                  subst e1; subst e3
                  exact W.iret (v := r40) hx hb hr (fun t ht hW => ⟨⟨r40, (), rfl, rfl, by rw [ht]; exact hP, va_K.moved hW.alike hK, hD⟩, hS.F ht⟩) hS.2.2 d_Model_primary_157
              · replace hR := if_n c13 hR
                refine lv_aload_n hx hb d_Model_primary_134 rfl (lv_at hl 1 rfl) ?_
                refine lv_iconst (v := 3) hx hb d_Model_primary_135 (by decide) ?_
                refine lv_iload_n hx hb d_Model_primary_136 rfl (lv_at hl 0 rfl) ?_
                replace hR := bi_e hR
                obtain ⟨r42, l42, T42, hc42, hR⟩ := hR
                refine gcV_i (rest := []) ⟨hx, hb, hml, hown, hT⟩ (h_Model_node _ _ _ _ _ _ hc42) (cwV 2 hT (gV ml_Model_478 im_Model_node se_Model_node ini_Model co_Model_node) rfl rfl rfl pd_Model_node ⟨rm_hi, rm_lo (Nat.le_of_ble_eq_true rfl)⟩) hK hP hD hS hA hnw henv (Nat.le_of_ble_eq_true rfl) rfl rfl hl.1 rfl (Nat.le_of_ble_eq_true rfl) d_Model_primary_137 ⟨Nat.le_refl _, Nat.le_refl _⟩ (fun H locs hP hD hS => ?_)
                clear hc42
                obtain ⟨e1, -, e3⟩ := re_e hR
                subst e1; subst e3
                exact W.iret (v := r42) hx hb hr (fun t ht hW => ⟨⟨r42, (), rfl, rfl, by rw [ht]; exact hP, va_K.moved hW.alike hK, hD⟩, hS.F ht⟩) hS.2.2 d_Model_primary_140
            · replace hR := if_n c11 hR
              refine lv_aload_n hx hb d_Model_primary_117 rfl (lv_at hl 1 rfl) ?_
              refine lv_iconst (v := 2) hx hb d_Model_primary_118 (by decide) ?_
              refine lv_iload_n hx hb d_Model_primary_119 rfl (lv_at hl 0 rfl) ?_
              replace hR := bi_e hR
              obtain ⟨r44, l44, T44, hc44, hR⟩ := hR
              refine gcV_i (rest := []) ⟨hx, hb, hml, hown, hT⟩ (h_Model_node _ _ _ _ _ _ hc44) (cwV 2 hT (gV ml_Model_478 im_Model_node se_Model_node ini_Model co_Model_node) rfl rfl rfl pd_Model_node ⟨rm_hi, rm_lo (Nat.le_of_ble_eq_true rfl)⟩) hK hP hD hS hA hnw henv (Nat.le_of_ble_eq_true rfl) rfl rfl hl.1 rfl (Nat.le_of_ble_eq_true rfl) d_Model_primary_120 ⟨Nat.le_refl _, Nat.le_refl _⟩ (fun H locs hP hD hS => ?_)
              clear hc44
              obtain ⟨e1, -, e3⟩ := re_e hR
              subst e1; subst e3
              exact W.iret (v := r44) hx hb hr (fun t ht hW => ⟨⟨r44, (), rfl, rfl, by rw [ht]; exact hP, va_K.moved hW.alike hK, hD⟩, hS.F ht⟩) hS.2.2 d_Model_primary_123
          · replace hR := if_n c9 hR
            refine lv_aload_n hx hb d_Model_primary_100 rfl (lv_at hl 1 rfl) ?_
            refine lv_iconst (v := 1) hx hb d_Model_primary_101 (by decide) ?_
            refine lv_iload_n hx hb d_Model_primary_102 rfl (lv_at hl 0 rfl) ?_
            replace hR := bi_e hR
            obtain ⟨r46, l46, T46, hc46, hR⟩ := hR
            refine gcV_i (rest := []) ⟨hx, hb, hml, hown, hT⟩ (h_Model_node _ _ _ _ _ _ hc46) (cwV 2 hT (gV ml_Model_478 im_Model_node se_Model_node ini_Model co_Model_node) rfl rfl rfl pd_Model_node ⟨rm_hi, rm_lo (Nat.le_of_ble_eq_true rfl)⟩) hK hP hD hS hA hnw henv (Nat.le_of_ble_eq_true rfl) rfl rfl hl.1 rfl (Nat.le_of_ble_eq_true rfl) d_Model_primary_103 ⟨Nat.le_refl _, Nat.le_refl _⟩ (fun H locs hP hD hS => ?_)
            clear hc46
            obtain ⟨e1, -, e3⟩ := re_e hR
            subst e1; subst e3
            exact W.iret (v := r46) hx hb hr (fun t ht hW => ⟨⟨r46, (), rfl, rfl, by rw [ht]; exact hP, va_K.moved hW.alike hK, hD⟩, hS.F ht⟩) hS.2.2 d_Model_primary_106
        · replace hR := if_p c7 hR
          refine lv_aload_n hx hb d_Model_primary_83 rfl (lv_at hl 1 rfl) ?_
          refine lv_iload_n hx hb d_Model_primary_84 rfl (lv_at hl 0 rfl) ?_
          refine lv_iload_n hx hb d_Model_primary_85 rfl (lv_at hl 2 rfl) ?_
          replace hR := bi_e hR
          obtain ⟨r48, l48, T48, hc48, hR⟩ := hR
          refine gcV_i (rest := []) ⟨hx, hb, hml, hown, hT⟩ (h_Model_readNamed _ _ _ _ _ _ hc48) (cwV 2 hT (gV ml_Model_524 im_Model_readNamed se_Model_readNamed ini_Model co_Model_readNamed) rfl rfl rfl pd_Model_readNamed ⟨rm_hi, rm_lo (Nat.le_of_ble_eq_true rfl)⟩) hK hP hD hS hA hnw henv (Nat.le_of_ble_eq_true rfl) rfl rfl hl.1 rfl (Nat.le_of_ble_eq_true rfl) d_Model_primary_86 ⟨Nat.le_refl _, Nat.le_refl _⟩ (fun H locs hP hD hS => ?_)
          clear hc48
          obtain ⟨e1, -, e3⟩ := re_e hR
          subst e1; subst e3
          exact W.iret (v := r48) hx hb hr (fun t ht hW => ⟨⟨r48, (), rfl, rfl, by rw [ht]; exact hP, va_K.moved hW.alike hK, hD⟩, hS.F ht⟩) hS.2.2 d_Model_primary_89
      · replace hR := if_p c6 hR
        refine lv_aload_n hx hb d_Model_primary_52 rfl (lv_at hl 1 rfl) ?_
        refine lv_iconst (v := 0) hx hb d_Model_primary_53 (by decide) ?_
        refine lv_iload_n hx hb d_Model_primary_54 rfl (lv_at hl 0 rfl) ?_
        replace hR := bi_e hR
        obtain ⟨r50, l50, T50, hc50, hR⟩ := hR
        refine gcV_i (rest := []) ⟨hx, hb, hml, hown, hT⟩ (h_Model_node _ _ _ _ _ _ hc50) (cwV 2 hT (gV ml_Model_478 im_Model_node se_Model_node ini_Model co_Model_node) rfl rfl rfl pd_Model_node ⟨rm_hi, rm_lo (Nat.le_of_ble_eq_true rfl)⟩) hK hP hD hS hA hnw henv (Nat.le_of_ble_eq_true rfl) rfl rfl hl.1 rfl (Nat.le_of_ble_eq_true rfl) d_Model_primary_55 ⟨Nat.le_refl _, Nat.le_refl _⟩ (fun H locs hP hD hS => ?_)
        clear hc50
        refine lv_istore_n (lv' := [(3, .int r50), (2, .int z1), (0, .ref (ad 0)), (1, .int p1)]) hx hb d_Model_primary_58 rfl hl (by decide) rfl (fun ls hl => ?_)
        refine lv_aload_n hx hb d_Model_primary_59 rfl (lv_at hl 2 rfl) ?_
        refine rd_Model_126 hx hb hT hown hK hP d_Model_primary_60 ?_
        refine lv_iload_n hx hb d_Model_primary_63 rfl (lv_at hl 0 rfl) ?_
        refine lv_aload_n hx hb d_Model_primary_64 rfl (lv_at hl 2 rfl) ?_
        refine rd_Model_369 hx hb hT hown hK hP d_Model_primary_65 ?_
        replace hR := gd_e hR
        obtain ⟨b51, hR⟩ := hR
        refine saM_37 hx hb hK hP hD hS b51 d_Model_primary_68 (fun T51 eT H locs hP hD hS => ?_)
        replace hR := stK_e eT hR
        clear eT
        refine lv_aload_n hx hb d_Model_primary_69 rfl (lv_at hl 2 rfl) ?_
        replace hR := bi_e hR
        obtain ⟨r52, l52, T52, hc52, hR⟩ := hR
        refine gcV_v (rest := []) ⟨hx, hb, hml, hown, hT⟩ (h_Model_advance _ _ _ _ hc52) (cwV 0 hT (gV ml_Model_396 im_Model_advance se_Model_advance ini_Model co_Model_advance) rfl rfl rfl pd_Model_advance ⟨rm_hi, rm_lo (Nat.le_of_ble_eq_true rfl)⟩) hK hP hD hS hA hnw henv (Nat.le_of_ble_eq_true rfl) rfl rfl hl.1 rfl (Nat.le_of_ble_eq_true rfl) d_Model_primary_70 ⟨Nat.le_refl _, Nat.le_refl _⟩ (fun H locs hP hD hS => ?_)
        clear hc52
        refine lv_iload_n hx hb d_Model_primary_73 rfl (lv_at hl 0 rfl) ?_
        obtain ⟨e1, -, e3⟩ := re_e hR
        subst e1; subst e3
        exact W.iret (v := r50) hx hb hr (fun t ht hW => ⟨⟨r50, (), rfl, rfl, by rw [ht]; exact hP, va_K.moved hW.alike hK, hD⟩, hS.F ht⟩) hS.2.2 d_Model_primary_74
    · replace hR := if_n c5 hR
      refine lv_aload_n hx hb d_Model_primary_28 rfl (lv_at hl 1 rfl) ?_
      refine lv_iload_n hx hb d_Model_primary_29 rfl (lv_at hl 2 rfl) ?_
      refine lv_iconst (v := 1) hx hb d_Model_primary_30 (by decide) ?_
      refine lv_iadd hx hb d_Model_primary_31 ?_
      replace hR := bi_e hR
      obtain ⟨r54, l54, T54, hc54, hR⟩ := hR
      refine gcV_i (rest := []) ⟨hx, hb, hml, hown, hT⟩ (h_Model_expression _ _ _ _ _ hc54) (cwV 1 hT (gV ml_Model_494 im_Model_expression se_Model_expression ini_Model co_Model_expression) rfl rfl rfl pd_Model_expression ⟨rm_hi, rm_lo (Nat.le_of_ble_eq_true rfl)⟩) hK hP hD hS hA hnw henv (Nat.le_of_ble_eq_true rfl) rfl rfl hl.1 rfl (Nat.le_of_ble_eq_true rfl) d_Model_primary_32 ⟨Nat.le_refl _, Nat.le_refl _⟩ (fun H locs hP hD hS => ?_)
      clear hc54
      refine lv_istore_n (lv' := [(3, .int r54), (2, .int z1), (0, .ref (ad 0)), (1, .int p1)]) hx hb d_Model_primary_35 rfl hl (by decide) rfl (fun ls hl => ?_)
      refine lv_aload_n hx hb d_Model_primary_36 rfl (lv_at hl 2 rfl) ?_
      refine lv_bipush (v := 41) hx hb d_Model_primary_37 (by decide) ?_
      replace hR := bi_e hR
      obtain ⟨r55, l55, T55, hc55, hR⟩ := hR
      refine gcV_v (rest := []) ⟨hx, hb, hml, hown, hT⟩ (h_Model_need _ _ _ _ _ hc55) (cwV 1 hT (gV ml_Model_448 im_Model_need se_Model_need ini_Model co_Model_need) rfl rfl rfl pd_Model_need ⟨rm_hi, rm_lo (Nat.le_of_ble_eq_true rfl)⟩) hK hP hD hS hA hnw henv (Nat.le_of_ble_eq_true rfl) rfl rfl hl.1 rfl (Nat.le_of_ble_eq_true rfl) d_Model_primary_39 ⟨Nat.le_refl _, Nat.le_refl _⟩ (fun H locs hP hD hS => ?_)
      clear hc55
      refine lv_iload_n hx hb d_Model_primary_42 rfl (lv_at hl 0 rfl) ?_
      obtain ⟨e1, -, e3⟩ := re_e hR
      subst e1; subst e3
      exact W.iret (v := r54) hx hb hr (fun t ht hW => ⟨⟨r54, (), rfl, rfl, by rw [ht]; exact hP, va_K.moved hW.alike hK, hD⟩, hS.F ht⟩) hS.2.2 d_Model_primary_43
  · replace hR := if_n c3 hR
    refine lv_aload_n hx hb d_Model_primary_12 rfl (lv_at hl 1 rfl) ?_
    refine lv_iconst (v := 0) hx hb d_Model_primary_13 (by decide) ?_
    refine lv_iload_n hx hb d_Model_primary_14 rfl (lv_at hl 0 rfl) ?_
    replace hR := bi_e hR
    obtain ⟨r57, l57, T57, hc57, hR⟩ := hR
    refine gcV_i (rest := []) ⟨hx, hb, hml, hown, hT⟩ (h_Model_node _ _ _ _ _ _ hc57) (cwV 2 hT (gV ml_Model_478 im_Model_node se_Model_node ini_Model co_Model_node) rfl rfl rfl pd_Model_node ⟨rm_hi, rm_lo (Nat.le_of_ble_eq_true rfl)⟩) hK hP hD hS hA hnw henv (Nat.le_of_ble_eq_true rfl) rfl rfl hl.1 rfl (Nat.le_of_ble_eq_true rfl) d_Model_primary_15 ⟨Nat.le_refl _, Nat.le_refl _⟩ (fun H locs hP hD hS => ?_)
    clear hc57
    obtain ⟨e1, -, e3⟩ := re_e hR
    subst e1; subst e3
    exact W.iret (v := r57) hx hb hr (fun t ht hW => ⟨⟨r57, (), rfl, rfl, by rw [ht]; exact hP, va_K.moved hW.alike hK, hD⟩, hS.F ht⟩) hS.2.2 d_Model_primary_18
set_option maxHeartbeats 4000000 in
set_option maxRecDepth 100000 in
theorem sp_Model_readNamed (l : Launch) (dC : Nat → ClassId) (dI : Nat → Nat → Nat) (ea ev ad : Nat → Nat) (km : Nat → ClassId) (F : gF) (nf d : Nat) (h_Model_node : mt_Model_node l dC dI ea ev ad km F d) (h_Model_advance : mt_Model_advance l dC dI ea ev ad km F d) (h_Model_isSign : mt_Model_isSign l dC dI ea ev ad km F d) (h_Model_readUses : mt_Model_readUses l dC dI ea ev ad km F d) (h_Model_need : mt_Model_need l dC dI ea ev ad km F d) (h_Model_arguments : mt_Model_arguments l dC dI ea ev ad km F d) (T0 : gSt) (p1 : Int32) (p2 : Int32) (r0 : Int32) (rl0 : Int64) (T9 : gSt) (hR : rb_Model_readNamed F nf T0 p1 p2 = some (r0, rl0, T9)) : GMi l dC dI LM ad km ea ev y_Model_readNamed w_Model_readNamed (rmD (d + 1)) [.ref (ad 0), .int p1, .int p2] T0 r0 T9 := by
  intro sz
  refine Met.ofW (cc := b_Model_readNamed) (maxL := 4) (ret := (some .int)) (by decide) rfl ?_
  intro p e s m args below meth c s₁ B hml hv
  obtain ⟨rfl, hsz, hP, hK, hD0, hnw, henv⟩ := hv
  have hx := B.exec
  have hb := B.bytes
  have hr := B.returns
  have hT : ∀ w ∈ lw_good, w.before _ s = true := fun w h => atoms_spec (ws := w_Model_readNamed) B.pre w (List.mem_cons_of_mem _ h)
  have hown : s.vm.findClass R_Model = some m.cls := findClass_of_methodNamed B.named
  subst hsz
  have hD := hD0.self (sz := s.heap.size)
  clear hD0
  generalize hAe : va_A (gW LM ad km T0) s.heap.size = A at hD henv ⊢
  have hA : ∀ q : Nat, s.heap.size ≤ q → A q := fun q h => by rw [← hAe]; exact Or.inr h
  have hS : va_S A s.heap s.heap [] := va_S.rf
  have hl := lv_entry ([.ref (ad 0), .int p1, .int p2]) (n := 4) (Nat.le_of_ble_eq_true rfl)
  rw [lg_entry_eq]
  generalize (lg_sl ([.ref (ad 0), .int p1, .int p2]) ++ List.replicate (4 - (lg_sl ([.ref (ad 0), .int p1, .int p2])).length) Slot.unset).toArray = ls at hl ⊢
  have hl : lv_has ls 4 [(0, .ref (ad 0)), (1, .int p1), (2, .int p2)] := hl
  obtain ⟨G, hG⟩ : ∃ G : Nat → List (Nat × Value) → List Value → gSt → Prop, G = (fun pc lv stk T => ∀ (H : Heap) (locs : List Loc), va_P (dC, dI) cls_all (gW LM ad km T) H → va_D A (gW LM ad km T) → va_S A s.heap H locs → ∀ (ls : Array Slot), lv_has ls 4 lv → W p l e (headSpec w_Model_readNamed (rmD (d + 1))).room s m ([.ref (ad 0), .int p1, .int p2] : List Value).toArray below meth c H locs 0 0 (MQ below (va_Qi (fun (z : Int32) (_ : Unit) => z = r0) (fun _ t => gPost dC dI LM ad km T9 A t) A) ([.ref (ad 0), .int p1, .int p2] : List Value).toArray s 0 0 A) (F0 m pc ls stk)) := ⟨_, rfl⟩
  have lb_47 : ∀ (T : gSt) (x2 : Int32) (x3 : Int32), rj_Model_readNamed_47 F nf T x2 x3 = some (r0, rl0, T9) → G 47 [(0, .ref (ad 0)), (2, .int x2), (3, .int x3)] [] T := by
    intro T x2 x3 hR; unfold rj_Model_readNamed_47 at hR; rw [hG]; intro H locs hP hD hS ls hl
    refine lv_aload_n hx hb d_Model_readNamed_47 rfl (lv_at hl 0 rfl) ?_
    refine rd_Model_120 hx hb hT hown hK hP d_Model_readNamed_48 ?_
    refine lv_iload_n hx hb d_Model_readNamed_51 rfl (lv_at hl 2 rfl) ?_
    refine lv_iconst (v := 5) hx hb d_Model_readNamed_52 (by decide) ?_
    replace hR := gd_e hR
    obtain ⟨b9, hR⟩ := hR
    refine saM_35 hx hb hK hP hD hS b9 d_Model_readNamed_53 (fun T9 eT H locs hP hD hS => ?_)
    replace hR := stK_e eT hR
    clear eT
    refine lv_aload_n hx hb d_Model_readNamed_54 rfl (lv_at hl 0 rfl) ?_
    refine rd_Model_144 hx hb hT hown hK hP d_Model_readNamed_55 ?_
    refine lv_iload_n hx hb d_Model_readNamed_58 rfl (lv_at hl 2 rfl) ?_
    refine lv_aload_n hx hb d_Model_readNamed_59 rfl (lv_at hl 0 rfl) ?_
    refine rd_Model_409 hx hb hT hown hK hP d_Model_readNamed_60 ?_
    replace hR := gd_e hR
    obtain ⟨b10, hR⟩ := hR
    refine saM_43 hx hb hK hP hD hS b10 d_Model_readNamed_63 (fun T10 eT H locs hP hD hS => ?_)
    replace hR := stK_e eT hR
    clear eT
    refine lv_aload_n hx hb d_Model_readNamed_64 rfl (lv_at hl 0 rfl) ?_
    refine rd_Model_147 hx hb hT hown hK hP d_Model_readNamed_65 ?_
    refine lv_iload_n hx hb d_Model_readNamed_68 rfl (lv_at hl 2 rfl) ?_
    refine lv_aload_n hx hb d_Model_readNamed_69 rfl (lv_at hl 0 rfl) ?_
    replace hR := bi_e hR
    obtain ⟨r11, l11, T11, hc11, hR⟩ := hR
    refine gcV_i (rest := [.int x3, .ref (ad 45)]) ⟨hx, hb, hml, hown, hT⟩ (h_Model_readUses _ _ _ _ hc11) (cwV 0 hT (gV ml_Model_475 im_Model_readUses se_Model_readUses ini_Model co_Model_readUses) rfl rfl rfl pd_Model_readUses ⟨rm_hi, rm_lo (Nat.le_of_ble_eq_true rfl)⟩) hK hP hD hS hA hnw henv (Nat.le_of_ble_eq_true rfl) rfl rfl hl.1 rfl (Nat.le_of_ble_eq_true rfl) d_Model_readNamed_70 ⟨Nat.le_refl _, Nat.le_refl _⟩ (fun H locs hP hD hS => ?_)
    clear hc11
    replace hR := gd_e hR
    obtain ⟨b12, hR⟩ := hR
    refine saM_44 hx hb hK hP hD hS b12 d_Model_readNamed_73 (fun T12 eT H locs hP hD hS => ?_)
    replace hR := stK_e eT hR
    clear eT
    refine lv_aload_n hx hb d_Model_readNamed_74 rfl (lv_at hl 0 rfl) ?_
    refine lv_bipush (v := 40) hx hb d_Model_readNamed_75 (by decide) ?_
    replace hR := bi_e hR
    obtain ⟨r13, l13, T13, hc13, hR⟩ := hR
    refine gcV_v (rest := []) ⟨hx, hb, hml, hown, hT⟩ (h_Model_need _ _ _ _ _ hc13) (cwV 1 hT (gV ml_Model_448 im_Model_need se_Model_need ini_Model co_Model_need) rfl rfl rfl pd_Model_need ⟨rm_hi, rm_lo (Nat.le_of_ble_eq_true rfl)⟩) hK hP hD hS hA hnw henv (Nat.le_of_ble_eq_true rfl) rfl rfl hl.1 rfl (Nat.le_of_ble_eq_true rfl) d_Model_readNamed_77 ⟨Nat.le_refl _, Nat.le_refl _⟩ (fun H locs hP hD hS => ?_)
    clear hc13
    refine lv_aload_n hx hb d_Model_readNamed_80 rfl (lv_at hl 0 rfl) ?_
    refine lv_iload_n hx hb d_Model_readNamed_81 rfl (lv_at hl 2 rfl) ?_
    refine lv_iload_n hx hb d_Model_readNamed_82 rfl (lv_at hl 1 rfl) ?_
    refine lv_bipush (v := 41) hx hb d_Model_readNamed_83 (by decide) ?_
    replace hR := bi_e hR
    obtain ⟨r14, l14, T14, hc14, hR⟩ := hR
    refine gcV_v (rest := []) ⟨hx, hb, hml, hown, hT⟩ (h_Model_arguments _ _ _ _ _ _ _ hc14) (cwV 3 hT (gV ml_Model_543 im_Model_arguments se_Model_arguments ini_Model co_Model_arguments) rfl rfl rfl pd_Model_arguments ⟨rm_hi, rm_lo (Nat.le_of_ble_eq_true rfl)⟩) hK hP hD hS hA hnw henv (Nat.le_of_ble_eq_true rfl) rfl rfl hl.1 rfl (Nat.le_of_ble_eq_true rfl) d_Model_readNamed_85 ⟨Nat.le_refl _, Nat.le_refl _⟩ (fun H locs hP hD hS => ?_)
    clear hc14
    refine lv_iload_n hx hb d_Model_readNamed_88 rfl (lv_at hl 2 rfl) ?_
    obtain ⟨e1, -, e3⟩ := re_e hR
    subst e1; subst e3
    exact W.iret (v := x3) hx hb hr (fun t ht hW => ⟨⟨x3, (), rfl, rfl, by rw [ht]; exact hP, va_K.moved hW.alike hK, hD⟩, hS.F ht⟩) hS.2.2 d_Model_readNamed_89
  unfold rb_Model_readNamed at hR
  refine lv_aload_n hx hb d_Model_readNamed_0 rfl (lv_at hl 0 rfl) ?_
  refine lv_iconst (v := 4) hx hb d_Model_readNamed_1 (by decide) ?_
  refine lv_iload_n hx hb d_Model_readNamed_2 rfl (lv_at hl 1 rfl) ?_
  replace hR := bi_e hR
  obtain ⟨r1, l1, T1, hc1, hR⟩ := hR
  refine gcV_i (rest := []) ⟨hx, hb, hml, hown, hT⟩ (h_Model_node _ _ _ _ _ _ hc1) (cwV 2 hT (gV ml_Model_478 im_Model_node se_Model_node ini_Model co_Model_node) rfl rfl rfl pd_Model_node ⟨rm_hi, rm_lo (Nat.le_of_ble_eq_true rfl)⟩) hK hP hD hS hA hnw henv (Nat.le_of_ble_eq_true rfl) rfl rfl hl.1 rfl (Nat.le_of_ble_eq_true rfl) d_Model_readNamed_3 ⟨Nat.le_refl _, Nat.le_refl _⟩ (fun H locs hP hD hS => ?_)
  clear hc1
  refine lv_istore_n (lv' := [(3, .int r1), (0, .ref (ad 0)), (1, .int p1), (2, .int p2)]) hx hb d_Model_readNamed_6 rfl hl (by decide) rfl (fun ls hl => ?_)
  refine lv_aload_n hx hb d_Model_readNamed_7 rfl (lv_at hl 1 rfl) ?_
  refine rd_Model_138 hx hb hT hown hK hP d_Model_readNamed_8 ?_
  refine lv_iload_n hx hb d_Model_readNamed_11 rfl (lv_at hl 0 rfl) ?_
  refine lv_aload_n hx hb d_Model_readNamed_12 rfl (lv_at hl 1 rfl) ?_
  refine rd_Model_365 hx hb hT hown hK hP d_Model_readNamed_13 ?_
  replace hR := gd_e hR
  obtain ⟨b2, hR⟩ := hR
  refine saM_41 hx hb hK hP hD hS b2 d_Model_readNamed_16 (fun T2 eT H locs hP hD hS => ?_)
  replace hR := stK_e eT hR
  clear eT
  refine lv_aload_n hx hb d_Model_readNamed_17 rfl (lv_at hl 1 rfl) ?_
  refine rd_Model_141 hx hb hT hown hK hP d_Model_readNamed_18 ?_
  refine lv_iload_n hx hb d_Model_readNamed_21 rfl (lv_at hl 0 rfl) ?_
  refine lv_iload_n hx hb d_Model_readNamed_22 rfl (lv_at hl 2 rfl) ?_
  replace hR := gd_e hR
  obtain ⟨b3, hR⟩ := hR
  refine saM_42 hx hb hK hP hD hS b3 d_Model_readNamed_23 (fun T3 eT H locs hP hD hS => ?_)
  replace hR := stK_e eT hR
  clear eT
  refine lv_aload_n hx hb d_Model_readNamed_24 rfl (lv_at hl 1 rfl) ?_
  replace hR := bi_e hR
  obtain ⟨r4, l4, T4, hc4, hR⟩ := hR
  refine gcV_v (rest := []) ⟨hx, hb, hml, hown, hT⟩ (h_Model_advance _ _ _ _ hc4) (cwV 0 hT (gV ml_Model_396 im_Model_advance se_Model_advance ini_Model co_Model_advance) rfl rfl rfl pd_Model_advance ⟨rm_hi, rm_lo (Nat.le_of_ble_eq_true rfl)⟩) hK hP hD hS hA hnw henv (Nat.le_of_ble_eq_true rfl) rfl rfl hl.1 rfl (Nat.le_of_ble_eq_true rfl) d_Model_readNamed_25 ⟨Nat.le_refl _, Nat.le_refl _⟩ (fun H locs hP hD hS => ?_)
  clear hc4
  refine lv_aload_n hx hb d_Model_readNamed_28 rfl (lv_at hl 1 rfl) ?_
  refine rd_Model_352 hx hb hT hown hK hP d_Model_readNamed_29 ?_
  refine lv_iconst (v := 4) hx hb d_Model_readNamed_32 (by decide) ?_
  refine lv_icmp_eq (tgt := 47) hx hb d_Model_readNamed_33 (by decide) (fun c5 => ?_) (fun c5 => ?_)
  · replace hR := if_p c5 hR
    have g := lb_47 T4 p2 r1 hR
    rw [hG] at g
    exact g _ _ hP hD hS _ (lv_sub hl [1, 3, 0] rfl)
  · replace hR := if_n c5 hR
    refine lv_aload_n hx hb d_Model_readNamed_36 rfl (lv_at hl 1 rfl) ?_
    refine lv_bipush (v := 40) hx hb d_Model_readNamed_37 (by decide) ?_
    replace hR := bi_e hR
    obtain ⟨r6, l6, T6, hc6, hR⟩ := hR
    refine gcV_i (rest := []) ⟨hx, hb, hml, hown, hT⟩ (h_Model_isSign _ _ _ _ _ hc6) (cwV 1 hT (gV ml_Model_393 im_Model_isSign se_Model_isSign ini_Model co_Model_isSign) rfl rfl rfl pd_Model_isSign ⟨rm_hi, rm_lo (Nat.le_of_ble_eq_true rfl)⟩) hK hP hD hS hA hnw henv (Nat.le_of_ble_eq_true rfl) rfl rfl hl.1 rfl (Nat.le_of_ble_eq_true rfl) d_Model_readNamed_39 ⟨Nat.le_refl _, Nat.le_refl _⟩ (fun H locs hP hD hS => ?_)
    clear hc6
    refine lv_if_ne (tgt := 47) hx hb d_Model_readNamed_42 (by decide) (fun c7 => ?_) (fun c7 => ?_)
    · replace hR := if_n c7 hR
      have g := lb_47 T6 p2 r1 hR
      rw [hG] at g
      exact g _ _ hP hD hS _ (lv_sub hl [1, 3, 0] rfl)
    · replace hR := if_p c7 hR
      refine lv_iload_n hx hb d_Model_readNamed_45 rfl (lv_at hl 0 rfl) ?_
      obtain ⟨e1, -, e3⟩ := re_e hR
      subst e1; subst e3
      exact W.iret (v := r1) hx hb hr (fun t ht hW => ⟨⟨r1, (), rfl, rfl, by rw [ht]; exact hP, va_K.moved hW.alike hK, hD⟩, hS.F ht⟩) hS.2.2 d_Model_readNamed_46
set_option maxHeartbeats 4000000 in
set_option maxRecDepth 100000 in
theorem sp_Model_readNew (l : Launch) (dC : Nat → ClassId) (dI : Nat → Nat → Nat) (ea ev ad : Nat → Nat) (km : Nat → ClassId) (F : gF) (nf d : Nat) (h_Model_node : mt_Model_node l dC dI ea ev ad km F d) (h_Model_needRegion : mt_Model_needRegion l dC dI ea ev ad km F d) (h_Model_wrong : mt_Model_wrong l dC dI ea ev ad km F d) (h_Model_bad : mt_Model_bad l dC dI ea ev ad km F d) (h_Model_advance : mt_Model_advance l dC dI ea ev ad km F d) (h_Model_readUses : mt_Model_readUses l dC dI ea ev ad km F d) (h_Model_takes : mt_Model_takes l dC dI ea ev ad km F d) (h_Model_need : mt_Model_need l dC dI ea ev ad km F d) (h_Model_arguments : mt_Model_arguments l dC dI ea ev ad km F d) (h_Model_needName : mt_Model_needName l dC dI ea ev ad km F d) (h_Model_expression : mt_Model_expression l dC dI ea ev ad km F d) (T0 : gSt) (p1 : Int32) (p2 : Int32) (r0 : Int32) (rl0 : Int64) (T9 : gSt) (hR : rb_Model_readNew F nf T0 p1 p2 = some (r0, rl0, T9)) : GMi l dC dI LM ad km ea ev y_Model_readNew w_Model_readNew (rmD (d + 1)) [.ref (ad 0), .int p1, .int p2] T0 r0 T9 := by
  intro sz
  refine Met.ofW (cc := b_Model_readNew) (maxL := 6) (ret := (some .int)) (by decide) rfl ?_
  intro p e s m args below meth c s₁ B hml hv
  obtain ⟨rfl, hsz, hP, hK, hD0, hnw, henv⟩ := hv
  have hx := B.exec
  have hb := B.bytes
  have hr := B.returns
  have hT : ∀ w ∈ lw_good, w.before _ s = true := fun w h => atoms_spec (ws := w_Model_readNew) B.pre w (List.mem_cons_of_mem _ h)
  have hown : s.vm.findClass R_Model = some m.cls := findClass_of_methodNamed B.named
  subst hsz
  have hD := hD0.self (sz := s.heap.size)
  clear hD0
  generalize hAe : va_A (gW LM ad km T0) s.heap.size = A at hD henv ⊢
  have hA : ∀ q : Nat, s.heap.size ≤ q → A q := fun q h => by rw [← hAe]; exact Or.inr h
  have hS : va_S A s.heap s.heap [] := va_S.rf
  have hl := lv_entry ([.ref (ad 0), .int p1, .int p2]) (n := 6) (Nat.le_of_ble_eq_true rfl)
  rw [lg_entry_eq]
  generalize (lg_sl ([.ref (ad 0), .int p1, .int p2]) ++ List.replicate (6 - (lg_sl ([.ref (ad 0), .int p1, .int p2])).length) Slot.unset).toArray = ls at hl ⊢
  have hl : lv_has ls 6 [(0, .ref (ad 0)), (1, .int p1), (2, .int p2)] := hl
  obtain ⟨G, hG⟩ : ∃ G : Nat → List (Nat × Value) → List Value → gSt → Prop, G = (fun pc lv stk T => ∀ (H : Heap) (locs : List Loc), va_P (dC, dI) cls_all (gW LM ad km T) H → va_D A (gW LM ad km T) → va_S A s.heap H locs → ∀ (ls : Array Slot), lv_has ls 6 lv → W p l e (headSpec w_Model_readNew (rmD (d + 1))).room s m ([.ref (ad 0), .int p1, .int p2] : List Value).toArray below meth c H locs 0 0 (MQ below (va_Qi (fun (z : Int32) (_ : Unit) => z = r0) (fun _ t => gPost dC dI LM ad km T9 A t) A) ([.ref (ad 0), .int p1, .int p2] : List Value).toArray s 0 0 A) (F0 m pc ls stk)) := ⟨_, rfl⟩
  have lb_61 : ∀ (T : gSt) (x2 : Int32) (x3 : Int32), rj_Model_readNew_61 F nf T x2 x3 = some (r0, rl0, T9) → G 61 [(0, .ref (ad 0)), (2, .int x2), (3, .int x3)] [] T := by
    intro T x2 x3 hR; unfold rj_Model_readNew_61 at hR; rw [hG]; intro H locs hP hD hS ls hl
    refine lv_aload_n hx hb d_Model_readNew_61 rfl (lv_at hl 0 rfl) ?_
    refine rd_Model_144 hx hb hT hown hK hP d_Model_readNew_62 ?_
    refine lv_iload_n hx hb d_Model_readNew_65 rfl (lv_at hl 2 rfl) ?_
    refine lv_aload_n hx hb d_Model_readNew_66 rfl (lv_at hl 0 rfl) ?_
    refine rd_Model_409 hx hb hT hown hK hP d_Model_readNew_67 ?_
    replace hR := gd_e hR
    obtain ⟨b11, hR⟩ := hR
    refine saM_43 hx hb hK hP hD hS b11 d_Model_readNew_70 (fun T11 eT H locs hP hD hS => ?_)
    replace hR := stK_e eT hR
    clear eT
    refine lv_aload_n hx hb d_Model_readNew_71 rfl (lv_at hl 0 rfl) ?_
    refine rd_Model_147 hx hb hT hown hK hP d_Model_readNew_72 ?_
    refine lv_iload_n hx hb d_Model_readNew_75 rfl (lv_at hl 2 rfl) ?_
    refine lv_aload_n hx hb d_Model_readNew_76 rfl (lv_at hl 0 rfl) ?_
    replace hR := bi_e hR
    obtain ⟨r12, l12, T12, hc12, hR⟩ := hR
    refine gcV_i (rest := [.int x3, .ref (ad 45)]) ⟨hx, hb, hml, hown, hT⟩ (h_Model_readUses _ _ _ _ hc12) (cwV 0 hT (gV ml_Model_475 im_Model_readUses se_Model_readUses ini_Model co_Model_readUses) rfl rfl rfl pd_Model_readUses ⟨rm_hi, rm_lo (Nat.le_of_ble_eq_true rfl)⟩) hK hP hD hS hA hnw henv (Nat.le_of_ble_eq_true rfl) rfl rfl hl.1 rfl (Nat.le_of_ble_eq_true rfl) d_Model_readNew_77 ⟨Nat.le_refl _, Nat.le_refl _⟩ (fun H locs hP hD hS => ?_)
    clear hc12
    replace hR := gd_e hR
    obtain ⟨b13, hR⟩ := hR
    refine saM_44 hx hb hK hP hD hS b13 d_Model_readNew_80 (fun T13 eT H locs hP hD hS => ?_)
    replace hR := stK_e eT hR
    clear eT
    refine lv_aload_n hx hb d_Model_readNew_81 rfl (lv_at hl 0 rfl) ?_
    refine rd_Model_349 hx hb hT hown hK hP d_Model_readNew_82 ?_
    refine lv_topi (fun z14 e14 => ?_)
    replace hR := vK_e e14 hR
    refine lv_istore (lv' := [(4, .int z14), (0, .ref (ad 0)), (2, .int x2), (3, .int x3)]) hx hb d_Model_readNew_85 hl (by decide) rfl (fun ls hl => ?_)
    refine lv_aload_n hx hb d_Model_readNew_87 rfl (lv_at hl 1 rfl) ?_
    refine lv_bipush (v := 46) hx hb d_Model_readNew_88 (by decide) ?_
    replace hR := bi_e hR
    obtain ⟨r15, l15, T15, hc15, hR⟩ := hR
    refine gcV_i (rest := []) ⟨hx, hb, hml, hown, hT⟩ (h_Model_takes _ _ _ _ _ hc15) (cwV 1 hT (gV ml_Model_403 im_Model_takes se_Model_takes ini_Model co_Model_takes) rfl rfl rfl pd_Model_takes ⟨rm_hi, rm_lo (Nat.le_of_ble_eq_true rfl)⟩) hK hP hD hS hA hnw henv (Nat.le_of_ble_eq_true rfl) rfl rfl hl.1 rfl (Nat.le_of_ble_eq_true rfl) d_Model_readNew_90 ⟨Nat.le_refl _, Nat.le_refl _⟩ (fun H locs hP hD hS => ?_)
    clear hc15
    refine lv_if_eq (tgt := 172) hx hb d_Model_readNew_93 (by decide) (fun c16 => ?_) (fun c16 => ?_)
    · replace hR := if_p c16 hR
      refine lv_aload_n hx hb d_Model_readNew_172 rfl (lv_at hl 1 rfl) ?_
      refine rd_Model_153 hx hb hT hown hK hP d_Model_readNew_173 ?_
      refine lv_iload_n hx hb d_Model_readNew_176 rfl (lv_at hl 3 rfl) ?_
      refine lv_iload hx hb d_Model_readNew_177 (lv_at hl 0 rfl) ?_
      replace hR := gd_e hR
      obtain ⟨b17, hR⟩ := hR
      refine saM_46 hx hb hK hP hD hS b17 d_Model_readNew_179 (fun T17 eT H locs hP hD hS => ?_)
      replace hR := stK_e eT hR
      clear eT
      refine lv_aload_n hx hb d_Model_readNew_180 rfl (lv_at hl 1 rfl) ?_
      refine lv_bipush (v := 123) hx hb d_Model_readNew_181 (by decide) ?_
      replace hR := bi_e hR
      obtain ⟨r18, l18, T18, hc18, hR⟩ := hR
      refine gcV_v (rest := []) ⟨hx, hb, hml, hown, hT⟩ (h_Model_need _ _ _ _ _ hc18) (cwV 1 hT (gV ml_Model_448 im_Model_need se_Model_need ini_Model co_Model_need) rfl rfl rfl pd_Model_need ⟨rm_hi, rm_lo (Nat.le_of_ble_eq_true rfl)⟩) hK hP hD hS hA hnw henv (Nat.le_of_ble_eq_true rfl) rfl rfl hl.1 rfl (Nat.le_of_ble_eq_true rfl) d_Model_readNew_183 ⟨Nat.le_refl _, Nat.le_refl _⟩ (fun H locs hP hD hS => ?_)
      clear hc18
      refine lv_aload_n hx hb d_Model_readNew_186 rfl (lv_at hl 1 rfl) ?_
      refine lv_iload_n hx hb d_Model_readNew_187 rfl (lv_at hl 3 rfl) ?_
      refine lv_iload_n hx hb d_Model_readNew_188 rfl (lv_at hl 2 rfl) ?_
      refine lv_bipush (v := 125) hx hb d_Model_readNew_189 (by decide) ?_
      replace hR := bi_e hR
      obtain ⟨r19, l19, T19, hc19, hR⟩ := hR
      refine gcV_v (rest := []) ⟨hx, hb, hml, hown, hT⟩ (h_Model_arguments _ _ _ _ _ _ _ hc19) (cwV 3 hT (gV ml_Model_543 im_Model_arguments se_Model_arguments ini_Model co_Model_arguments) rfl rfl rfl pd_Model_arguments ⟨rm_hi, rm_lo (Nat.le_of_ble_eq_true rfl)⟩) hK hP hD hS hA hnw henv (Nat.le_of_ble_eq_true rfl) rfl rfl hl.1 rfl (Nat.le_of_ble_eq_true rfl) d_Model_readNew_191 ⟨Nat.le_refl _, Nat.le_refl _⟩ (fun H locs hP hD hS => ?_)
      clear hc19
      refine lv_iload_n hx hb d_Model_readNew_194 rfl (lv_at hl 3 rfl) ?_
      obtain ⟨e1, -, e3⟩ := re_e hR
      subst e1; subst e3
      exact W.iret (v := x3) hx hb hr (fun t ht hW => ⟨⟨x3, (), rfl, rfl, by rw [ht]; exact hP, va_K.moved hW.alike hK, hD⟩, hS.F ht⟩) hS.2.2 d_Model_readNew_195
    · replace hR := if_n c16 hR
      refine lv_aload_n hx hb d_Model_readNew_96 rfl (lv_at hl 1 rfl) ?_
      refine rd_Model_120 hx hb hT hown hK hP d_Model_readNew_97 ?_
      refine lv_iload_n hx hb d_Model_readNew_100 rfl (lv_at hl 3 rfl) ?_
      refine lv_bipush (v := 7) hx hb d_Model_readNew_101 (by decide) ?_
      replace hR := gd_e hR
      obtain ⟨b21, hR⟩ := hR
      refine saM_35 hx hb hK hP hD hS b21 d_Model_readNew_103 (fun T21 eT H locs hP hD hS => ?_)
      replace hR := stK_e eT hR
      clear eT
      refine lv_aload_n hx hb d_Model_readNew_104 rfl (lv_at hl 1 rfl) ?_
      refine lv_bipush (v := 30) hx hb d_Model_readNew_105 (by decide) ?_
      refine lv_iload hx hb d_Model_readNew_107 (lv_at hl 0 rfl) ?_
      replace hR := bi_e hR
      obtain ⟨r22, l22, T22, hc22, hR⟩ := hR
      refine gcV_i (rest := []) ⟨hx, hb, hml, hown, hT⟩ (h_Model_node _ _ _ _ _ _ hc22) (cwV 2 hT (gV ml_Model_478 im_Model_node se_Model_node ini_Model co_Model_node) rfl rfl rfl pd_Model_node ⟨rm_hi, rm_lo (Nat.le_of_ble_eq_true rfl)⟩) hK hP hD hS hA hnw henv (Nat.le_of_ble_eq_true rfl) rfl rfl hl.1 rfl (Nat.le_of_ble_eq_true rfl) d_Model_readNew_109 ⟨Nat.le_refl _, Nat.le_refl _⟩ (fun H locs hP hD hS => ?_)
      clear hc22
      refine lv_istore (lv' := [(5, .int r22), (4, .int z14), (0, .ref (ad 0)), (2, .int x2), (3, .int x3)]) hx hb d_Model_readNew_112 hl (by decide) rfl (fun ls hl => ?_)
      refine lv_aload_n hx hb d_Model_readNew_114 rfl (lv_at hl 2 rfl) ?_
      refine rd_Model_141 hx hb hT hown hK hP d_Model_readNew_115 ?_
      refine lv_iload hx hb d_Model_readNew_118 (lv_at hl 0 rfl) ?_
      refine lv_aload_n hx hb d_Model_readNew_120 rfl (lv_at hl 2 rfl) ?_
      refine rd_Model_349 hx hb hT hown hK hP d_Model_readNew_121 ?_
      replace hR := gd_e hR
      obtain ⟨b23, hR⟩ := hR
      refine saM_42 hx hb hK hP hD hS b23 d_Model_readNew_124 (fun T23 eT H locs hP hD hS => ?_)
      replace hR := stK_e eT hR
      clear eT
      refine lv_aload_n hx hb d_Model_readNew_125 rfl (lv_at hl 2 rfl) ?_
      refine rd_Model_138 hx hb hT hown hK hP d_Model_readNew_126 ?_
      refine lv_iload hx hb d_Model_readNew_129 (lv_at hl 0 rfl) ?_
      refine lv_aload_n hx hb d_Model_readNew_131 rfl (lv_at hl 2 rfl) ?_
      replace hR := bi_e hR
      obtain ⟨r24, l24, T24, hc24, hR⟩ := hR
      refine gcV_l (rest := [.int r22, .ref (ad 42)]) ⟨hx, hb, hml, hown, hT⟩ (h_Model_needName _ _ _ _ hc24) (cwV 0 hT (gV ml_Model_454 im_Model_needName se_Model_needName ini_Model co_Model_needName) rfl rfl rfl pd_Model_needName ⟨rm_hi, rm_lo (Nat.le_of_ble_eq_true rfl)⟩) hK hP hD hS hA hnw henv (Nat.le_of_ble_eq_true rfl) rfl rfl hl.1 rfl (Nat.le_of_ble_eq_true rfl) d_Model_readNew_132 ⟨Nat.le_refl _, Nat.le_refl _⟩ (fun H locs hP hD hS => ?_)
      clear hc24
      replace hR := gd_e hR
      obtain ⟨b25, hR⟩ := hR
      refine saM_41 hx hb hK hP hD hS b25 d_Model_readNew_135 (fun T25 eT H locs hP hD hS => ?_)
      replace hR := stK_e eT hR
      clear eT
      refine lv_aload_n hx hb d_Model_readNew_136 rfl (lv_at hl 2 rfl) ?_
      refine lv_bipush (v := 40) hx hb d_Model_readNew_137 (by decide) ?_
      replace hR := bi_e hR
      obtain ⟨r26, l26, T26, hc26, hR⟩ := hR
      refine gcV_v (rest := []) ⟨hx, hb, hml, hown, hT⟩ (h_Model_need _ _ _ _ _ hc26) (cwV 1 hT (gV ml_Model_448 im_Model_need se_Model_need ini_Model co_Model_need) rfl rfl rfl pd_Model_need ⟨rm_hi, rm_lo (Nat.le_of_ble_eq_true rfl)⟩) hK hP hD hS hA hnw henv (Nat.le_of_ble_eq_true rfl) rfl rfl hl.1 rfl (Nat.le_of_ble_eq_true rfl) d_Model_readNew_139 ⟨Nat.le_refl _, Nat.le_refl _⟩ (fun H locs hP hD hS => ?_)
      clear hc26
      refine lv_aload_n hx hb d_Model_readNew_142 rfl (lv_at hl 2 rfl) ?_
      refine rd_Model_126 hx hb hT hown hK hP d_Model_readNew_143 ?_
      refine lv_iload hx hb d_Model_readNew_146 (lv_at hl 0 rfl) ?_
      refine lv_aload_n hx hb d_Model_readNew_148 rfl (lv_at hl 2 rfl) ?_
      refine lv_iload_n hx hb d_Model_readNew_149 rfl (lv_at hl 3 rfl) ?_
      refine lv_iconst (v := 1) hx hb d_Model_readNew_150 (by decide) ?_
      refine lv_iadd hx hb d_Model_readNew_151 ?_
      replace hR := bi_e hR
      obtain ⟨r27, l27, T27, hc27, hR⟩ := hR
      refine gcV_i (rest := [.int r22, .ref (ad 38)]) ⟨hx, hb, hml, hown, hT⟩ (h_Model_expression _ _ _ _ _ hc27) (cwV 1 hT (gV ml_Model_494 im_Model_expression se_Model_expression ini_Model co_Model_expression) rfl rfl rfl pd_Model_expression ⟨rm_hi, rm_lo (Nat.le_of_ble_eq_true rfl)⟩) hK hP hD hS hA hnw henv (Nat.le_of_ble_eq_true rfl) rfl rfl hl.1 rfl (Nat.le_of_ble_eq_true rfl) d_Model_readNew_152 ⟨Nat.le_refl _, Nat.le_refl _⟩ (fun H locs hP hD hS => ?_)
      clear hc27
      replace hR := gd_e hR
      obtain ⟨b28, hR⟩ := hR
      refine saM_37 hx hb hK hP hD hS b28 d_Model_readNew_155 (fun T28 eT H locs hP hD hS => ?_)
      replace hR := stK_e eT hR
      clear eT
      refine lv_aload_n hx hb d_Model_readNew_156 rfl (lv_at hl 2 rfl) ?_
      refine lv_bipush (v := 41) hx hb d_Model_readNew_157 (by decide) ?_
      replace hR := bi_e hR
      obtain ⟨r29, l29, T29, hc29, hR⟩ := hR
      refine gcV_v (rest := []) ⟨hx, hb, hml, hown, hT⟩ (h_Model_need _ _ _ _ _ hc29) (cwV 1 hT (gV ml_Model_448 im_Model_need se_Model_need ini_Model co_Model_need) rfl rfl rfl pd_Model_need ⟨rm_hi, rm_lo (Nat.le_of_ble_eq_true rfl)⟩) hK hP hD hS hA hnw henv (Nat.le_of_ble_eq_true rfl) rfl rfl hl.1 rfl (Nat.le_of_ble_eq_true rfl) d_Model_readNew_159 ⟨Nat.le_refl _, Nat.le_refl _⟩ (fun H locs hP hD hS => ?_)
      clear hc29
      refine lv_aload_n hx hb d_Model_readNew_162 rfl (lv_at hl 2 rfl) ?_
      refine rd_Model_126 hx hb hT hown hK hP d_Model_readNew_163 ?_
      refine lv_iload_n hx hb d_Model_readNew_166 rfl (lv_at hl 4 rfl) ?_
      refine lv_iload hx hb d_Model_readNew_167 (lv_at hl 0 rfl) ?_
      replace hR := gd_e hR
      obtain ⟨b30, hR⟩ := hR
      refine saM_37 hx hb hK hP hD hS b30 d_Model_readNew_169 (fun T30 eT H locs hP hD hS => ?_)
      replace hR := stK_e eT hR
      clear eT
      refine lv_iload_n hx hb d_Model_readNew_170 rfl (lv_at hl 4 rfl) ?_
      obtain ⟨e1, -, e3⟩ := re_e hR
      subst e1; subst e3
      exact W.iret (v := x3) hx hb hr (fun t ht hW => ⟨⟨x3, (), rfl, rfl, by rw [ht]; exact hP, va_K.moved hW.alike hK, hD⟩, hS.F ht⟩) hS.2.2 d_Model_readNew_171
  have lb_30 : ∀ (T : gSt) (x2 : Int32) (x3 : Int32), rj_Model_readNew_30 F nf T x2 x3 = some (r0, rl0, T9) → G 30 [(0, .ref (ad 0)), (2, .int x2), (3, .int x3)] [] T := by
    intro T x2 x3 hR; unfold rj_Model_readNew_30 at hR; rw [hG]; intro H locs hP hD hS ls hl
    refine lv_aload_n hx hb d_Model_readNew_30 rfl (lv_at hl 0 rfl) ?_
    refine rd_Model_138 hx hb hT hown hK hP d_Model_readNew_31 ?_
    refine lv_iload_n hx hb d_Model_readNew_34 rfl (lv_at hl 2 rfl) ?_
    refine lv_aload_n hx hb d_Model_readNew_35 rfl (lv_at hl 0 rfl) ?_
    refine rd_Model_365 hx hb hT hown hK hP d_Model_readNew_36 ?_
    replace hR := gd_e hR
    obtain ⟨b6, hR⟩ := hR
    refine saM_41 hx hb hK hP hD hS b6 d_Model_readNew_39 (fun T6 eT H locs hP hD hS => ?_)
    replace hR := stK_e eT hR
    clear eT
    refine lv_aload_n hx hb d_Model_readNew_40 rfl (lv_at hl 0 rfl) ?_
    refine rd_Model_141 hx hb hT hown hK hP d_Model_readNew_41 ?_
    refine lv_iload_n hx hb d_Model_readNew_44 rfl (lv_at hl 2 rfl) ?_
    refine lv_aload_n hx hb d_Model_readNew_45 rfl (lv_at hl 0 rfl) ?_
    refine rd_Model_349 hx hb hT hown hK hP d_Model_readNew_46 ?_
    replace hR := gd_e hR
    obtain ⟨b7, hR⟩ := hR
    refine saM_42 hx hb hK hP hD hS b7 d_Model_readNew_49 (fun T7 eT H locs hP hD hS => ?_)
    replace hR := stK_e eT hR
    clear eT
    refine lv_aload_n hx hb d_Model_readNew_50 rfl (lv_at hl 0 rfl) ?_
    replace hR := bi_e hR
    obtain ⟨r8, l8, T8, hc8, hR⟩ := hR
    refine gcV_i (rest := []) ⟨hx, hb, hml, hown, hT⟩ (h_Model_bad _ _ _ _ hc8) (cwV 0 hT (gV ml_Model_385 im_Model_bad se_Model_bad ini_Model co_Model_bad) rfl rfl rfl pd_Model_bad ⟨rm_hi, rm_lo (Nat.le_of_ble_eq_true rfl)⟩) hK hP hD hS hA hnw henv (Nat.le_of_ble_eq_true rfl) rfl rfl hl.1 rfl (Nat.le_of_ble_eq_true rfl) d_Model_readNew_51 ⟨Nat.le_refl _, Nat.le_refl _⟩ (fun H locs hP hD hS => ?_)
    clear hc8
    refine lv_if_ne (tgt := 61) hx hb d_Model_readNew_54 (by decide) (fun c9 => ?_) (fun c9 => ?_)
    · replace hR := if_n c9 hR
      have g := lb_61 T8 x2 x3 hR
      rw [hG] at g
      exact g _ _ hP hD hS _ (lv_sub hl [0, 1, 2] rfl)
    · replace hR := if_p c9 hR
      refine lv_aload_n hx hb d_Model_readNew_57 rfl (lv_at hl 0 rfl) ?_
      replace hR := bi_e hR
      obtain ⟨r10, l10, T10, hc10, hR⟩ := hR
      refine gcV_v (rest := []) ⟨hx, hb, hml, hown, hT⟩ (h_Model_advance _ _ _ _ hc10) (cwV 0 hT (gV ml_Model_396 im_Model_advance se_Model_advance ini_Model co_Model_advance) rfl rfl rfl pd_Model_advance ⟨rm_hi, rm_lo (Nat.le_of_ble_eq_true rfl)⟩) hK hP hD hS hA hnw henv (Nat.le_of_ble_eq_true rfl) rfl rfl hl.1 rfl (Nat.le_of_ble_eq_true rfl) d_Model_readNew_58 ⟨Nat.le_refl _, Nat.le_refl _⟩ (fun H locs hP hD hS => ?_)
      clear hc10
      have g := lb_61 T10 x2 x3 hR
      rw [hG] at g
      exact g _ _ hP hD hS _ (lv_sub hl [0, 1, 2] rfl)
  unfold rb_Model_readNew at hR
  refine lv_aload_n hx hb d_Model_readNew_0 rfl (lv_at hl 0 rfl) ?_
  refine lv_bipush (v := 6) hx hb d_Model_readNew_1 (by decide) ?_
  refine lv_iload_n hx hb d_Model_readNew_3 rfl (lv_at hl 1 rfl) ?_
  replace hR := bi_e hR
  obtain ⟨r1, l1, T1, hc1, hR⟩ := hR
  refine gcV_i (rest := []) ⟨hx, hb, hml, hown, hT⟩ (h_Model_node _ _ _ _ _ _ hc1) (cwV 2 hT (gV ml_Model_478 im_Model_node se_Model_node ini_Model co_Model_node) rfl rfl rfl pd_Model_node ⟨rm_hi, rm_lo (Nat.le_of_ble_eq_true rfl)⟩) hK hP hD hS hA hnw henv (Nat.le_of_ble_eq_true rfl) rfl rfl hl.1 rfl (Nat.le_of_ble_eq_true rfl) d_Model_readNew_4 ⟨Nat.le_refl _, Nat.le_refl _⟩ (fun H locs hP hD hS => ?_)
  clear hc1
  refine lv_istore_n (lv' := [(3, .int r1), (0, .ref (ad 0)), (1, .int p1), (2, .int p2)]) hx hb d_Model_readNew_7 rfl hl (by decide) rfl (fun ls hl => ?_)
  refine lv_aload_n hx hb d_Model_readNew_8 rfl (lv_at hl 1 rfl) ?_
  refine rd_Model_132 hx hb hT hown hK hP d_Model_readNew_9 ?_
  refine lv_iload_n hx hb d_Model_readNew_12 rfl (lv_at hl 0 rfl) ?_
  refine lv_aload_n hx hb d_Model_readNew_13 rfl (lv_at hl 1 rfl) ?_
  replace hR := bi_e hR
  obtain ⟨r2, l2, T2, hc2, hR⟩ := hR
  refine gcV_i (rest := [.int r1, .ref (ad 40)]) ⟨hx, hb, hml, hown, hT⟩ (h_Model_needRegion _ _ _ _ hc2) (cwV 0 hT (gV ml_Model_465 im_Model_needRegion se_Model_needRegion ini_Model co_Model_needRegion) rfl rfl rfl pd_Model_needRegion ⟨rm_hi, rm_lo (Nat.le_of_ble_eq_true rfl)⟩) hK hP hD hS hA hnw henv (Nat.le_of_ble_eq_true rfl) rfl rfl hl.1 rfl (Nat.le_of_ble_eq_true rfl) d_Model_readNew_14 ⟨Nat.le_refl _, Nat.le_refl _⟩ (fun H locs hP hD hS => ?_)
  clear hc2
  replace hR := gd_e hR
  obtain ⟨b3, hR⟩ := hR
  refine saM_39 hx hb hK hP hD hS b3 d_Model_readNew_17 (fun T3 eT H locs hP hD hS => ?_)
  replace hR := stK_e eT hR
  clear eT
  refine lv_aload_n hx hb d_Model_readNew_18 rfl (lv_at hl 1 rfl) ?_
  refine rd_Model_352 hx hb hT hown hK hP d_Model_readNew_19 ?_
  refine lv_iconst (v := 3) hx hb d_Model_readNew_22 (by decide) ?_
  refine lv_icmp_eq (tgt := 30) hx hb d_Model_readNew_23 (by decide) (fun c4 => ?_) (fun c4 => ?_)
  · replace hR := if_p c4 hR
    have g := lb_30 T3 p2 r1 hR
    rw [hG] at g
    exact g _ _ hP hD hS _ (lv_sub hl [1, 3, 0] rfl)
  · replace hR := if_n c4 hR
    refine lv_aload_n hx hb d_Model_readNew_26 rfl (lv_at hl 1 rfl) ?_
    replace hR := bi_e hR
    obtain ⟨r5, l5, T5, hc5, hR⟩ := hR
    refine gcV_v (rest := []) ⟨hx, hb, hml, hown, hT⟩ (h_Model_wrong _ _ _ _ hc5) (cwV 0 hT (gV ml_Model_406 im_Model_wrong se_Model_wrong ini_Model co_Model_wrong) rfl rfl rfl pd_Model_wrong ⟨rm_hi, rm_lo (Nat.le_of_ble_eq_true rfl)⟩) hK hP hD hS hA hnw henv (Nat.le_of_ble_eq_true rfl) rfl rfl hl.1 rfl (Nat.le_of_ble_eq_true rfl) d_Model_readNew_27 ⟨Nat.le_refl _, Nat.le_refl _⟩ (fun H locs hP hD hS => ?_)
    clear hc5
    have g := lb_30 T5 p2 r1 hR
    rw [hG] at g
    exact g _ _ hP hD hS _ (lv_sub hl [1, 3, 0] rfl)
set_option maxHeartbeats 4000000 in
set_option maxRecDepth 100000 in
theorem sp_Model_known (l : Launch) (dC : Nat → ClassId) (dI : Nat → Nat → Nat) (ea ev ad : Nat → Nat) (km : Nat → ClassId) (F : gF) (nf d : Nat) (T0 : gSt) (p1 : Int32) (p2 : Int32) (p3 : Int32) (p4 : Int32) (p5 : Int32) (r0 : Int32) (rl0 : Int64) (T9 : gSt) (hR : rb_Model_known F nf T0 p1 p2 p3 p4 p5 = some (r0, rl0, T9)) : GMi l dC dI LM ad km ea ev y_Model_known w_Model_known (rmD (d + 1)) [.ref (ad 0), .int p1, .int p2, .int p3, .int p4, .int p5] T0 r0 T9 := by
  intro sz
  refine Met.ofW (cc := b_Model_known) (maxL := 7) (ret := (some .int)) (by decide) rfl ?_
  intro p e s m args below meth c s₁ B hml hv
  obtain ⟨rfl, hsz, hP, hK, hD0, hnw, henv⟩ := hv
  have hx := B.exec
  have hb := B.bytes
  have hr := B.returns
  have hT : ∀ w ∈ lw_good, w.before _ s = true := fun w h => atoms_spec (ws := w_Model_known) B.pre w (List.mem_cons_of_mem _ h)
  have hown : s.vm.findClass R_Model = some m.cls := findClass_of_methodNamed B.named
  subst hsz
  have hD := hD0.self (sz := s.heap.size)
  clear hD0
  generalize hAe : va_A (gW LM ad km T0) s.heap.size = A at hD henv ⊢
  have hA : ∀ q : Nat, s.heap.size ≤ q → A q := fun q h => by rw [← hAe]; exact Or.inr h
  have hS : va_S A s.heap s.heap [] := va_S.rf
  have hl := lv_entry ([.ref (ad 0), .int p1, .int p2, .int p3, .int p4, .int p5]) (n := 7) (Nat.le_of_ble_eq_true rfl)
  rw [lg_entry_eq]
  generalize (lg_sl ([.ref (ad 0), .int p1, .int p2, .int p3, .int p4, .int p5]) ++ List.replicate (7 - (lg_sl ([.ref (ad 0), .int p1, .int p2, .int p3, .int p4, .int p5])).length) Slot.unset).toArray = ls at hl ⊢
  have hl : lv_has ls 7 [(0, .ref (ad 0)), (1, .int p1), (2, .int p2), (3, .int p3), (4, .int p4), (5, .int p5)] := hl
  obtain ⟨G, hG⟩ : ∃ G : Nat → List (Nat × Value) → List Value → gSt → Prop, G = (fun pc lv stk T => ∀ (H : Heap) (locs : List Loc), va_P (dC, dI) cls_all (gW LM ad km T) H → va_D A (gW LM ad km T) → va_S A s.heap H locs → ∀ (ls : Array Slot), lv_has ls 7 lv → W p l e (headSpec w_Model_known (rmD (d + 1))).room s m ([.ref (ad 0), .int p1, .int p2, .int p3, .int p4, .int p5] : List Value).toArray below meth c H locs 0 0 (MQ below (va_Qi (fun (z : Int32) (_ : Unit) => z = r0) (fun _ t => gPost dC dI LM ad km T9 A t) A) ([.ref (ad 0), .int p1, .int p2, .int p3, .int p4, .int p5] : List Value).toArray s 0 0 A) (F0 m pc ls stk)) := ⟨_, rfl⟩
  have lb_3 : ∀ (n : Nat) (T : gSt) (x1 : Int32) (x2 : Int32) (x3 : Int32) (x4 : Int32) (x5 : Int32) (x6 : Int32), rl_Model_known_3 F nf n T x1 x2 x3 x4 x5 x6 = some (r0, rl0, T9) → G 3 [(0, .ref (ad 0)), (1, .int x1), (2, .int x2), (3, .int x3), (4, .int x4), (5, .int x5), (6, .int x6)] [] T := by
    intro n
    induction n with
    | zero => intro T x1 x2 x3 x4 x5 x6 hR; rw [rl_Model_known_3] at hR; cases hR
    | succ n ih =>
      intro T x1 x2 x3 x4 x5 x6 hR; rw [rl_Model_known_3] at hR; rw [hG]; intro H locs hP hD hS ls hl
      refine lv_iload hx hb d_Model_known_3 (lv_at hl 6 rfl) ?_
      refine lv_aload_n hx hb d_Model_known_5 rfl (lv_at hl 0 rfl) ?_
      refine rd_Model_547 hx hb hT hown hK hP d_Model_known_6 ?_
      refine lv_icmp_ge (tgt := 78) hx hb d_Model_known_9 (by decide) (fun c1 => ?_) (fun c1 => ?_)
      · replace hR := if_p c1 hR
        refine lv_aload_n hx hb d_Model_known_78 rfl (lv_at hl 0 rfl) ?_
        refine rd_Model_156 hx hb hT hown hK hP d_Model_known_79 ?_
        refine lv_aload_n hx hb d_Model_known_82 rfl (lv_at hl 0 rfl) ?_
        refine rd_Model_547 hx hb hT hown hK hP d_Model_known_83 ?_
        refine lv_iload_n hx hb d_Model_known_86 rfl (lv_at hl 1 rfl) ?_
        replace hR := gd_e hR
        obtain ⟨b2, hR⟩ := hR
        refine saM_47 hx hb hK hP hD hS b2 d_Model_known_87 (fun T2 eT H locs hP hD hS => ?_)
        replace hR := stK_e eT hR
        clear eT
        refine lv_aload_n hx hb d_Model_known_88 rfl (lv_at hl 0 rfl) ?_
        refine rd_Model_159 hx hb hT hown hK hP d_Model_known_89 ?_
        refine lv_aload_n hx hb d_Model_known_92 rfl (lv_at hl 0 rfl) ?_
        refine rd_Model_547 hx hb hT hown hK hP d_Model_known_93 ?_
        refine lv_iload_n hx hb d_Model_known_96 rfl (lv_at hl 2 rfl) ?_
        replace hR := gd_e hR
        obtain ⟨b3, hR⟩ := hR
        refine saM_48 hx hb hK hP hD hS b3 d_Model_known_97 (fun T3 eT H locs hP hD hS => ?_)
        replace hR := stK_e eT hR
        clear eT
        refine lv_aload_n hx hb d_Model_known_98 rfl (lv_at hl 0 rfl) ?_
        refine rd_Model_162 hx hb hT hown hK hP d_Model_known_99 ?_
        refine lv_aload_n hx hb d_Model_known_102 rfl (lv_at hl 0 rfl) ?_
        refine rd_Model_547 hx hb hT hown hK hP d_Model_known_103 ?_
        refine lv_iload_n hx hb d_Model_known_106 rfl (lv_at hl 3 rfl) ?_
        replace hR := gd_e hR
        obtain ⟨b4, hR⟩ := hR
        refine saM_49 hx hb hK hP hD hS b4 d_Model_known_107 (fun T4 eT H locs hP hD hS => ?_)
        replace hR := stK_e eT hR
        clear eT
        refine lv_aload_n hx hb d_Model_known_108 rfl (lv_at hl 0 rfl) ?_
        refine rd_Model_165 hx hb hT hown hK hP d_Model_known_109 ?_
        refine lv_aload_n hx hb d_Model_known_112 rfl (lv_at hl 0 rfl) ?_
        refine rd_Model_547 hx hb hT hown hK hP d_Model_known_113 ?_
        refine lv_iload hx hb d_Model_known_116 (lv_at hl 4 rfl) ?_
        replace hR := gd_e hR
        obtain ⟨b5, hR⟩ := hR
        refine saM_50 hx hb hK hP hD hS b5 d_Model_known_118 (fun T5 eT H locs hP hD hS => ?_)
        replace hR := stK_e eT hR
        clear eT
        refine lv_aload_n hx hb d_Model_known_119 rfl (lv_at hl 0 rfl) ?_
        refine rd_Model_168 hx hb hT hown hK hP d_Model_known_120 ?_
        refine lv_aload_n hx hb d_Model_known_123 rfl (lv_at hl 0 rfl) ?_
        refine rd_Model_547 hx hb hT hown hK hP d_Model_known_124 ?_
        refine lv_iload hx hb d_Model_known_127 (lv_at hl 5 rfl) ?_
        replace hR := gd_e hR
        obtain ⟨b6, hR⟩ := hR
        refine saM_51 hx hb hK hP hD hS b6 d_Model_known_129 (fun T6 eT H locs hP hD hS => ?_)
        replace hR := stK_e eT hR
        clear eT
        refine lv_aload_n hx hb d_Model_known_130 rfl (lv_at hl 0 rfl) ?_
        refine lv_dup hx hb d_Model_known_131 rfl ?_
        refine rd_Model_547 hx hb hT hown hK hP d_Model_known_132 ?_
        refine lv_iconst (v := 1) hx hb d_Model_known_135 (by decide) ?_
        refine lv_iadd hx hb d_Model_known_136 ?_
        refine wr_Model_547 hx hb hT hown hK hP hD hS d_Model_known_137 (fun T7 eT H locs hP hD hS => ?_)
        replace hR := stK_e eT hR
        clear eT
        refine lv_aload_n hx hb d_Model_known_140 rfl (lv_at hl 0 rfl) ?_
        refine rd_Model_547 hx hb hT hown hK hP d_Model_known_141 ?_
        refine lv_iconst (v := 1) hx hb d_Model_known_144 (by decide) ?_
        refine lv_isub hx hb d_Model_known_145 ?_
        obtain ⟨e1, -, e3⟩ := re_e hR
        subst e1; subst e3
        exact W.iret (v := (T7.1 65 0) - (1 : Int32)) hx hb hr (fun t ht hW => ⟨⟨(T7.1 65 0) - (1 : Int32), (), rfl, rfl, by rw [ht]; exact hP, va_K.moved hW.alike hK, hD⟩, hS.F ht⟩) hS.2.2 d_Model_known_146
      · replace hR := if_n c1 hR
        refine lv_aload_n hx hb d_Model_known_12 rfl (lv_at hl 0 rfl) ?_
        refine rd_Model_156 hx hb hT hown hK hP d_Model_known_13 ?_
        refine lv_iload hx hb d_Model_known_16 (lv_at hl 6 rfl) ?_
        replace hR := gd_e hR
        obtain ⟨b9, hR⟩ := hR
        refine laM_47 hx hb hK hP b9 d_Model_known_18 ?_
        refine lv_iload_n hx hb d_Model_known_19 rfl (lv_at hl 1 rfl) ?_
        refine lv_icmp_ne (tgt := 72) hx hb d_Model_known_20 (by decide) (fun c10 => ?_) (fun c10 => ?_)
        · replace hR := if_n c10 hR
          obtain ⟨z11, e11⟩ : ∃ y : Int32, y = x6 + (1 : Int32) := ⟨_, rfl⟩
          replace hR := vK_e e11 hR
          refine lv_iinc (v := z11) (lv' := [(6, .int z11), (0, .ref (ad 0)), (1, .int x1), (2, .int x2), (3, .int x3), (4, .int x4), (5, .int x5)]) hx hb d_Model_known_72 hl (k := 6) rfl (by rw [e11]; rfl) (by decide) rfl (fun ls hl => ?_)
          refine lv_goto (tgt := 3) hx hb d_Model_known_75 (by decide) ?_
          have g := ih T x1 x2 x3 x4 x5 z11 hR
          rw [hG] at g
          exact g _ _ hP hD hS _ (lv_sub hl [1, 2, 3, 4, 5, 6, 0] rfl)
        · replace hR := if_p c10 hR
          refine lv_aload_n hx hb d_Model_known_23 rfl (lv_at hl 0 rfl) ?_
          refine rd_Model_159 hx hb hT hown hK hP d_Model_known_24 ?_
          refine lv_iload hx hb d_Model_known_27 (lv_at hl 6 rfl) ?_
          replace hR := gd_e hR
          obtain ⟨b12, hR⟩ := hR
          refine laM_48 hx hb hK hP b12 d_Model_known_29 ?_
          refine lv_iload_n hx hb d_Model_known_30 rfl (lv_at hl 2 rfl) ?_
          refine lv_icmp_ne (tgt := 72) hx hb d_Model_known_31 (by decide) (fun c13 => ?_) (fun c13 => ?_)
          · replace hR := if_n c13 hR
            obtain ⟨z14, e14⟩ : ∃ y : Int32, y = x6 + (1 : Int32) := ⟨_, rfl⟩
            replace hR := vK_e e14 hR
            refine lv_iinc (v := z14) (lv' := [(6, .int z14), (0, .ref (ad 0)), (1, .int x1), (2, .int x2), (3, .int x3), (4, .int x4), (5, .int x5)]) hx hb d_Model_known_72 hl (k := 6) rfl (by rw [e14]; rfl) (by decide) rfl (fun ls hl => ?_)
            refine lv_goto (tgt := 3) hx hb d_Model_known_75 (by decide) ?_
            have g := ih T x1 x2 x3 x4 x5 z14 hR
            rw [hG] at g
            exact g _ _ hP hD hS _ (lv_sub hl [1, 2, 3, 4, 5, 6, 0] rfl)
          · replace hR := if_p c13 hR
            refine lv_aload_n hx hb d_Model_known_34 rfl (lv_at hl 0 rfl) ?_
            refine rd_Model_162 hx hb hT hown hK hP d_Model_known_35 ?_
            refine lv_iload hx hb d_Model_known_38 (lv_at hl 6 rfl) ?_
            replace hR := gd_e hR
            obtain ⟨b15, hR⟩ := hR
            refine laM_49 hx hb hK hP b15 d_Model_known_40 ?_
            refine lv_iload_n hx hb d_Model_known_41 rfl (lv_at hl 3 rfl) ?_
            refine lv_icmp_ne (tgt := 72) hx hb d_Model_known_42 (by decide) (fun c16 => ?_) (fun c16 => ?_)
            · replace hR := if_n c16 hR
              obtain ⟨z17, e17⟩ : ∃ y : Int32, y = x6 + (1 : Int32) := ⟨_, rfl⟩
              replace hR := vK_e e17 hR
              refine lv_iinc (v := z17) (lv' := [(6, .int z17), (0, .ref (ad 0)), (1, .int x1), (2, .int x2), (3, .int x3), (4, .int x4), (5, .int x5)]) hx hb d_Model_known_72 hl (k := 6) rfl (by rw [e17]; rfl) (by decide) rfl (fun ls hl => ?_)
              refine lv_goto (tgt := 3) hx hb d_Model_known_75 (by decide) ?_
              have g := ih T x1 x2 x3 x4 x5 z17 hR
              rw [hG] at g
              exact g _ _ hP hD hS _ (lv_sub hl [1, 2, 3, 4, 5, 6, 0] rfl)
            · replace hR := if_p c16 hR
              refine lv_aload_n hx hb d_Model_known_45 rfl (lv_at hl 0 rfl) ?_
              refine rd_Model_165 hx hb hT hown hK hP d_Model_known_46 ?_
              refine lv_iload hx hb d_Model_known_49 (lv_at hl 6 rfl) ?_
              replace hR := gd_e hR
              obtain ⟨b18, hR⟩ := hR
              refine laM_50 hx hb hK hP b18 d_Model_known_51 ?_
              refine lv_iload hx hb d_Model_known_52 (lv_at hl 4 rfl) ?_
              refine lv_icmp_ne (tgt := 72) hx hb d_Model_known_54 (by decide) (fun c19 => ?_) (fun c19 => ?_)
              · replace hR := if_n c19 hR
                obtain ⟨z20, e20⟩ : ∃ y : Int32, y = x6 + (1 : Int32) := ⟨_, rfl⟩
                replace hR := vK_e e20 hR
                refine lv_iinc (v := z20) (lv' := [(6, .int z20), (0, .ref (ad 0)), (1, .int x1), (2, .int x2), (3, .int x3), (4, .int x4), (5, .int x5)]) hx hb d_Model_known_72 hl (k := 6) rfl (by rw [e20]; rfl) (by decide) rfl (fun ls hl => ?_)
                refine lv_goto (tgt := 3) hx hb d_Model_known_75 (by decide) ?_
                have g := ih T x1 x2 x3 x4 x5 z20 hR
                rw [hG] at g
                exact g _ _ hP hD hS _ (lv_sub hl [1, 2, 3, 4, 5, 6, 0] rfl)
              · replace hR := if_p c19 hR
                refine lv_aload_n hx hb d_Model_known_57 rfl (lv_at hl 0 rfl) ?_
                refine rd_Model_168 hx hb hT hown hK hP d_Model_known_58 ?_
                refine lv_iload hx hb d_Model_known_61 (lv_at hl 6 rfl) ?_
                replace hR := gd_e hR
                obtain ⟨b21, hR⟩ := hR
                refine laM_51 hx hb hK hP b21 d_Model_known_63 ?_
                refine lv_iload hx hb d_Model_known_64 (lv_at hl 5 rfl) ?_
                refine lv_icmp_ne (tgt := 72) hx hb d_Model_known_66 (by decide) (fun c22 => ?_) (fun c22 => ?_)
                · replace hR := if_n c22 hR
                  obtain ⟨z23, e23⟩ : ∃ y : Int32, y = x6 + (1 : Int32) := ⟨_, rfl⟩
                  replace hR := vK_e e23 hR
                  refine lv_iinc (v := z23) (lv' := [(6, .int z23), (0, .ref (ad 0)), (1, .int x1), (2, .int x2), (3, .int x3), (4, .int x4), (5, .int x5)]) hx hb d_Model_known_72 hl (k := 6) rfl (by rw [e23]; rfl) (by decide) rfl (fun ls hl => ?_)
                  refine lv_goto (tgt := 3) hx hb d_Model_known_75 (by decide) ?_
                  have g := ih T x1 x2 x3 x4 x5 z23 hR
                  rw [hG] at g
                  exact g _ _ hP hD hS _ (lv_sub hl [1, 2, 3, 4, 5, 6, 0] rfl)
                · replace hR := if_p c22 hR
                  refine lv_iload hx hb d_Model_known_69 (lv_at hl 6 rfl) ?_
                  obtain ⟨e1, -, e3⟩ := re_e hR
                  subst e1; subst e3
                  exact W.iret (v := x6) hx hb hr (fun t ht hW => ⟨⟨x6, (), rfl, rfl, by rw [ht]; exact hP, va_K.moved hW.alike hK, hD⟩, hS.F ht⟩) hS.2.2 d_Model_known_71
  unfold rb_Model_known at hR
  refine lv_iconst (v := 1) hx hb d_Model_known_0 (by decide) ?_
  refine lv_istore (lv' := [(6, .int (1 : Int32)), (0, .ref (ad 0)), (1, .int p1), (2, .int p2), (3, .int p3), (4, .int p4), (5, .int p5)]) hx hb d_Model_known_1 hl (by decide) rfl (fun ls hl => ?_)
  have g := lb_3 nf T0 p1 p2 p3 p4 p5 (1 : Int32) hR
  rw [hG] at g
  exact g _ _ hP hD hS _ (lv_sub hl [1, 2, 3, 4, 5, 6, 0] rfl)
set_option maxHeartbeats 4000000 in
set_option maxRecDepth 100000 in
theorem sp_Model_part (l : Launch) (dC : Nat → ClassId) (dI : Nat → Nat → Nat) (ea ev ad : Nat → Nat) (km : Nat → ClassId) (F : gF) (nf d : Nat) (T0 : gSt) (p1 : Int32) (p2 : Int32) (r0 : Int32) (rl0 : Int64) (T9 : gSt) (hR : rb_Model_part F nf T0 p1 p2 = some (r0, rl0, T9)) : GMi l dC dI LM ad km ea ev y_Model_part w_Model_part (rmD (d + 1)) [.int p1, .int p2] T0 r0 T9 := by
  intro sz
  refine Met.ofW (cc := b_Model_part) (maxL := 2) (ret := (some .int)) (by decide) rfl ?_
  intro p e s m args below meth c s₁ B hml hv
  obtain ⟨rfl, hsz, hP, hK, hD0, hnw, henv⟩ := hv
  have hx := B.exec
  have hb := B.bytes
  have hr := B.returns
  have hT : ∀ w ∈ lw_good, w.before _ s = true := fun w h => atoms_spec (ws := w_Model_part) B.pre w (List.mem_cons_of_mem _ h)
  have hown : s.vm.findClass R_Model = some m.cls := findClass_of_methodNamed B.named
  subst hsz
  have hD := hD0.self (sz := s.heap.size)
  clear hD0
  generalize hAe : va_A (gW LM ad km T0) s.heap.size = A at hD henv ⊢
  have hA : ∀ q : Nat, s.heap.size ≤ q → A q := fun q h => by rw [← hAe]; exact Or.inr h
  have hS : va_S A s.heap s.heap [] := va_S.rf
  have hl := lv_entry ([.int p1, .int p2]) (n := 2) (Nat.le_of_ble_eq_true rfl)
  rw [lg_entry_eq]
  generalize (lg_sl ([.int p1, .int p2]) ++ List.replicate (2 - (lg_sl ([.int p1, .int p2])).length) Slot.unset).toArray = ls at hl ⊢
  have hl : lv_has ls 2 [(0, .int p1), (1, .int p2)] := hl
  unfold rb_Model_part at hR
  refine lv_iload_n hx hb d_Model_part_0 rfl (lv_at hl 0 rfl) ?_
  refine lv_bipush (v := 10) hx hb d_Model_part_1 (by decide) ?_
  refine lv_iload_n hx hb d_Model_part_3 rfl (lv_at hl 1 rfl) ?_
  refine lv_imul hx hb d_Model_part_4 ?_
  refine lv_ishr hx hb d_Model_part_5 ?_
  refine lv_sipush (v := 1023) hx hb d_Model_part_6 (by decide) ?_
  refine lv_iand hx hb d_Model_part_9 ?_
  obtain ⟨e1, -, e3⟩ := re_e hR
  subst e1; subst e3
  exact W.iret (v := (p1 >>> (((10 : Int32) * p2) &&& 31)) &&& (1023 : Int32)) hx hb hr (fun t ht hW => ⟨⟨(p1 >>> (((10 : Int32) * p2) &&& 31)) &&& (1023 : Int32), (), rfl, rfl, by rw [ht]; exact hP, va_K.moved hW.alike hK, hD⟩, hS.F ht⟩) hS.2.2 d_Model_part_10
