abbrev b_Parser_parseParameters : ByteArray := prog_8_method_12_code
abbrev y_Parser_parseParameters : MethodName := ⟨R_Parser, "parseParameters", "(I)V"⟩
theorem co_Parser_parseParameters : Cond.code y_Parser_parseParameters b_Parser_parseParameters 4 none ∈ lw_good := lg_in (tin_4 _ (List.mem_of_getElem? (i := 189) rfl)) rfl
abbrev w_Parser_parseParameters : List Cond := Cond.code y_Parser_parseParameters b_Parser_parseParameters 4 none :: lw_good
theorem im_Parser_parseParameters : Cond.instanceMethod y_Parser_parseParameters ∈ lw_good := lg_right (i := 908) (by decide +kernel) rfl
theorem se_Parser_parseParameters : Cond.selects R_Parser y_Parser_parseParameters y_Parser_parseParameters ∈ lw_good := lg_left (i := 14) (by decide +kernel) rfl
theorem d_Parser_parseParameters_0 : decode b_Parser_parseParameters 0 = .ok (.aload_n 0, 1) := by decide +kernel
theorem d_Parser_parseParameters_1 : decode b_Parser_parseParameters 1 = .ok (.getfield 33, 3) := by decide +kernel
theorem d_Parser_parseParameters_4 : decode b_Parser_parseParameters 4 = .ok (.bipush 43, 2) := by decide +kernel
theorem d_Parser_parseParameters_6 : decode b_Parser_parseParameters 6 = .ok (.if_icmp .eq 7, 3) := by decide +kernel
theorem d_Parser_parseParameters_9 : decode b_Parser_parseParameters 9 = .ok (.iconst 1, 1) := by decide +kernel
theorem d_Parser_parseParameters_10 : decode b_Parser_parseParameters 10 = .ok (.goto 4, 3) := by decide +kernel
theorem d_Parser_parseParameters_13 : decode b_Parser_parseParameters 13 = .ok (.iconst 0, 1) := by decide +kernel
theorem d_Parser_parseParameters_14 : decode b_Parser_parseParameters 14 = .ok (.istore_n 2, 1) := by decide +kernel
theorem d_Parser_parseParameters_15 : decode b_Parser_parseParameters 15 = .ok (.iconst 0, 1) := by decide +kernel
theorem d_Parser_parseParameters_16 : decode b_Parser_parseParameters 16 = .ok (.istore_n 3, 1) := by decide +kernel
theorem d_Parser_parseParameters_17 : decode b_Parser_parseParameters 17 = .ok (.iload_n 3, 1) := by decide +kernel
theorem d_Parser_parseParameters_18 : decode b_Parser_parseParameters 18 = .ok (.bipush 6, 2) := by decide +kernel
theorem d_Parser_parseParameters_20 : decode b_Parser_parseParameters 20 = .ok (.if_icmp .gt 45, 3) := by decide +kernel
theorem d_Parser_parseParameters_23 : decode b_Parser_parseParameters 23 = .ok (.iload_n 2, 1) := by decide +kernel
theorem d_Parser_parseParameters_24 : decode b_Parser_parseParameters 24 = .ok (.ifCond .eq 41, 3) := by decide +kernel
theorem d_Parser_parseParameters_27 : decode b_Parser_parseParameters 27 = .ok (.iload_n 3, 1) := by decide +kernel
theorem d_Parser_parseParameters_28 : decode b_Parser_parseParameters 28 = .ok (.bipush 6, 2) := by decide +kernel
theorem d_Parser_parseParameters_30 : decode b_Parser_parseParameters 30 = .ok (.if_icmp .ne 7, 3) := by decide +kernel
theorem d_Parser_parseParameters_33 : decode b_Parser_parseParameters 33 = .ok (.aload_n 0, 1) := by decide +kernel
theorem d_Parser_parseParameters_34 : decode b_Parser_parseParameters 34 = .ok (.invokevirtual 62, 3) := by decide +kernel
theorem d_Parser_parseParameters_37 : decode b_Parser_parseParameters 37 = .ok (.aload_n 0, 1) := by decide +kernel
theorem d_Parser_parseParameters_38 : decode b_Parser_parseParameters 38 = .ok (.dup, 1) := by decide +kernel
theorem d_Parser_parseParameters_39 : decode b_Parser_parseParameters 39 = .ok (.getfield 116, 3) := by decide +kernel
theorem d_Parser_parseParameters_42 : decode b_Parser_parseParameters 42 = .ok (.iconst 1, 1) := by decide +kernel
theorem d_Parser_parseParameters_43 : decode b_Parser_parseParameters 43 = .ok (.iadd, 1) := by decide +kernel
theorem d_Parser_parseParameters_44 : decode b_Parser_parseParameters 44 = .ok (.putfield 116, 3) := by decide +kernel
theorem d_Parser_parseParameters_47 : decode b_Parser_parseParameters 47 = .ok (.aload_n 0, 1) := by decide +kernel
theorem d_Parser_parseParameters_48 : decode b_Parser_parseParameters 48 = .ok (.iload_n 1, 1) := by decide +kernel
theorem d_Parser_parseParameters_49 : decode b_Parser_parseParameters 49 = .ok (.invokevirtual 106, 3) := by decide +kernel
theorem d_Parser_parseParameters_52 : decode b_Parser_parseParameters 52 = .ok (.aload_n 0, 1) := by decide +kernel
theorem d_Parser_parseParameters_53 : decode b_Parser_parseParameters 53 = .ok (.bipush 47, 2) := by decide +kernel
theorem d_Parser_parseParameters_55 : decode b_Parser_parseParameters 55 = .ok (.invokevirtual 125, 3) := by decide +kernel
theorem d_Parser_parseParameters_58 : decode b_Parser_parseParameters 58 = .ok (.istore_n 2, 1) := by decide +kernel
theorem d_Parser_parseParameters_59 : decode b_Parser_parseParameters 59 = .ok (.iinc 3 1, 3) := by decide +kernel
theorem d_Parser_parseParameters_62 : decode b_Parser_parseParameters 62 = .ok (.goto (-45), 3) := by decide +kernel
theorem d_Parser_parseParameters_65 : decode b_Parser_parseParameters 65 = .ok (.aload_n 0, 1) := by decide +kernel
theorem d_Parser_parseParameters_66 : decode b_Parser_parseParameters 66 = .ok (.bipush 43, 2) := by decide +kernel
theorem d_Parser_parseParameters_68 : decode b_Parser_parseParameters 68 = .ok (.invokevirtual 85, 3) := by decide +kernel
theorem d_Parser_parseParameters_71 : decode b_Parser_parseParameters 71 = .ok (.return_, 1) := by decide +kernel
abbrev b_Parser_parseWhere : ByteArray := prog_8_method_13_code
abbrev y_Parser_parseWhere : MethodName := ⟨R_Parser, "parseWhere", "()V"⟩
theorem co_Parser_parseWhere : Cond.code y_Parser_parseWhere b_Parser_parseWhere 3 none ∈ lw_good := lg_in (tin_4 _ (List.mem_of_getElem? (i := 209) rfl)) rfl
abbrev w_Parser_parseWhere : List Cond := Cond.code y_Parser_parseWhere b_Parser_parseWhere 3 none :: lw_good
theorem im_Parser_parseWhere : Cond.instanceMethod y_Parser_parseWhere ∈ lw_good := lg_right (i := 928) (by decide +kernel) rfl
theorem se_Parser_parseWhere : Cond.selects R_Parser y_Parser_parseWhere y_Parser_parseWhere ∈ lw_good := lg_left (i := 18) (by decide +kernel) rfl
theorem d_Parser_parseWhere_0 : decode b_Parser_parseWhere 0 = .ok (.iconst 1, 1) := by decide +kernel
theorem d_Parser_parseWhere_1 : decode b_Parser_parseWhere 1 = .ok (.istore_n 1, 1) := by decide +kernel
theorem d_Parser_parseWhere_2 : decode b_Parser_parseWhere 2 = .ok (.iconst 0, 1) := by decide +kernel
theorem d_Parser_parseWhere_3 : decode b_Parser_parseWhere 3 = .ok (.istore_n 2, 1) := by decide +kernel
theorem d_Parser_parseWhere_4 : decode b_Parser_parseWhere 4 = .ok (.iload_n 2, 1) := by decide +kernel
theorem d_Parser_parseWhere_5 : decode b_Parser_parseWhere 5 = .ok (.iconst 3, 1) := by decide +kernel
theorem d_Parser_parseWhere_6 : decode b_Parser_parseWhere 6 = .ok (.if_icmp .gt 45, 3) := by decide +kernel
theorem d_Parser_parseWhere_9 : decode b_Parser_parseWhere 9 = .ok (.iload_n 1, 1) := by decide +kernel
theorem d_Parser_parseWhere_10 : decode b_Parser_parseWhere 10 = .ok (.ifCond .eq 41, 3) := by decide +kernel
theorem d_Parser_parseWhere_13 : decode b_Parser_parseWhere 13 = .ok (.iload_n 2, 1) := by decide +kernel
theorem d_Parser_parseWhere_14 : decode b_Parser_parseWhere 14 = .ok (.iconst 3, 1) := by decide +kernel
theorem d_Parser_parseWhere_15 : decode b_Parser_parseWhere 15 = .ok (.if_icmp .ne 7, 3) := by decide +kernel
theorem d_Parser_parseWhere_18 : decode b_Parser_parseWhere 18 = .ok (.aload_n 0, 1) := by decide +kernel
theorem d_Parser_parseWhere_19 : decode b_Parser_parseWhere 19 = .ok (.invokevirtual 62, 3) := by decide +kernel
theorem d_Parser_parseWhere_22 : decode b_Parser_parseWhere 22 = .ok (.aload_n 0, 1) := by decide +kernel
theorem d_Parser_parseWhere_23 : decode b_Parser_parseWhere 23 = .ok (.iconst 4, 1) := by decide +kernel
theorem d_Parser_parseWhere_24 : decode b_Parser_parseWhere 24 = .ok (.invokevirtual 85, 3) := by decide +kernel
theorem d_Parser_parseWhere_27 : decode b_Parser_parseWhere 27 = .ok (.aload_n 0, 1) := by decide +kernel
theorem d_Parser_parseWhere_28 : decode b_Parser_parseWhere 28 = .ok (.bipush 52, 2) := by decide +kernel
theorem d_Parser_parseWhere_30 : decode b_Parser_parseWhere 30 = .ok (.invokevirtual 85, 3) := by decide +kernel
theorem d_Parser_parseWhere_33 : decode b_Parser_parseWhere 33 = .ok (.aload_n 0, 1) := by decide +kernel
theorem d_Parser_parseWhere_34 : decode b_Parser_parseWhere 34 = .ok (.iconst 4, 1) := by decide +kernel
theorem d_Parser_parseWhere_35 : decode b_Parser_parseWhere 35 = .ok (.invokevirtual 85, 3) := by decide +kernel
theorem d_Parser_parseWhere_38 : decode b_Parser_parseWhere 38 = .ok (.aload_n 0, 1) := by decide +kernel
theorem d_Parser_parseWhere_39 : decode b_Parser_parseWhere 39 = .ok (.bipush 47, 2) := by decide +kernel
theorem d_Parser_parseWhere_41 : decode b_Parser_parseWhere 41 = .ok (.invokevirtual 125, 3) := by decide +kernel
theorem d_Parser_parseWhere_44 : decode b_Parser_parseWhere 44 = .ok (.istore_n 1, 1) := by decide +kernel
theorem d_Parser_parseWhere_45 : decode b_Parser_parseWhere 45 = .ok (.iinc 2 1, 3) := by decide +kernel
theorem d_Parser_parseWhere_48 : decode b_Parser_parseWhere 48 = .ok (.goto (-44), 3) := by decide +kernel
theorem d_Parser_parseWhere_51 : decode b_Parser_parseWhere 51 = .ok (.return_, 1) := by decide +kernel
abbrev b_Parser_parseBlock : ByteArray := prog_8_method_15_code
abbrev y_Parser_parseBlock : MethodName := ⟨R_Parser, "parseBlock", "(I)I"⟩
theorem co_Parser_parseBlock : Cond.code y_Parser_parseBlock b_Parser_parseBlock 6 (some .int) ∈ lw_good := lg_in (tin_4 _ (List.mem_of_getElem? (i := 213) rfl)) rfl
abbrev w_Parser_parseBlock : List Cond := Cond.code y_Parser_parseBlock b_Parser_parseBlock 6 (some .int) :: lw_good
theorem im_Parser_parseBlock : Cond.instanceMethod y_Parser_parseBlock ∈ lw_good := lg_right (i := 932) (by decide +kernel) rfl
theorem se_Parser_parseBlock : Cond.selects R_Parser y_Parser_parseBlock y_Parser_parseBlock ∈ lw_good := lg_left (i := 19) (by decide +kernel) rfl
theorem d_Parser_parseBlock_0 : decode b_Parser_parseBlock 0 = .ok (.iload_n 1, 1) := by decide +kernel
theorem d_Parser_parseBlock_1 : decode b_Parser_parseBlock 1 = .ok (.bipush 20, 2) := by decide +kernel
theorem d_Parser_parseBlock_3 : decode b_Parser_parseBlock 3 = .ok (.if_icmp .le 9, 3) := by decide +kernel
theorem d_Parser_parseBlock_6 : decode b_Parser_parseBlock 6 = .ok (.aload_n 0, 1) := by decide +kernel
theorem d_Parser_parseBlock_7 : decode b_Parser_parseBlock 7 = .ok (.invokevirtual 62, 3) := by decide +kernel
theorem d_Parser_parseBlock_10 : decode b_Parser_parseBlock 10 = .ok (.iconst 0, 1) := by decide +kernel
theorem d_Parser_parseBlock_11 : decode b_Parser_parseBlock 11 = .ok (.ireturn, 1) := by decide +kernel
theorem d_Parser_parseBlock_12 : decode b_Parser_parseBlock 12 = .ok (.aload_n 0, 1) := by decide +kernel
theorem d_Parser_parseBlock_13 : decode b_Parser_parseBlock 13 = .ok (.bipush 40, 2) := by decide +kernel
theorem d_Parser_parseBlock_15 : decode b_Parser_parseBlock 15 = .ok (.invokevirtual 85, 3) := by decide +kernel
theorem d_Parser_parseBlock_18 : decode b_Parser_parseBlock 18 = .ok (.iconst 0, 1) := by decide +kernel
theorem d_Parser_parseBlock_19 : decode b_Parser_parseBlock 19 = .ok (.istore_n 2, 1) := by decide +kernel
theorem d_Parser_parseBlock_20 : decode b_Parser_parseBlock 20 = .ok (.iconst 0, 1) := by decide +kernel
theorem d_Parser_parseBlock_21 : decode b_Parser_parseBlock 21 = .ok (.istore_n 3, 1) := by decide +kernel
theorem d_Parser_parseBlock_22 : decode b_Parser_parseBlock 22 = .ok (.iconst 0, 1) := by decide +kernel
theorem d_Parser_parseBlock_23 : decode b_Parser_parseBlock 23 = .ok (.istore 4, 2) := by decide +kernel
theorem d_Parser_parseBlock_25 : decode b_Parser_parseBlock 25 = .ok (.iload 4, 2) := by decide +kernel
theorem d_Parser_parseBlock_27 : decode b_Parser_parseBlock 27 = .ok (.sipush 4000, 3) := by decide +kernel
theorem d_Parser_parseBlock_30 : decode b_Parser_parseBlock 30 = .ok (.if_icmp .ge 56, 3) := by decide +kernel
theorem d_Parser_parseBlock_33 : decode b_Parser_parseBlock 33 = .ok (.aload_n 0, 1) := by decide +kernel
theorem d_Parser_parseBlock_34 : decode b_Parser_parseBlock 34 = .ok (.getfield 36, 3) := by decide +kernel
theorem d_Parser_parseBlock_37 : decode b_Parser_parseBlock 37 = .ok (.ifCond .ne 49, 3) := by decide +kernel
theorem d_Parser_parseBlock_40 : decode b_Parser_parseBlock 40 = .ok (.aload_n 0, 1) := by decide +kernel
theorem d_Parser_parseBlock_41 : decode b_Parser_parseBlock 41 = .ok (.getfield 33, 3) := by decide +kernel
theorem d_Parser_parseBlock_44 : decode b_Parser_parseBlock 44 = .ok (.bipush 41, 2) := by decide +kernel
theorem d_Parser_parseBlock_46 : decode b_Parser_parseBlock 46 = .ok (.if_icmp .eq 40, 3) := by decide +kernel
theorem d_Parser_parseBlock_49 : decode b_Parser_parseBlock 49 = .ok (.aload_n 0, 1) := by decide +kernel
theorem d_Parser_parseBlock_50 : decode b_Parser_parseBlock 50 = .ok (.iload_n 1, 1) := by decide +kernel
theorem d_Parser_parseBlock_51 : decode b_Parser_parseBlock 51 = .ok (.invokevirtual 141, 3) := by decide +kernel
theorem ml_Parser_141 : Cond.methodLink R_Parser 141 ⟨"PointerHouse$Parser", "parseStep", "(I)I"⟩ ∈ lw_good := lg_right (i := 934) (by decide +kernel) rfl
theorem d_Parser_parseBlock_54 : decode b_Parser_parseBlock 54 = .ok (.istore 5, 2) := by decide +kernel
theorem d_Parser_parseBlock_56 : decode b_Parser_parseBlock 56 = .ok (.iload_n 3, 1) := by decide +kernel
theorem d_Parser_parseBlock_57 : decode b_Parser_parseBlock 57 = .ok (.ifCond .ne 9, 3) := by decide +kernel
theorem d_Parser_parseBlock_60 : decode b_Parser_parseBlock 60 = .ok (.iload 5, 2) := by decide +kernel
theorem d_Parser_parseBlock_62 : decode b_Parser_parseBlock 62 = .ok (.istore_n 2, 1) := by decide +kernel
theorem d_Parser_parseBlock_63 : decode b_Parser_parseBlock 63 = .ok (.goto 14, 3) := by decide +kernel
theorem d_Parser_parseBlock_66 : decode b_Parser_parseBlock 66 = .ok (.aload_n 0, 1) := by decide +kernel
theorem d_Parser_parseBlock_67 : decode b_Parser_parseBlock 67 = .ok (.getfield 9, 3) := by decide +kernel
theorem d_Parser_parseBlock_70 : decode b_Parser_parseBlock 70 = .ok (.getfield 144, 3) := by decide +kernel
theorem fl_Parser_144 : Cond.fieldLink R_Parser 144 "PointerHouse$Source" "next" "[I" ∈ lw_good := lg_right (i := 202) (by decide +kernel) rfl
theorem d_Parser_parseBlock_73 : decode b_Parser_parseBlock 73 = .ok (.iload_n 3, 1) := by decide +kernel
theorem d_Parser_parseBlock_74 : decode b_Parser_parseBlock 74 = .ok (.iload 5, 2) := by decide +kernel
theorem d_Parser_parseBlock_76 : decode b_Parser_parseBlock 76 = .ok (.iastore, 1) := by decide +kernel
theorem d_Parser_parseBlock_77 : decode b_Parser_parseBlock 77 = .ok (.iload 5, 2) := by decide +kernel
theorem d_Parser_parseBlock_79 : decode b_Parser_parseBlock 79 = .ok (.istore_n 3, 1) := by decide +kernel
theorem d_Parser_parseBlock_80 : decode b_Parser_parseBlock 80 = .ok (.iinc 4 1, 3) := by decide +kernel
theorem d_Parser_parseBlock_83 : decode b_Parser_parseBlock 83 = .ok (.goto (-58), 3) := by decide +kernel
theorem d_Parser_parseBlock_86 : decode b_Parser_parseBlock 86 = .ok (.aload_n 0, 1) := by decide +kernel
theorem d_Parser_parseBlock_87 : decode b_Parser_parseBlock 87 = .ok (.bipush 41, 2) := by decide +kernel
theorem d_Parser_parseBlock_89 : decode b_Parser_parseBlock 89 = .ok (.invokevirtual 85, 3) := by decide +kernel
theorem d_Parser_parseBlock_92 : decode b_Parser_parseBlock 92 = .ok (.iload_n 2, 1) := by decide +kernel
theorem d_Parser_parseBlock_93 : decode b_Parser_parseBlock 93 = .ok (.ireturn, 1) := by decide +kernel
abbrev b_Parser_parseStep : ByteArray := prog_8_method_16_code
abbrev y_Parser_parseStep : MethodName := ⟨R_Parser, "parseStep", "(I)I"⟩
theorem co_Parser_parseStep : Cond.code y_Parser_parseStep b_Parser_parseStep 3 (some .int) ∈ lw_good := lg_in (tin_4 _ (List.mem_of_getElem? (i := 217) rfl)) rfl
abbrev w_Parser_parseStep : List Cond := Cond.code y_Parser_parseStep b_Parser_parseStep 3 (some .int) :: lw_good
theorem im_Parser_parseStep : Cond.instanceMethod y_Parser_parseStep ∈ lw_good := lg_right (i := 936) (by decide +kernel) rfl
theorem se_Parser_parseStep : Cond.selects R_Parser y_Parser_parseStep y_Parser_parseStep ∈ lw_good := lg_left (i := 20) (by decide +kernel) rfl
theorem d_Parser_parseStep_0 : decode b_Parser_parseStep 0 = .ok (.aload_n 0, 1) := by decide +kernel
theorem d_Parser_parseStep_1 : decode b_Parser_parseStep 1 = .ok (.getfield 33, 3) := by decide +kernel
theorem d_Parser_parseStep_4 : decode b_Parser_parseStep 4 = .ok (.istore_n 2, 1) := by decide +kernel
theorem d_Parser_parseStep_5 : decode b_Parser_parseStep 5 = .ok (.iload_n 2, 1) := by decide +kernel
theorem d_Parser_parseStep_6 : decode b_Parser_parseStep 6 = .ok (.tableswitch 91 15 25 #[58, 64, 91, 64, 84, 84, 71, 71, 78, 91, 84], 58) := by decide +kernel
theorem d_Parser_parseStep_64 : decode b_Parser_parseStep 64 = .ok (.aload_n 0, 1) := by decide +kernel
theorem d_Parser_parseStep_65 : decode b_Parser_parseStep 65 = .ok (.iload_n 1, 1) := by decide +kernel
theorem d_Parser_parseStep_66 : decode b_Parser_parseStep 66 = .ok (.invokevirtual 147, 3) := by decide +kernel
theorem ml_Parser_147 : Cond.methodLink R_Parser 147 ⟨"PointerHouse$Parser", "parseVar", "(I)I"⟩ ∈ lw_good := lg_right (i := 938) (by decide +kernel) rfl
theorem d_Parser_parseStep_69 : decode b_Parser_parseStep 69 = .ok (.ireturn, 1) := by decide +kernel
theorem d_Parser_parseStep_70 : decode b_Parser_parseStep 70 = .ok (.aload_n 0, 1) := by decide +kernel
theorem d_Parser_parseStep_71 : decode b_Parser_parseStep 71 = .ok (.iload_n 2, 1) := by decide +kernel
theorem d_Parser_parseStep_72 : decode b_Parser_parseStep 72 = .ok (.iload_n 1, 1) := by decide +kernel
theorem d_Parser_parseStep_73 : decode b_Parser_parseStep 73 = .ok (.invokevirtual 150, 3) := by decide +kernel
theorem ml_Parser_150 : Cond.methodLink R_Parser 150 ⟨"PointerHouse$Parser", "parseChoice", "(II)I"⟩ ∈ lw_good := lg_right (i := 975) (by decide +kernel) rfl
theorem d_Parser_parseStep_76 : decode b_Parser_parseStep 76 = .ok (.ireturn, 1) := by decide +kernel
theorem d_Parser_parseStep_77 : decode b_Parser_parseStep 77 = .ok (.aload_n 0, 1) := by decide +kernel
theorem d_Parser_parseStep_78 : decode b_Parser_parseStep 78 = .ok (.iload_n 2, 1) := by decide +kernel
theorem d_Parser_parseStep_79 : decode b_Parser_parseStep 79 = .ok (.iload_n 1, 1) := by decide +kernel
theorem d_Parser_parseStep_80 : decode b_Parser_parseStep 80 = .ok (.invokevirtual 154, 3) := by decide +kernel
theorem ml_Parser_154 : Cond.methodLink R_Parser 154 ⟨"PointerHouse$Parser", "parseRegionStep", "(II)I"⟩ ∈ lw_good := lg_right (i := 979) (by decide +kernel) rfl
theorem d_Parser_parseStep_83 : decode b_Parser_parseStep 83 = .ok (.ireturn, 1) := by decide +kernel
theorem d_Parser_parseStep_84 : decode b_Parser_parseStep 84 = .ok (.aload_n 0, 1) := by decide +kernel
theorem d_Parser_parseStep_85 : decode b_Parser_parseStep 85 = .ok (.iload_n 1, 1) := by decide +kernel
theorem d_Parser_parseStep_86 : decode b_Parser_parseStep 86 = .ok (.invokevirtual 157, 3) := by decide +kernel
theorem ml_Parser_157 : Cond.methodLink R_Parser 157 ⟨"PointerHouse$Parser", "parseTry", "(I)I"⟩ ∈ lw_good := lg_right (i := 983) (by decide +kernel) rfl
theorem d_Parser_parseStep_89 : decode b_Parser_parseStep 89 = .ok (.ireturn, 1) := by decide +kernel
theorem d_Parser_parseStep_90 : decode b_Parser_parseStep 90 = .ok (.aload_n 0, 1) := by decide +kernel
theorem d_Parser_parseStep_91 : decode b_Parser_parseStep 91 = .ok (.iload_n 2, 1) := by decide +kernel
theorem d_Parser_parseStep_92 : decode b_Parser_parseStep 92 = .ok (.iload_n 1, 1) := by decide +kernel
theorem d_Parser_parseStep_93 : decode b_Parser_parseStep 93 = .ok (.invokevirtual 160, 3) := by decide +kernel
theorem ml_Parser_160 : Cond.methodLink R_Parser 160 ⟨"PointerHouse$Parser", "parseWordStep", "(II)I"⟩ ∈ lw_good := lg_right (i := 987) (by decide +kernel) rfl
theorem d_Parser_parseStep_96 : decode b_Parser_parseStep 96 = .ok (.ireturn, 1) := by decide +kernel
theorem d_Parser_parseStep_97 : decode b_Parser_parseStep 97 = .ok (.aload_n 0, 1) := by decide +kernel
theorem d_Parser_parseStep_98 : decode b_Parser_parseStep 98 = .ok (.iload_n 1, 1) := by decide +kernel
theorem d_Parser_parseStep_99 : decode b_Parser_parseStep 99 = .ok (.invokevirtual 163, 3) := by decide +kernel
theorem ml_Parser_163 : Cond.methodLink R_Parser 163 ⟨"PointerHouse$Parser", "parsePlain", "(I)I"⟩ ∈ lw_good := lg_right (i := 991) (by decide +kernel) rfl
theorem d_Parser_parseStep_102 : decode b_Parser_parseStep 102 = .ok (.ireturn, 1) := by decide +kernel
abbrev b_Parser_parseVar : ByteArray := prog_8_method_17_code
abbrev y_Parser_parseVar : MethodName := ⟨R_Parser, "parseVar", "(I)I"⟩
theorem co_Parser_parseVar : Cond.code y_Parser_parseVar b_Parser_parseVar 3 (some .int) ∈ lw_good := lg_in (tin_4 _ (List.mem_of_getElem? (i := 221) rfl)) rfl
abbrev w_Parser_parseVar : List Cond := Cond.code y_Parser_parseVar b_Parser_parseVar 3 (some .int) :: lw_good
theorem im_Parser_parseVar : Cond.instanceMethod y_Parser_parseVar ∈ lw_good := lg_right (i := 940) (by decide +kernel) rfl
theorem se_Parser_parseVar : Cond.selects R_Parser y_Parser_parseVar y_Parser_parseVar ∈ lw_good := lg_left (i := 21) (by decide +kernel) rfl
theorem d_Parser_parseVar_0 : decode b_Parser_parseVar 0 = .ok (.aload_n 0, 1) := by decide +kernel
theorem d_Parser_parseVar_1 : decode b_Parser_parseVar 1 = .ok (.getfield 9, 3) := by decide +kernel
theorem d_Parser_parseVar_4 : decode b_Parser_parseVar 4 = .ok (.bipush 15, 2) := by decide +kernel
theorem d_Parser_parseVar_6 : decode b_Parser_parseVar 6 = .ok (.aload_n 0, 1) := by decide +kernel
theorem d_Parser_parseVar_7 : decode b_Parser_parseVar 7 = .ok (.getfield 23, 3) := by decide +kernel
theorem d_Parser_parseVar_10 : decode b_Parser_parseVar 10 = .ok (.invokevirtual 166, 3) := by decide +kernel
theorem ml_Parser_166 : Cond.methodLink R_Parser 166 ⟨"PointerHouse$Source", "addNode", "(II)I"⟩ ∈ lw_good := lg_right (i := 942) (by decide +kernel) rfl
theorem d_Parser_parseVar_13 : decode b_Parser_parseVar 13 = .ok (.istore_n 2, 1) := by decide +kernel
theorem d_Parser_parseVar_14 : decode b_Parser_parseVar 14 = .ok (.aload_n 0, 1) := by decide +kernel
theorem d_Parser_parseVar_15 : decode b_Parser_parseVar 15 = .ok (.invokevirtual 59, 3) := by decide +kernel
theorem d_Parser_parseVar_18 : decode b_Parser_parseVar 18 = .ok (.aload_n 0, 1) := by decide +kernel
theorem d_Parser_parseVar_19 : decode b_Parser_parseVar 19 = .ok (.getfield 116, 3) := by decide +kernel
theorem d_Parser_parseVar_22 : decode b_Parser_parseVar 22 = .ok (.bipush 20, 2) := by decide +kernel
theorem d_Parser_parseVar_24 : decode b_Parser_parseVar 24 = .ok (.if_icmp .ne 7, 3) := by decide +kernel
theorem d_Parser_parseVar_27 : decode b_Parser_parseVar 27 = .ok (.aload_n 0, 1) := by decide +kernel
theorem d_Parser_parseVar_28 : decode b_Parser_parseVar 28 = .ok (.invokevirtual 62, 3) := by decide +kernel
theorem d_Parser_parseVar_31 : decode b_Parser_parseVar 31 = .ok (.aload_n 0, 1) := by decide +kernel
theorem d_Parser_parseVar_32 : decode b_Parser_parseVar 32 = .ok (.dup, 1) := by decide +kernel
theorem d_Parser_parseVar_33 : decode b_Parser_parseVar 33 = .ok (.getfield 116, 3) := by decide +kernel
theorem d_Parser_parseVar_36 : decode b_Parser_parseVar 36 = .ok (.iconst 1, 1) := by decide +kernel
theorem d_Parser_parseVar_37 : decode b_Parser_parseVar 37 = .ok (.iadd, 1) := by decide +kernel
theorem d_Parser_parseVar_38 : decode b_Parser_parseVar 38 = .ok (.putfield 116, 3) := by decide +kernel
theorem d_Parser_parseVar_41 : decode b_Parser_parseVar 41 = .ok (.aload_n 0, 1) := by decide +kernel
theorem d_Parser_parseVar_42 : decode b_Parser_parseVar 42 = .ok (.iconst 2, 1) := by decide +kernel
theorem d_Parser_parseVar_43 : decode b_Parser_parseVar 43 = .ok (.invokevirtual 85, 3) := by decide +kernel
theorem d_Parser_parseVar_46 : decode b_Parser_parseVar 46 = .ok (.aload_n 0, 1) := by decide +kernel
theorem d_Parser_parseVar_47 : decode b_Parser_parseVar 47 = .ok (.bipush 48, 2) := by decide +kernel
theorem d_Parser_parseVar_49 : decode b_Parser_parseVar 49 = .ok (.invokevirtual 85, 3) := by decide +kernel
theorem d_Parser_parseVar_52 : decode b_Parser_parseVar 52 = .ok (.aload_n 0, 1) := by decide +kernel
theorem d_Parser_parseVar_53 : decode b_Parser_parseVar 53 = .ok (.iconst 1, 1) := by decide +kernel
theorem d_Parser_parseVar_54 : decode b_Parser_parseVar 54 = .ok (.iconst 0, 1) := by decide +kernel
theorem d_Parser_parseVar_55 : decode b_Parser_parseVar 55 = .ok (.invokevirtual 112, 3) := by decide +kernel
theorem d_Parser_parseVar_58 : decode b_Parser_parseVar 58 = .ok (.aload_n 0, 1) := by decide +kernel
theorem d_Parser_parseVar_59 : decode b_Parser_parseVar 59 = .ok (.bipush 50, 2) := by decide +kernel
theorem d_Parser_parseVar_61 : decode b_Parser_parseVar 61 = .ok (.invokevirtual 125, 3) := by decide +kernel
theorem d_Parser_parseVar_64 : decode b_Parser_parseVar 64 = .ok (.ifCond .eq 19, 3) := by decide +kernel
theorem d_Parser_parseVar_67 : decode b_Parser_parseVar 67 = .ok (.aload_n 0, 1) := by decide +kernel
theorem d_Parser_parseVar_68 : decode b_Parser_parseVar 68 = .ok (.getfield 9, 3) := by decide +kernel
theorem d_Parser_parseVar_71 : decode b_Parser_parseVar 71 = .ok (.getfield 169, 3) := by decide +kernel
theorem fl_Parser_169 : Cond.fieldLink R_Parser 169 "PointerHouse$Source" "right" "[I" ∈ lw_good := lg_right (i := 216) (by decide +kernel) rfl
theorem d_Parser_parseVar_74 : decode b_Parser_parseVar 74 = .ok (.iload_n 2, 1) := by decide +kernel
theorem d_Parser_parseVar_75 : decode b_Parser_parseVar 75 = .ok (.aload_n 0, 1) := by decide +kernel
theorem d_Parser_parseVar_76 : decode b_Parser_parseVar 76 = .ok (.iload_n 1, 1) := by decide +kernel
theorem d_Parser_parseVar_77 : decode b_Parser_parseVar 77 = .ok (.iconst 1, 1) := by decide +kernel
theorem d_Parser_parseVar_78 : decode b_Parser_parseVar 78 = .ok (.iadd, 1) := by decide +kernel
theorem d_Parser_parseVar_79 : decode b_Parser_parseVar 79 = .ok (.invokevirtual 172, 3) := by decide +kernel
theorem ml_Parser_172 : Cond.methodLink R_Parser 172 ⟨"PointerHouse$Parser", "parseExpr", "(I)I"⟩ ∈ lw_good := lg_right (i := 943) (by decide +kernel) rfl
theorem d_Parser_parseVar_82 : decode b_Parser_parseVar 82 = .ok (.iastore, 1) := by decide +kernel
theorem d_Parser_parseVar_83 : decode b_Parser_parseVar 83 = .ok (.aload_n 0, 1) := by decide +kernel
theorem d_Parser_parseVar_84 : decode b_Parser_parseVar 84 = .ok (.bipush 46, 2) := by decide +kernel
theorem d_Parser_parseVar_86 : decode b_Parser_parseVar 86 = .ok (.invokevirtual 85, 3) := by decide +kernel
theorem d_Parser_parseVar_89 : decode b_Parser_parseVar 89 = .ok (.iload_n 2, 1) := by decide +kernel
theorem d_Parser_parseVar_90 : decode b_Parser_parseVar 90 = .ok (.ireturn, 1) := by decide +kernel
abbrev b_Parser_parseChoice : ByteArray := prog_8_method_18_code
abbrev y_Parser_parseChoice : MethodName := ⟨R_Parser, "parseChoice", "(II)I"⟩
theorem co_Parser_parseChoice : Cond.code y_Parser_parseChoice b_Parser_parseChoice 4 (some .int) ∈ lw_good := lg_in (tin_5 _ (List.mem_of_getElem? (i := 18) rfl)) rfl
abbrev w_Parser_parseChoice : List Cond := Cond.code y_Parser_parseChoice b_Parser_parseChoice 4 (some .int) :: lw_good
theorem im_Parser_parseChoice : Cond.instanceMethod y_Parser_parseChoice ∈ lw_good := lg_right (i := 977) (by decide +kernel) rfl
theorem se_Parser_parseChoice : Cond.selects R_Parser y_Parser_parseChoice y_Parser_parseChoice ∈ lw_good := lg_left (i := 30) (by decide +kernel) rfl
theorem d_Parser_parseChoice_0 : decode b_Parser_parseChoice 0 = .ok (.aload_n 0, 1) := by decide +kernel
theorem d_Parser_parseChoice_1 : decode b_Parser_parseChoice 1 = .ok (.getfield 9, 3) := by decide +kernel
theorem d_Parser_parseChoice_4 : decode b_Parser_parseChoice 4 = .ok (.iload_n 1, 1) := by decide +kernel
theorem d_Parser_parseChoice_5 : decode b_Parser_parseChoice 5 = .ok (.aload_n 0, 1) := by decide +kernel
theorem d_Parser_parseChoice_6 : decode b_Parser_parseChoice 6 = .ok (.getfield 23, 3) := by decide +kernel
theorem d_Parser_parseChoice_9 : decode b_Parser_parseChoice 9 = .ok (.invokevirtual 166, 3) := by decide +kernel
theorem d_Parser_parseChoice_12 : decode b_Parser_parseChoice 12 = .ok (.istore_n 3, 1) := by decide +kernel
theorem d_Parser_parseChoice_13 : decode b_Parser_parseChoice 13 = .ok (.aload_n 0, 1) := by decide +kernel
theorem d_Parser_parseChoice_14 : decode b_Parser_parseChoice 14 = .ok (.invokevirtual 59, 3) := by decide +kernel
theorem d_Parser_parseChoice_17 : decode b_Parser_parseChoice 17 = .ok (.aload_n 0, 1) := by decide +kernel
theorem d_Parser_parseChoice_18 : decode b_Parser_parseChoice 18 = .ok (.getfield 9, 3) := by decide +kernel
theorem d_Parser_parseChoice_21 : decode b_Parser_parseChoice 21 = .ok (.getfield 175, 3) := by decide +kernel
theorem fl_Parser_175 : Cond.fieldLink R_Parser 175 "PointerHouse$Source" "left" "[I" ∈ lw_good := lg_right (i := 211) (by decide +kernel) rfl
theorem d_Parser_parseChoice_24 : decode b_Parser_parseChoice 24 = .ok (.iload_n 3, 1) := by decide +kernel
theorem d_Parser_parseChoice_25 : decode b_Parser_parseChoice 25 = .ok (.aload_n 0, 1) := by decide +kernel
theorem d_Parser_parseChoice_26 : decode b_Parser_parseChoice 26 = .ok (.iload_n 2, 1) := by decide +kernel
theorem d_Parser_parseChoice_27 : decode b_Parser_parseChoice 27 = .ok (.iconst 1, 1) := by decide +kernel
theorem d_Parser_parseChoice_28 : decode b_Parser_parseChoice 28 = .ok (.iadd, 1) := by decide +kernel
theorem d_Parser_parseChoice_29 : decode b_Parser_parseChoice 29 = .ok (.invokevirtual 172, 3) := by decide +kernel
theorem d_Parser_parseChoice_32 : decode b_Parser_parseChoice 32 = .ok (.iastore, 1) := by decide +kernel
theorem d_Parser_parseChoice_33 : decode b_Parser_parseChoice 33 = .ok (.aload_n 0, 1) := by decide +kernel
theorem d_Parser_parseChoice_34 : decode b_Parser_parseChoice 34 = .ok (.getfield 9, 3) := by decide +kernel
theorem d_Parser_parseChoice_37 : decode b_Parser_parseChoice 37 = .ok (.getfield 169, 3) := by decide +kernel
theorem d_Parser_parseChoice_40 : decode b_Parser_parseChoice 40 = .ok (.iload_n 3, 1) := by decide +kernel
theorem d_Parser_parseChoice_41 : decode b_Parser_parseChoice 41 = .ok (.aload_n 0, 1) := by decide +kernel
theorem d_Parser_parseChoice_42 : decode b_Parser_parseChoice 42 = .ok (.iload_n 2, 1) := by decide +kernel
theorem d_Parser_parseChoice_43 : decode b_Parser_parseChoice 43 = .ok (.iconst 1, 1) := by decide +kernel
theorem d_Parser_parseChoice_44 : decode b_Parser_parseChoice 44 = .ok (.iadd, 1) := by decide +kernel
theorem d_Parser_parseChoice_45 : decode b_Parser_parseChoice 45 = .ok (.invokevirtual 135, 3) := by decide +kernel
theorem d_Parser_parseChoice_48 : decode b_Parser_parseChoice 48 = .ok (.iastore, 1) := by decide +kernel
theorem d_Parser_parseChoice_49 : decode b_Parser_parseChoice 49 = .ok (.iload_n 1, 1) := by decide +kernel
theorem d_Parser_parseChoice_50 : decode b_Parser_parseChoice 50 = .ok (.bipush 16, 2) := by decide +kernel
theorem d_Parser_parseChoice_52 : decode b_Parser_parseChoice 52 = .ok (.if_icmp .ne 28, 3) := by decide +kernel
theorem d_Parser_parseChoice_55 : decode b_Parser_parseChoice 55 = .ok (.aload_n 0, 1) := by decide +kernel
theorem d_Parser_parseChoice_56 : decode b_Parser_parseChoice 56 = .ok (.bipush 17, 2) := by decide +kernel
theorem d_Parser_parseChoice_58 : decode b_Parser_parseChoice 58 = .ok (.invokevirtual 125, 3) := by decide +kernel
theorem d_Parser_parseChoice_61 : decode b_Parser_parseChoice 61 = .ok (.ifCond .eq 19, 3) := by decide +kernel
theorem d_Parser_parseChoice_64 : decode b_Parser_parseChoice 64 = .ok (.aload_n 0, 1) := by decide +kernel
theorem d_Parser_parseChoice_65 : decode b_Parser_parseChoice 65 = .ok (.getfield 9, 3) := by decide +kernel
theorem d_Parser_parseChoice_68 : decode b_Parser_parseChoice 68 = .ok (.getfield 178, 3) := by decide +kernel
theorem fl_Parser_178 : Cond.fieldLink R_Parser 178 "PointerHouse$Source" "tail" "[I" ∈ lw_good := lg_right (i := 220) (by decide +kernel) rfl
theorem d_Parser_parseChoice_71 : decode b_Parser_parseChoice 71 = .ok (.iload_n 3, 1) := by decide +kernel
theorem d_Parser_parseChoice_72 : decode b_Parser_parseChoice 72 = .ok (.aload_n 0, 1) := by decide +kernel
theorem d_Parser_parseChoice_73 : decode b_Parser_parseChoice 73 = .ok (.iload_n 2, 1) := by decide +kernel
theorem d_Parser_parseChoice_74 : decode b_Parser_parseChoice 74 = .ok (.iconst 1, 1) := by decide +kernel
theorem d_Parser_parseChoice_75 : decode b_Parser_parseChoice 75 = .ok (.iadd, 1) := by decide +kernel
theorem d_Parser_parseChoice_76 : decode b_Parser_parseChoice 76 = .ok (.invokevirtual 135, 3) := by decide +kernel
theorem d_Parser_parseChoice_79 : decode b_Parser_parseChoice 79 = .ok (.iastore, 1) := by decide +kernel
theorem d_Parser_parseChoice_80 : decode b_Parser_parseChoice 80 = .ok (.iload_n 3, 1) := by decide +kernel
theorem d_Parser_parseChoice_81 : decode b_Parser_parseChoice 81 = .ok (.ireturn, 1) := by decide +kernel
abbrev b_Parser_parsePlain : ByteArray := prog_8_method_22_code
abbrev y_Parser_parsePlain : MethodName := ⟨R_Parser, "parsePlain", "(I)I"⟩
theorem co_Parser_parsePlain : Cond.code y_Parser_parsePlain b_Parser_parsePlain 4 (some .int) ∈ lw_good := lg_in (tin_5 _ (List.mem_of_getElem? (i := 34) rfl)) rfl
abbrev w_Parser_parsePlain : List Cond := Cond.code y_Parser_parsePlain b_Parser_parsePlain 4 (some .int) :: lw_good
theorem im_Parser_parsePlain : Cond.instanceMethod y_Parser_parsePlain ∈ lw_good := lg_right (i := 993) (by decide +kernel) rfl
theorem se_Parser_parsePlain : Cond.selects R_Parser y_Parser_parsePlain y_Parser_parsePlain ∈ lw_good := lg_left (i := 34) (by decide +kernel) rfl
theorem d_Parser_parsePlain_0 : decode b_Parser_parsePlain 0 = .ok (.aload_n 0, 1) := by decide +kernel
theorem d_Parser_parsePlain_1 : decode b_Parser_parsePlain 1 = .ok (.getfield 9, 3) := by decide +kernel
theorem d_Parser_parsePlain_4 : decode b_Parser_parsePlain 4 = .ok (.bipush 64, 2) := by decide +kernel
theorem d_Parser_parsePlain_6 : decode b_Parser_parsePlain 6 = .ok (.aload_n 0, 1) := by decide +kernel
theorem d_Parser_parsePlain_7 : decode b_Parser_parsePlain 7 = .ok (.getfield 23, 3) := by decide +kernel
theorem d_Parser_parsePlain_10 : decode b_Parser_parsePlain 10 = .ok (.invokevirtual 166, 3) := by decide +kernel
theorem d_Parser_parsePlain_13 : decode b_Parser_parsePlain 13 = .ok (.istore_n 2, 1) := by decide +kernel
theorem d_Parser_parsePlain_14 : decode b_Parser_parsePlain 14 = .ok (.aload_n 0, 1) := by decide +kernel
theorem d_Parser_parsePlain_15 : decode b_Parser_parsePlain 15 = .ok (.iload_n 1, 1) := by decide +kernel
theorem d_Parser_parsePlain_16 : decode b_Parser_parsePlain 16 = .ok (.iconst 1, 1) := by decide +kernel
theorem d_Parser_parsePlain_17 : decode b_Parser_parsePlain 17 = .ok (.iadd, 1) := by decide +kernel
theorem d_Parser_parsePlain_18 : decode b_Parser_parsePlain 18 = .ok (.invokevirtual 172, 3) := by decide +kernel
theorem d_Parser_parsePlain_21 : decode b_Parser_parsePlain 21 = .ok (.istore_n 3, 1) := by decide +kernel
theorem d_Parser_parsePlain_22 : decode b_Parser_parsePlain 22 = .ok (.aload_n 0, 1) := by decide +kernel
theorem d_Parser_parsePlain_23 : decode b_Parser_parsePlain 23 = .ok (.bipush 50, 2) := by decide +kernel
theorem d_Parser_parsePlain_25 : decode b_Parser_parsePlain 25 = .ok (.invokevirtual 125, 3) := by decide +kernel
theorem d_Parser_parsePlain_28 : decode b_Parser_parsePlain 28 = .ok (.ifCond .eq 43, 3) := by decide +kernel
theorem d_Parser_parsePlain_31 : decode b_Parser_parsePlain 31 = .ok (.aload_n 0, 1) := by decide +kernel
theorem d_Parser_parsePlain_32 : decode b_Parser_parsePlain 32 = .ok (.getfield 9, 3) := by decide +kernel
theorem d_Parser_parsePlain_35 : decode b_Parser_parsePlain 35 = .ok (.getfield 181, 3) := by decide +kernel
theorem fl_Parser_181 : Cond.fieldLink R_Parser 181 "PointerHouse$Source" "kind" "[I" ∈ lw_good := lg_right (i := 195) (by decide +kernel) rfl
theorem d_Parser_parsePlain_38 : decode b_Parser_parsePlain 38 = .ok (.iload_n 2, 1) := by decide +kernel
theorem d_Parser_parsePlain_39 : decode b_Parser_parsePlain 39 = .ok (.bipush 50, 2) := by decide +kernel
theorem d_Parser_parsePlain_41 : decode b_Parser_parsePlain 41 = .ok (.iastore, 1) := by decide +kernel
theorem d_Parser_parsePlain_42 : decode b_Parser_parsePlain 42 = .ok (.aload_n 0, 1) := by decide +kernel
theorem d_Parser_parsePlain_43 : decode b_Parser_parsePlain 43 = .ok (.getfield 9, 3) := by decide +kernel
theorem d_Parser_parsePlain_46 : decode b_Parser_parsePlain 46 = .ok (.getfield 175, 3) := by decide +kernel
theorem d_Parser_parsePlain_49 : decode b_Parser_parsePlain 49 = .ok (.iload_n 2, 1) := by decide +kernel
theorem d_Parser_parsePlain_50 : decode b_Parser_parsePlain 50 = .ok (.iload_n 3, 1) := by decide +kernel
theorem d_Parser_parsePlain_51 : decode b_Parser_parsePlain 51 = .ok (.iastore, 1) := by decide +kernel
theorem d_Parser_parsePlain_52 : decode b_Parser_parsePlain 52 = .ok (.aload_n 0, 1) := by decide +kernel
theorem d_Parser_parsePlain_53 : decode b_Parser_parsePlain 53 = .ok (.getfield 9, 3) := by decide +kernel
theorem d_Parser_parsePlain_56 : decode b_Parser_parsePlain 56 = .ok (.getfield 169, 3) := by decide +kernel
theorem d_Parser_parsePlain_59 : decode b_Parser_parsePlain 59 = .ok (.iload_n 2, 1) := by decide +kernel
theorem d_Parser_parsePlain_60 : decode b_Parser_parsePlain 60 = .ok (.aload_n 0, 1) := by decide +kernel
theorem d_Parser_parsePlain_61 : decode b_Parser_parsePlain 61 = .ok (.iload_n 1, 1) := by decide +kernel
theorem d_Parser_parsePlain_62 : decode b_Parser_parsePlain 62 = .ok (.iconst 1, 1) := by decide +kernel
theorem d_Parser_parsePlain_63 : decode b_Parser_parsePlain 63 = .ok (.iadd, 1) := by decide +kernel
theorem d_Parser_parsePlain_64 : decode b_Parser_parsePlain 64 = .ok (.invokevirtual 172, 3) := by decide +kernel
theorem d_Parser_parsePlain_67 : decode b_Parser_parsePlain 67 = .ok (.iastore, 1) := by decide +kernel
theorem d_Parser_parsePlain_68 : decode b_Parser_parsePlain 68 = .ok (.goto 13, 3) := by decide +kernel
theorem d_Parser_parsePlain_71 : decode b_Parser_parsePlain 71 = .ok (.aload_n 0, 1) := by decide +kernel
theorem d_Parser_parsePlain_72 : decode b_Parser_parsePlain 72 = .ok (.getfield 9, 3) := by decide +kernel
theorem d_Parser_parsePlain_75 : decode b_Parser_parsePlain 75 = .ok (.getfield 169, 3) := by decide +kernel
theorem d_Parser_parsePlain_78 : decode b_Parser_parsePlain 78 = .ok (.iload_n 2, 1) := by decide +kernel
theorem d_Parser_parsePlain_79 : decode b_Parser_parsePlain 79 = .ok (.iload_n 3, 1) := by decide +kernel
theorem d_Parser_parsePlain_80 : decode b_Parser_parsePlain 80 = .ok (.iastore, 1) := by decide +kernel
theorem d_Parser_parsePlain_81 : decode b_Parser_parsePlain 81 = .ok (.aload_n 0, 1) := by decide +kernel
theorem d_Parser_parsePlain_82 : decode b_Parser_parsePlain 82 = .ok (.bipush 46, 2) := by decide +kernel
theorem d_Parser_parsePlain_84 : decode b_Parser_parsePlain 84 = .ok (.invokevirtual 85, 3) := by decide +kernel
theorem d_Parser_parsePlain_87 : decode b_Parser_parsePlain 87 = .ok (.iload_n 2, 1) := by decide +kernel
theorem d_Parser_parsePlain_88 : decode b_Parser_parsePlain 88 = .ok (.ireturn, 1) := by decide +kernel
abbrev b_Parser_parseWordStep : ByteArray := prog_8_method_21_code
abbrev y_Parser_parseWordStep : MethodName := ⟨R_Parser, "parseWordStep", "(II)I"⟩
theorem co_Parser_parseWordStep : Cond.code y_Parser_parseWordStep b_Parser_parseWordStep 4 (some .int) ∈ lw_good := lg_in (tin_5 _ (List.mem_of_getElem? (i := 30) rfl)) rfl
abbrev w_Parser_parseWordStep : List Cond := Cond.code y_Parser_parseWordStep b_Parser_parseWordStep 4 (some .int) :: lw_good
theorem im_Parser_parseWordStep : Cond.instanceMethod y_Parser_parseWordStep ∈ lw_good := lg_right (i := 989) (by decide +kernel) rfl
theorem se_Parser_parseWordStep : Cond.selects R_Parser y_Parser_parseWordStep y_Parser_parseWordStep ∈ lw_good := lg_left (i := 33) (by decide +kernel) rfl
theorem d_Parser_parseWordStep_0 : decode b_Parser_parseWordStep 0 = .ok (.aload_n 0, 1) := by decide +kernel
theorem d_Parser_parseWordStep_1 : decode b_Parser_parseWordStep 1 = .ok (.getfield 9, 3) := by decide +kernel
theorem d_Parser_parseWordStep_4 : decode b_Parser_parseWordStep 4 = .ok (.iload_n 1, 1) := by decide +kernel
theorem d_Parser_parseWordStep_5 : decode b_Parser_parseWordStep 5 = .ok (.aload_n 0, 1) := by decide +kernel
theorem d_Parser_parseWordStep_6 : decode b_Parser_parseWordStep 6 = .ok (.getfield 23, 3) := by decide +kernel
theorem d_Parser_parseWordStep_9 : decode b_Parser_parseWordStep 9 = .ok (.invokevirtual 166, 3) := by decide +kernel
theorem d_Parser_parseWordStep_12 : decode b_Parser_parseWordStep 12 = .ok (.istore_n 3, 1) := by decide +kernel
theorem d_Parser_parseWordStep_13 : decode b_Parser_parseWordStep 13 = .ok (.aload_n 0, 1) := by decide +kernel
theorem d_Parser_parseWordStep_14 : decode b_Parser_parseWordStep 14 = .ok (.invokevirtual 59, 3) := by decide +kernel
theorem d_Parser_parseWordStep_17 : decode b_Parser_parseWordStep 17 = .ok (.iload_n 1, 1) := by decide +kernel
theorem d_Parser_parseWordStep_18 : decode b_Parser_parseWordStep 18 = .ok (.bipush 19, 2) := by decide +kernel
theorem d_Parser_parseWordStep_20 : decode b_Parser_parseWordStep 20 = .ok (.if_icmp .ne 12, 3) := by decide +kernel
theorem d_Parser_parseWordStep_23 : decode b_Parser_parseWordStep 23 = .ok (.aload_n 0, 1) := by decide +kernel
theorem d_Parser_parseWordStep_24 : decode b_Parser_parseWordStep 24 = .ok (.getfield 33, 3) := by decide +kernel
theorem d_Parser_parseWordStep_27 : decode b_Parser_parseWordStep 27 = .ok (.bipush 46, 2) := by decide +kernel
theorem d_Parser_parseWordStep_29 : decode b_Parser_parseWordStep 29 = .ok (.if_icmp .eq 19, 3) := by decide +kernel
theorem d_Parser_parseWordStep_32 : decode b_Parser_parseWordStep 32 = .ok (.aload_n 0, 1) := by decide +kernel
theorem d_Parser_parseWordStep_33 : decode b_Parser_parseWordStep 33 = .ok (.getfield 9, 3) := by decide +kernel
theorem d_Parser_parseWordStep_36 : decode b_Parser_parseWordStep 36 = .ok (.getfield 169, 3) := by decide +kernel
theorem d_Parser_parseWordStep_39 : decode b_Parser_parseWordStep 39 = .ok (.iload_n 3, 1) := by decide +kernel
theorem d_Parser_parseWordStep_40 : decode b_Parser_parseWordStep 40 = .ok (.aload_n 0, 1) := by decide +kernel
theorem d_Parser_parseWordStep_41 : decode b_Parser_parseWordStep 41 = .ok (.iload_n 2, 1) := by decide +kernel
theorem d_Parser_parseWordStep_42 : decode b_Parser_parseWordStep 42 = .ok (.iconst 1, 1) := by decide +kernel
theorem d_Parser_parseWordStep_43 : decode b_Parser_parseWordStep 43 = .ok (.iadd, 1) := by decide +kernel
theorem d_Parser_parseWordStep_44 : decode b_Parser_parseWordStep 44 = .ok (.invokevirtual 172, 3) := by decide +kernel
theorem d_Parser_parseWordStep_47 : decode b_Parser_parseWordStep 47 = .ok (.iastore, 1) := by decide +kernel
theorem d_Parser_parseWordStep_48 : decode b_Parser_parseWordStep 48 = .ok (.aload_n 0, 1) := by decide +kernel
theorem d_Parser_parseWordStep_49 : decode b_Parser_parseWordStep 49 = .ok (.bipush 46, 2) := by decide +kernel
theorem d_Parser_parseWordStep_51 : decode b_Parser_parseWordStep 51 = .ok (.invokevirtual 85, 3) := by decide +kernel
theorem d_Parser_parseWordStep_54 : decode b_Parser_parseWordStep 54 = .ok (.iload_n 3, 1) := by decide +kernel
theorem d_Parser_parseWordStep_55 : decode b_Parser_parseWordStep 55 = .ok (.ireturn, 1) := by decide +kernel
abbrev b_Parser_parseRegionStep : ByteArray := prog_8_method_19_code
abbrev y_Parser_parseRegionStep : MethodName := ⟨R_Parser, "parseRegionStep", "(II)I"⟩
theorem co_Parser_parseRegionStep : Cond.code y_Parser_parseRegionStep b_Parser_parseRegionStep 4 (some .int) ∈ lw_good := lg_in (tin_5 _ (List.mem_of_getElem? (i := 22) rfl)) rfl
abbrev w_Parser_parseRegionStep : List Cond := Cond.code y_Parser_parseRegionStep b_Parser_parseRegionStep 4 (some .int) :: lw_good
theorem im_Parser_parseRegionStep : Cond.instanceMethod y_Parser_parseRegionStep ∈ lw_good := lg_right (i := 981) (by decide +kernel) rfl
theorem se_Parser_parseRegionStep : Cond.selects R_Parser y_Parser_parseRegionStep y_Parser_parseRegionStep ∈ lw_good := lg_left (i := 31) (by decide +kernel) rfl
theorem d_Parser_parseRegionStep_0 : decode b_Parser_parseRegionStep 0 = .ok (.iload_n 1, 1) := by decide +kernel
theorem d_Parser_parseRegionStep_1 : decode b_Parser_parseRegionStep 1 = .ok (.bipush 21, 2) := by decide +kernel
theorem d_Parser_parseRegionStep_3 : decode b_Parser_parseRegionStep 3 = .ok (.if_icmp .ne 16, 3) := by decide +kernel
theorem d_Parser_parseRegionStep_6 : decode b_Parser_parseRegionStep 6 = .ok (.aload_n 0, 1) := by decide +kernel
theorem d_Parser_parseRegionStep_7 : decode b_Parser_parseRegionStep 7 = .ok (.getfield 119, 3) := by decide +kernel
theorem d_Parser_parseRegionStep_10 : decode b_Parser_parseRegionStep 10 = .ok (.bipush 8, 2) := by decide +kernel
theorem d_Parser_parseRegionStep_12 : decode b_Parser_parseRegionStep 12 = .ok (.if_icmp .ne 7, 3) := by decide +kernel
theorem d_Parser_parseRegionStep_15 : decode b_Parser_parseRegionStep 15 = .ok (.aload_n 0, 1) := by decide +kernel
theorem d_Parser_parseRegionStep_16 : decode b_Parser_parseRegionStep 16 = .ok (.invokevirtual 62, 3) := by decide +kernel
theorem d_Parser_parseRegionStep_19 : decode b_Parser_parseRegionStep 19 = .ok (.aload_n 0, 1) := by decide +kernel
theorem d_Parser_parseRegionStep_20 : decode b_Parser_parseRegionStep 20 = .ok (.getfield 9, 3) := by decide +kernel
theorem d_Parser_parseRegionStep_23 : decode b_Parser_parseRegionStep 23 = .ok (.iload_n 1, 1) := by decide +kernel
theorem d_Parser_parseRegionStep_24 : decode b_Parser_parseRegionStep 24 = .ok (.aload_n 0, 1) := by decide +kernel
theorem d_Parser_parseRegionStep_25 : decode b_Parser_parseRegionStep 25 = .ok (.getfield 23, 3) := by decide +kernel
theorem d_Parser_parseRegionStep_28 : decode b_Parser_parseRegionStep 28 = .ok (.invokevirtual 166, 3) := by decide +kernel
theorem d_Parser_parseRegionStep_31 : decode b_Parser_parseRegionStep 31 = .ok (.istore_n 3, 1) := by decide +kernel
theorem d_Parser_parseRegionStep_32 : decode b_Parser_parseRegionStep 32 = .ok (.aload_n 0, 1) := by decide +kernel
theorem d_Parser_parseRegionStep_33 : decode b_Parser_parseRegionStep 33 = .ok (.invokevirtual 59, 3) := by decide +kernel
theorem d_Parser_parseRegionStep_36 : decode b_Parser_parseRegionStep 36 = .ok (.aload_n 0, 1) := by decide +kernel
theorem d_Parser_parseRegionStep_37 : decode b_Parser_parseRegionStep 37 = .ok (.iconst 4, 1) := by decide +kernel
theorem d_Parser_parseRegionStep_38 : decode b_Parser_parseRegionStep 38 = .ok (.invokevirtual 85, 3) := by decide +kernel
theorem d_Parser_parseRegionStep_41 : decode b_Parser_parseRegionStep 41 = .ok (.iload_n 1, 1) := by decide +kernel
theorem d_Parser_parseRegionStep_42 : decode b_Parser_parseRegionStep 42 = .ok (.bipush 21, 2) := by decide +kernel
theorem d_Parser_parseRegionStep_44 : decode b_Parser_parseRegionStep 44 = .ok (.if_icmp .ne 32, 3) := by decide +kernel
theorem d_Parser_parseRegionStep_47 : decode b_Parser_parseRegionStep 47 = .ok (.aload_n 0, 1) := by decide +kernel
theorem d_Parser_parseRegionStep_48 : decode b_Parser_parseRegionStep 48 = .ok (.dup, 1) := by decide +kernel
theorem d_Parser_parseRegionStep_49 : decode b_Parser_parseRegionStep 49 = .ok (.getfield 119, 3) := by decide +kernel
theorem d_Parser_parseRegionStep_52 : decode b_Parser_parseRegionStep 52 = .ok (.iconst 1, 1) := by decide +kernel
theorem d_Parser_parseRegionStep_53 : decode b_Parser_parseRegionStep 53 = .ok (.iadd, 1) := by decide +kernel
theorem d_Parser_parseRegionStep_54 : decode b_Parser_parseRegionStep 54 = .ok (.putfield 119, 3) := by decide +kernel
theorem d_Parser_parseRegionStep_57 : decode b_Parser_parseRegionStep 57 = .ok (.aload_n 0, 1) := by decide +kernel
theorem d_Parser_parseRegionStep_58 : decode b_Parser_parseRegionStep 58 = .ok (.getfield 9, 3) := by decide +kernel
theorem d_Parser_parseRegionStep_61 : decode b_Parser_parseRegionStep 61 = .ok (.getfield 169, 3) := by decide +kernel
theorem d_Parser_parseRegionStep_64 : decode b_Parser_parseRegionStep 64 = .ok (.iload_n 3, 1) := by decide +kernel
theorem d_Parser_parseRegionStep_65 : decode b_Parser_parseRegionStep 65 = .ok (.aload_n 0, 1) := by decide +kernel
theorem d_Parser_parseRegionStep_66 : decode b_Parser_parseRegionStep 66 = .ok (.iload_n 2, 1) := by decide +kernel
theorem d_Parser_parseRegionStep_67 : decode b_Parser_parseRegionStep 67 = .ok (.iconst 1, 1) := by decide +kernel
theorem d_Parser_parseRegionStep_68 : decode b_Parser_parseRegionStep 68 = .ok (.iadd, 1) := by decide +kernel
theorem d_Parser_parseRegionStep_69 : decode b_Parser_parseRegionStep 69 = .ok (.invokevirtual 135, 3) := by decide +kernel
theorem d_Parser_parseRegionStep_72 : decode b_Parser_parseRegionStep 72 = .ok (.iastore, 1) := by decide +kernel
theorem d_Parser_parseRegionStep_73 : decode b_Parser_parseRegionStep 73 = .ok (.goto 9, 3) := by decide +kernel
theorem d_Parser_parseRegionStep_76 : decode b_Parser_parseRegionStep 76 = .ok (.aload_n 0, 1) := by decide +kernel
theorem d_Parser_parseRegionStep_77 : decode b_Parser_parseRegionStep 77 = .ok (.bipush 46, 2) := by decide +kernel
theorem d_Parser_parseRegionStep_79 : decode b_Parser_parseRegionStep 79 = .ok (.invokevirtual 85, 3) := by decide +kernel
theorem d_Parser_parseRegionStep_82 : decode b_Parser_parseRegionStep 82 = .ok (.iload_n 3, 1) := by decide +kernel
theorem d_Parser_parseRegionStep_83 : decode b_Parser_parseRegionStep 83 = .ok (.ireturn, 1) := by decide +kernel
abbrev b_Parser_parseTry : ByteArray := prog_8_method_20_code
abbrev y_Parser_parseTry : MethodName := ⟨R_Parser, "parseTry", "(I)I"⟩
theorem co_Parser_parseTry : Cond.code y_Parser_parseTry b_Parser_parseTry 3 (some .int) ∈ lw_good := lg_in (tin_5 _ (List.mem_of_getElem? (i := 26) rfl)) rfl
abbrev w_Parser_parseTry : List Cond := Cond.code y_Parser_parseTry b_Parser_parseTry 3 (some .int) :: lw_good
theorem im_Parser_parseTry : Cond.instanceMethod y_Parser_parseTry ∈ lw_good := lg_right (i := 985) (by decide +kernel) rfl
theorem se_Parser_parseTry : Cond.selects R_Parser y_Parser_parseTry y_Parser_parseTry ∈ lw_good := lg_left (i := 32) (by decide +kernel) rfl
theorem d_Parser_parseTry_0 : decode b_Parser_parseTry 0 = .ok (.aload_n 0, 1) := by decide +kernel
theorem d_Parser_parseTry_1 : decode b_Parser_parseTry 1 = .ok (.getfield 9, 3) := by decide +kernel
theorem d_Parser_parseTry_4 : decode b_Parser_parseTry 4 = .ok (.bipush 23, 2) := by decide +kernel
theorem d_Parser_parseTry_6 : decode b_Parser_parseTry 6 = .ok (.aload_n 0, 1) := by decide +kernel
theorem d_Parser_parseTry_7 : decode b_Parser_parseTry 7 = .ok (.getfield 23, 3) := by decide +kernel
theorem d_Parser_parseTry_10 : decode b_Parser_parseTry 10 = .ok (.invokevirtual 166, 3) := by decide +kernel
theorem d_Parser_parseTry_13 : decode b_Parser_parseTry 13 = .ok (.istore_n 2, 1) := by decide +kernel
theorem d_Parser_parseTry_14 : decode b_Parser_parseTry 14 = .ok (.aload_n 0, 1) := by decide +kernel
theorem d_Parser_parseTry_15 : decode b_Parser_parseTry 15 = .ok (.invokevirtual 59, 3) := by decide +kernel
theorem d_Parser_parseTry_18 : decode b_Parser_parseTry 18 = .ok (.aload_n 0, 1) := by decide +kernel
theorem d_Parser_parseTry_19 : decode b_Parser_parseTry 19 = .ok (.getfield 9, 3) := by decide +kernel
theorem d_Parser_parseTry_22 : decode b_Parser_parseTry 22 = .ok (.getfield 169, 3) := by decide +kernel
theorem d_Parser_parseTry_25 : decode b_Parser_parseTry 25 = .ok (.iload_n 2, 1) := by decide +kernel
theorem d_Parser_parseTry_26 : decode b_Parser_parseTry 26 = .ok (.aload_n 0, 1) := by decide +kernel
theorem d_Parser_parseTry_27 : decode b_Parser_parseTry 27 = .ok (.iload_n 1, 1) := by decide +kernel
theorem d_Parser_parseTry_28 : decode b_Parser_parseTry 28 = .ok (.iconst 1, 1) := by decide +kernel
theorem d_Parser_parseTry_29 : decode b_Parser_parseTry 29 = .ok (.iadd, 1) := by decide +kernel
theorem d_Parser_parseTry_30 : decode b_Parser_parseTry 30 = .ok (.invokevirtual 135, 3) := by decide +kernel
theorem d_Parser_parseTry_33 : decode b_Parser_parseTry 33 = .ok (.iastore, 1) := by decide +kernel
theorem d_Parser_parseTry_34 : decode b_Parser_parseTry 34 = .ok (.aload_n 0, 1) := by decide +kernel
theorem d_Parser_parseTry_35 : decode b_Parser_parseTry 35 = .ok (.bipush 24, 2) := by decide +kernel
theorem d_Parser_parseTry_37 : decode b_Parser_parseTry 37 = .ok (.invokevirtual 85, 3) := by decide +kernel
theorem d_Parser_parseTry_40 : decode b_Parser_parseTry 40 = .ok (.aload_n 0, 1) := by decide +kernel
theorem d_Parser_parseTry_41 : decode b_Parser_parseTry 41 = .ok (.getfield 9, 3) := by decide +kernel
theorem d_Parser_parseTry_44 : decode b_Parser_parseTry 44 = .ok (.getfield 178, 3) := by decide +kernel
theorem d_Parser_parseTry_47 : decode b_Parser_parseTry 47 = .ok (.iload_n 2, 1) := by decide +kernel
theorem d_Parser_parseTry_48 : decode b_Parser_parseTry 48 = .ok (.aload_n 0, 1) := by decide +kernel
theorem d_Parser_parseTry_49 : decode b_Parser_parseTry 49 = .ok (.iload_n 1, 1) := by decide +kernel
theorem d_Parser_parseTry_50 : decode b_Parser_parseTry 50 = .ok (.iconst 1, 1) := by decide +kernel
theorem d_Parser_parseTry_51 : decode b_Parser_parseTry 51 = .ok (.iadd, 1) := by decide +kernel
theorem d_Parser_parseTry_52 : decode b_Parser_parseTry 52 = .ok (.invokevirtual 135, 3) := by decide +kernel
theorem d_Parser_parseTry_55 : decode b_Parser_parseTry 55 = .ok (.iastore, 1) := by decide +kernel
theorem d_Parser_parseTry_56 : decode b_Parser_parseTry 56 = .ok (.iload_n 2, 1) := by decide +kernel
theorem d_Parser_parseTry_57 : decode b_Parser_parseTry 57 = .ok (.ireturn, 1) := by decide +kernel
abbrev b_Parser_parseExpr : ByteArray := prog_8_method_23_code
abbrev y_Parser_parseExpr : MethodName := ⟨R_Parser, "parseExpr", "(I)I"⟩
theorem co_Parser_parseExpr : Cond.code y_Parser_parseExpr b_Parser_parseExpr 7 (some .int) ∈ lw_good := lg_in (tin_4 _ (List.mem_of_getElem? (i := 226) rfl)) rfl
abbrev w_Parser_parseExpr : List Cond := Cond.code y_Parser_parseExpr b_Parser_parseExpr 7 (some .int) :: lw_good
theorem im_Parser_parseExpr : Cond.instanceMethod y_Parser_parseExpr ∈ lw_good := lg_right (i := 945) (by decide +kernel) rfl
theorem se_Parser_parseExpr : Cond.selects R_Parser y_Parser_parseExpr y_Parser_parseExpr ∈ lw_good := lg_left (i := 22) (by decide +kernel) rfl
theorem d_Parser_parseExpr_0 : decode b_Parser_parseExpr 0 = .ok (.aload_n 0, 1) := by decide +kernel
theorem d_Parser_parseExpr_1 : decode b_Parser_parseExpr 1 = .ok (.iload_n 1, 1) := by decide +kernel
theorem d_Parser_parseExpr_2 : decode b_Parser_parseExpr 2 = .ok (.invokevirtual 182, 3) := by decide +kernel
theorem ml_Parser_182 : Cond.methodLink R_Parser 182 ⟨"PointerHouse$Parser", "parseTerm", "(I)I"⟩ ∈ lw_good := lg_right (i := 947) (by decide +kernel) rfl
theorem d_Parser_parseExpr_5 : decode b_Parser_parseExpr 5 = .ok (.istore_n 2, 1) := by decide +kernel
theorem d_Parser_parseExpr_6 : decode b_Parser_parseExpr 6 = .ok (.iload_n 2, 1) := by decide +kernel
theorem d_Parser_parseExpr_7 : decode b_Parser_parseExpr 7 = .ok (.istore_n 3, 1) := by decide +kernel
theorem d_Parser_parseExpr_8 : decode b_Parser_parseExpr 8 = .ok (.iconst 0, 1) := by decide +kernel
theorem d_Parser_parseExpr_9 : decode b_Parser_parseExpr 9 = .ok (.istore 4, 2) := by decide +kernel
theorem d_Parser_parseExpr_11 : decode b_Parser_parseExpr 11 = .ok (.iload 4, 2) := by decide +kernel
theorem d_Parser_parseExpr_13 : decode b_Parser_parseExpr 13 = .ok (.sipush 4000, 3) := by decide +kernel
theorem d_Parser_parseExpr_16 : decode b_Parser_parseExpr 16 = .ok (.if_icmp .ge 59, 3) := by decide +kernel
theorem d_Parser_parseExpr_19 : decode b_Parser_parseExpr 19 = .ok (.aload_n 0, 1) := by decide +kernel
theorem d_Parser_parseExpr_20 : decode b_Parser_parseExpr 20 = .ok (.invokevirtual 185, 3) := by decide +kernel
theorem ml_Parser_185 : Cond.methodLink R_Parser 185 ⟨"PointerHouse$Parser", "seesOperator", "()Z"⟩ ∈ lw_good := lg_right (i := 971) (by decide +kernel) rfl
theorem d_Parser_parseExpr_23 : decode b_Parser_parseExpr 23 = .ok (.ifCond .eq 52, 3) := by decide +kernel
theorem d_Parser_parseExpr_26 : decode b_Parser_parseExpr 26 = .ok (.aload_n 0, 1) := by decide +kernel
theorem d_Parser_parseExpr_27 : decode b_Parser_parseExpr 27 = .ok (.getfield 33, 3) := by decide +kernel
theorem d_Parser_parseExpr_30 : decode b_Parser_parseExpr 30 = .ok (.istore 5, 2) := by decide +kernel
theorem d_Parser_parseExpr_32 : decode b_Parser_parseExpr 32 = .ok (.aload_n 0, 1) := by decide +kernel
theorem d_Parser_parseExpr_33 : decode b_Parser_parseExpr 33 = .ok (.invokevirtual 59, 3) := by decide +kernel
theorem d_Parser_parseExpr_36 : decode b_Parser_parseExpr 36 = .ok (.aload_n 0, 1) := by decide +kernel
theorem d_Parser_parseExpr_37 : decode b_Parser_parseExpr 37 = .ok (.iload_n 1, 1) := by decide +kernel
theorem d_Parser_parseExpr_38 : decode b_Parser_parseExpr 38 = .ok (.invokevirtual 182, 3) := by decide +kernel
theorem d_Parser_parseExpr_41 : decode b_Parser_parseExpr 41 = .ok (.istore 6, 2) := by decide +kernel
theorem d_Parser_parseExpr_43 : decode b_Parser_parseExpr 43 = .ok (.aload_n 0, 1) := by decide +kernel
theorem d_Parser_parseExpr_44 : decode b_Parser_parseExpr 44 = .ok (.getfield 9, 3) := by decide +kernel
theorem d_Parser_parseExpr_47 : decode b_Parser_parseExpr 47 = .ok (.getfield 189, 3) := by decide +kernel
theorem fl_Parser_189 : Cond.fieldLink R_Parser 189 "PointerHouse$Source" "op" "[I" ∈ lw_good := lg_right (i := 208) (by decide +kernel) rfl
theorem d_Parser_parseExpr_50 : decode b_Parser_parseExpr 50 = .ok (.iload 6, 2) := by decide +kernel
theorem d_Parser_parseExpr_52 : decode b_Parser_parseExpr 52 = .ok (.iload 5, 2) := by decide +kernel
theorem d_Parser_parseExpr_54 : decode b_Parser_parseExpr 54 = .ok (.iastore, 1) := by decide +kernel
theorem d_Parser_parseExpr_55 : decode b_Parser_parseExpr 55 = .ok (.aload_n 0, 1) := by decide +kernel
theorem d_Parser_parseExpr_56 : decode b_Parser_parseExpr 56 = .ok (.getfield 9, 3) := by decide +kernel
theorem d_Parser_parseExpr_59 : decode b_Parser_parseExpr 59 = .ok (.getfield 144, 3) := by decide +kernel
theorem d_Parser_parseExpr_62 : decode b_Parser_parseExpr 62 = .ok (.iload_n 3, 1) := by decide +kernel
theorem d_Parser_parseExpr_63 : decode b_Parser_parseExpr 63 = .ok (.iload 6, 2) := by decide +kernel
theorem d_Parser_parseExpr_65 : decode b_Parser_parseExpr 65 = .ok (.iastore, 1) := by decide +kernel
theorem d_Parser_parseExpr_66 : decode b_Parser_parseExpr 66 = .ok (.iload 6, 2) := by decide +kernel
theorem d_Parser_parseExpr_68 : decode b_Parser_parseExpr 68 = .ok (.istore_n 3, 1) := by decide +kernel
theorem d_Parser_parseExpr_69 : decode b_Parser_parseExpr 69 = .ok (.iinc 4 1, 3) := by decide +kernel
theorem d_Parser_parseExpr_72 : decode b_Parser_parseExpr 72 = .ok (.goto (-61), 3) := by decide +kernel
theorem d_Parser_parseExpr_75 : decode b_Parser_parseExpr 75 = .ok (.iload_n 2, 1) := by decide +kernel
theorem d_Parser_parseExpr_76 : decode b_Parser_parseExpr 76 = .ok (.ireturn, 1) := by decide +kernel
abbrev b_Parser_parseTerm : ByteArray := prog_8_method_25_code
abbrev y_Parser_parseTerm : MethodName := ⟨R_Parser, "parseTerm", "(I)I"⟩
theorem co_Parser_parseTerm : Cond.code y_Parser_parseTerm b_Parser_parseTerm 6 (some .int) ∈ lw_good := lg_in (tin_4 _ (List.mem_of_getElem? (i := 230) rfl)) rfl
abbrev w_Parser_parseTerm : List Cond := Cond.code y_Parser_parseTerm b_Parser_parseTerm 6 (some .int) :: lw_good
theorem im_Parser_parseTerm : Cond.instanceMethod y_Parser_parseTerm ∈ lw_good := lg_right (i := 949) (by decide +kernel) rfl
theorem se_Parser_parseTerm : Cond.selects R_Parser y_Parser_parseTerm y_Parser_parseTerm ∈ lw_good := lg_left (i := 23) (by decide +kernel) rfl
theorem d_Parser_parseTerm_0 : decode b_Parser_parseTerm 0 = .ok (.iload_n 1, 1) := by decide +kernel
theorem d_Parser_parseTerm_1 : decode b_Parser_parseTerm 1 = .ok (.bipush 20, 2) := by decide +kernel
theorem d_Parser_parseTerm_3 : decode b_Parser_parseTerm 3 = .ok (.if_icmp .le 9, 3) := by decide +kernel
theorem d_Parser_parseTerm_6 : decode b_Parser_parseTerm 6 = .ok (.aload_n 0, 1) := by decide +kernel
theorem d_Parser_parseTerm_7 : decode b_Parser_parseTerm 7 = .ok (.invokevirtual 62, 3) := by decide +kernel
theorem d_Parser_parseTerm_10 : decode b_Parser_parseTerm 10 = .ok (.iconst 0, 1) := by decide +kernel
theorem d_Parser_parseTerm_11 : decode b_Parser_parseTerm 11 = .ok (.ireturn, 1) := by decide +kernel
theorem d_Parser_parseTerm_12 : decode b_Parser_parseTerm 12 = .ok (.aload_n 0, 1) := by decide +kernel
theorem d_Parser_parseTerm_13 : decode b_Parser_parseTerm 13 = .ok (.iload_n 1, 1) := by decide +kernel
theorem d_Parser_parseTerm_14 : decode b_Parser_parseTerm 14 = .ok (.invokevirtual 192, 3) := by decide +kernel
theorem ml_Parser_192 : Cond.methodLink R_Parser 192 ⟨"PointerHouse$Parser", "parsePrimary", "(I)I"⟩ ∈ lw_good := lg_right (i := 951) (by decide +kernel) rfl
theorem d_Parser_parseTerm_17 : decode b_Parser_parseTerm 17 = .ok (.istore_n 2, 1) := by decide +kernel
theorem d_Parser_parseTerm_18 : decode b_Parser_parseTerm 18 = .ok (.iconst 0, 1) := by decide +kernel
theorem d_Parser_parseTerm_19 : decode b_Parser_parseTerm 19 = .ok (.istore_n 3, 1) := by decide +kernel
theorem d_Parser_parseTerm_20 : decode b_Parser_parseTerm 20 = .ok (.iconst 0, 1) := by decide +kernel
theorem d_Parser_parseTerm_21 : decode b_Parser_parseTerm 21 = .ok (.istore 4, 2) := by decide +kernel
theorem d_Parser_parseTerm_23 : decode b_Parser_parseTerm 23 = .ok (.iload 4, 2) := by decide +kernel
theorem d_Parser_parseTerm_25 : decode b_Parser_parseTerm 25 = .ok (.sipush 4000, 3) := by decide +kernel
theorem d_Parser_parseTerm_28 : decode b_Parser_parseTerm 28 = .ok (.if_icmp .ge 84, 3) := by decide +kernel
theorem d_Parser_parseTerm_31 : decode b_Parser_parseTerm 31 = .ok (.aload_n 0, 1) := by decide +kernel
theorem d_Parser_parseTerm_32 : decode b_Parser_parseTerm 32 = .ok (.getfield 33, 3) := by decide +kernel
theorem d_Parser_parseTerm_35 : decode b_Parser_parseTerm 35 = .ok (.bipush 49, 2) := by decide +kernel
theorem d_Parser_parseTerm_37 : decode b_Parser_parseTerm 37 = .ok (.if_icmp .eq 30, 3) := by decide +kernel
theorem d_Parser_parseTerm_40 : decode b_Parser_parseTerm 40 = .ok (.aload_n 0, 1) := by decide +kernel
theorem d_Parser_parseTerm_41 : decode b_Parser_parseTerm 41 = .ok (.getfield 33, 3) := by decide +kernel
theorem d_Parser_parseTerm_44 : decode b_Parser_parseTerm 44 = .ok (.bipush 44, 2) := by decide +kernel
theorem d_Parser_parseTerm_46 : decode b_Parser_parseTerm 46 = .ok (.if_icmp .eq 21, 3) := by decide +kernel
theorem d_Parser_parseTerm_49 : decode b_Parser_parseTerm 49 = .ok (.aload_n 0, 1) := by decide +kernel
theorem d_Parser_parseTerm_50 : decode b_Parser_parseTerm 50 = .ok (.getfield 33, 3) := by decide +kernel
theorem d_Parser_parseTerm_53 : decode b_Parser_parseTerm 53 = .ok (.bipush 61, 2) := by decide +kernel
theorem d_Parser_parseTerm_55 : decode b_Parser_parseTerm 55 = .ok (.if_icmp .eq 12, 3) := by decide +kernel
theorem d_Parser_parseTerm_58 : decode b_Parser_parseTerm 58 = .ok (.aload_n 0, 1) := by decide +kernel
theorem d_Parser_parseTerm_59 : decode b_Parser_parseTerm 59 = .ok (.getfield 33, 3) := by decide +kernel
theorem d_Parser_parseTerm_62 : decode b_Parser_parseTerm 62 = .ok (.bipush 33, 2) := by decide +kernel
theorem d_Parser_parseTerm_64 : decode b_Parser_parseTerm 64 = .ok (.if_icmp .ne 48, 3) := by decide +kernel
theorem d_Parser_parseTerm_67 : decode b_Parser_parseTerm 67 = .ok (.aload_n 0, 1) := by decide +kernel
theorem d_Parser_parseTerm_68 : decode b_Parser_parseTerm 68 = .ok (.iload_n 1, 1) := by decide +kernel
theorem d_Parser_parseTerm_69 : decode b_Parser_parseTerm 69 = .ok (.invokevirtual 195, 3) := by decide +kernel
theorem ml_Parser_195 : Cond.methodLink R_Parser 195 ⟨"PointerHouse$Parser", "parseTail", "(I)I"⟩ ∈ lw_good := lg_right (i := 967) (by decide +kernel) rfl
theorem d_Parser_parseTerm_72 : decode b_Parser_parseTerm 72 = .ok (.istore 5, 2) := by decide +kernel
theorem d_Parser_parseTerm_74 : decode b_Parser_parseTerm 74 = .ok (.iload_n 3, 1) := by decide +kernel
theorem d_Parser_parseTerm_75 : decode b_Parser_parseTerm 75 = .ok (.ifCond .ne 17, 3) := by decide +kernel
theorem d_Parser_parseTerm_78 : decode b_Parser_parseTerm 78 = .ok (.aload_n 0, 1) := by decide +kernel
theorem d_Parser_parseTerm_79 : decode b_Parser_parseTerm 79 = .ok (.getfield 9, 3) := by decide +kernel
theorem d_Parser_parseTerm_82 : decode b_Parser_parseTerm 82 = .ok (.getfield 178, 3) := by decide +kernel
theorem d_Parser_parseTerm_85 : decode b_Parser_parseTerm 85 = .ok (.iload_n 2, 1) := by decide +kernel
theorem d_Parser_parseTerm_86 : decode b_Parser_parseTerm 86 = .ok (.iload 5, 2) := by decide +kernel
theorem d_Parser_parseTerm_88 : decode b_Parser_parseTerm 88 = .ok (.iastore, 1) := by decide +kernel
theorem d_Parser_parseTerm_89 : decode b_Parser_parseTerm 89 = .ok (.goto 14, 3) := by decide +kernel
theorem d_Parser_parseTerm_92 : decode b_Parser_parseTerm 92 = .ok (.aload_n 0, 1) := by decide +kernel
theorem d_Parser_parseTerm_93 : decode b_Parser_parseTerm 93 = .ok (.getfield 9, 3) := by decide +kernel
theorem d_Parser_parseTerm_96 : decode b_Parser_parseTerm 96 = .ok (.getfield 144, 3) := by decide +kernel
theorem d_Parser_parseTerm_99 : decode b_Parser_parseTerm 99 = .ok (.iload_n 3, 1) := by decide +kernel
theorem d_Parser_parseTerm_100 : decode b_Parser_parseTerm 100 = .ok (.iload 5, 2) := by decide +kernel
theorem d_Parser_parseTerm_102 : decode b_Parser_parseTerm 102 = .ok (.iastore, 1) := by decide +kernel
theorem d_Parser_parseTerm_103 : decode b_Parser_parseTerm 103 = .ok (.iload 5, 2) := by decide +kernel
theorem d_Parser_parseTerm_105 : decode b_Parser_parseTerm 105 = .ok (.istore_n 3, 1) := by decide +kernel
theorem d_Parser_parseTerm_106 : decode b_Parser_parseTerm 106 = .ok (.iinc 4 1, 3) := by decide +kernel
theorem d_Parser_parseTerm_109 : decode b_Parser_parseTerm 109 = .ok (.goto (-86), 3) := by decide +kernel
theorem d_Parser_parseTerm_112 : decode b_Parser_parseTerm 112 = .ok (.iload_n 2, 1) := by decide +kernel
theorem d_Parser_parseTerm_113 : decode b_Parser_parseTerm 113 = .ok (.ireturn, 1) := by decide +kernel
abbrev b_Parser_seesOperator : ByteArray := prog_8_method_24_code
abbrev y_Parser_seesOperator : MethodName := ⟨R_Parser, "seesOperator", "()Z"⟩
theorem co_Parser_seesOperator : Cond.code y_Parser_seesOperator b_Parser_seesOperator 1 (some .boolean) ∈ lw_good := lg_in (tin_5 _ (List.mem_of_getElem? (i := 14) rfl)) rfl
abbrev w_Parser_seesOperator : List Cond := Cond.code y_Parser_seesOperator b_Parser_seesOperator 1 (some .boolean) :: lw_good
theorem im_Parser_seesOperator : Cond.instanceMethod y_Parser_seesOperator ∈ lw_good := lg_right (i := 973) (by decide +kernel) rfl
theorem se_Parser_seesOperator : Cond.selects R_Parser y_Parser_seesOperator y_Parser_seesOperator ∈ lw_good := lg_left (i := 29) (by decide +kernel) rfl
theorem d_Parser_seesOperator_0 : decode b_Parser_seesOperator 0 = .ok (.aload_n 0, 1) := by decide +kernel
theorem d_Parser_seesOperator_1 : decode b_Parser_seesOperator 1 = .ok (.getfield 33, 3) := by decide +kernel
theorem d_Parser_seesOperator_4 : decode b_Parser_seesOperator 4 = .ok (.bipush 53, 2) := by decide +kernel
theorem d_Parser_seesOperator_6 : decode b_Parser_seesOperator 6 = .ok (.if_icmp .lt 12, 3) := by decide +kernel
theorem d_Parser_seesOperator_9 : decode b_Parser_seesOperator 9 = .ok (.aload_n 0, 1) := by decide +kernel
theorem d_Parser_seesOperator_10 : decode b_Parser_seesOperator 10 = .ok (.getfield 33, 3) := by decide +kernel
theorem d_Parser_seesOperator_13 : decode b_Parser_seesOperator 13 = .ok (.bipush 57, 2) := by decide +kernel
theorem d_Parser_seesOperator_15 : decode b_Parser_seesOperator 15 = .ok (.if_icmp .le 21, 3) := by decide +kernel
theorem d_Parser_seesOperator_18 : decode b_Parser_seesOperator 18 = .ok (.aload_n 0, 1) := by decide +kernel
theorem d_Parser_seesOperator_19 : decode b_Parser_seesOperator 19 = .ok (.getfield 33, 3) := by decide +kernel
theorem d_Parser_seesOperator_22 : decode b_Parser_seesOperator 22 = .ok (.bipush 62, 2) := by decide +kernel
theorem d_Parser_seesOperator_24 : decode b_Parser_seesOperator 24 = .ok (.if_icmp .eq 12, 3) := by decide +kernel
theorem d_Parser_seesOperator_27 : decode b_Parser_seesOperator 27 = .ok (.aload_n 0, 1) := by decide +kernel
theorem d_Parser_seesOperator_28 : decode b_Parser_seesOperator 28 = .ok (.getfield 33, 3) := by decide +kernel
theorem d_Parser_seesOperator_31 : decode b_Parser_seesOperator 31 = .ok (.bipush 51, 2) := by decide +kernel
theorem d_Parser_seesOperator_33 : decode b_Parser_seesOperator 33 = .ok (.if_icmp .ne 7, 3) := by decide +kernel
theorem d_Parser_seesOperator_36 : decode b_Parser_seesOperator 36 = .ok (.iconst 1, 1) := by decide +kernel
theorem d_Parser_seesOperator_37 : decode b_Parser_seesOperator 37 = .ok (.goto 4, 3) := by decide +kernel
theorem d_Parser_seesOperator_40 : decode b_Parser_seesOperator 40 = .ok (.iconst 0, 1) := by decide +kernel
theorem d_Parser_seesOperator_41 : decode b_Parser_seesOperator 41 = .ok (.ireturn, 1) := by decide +kernel
abbrev b_Parser_parsePrimary : ByteArray := prog_8_method_27_code
abbrev y_Parser_parsePrimary : MethodName := ⟨R_Parser, "parsePrimary", "(I)I"⟩
theorem co_Parser_parsePrimary : Cond.code y_Parser_parsePrimary b_Parser_parsePrimary 4 (some .int) ∈ lw_good := lg_in (tin_4 _ (List.mem_of_getElem? (i := 234) rfl)) rfl
abbrev w_Parser_parsePrimary : List Cond := Cond.code y_Parser_parsePrimary b_Parser_parsePrimary 4 (some .int) :: lw_good
theorem im_Parser_parsePrimary : Cond.instanceMethod y_Parser_parsePrimary ∈ lw_good := lg_right (i := 953) (by decide +kernel) rfl
theorem se_Parser_parsePrimary : Cond.selects R_Parser y_Parser_parsePrimary y_Parser_parsePrimary ∈ lw_good := lg_left (i := 24) (by decide +kernel) rfl
theorem d_Parser_parsePrimary_0 : decode b_Parser_parsePrimary 0 = .ok (.aload_n 0, 1) := by decide +kernel
theorem d_Parser_parsePrimary_1 : decode b_Parser_parsePrimary 1 = .ok (.getfield 36, 3) := by decide +kernel
theorem d_Parser_parsePrimary_4 : decode b_Parser_parsePrimary 4 = .ok (.ifCond .eq 5, 3) := by decide +kernel
theorem d_Parser_parsePrimary_7 : decode b_Parser_parsePrimary 7 = .ok (.iconst 0, 1) := by decide +kernel
theorem d_Parser_parsePrimary_8 : decode b_Parser_parsePrimary 8 = .ok (.ireturn, 1) := by decide +kernel
theorem d_Parser_parsePrimary_9 : decode b_Parser_parsePrimary 9 = .ok (.aload_n 0, 1) := by decide +kernel
theorem d_Parser_parsePrimary_10 : decode b_Parser_parsePrimary 10 = .ok (.getfield 33, 3) := by decide +kernel
theorem d_Parser_parsePrimary_13 : decode b_Parser_parsePrimary 13 = .ok (.istore_n 2, 1) := by decide +kernel
theorem d_Parser_parsePrimary_14 : decode b_Parser_parsePrimary 14 = .ok (.aload_n 0, 1) := by decide +kernel
theorem d_Parser_parsePrimary_15 : decode b_Parser_parsePrimary 15 = .ok (.getfield 9, 3) := by decide +kernel
theorem d_Parser_parsePrimary_18 : decode b_Parser_parsePrimary 18 = .ok (.iload_n 2, 1) := by decide +kernel
theorem d_Parser_parsePrimary_19 : decode b_Parser_parsePrimary 19 = .ok (.aload_n 0, 1) := by decide +kernel
theorem d_Parser_parsePrimary_20 : decode b_Parser_parsePrimary 20 = .ok (.getfield 23, 3) := by decide +kernel
theorem d_Parser_parsePrimary_23 : decode b_Parser_parsePrimary 23 = .ok (.invokevirtual 166, 3) := by decide +kernel
theorem d_Parser_parsePrimary_26 : decode b_Parser_parsePrimary 26 = .ok (.istore_n 3, 1) := by decide +kernel
theorem d_Parser_parsePrimary_27 : decode b_Parser_parsePrimary 27 = .ok (.iload_n 2, 1) := by decide +kernel
theorem d_Parser_parsePrimary_28 : decode b_Parser_parsePrimary 28 = .ok (.lookupswitch 267 #[(2, 115), (5, 108), (27, 108), (28, 188), (29, 201), (30, 201), (31, 243), (32, 243), (34, 108), (35, 108), (42, 257), (58, 220)], 108) := by decide +kernel
theorem d_Parser_parsePrimary_136 : decode b_Parser_parsePrimary 136 = .ok (.aload_n 0, 1) := by decide +kernel
theorem d_Parser_parsePrimary_137 : decode b_Parser_parsePrimary 137 = .ok (.invokevirtual 59, 3) := by decide +kernel
theorem d_Parser_parsePrimary_140 : decode b_Parser_parsePrimary 140 = .ok (.goto 159, 3) := by decide +kernel
theorem d_Parser_parsePrimary_143 : decode b_Parser_parsePrimary 143 = .ok (.aload_n 0, 1) := by decide +kernel
theorem d_Parser_parsePrimary_144 : decode b_Parser_parsePrimary 144 = .ok (.invokevirtual 59, 3) := by decide +kernel
theorem d_Parser_parsePrimary_147 : decode b_Parser_parsePrimary 147 = .ok (.aload_n 0, 1) := by decide +kernel
theorem d_Parser_parsePrimary_148 : decode b_Parser_parsePrimary 148 = .ok (.getfield 33, 3) := by decide +kernel
theorem d_Parser_parsePrimary_151 : decode b_Parser_parsePrimary 151 = .ok (.iconst 4, 1) := by decide +kernel
theorem d_Parser_parsePrimary_152 : decode b_Parser_parsePrimary 152 = .ok (.if_icmp .eq 12, 3) := by decide +kernel
theorem d_Parser_parsePrimary_155 : decode b_Parser_parsePrimary 155 = .ok (.aload_n 0, 1) := by decide +kernel
theorem d_Parser_parsePrimary_156 : decode b_Parser_parsePrimary 156 = .ok (.getfield 33, 3) := by decide +kernel
theorem d_Parser_parsePrimary_159 : decode b_Parser_parsePrimary 159 = .ok (.bipush 42, 2) := by decide +kernel
theorem d_Parser_parsePrimary_161 : decode b_Parser_parsePrimary 161 = .ok (.if_icmp .ne 138, 3) := by decide +kernel
theorem d_Parser_parsePrimary_164 : decode b_Parser_parsePrimary 164 = .ok (.aload_n 0, 1) := by decide +kernel
theorem d_Parser_parsePrimary_165 : decode b_Parser_parsePrimary 165 = .ok (.getfield 9, 3) := by decide +kernel
theorem d_Parser_parsePrimary_168 : decode b_Parser_parsePrimary 168 = .ok (.getfield 181, 3) := by decide +kernel
theorem d_Parser_parsePrimary_171 : decode b_Parser_parsePrimary 171 = .ok (.iload_n 3, 1) := by decide +kernel
theorem d_Parser_parsePrimary_172 : decode b_Parser_parsePrimary 172 = .ok (.bipush 63, 2) := by decide +kernel
theorem d_Parser_parsePrimary_174 : decode b_Parser_parsePrimary 174 = .ok (.iastore, 1) := by decide +kernel
theorem d_Parser_parsePrimary_175 : decode b_Parser_parsePrimary 175 = .ok (.aload_n 0, 1) := by decide +kernel
theorem d_Parser_parsePrimary_176 : decode b_Parser_parsePrimary 176 = .ok (.getfield 9, 3) := by decide +kernel
theorem d_Parser_parsePrimary_179 : decode b_Parser_parsePrimary 179 = .ok (.getfield 175, 3) := by decide +kernel
theorem d_Parser_parsePrimary_182 : decode b_Parser_parsePrimary 182 = .ok (.iload_n 3, 1) := by decide +kernel
theorem d_Parser_parsePrimary_183 : decode b_Parser_parsePrimary 183 = .ok (.aload_n 0, 1) := by decide +kernel
theorem d_Parser_parsePrimary_184 : decode b_Parser_parsePrimary 184 = .ok (.iconst 3, 1) := by decide +kernel
theorem d_Parser_parsePrimary_185 : decode b_Parser_parsePrimary 185 = .ok (.invokevirtual 91, 3) := by decide +kernel
theorem d_Parser_parsePrimary_188 : decode b_Parser_parsePrimary 188 = .ok (.iastore, 1) := by decide +kernel
theorem d_Parser_parsePrimary_189 : decode b_Parser_parsePrimary 189 = .ok (.aload_n 0, 1) := by decide +kernel
theorem d_Parser_parsePrimary_190 : decode b_Parser_parsePrimary 190 = .ok (.bipush 42, 2) := by decide +kernel
theorem d_Parser_parsePrimary_192 : decode b_Parser_parsePrimary 192 = .ok (.invokevirtual 85, 3) := by decide +kernel
theorem d_Parser_parsePrimary_195 : decode b_Parser_parsePrimary 195 = .ok (.aload_n 0, 1) := by decide +kernel
theorem d_Parser_parsePrimary_196 : decode b_Parser_parsePrimary 196 = .ok (.getfield 9, 3) := by decide +kernel
theorem d_Parser_parsePrimary_199 : decode b_Parser_parsePrimary 199 = .ok (.getfield 169, 3) := by decide +kernel
theorem d_Parser_parsePrimary_202 : decode b_Parser_parsePrimary 202 = .ok (.iload_n 3, 1) := by decide +kernel
theorem d_Parser_parsePrimary_203 : decode b_Parser_parsePrimary 203 = .ok (.aload_n 0, 1) := by decide +kernel
theorem d_Parser_parsePrimary_204 : decode b_Parser_parsePrimary 204 = .ok (.iload_n 1, 1) := by decide +kernel
theorem d_Parser_parsePrimary_205 : decode b_Parser_parsePrimary 205 = .ok (.iconst 1, 1) := by decide +kernel
theorem d_Parser_parsePrimary_206 : decode b_Parser_parsePrimary 206 = .ok (.iadd, 1) := by decide +kernel
theorem d_Parser_parsePrimary_207 : decode b_Parser_parsePrimary 207 = .ok (.bipush 43, 2) := by decide +kernel
theorem d_Parser_parsePrimary_209 : decode b_Parser_parsePrimary 209 = .ok (.invokevirtual 198, 3) := by decide +kernel
theorem ml_Parser_198 : Cond.methodLink R_Parser 198 ⟨"PointerHouse$Parser", "parseArguments", "(II)I"⟩ ∈ lw_good := lg_right (i := 955) (by decide +kernel) rfl
theorem d_Parser_parsePrimary_212 : decode b_Parser_parsePrimary 212 = .ok (.iastore, 1) := by decide +kernel
theorem d_Parser_parsePrimary_213 : decode b_Parser_parsePrimary 213 = .ok (.goto 86, 3) := by decide +kernel
theorem d_Parser_parsePrimary_216 : decode b_Parser_parsePrimary 216 = .ok (.aload_n 0, 1) := by decide +kernel
theorem d_Parser_parsePrimary_217 : decode b_Parser_parsePrimary 217 = .ok (.invokevirtual 59, 3) := by decide +kernel
theorem d_Parser_parsePrimary_220 : decode b_Parser_parsePrimary 220 = .ok (.aload_n 0, 1) := by decide +kernel
theorem d_Parser_parsePrimary_221 : decode b_Parser_parsePrimary 221 = .ok (.iload_n 3, 1) := by decide +kernel
theorem d_Parser_parsePrimary_222 : decode b_Parser_parsePrimary 222 = .ok (.iload_n 1, 1) := by decide +kernel
theorem d_Parser_parsePrimary_223 : decode b_Parser_parsePrimary 223 = .ok (.invokevirtual 201, 3) := by decide +kernel
theorem ml_Parser_201 : Cond.methodLink R_Parser 201 ⟨"PointerHouse$Parser", "parseNew", "(II)V"⟩ ∈ lw_good := lg_right (i := 959) (by decide +kernel) rfl
theorem d_Parser_parsePrimary_226 : decode b_Parser_parsePrimary 226 = .ok (.goto 73, 3) := by decide +kernel
theorem d_Parser_parsePrimary_229 : decode b_Parser_parsePrimary 229 = .ok (.aload_n 0, 1) := by decide +kernel
theorem d_Parser_parsePrimary_230 : decode b_Parser_parsePrimary 230 = .ok (.invokevirtual 59, 3) := by decide +kernel
theorem d_Parser_parsePrimary_233 : decode b_Parser_parsePrimary 233 = .ok (.aload_n 0, 1) := by decide +kernel
theorem d_Parser_parsePrimary_234 : decode b_Parser_parsePrimary 234 = .ok (.iconst 4, 1) := by decide +kernel
theorem d_Parser_parsePrimary_235 : decode b_Parser_parsePrimary 235 = .ok (.invokevirtual 85, 3) := by decide +kernel
theorem d_Parser_parsePrimary_238 : decode b_Parser_parsePrimary 238 = .ok (.aload_n 0, 1) := by decide +kernel
theorem d_Parser_parsePrimary_239 : decode b_Parser_parsePrimary 239 = .ok (.iload_n 3, 1) := by decide +kernel
theorem d_Parser_parsePrimary_240 : decode b_Parser_parsePrimary 240 = .ok (.iload_n 2, 1) := by decide +kernel
theorem d_Parser_parsePrimary_241 : decode b_Parser_parsePrimary 241 = .ok (.iload_n 1, 1) := by decide +kernel
theorem d_Parser_parsePrimary_242 : decode b_Parser_parsePrimary 242 = .ok (.invokevirtual 204, 3) := by decide +kernel
theorem ml_Parser_204 : Cond.methodLink R_Parser 204 ⟨"PointerHouse$Parser", "parseMaking", "(III)V"⟩ ∈ lw_good := lg_right (i := 963) (by decide +kernel) rfl
theorem d_Parser_parsePrimary_245 : decode b_Parser_parsePrimary 245 = .ok (.goto 54, 3) := by decide +kernel
theorem d_Parser_parsePrimary_248 : decode b_Parser_parsePrimary 248 = .ok (.aload_n 0, 1) := by decide +kernel
theorem d_Parser_parsePrimary_249 : decode b_Parser_parsePrimary 249 = .ok (.invokevirtual 59, 3) := by decide +kernel
theorem d_Parser_parsePrimary_252 : decode b_Parser_parsePrimary 252 = .ok (.aload_n 0, 1) := by decide +kernel
theorem d_Parser_parsePrimary_253 : decode b_Parser_parsePrimary 253 = .ok (.getfield 9, 3) := by decide +kernel
theorem d_Parser_parsePrimary_256 : decode b_Parser_parsePrimary 256 = .ok (.getfield 169, 3) := by decide +kernel
theorem d_Parser_parsePrimary_259 : decode b_Parser_parsePrimary 259 = .ok (.iload_n 3, 1) := by decide +kernel
theorem d_Parser_parsePrimary_260 : decode b_Parser_parsePrimary 260 = .ok (.aload_n 0, 1) := by decide +kernel
theorem d_Parser_parsePrimary_261 : decode b_Parser_parsePrimary 261 = .ok (.iload_n 1, 1) := by decide +kernel
theorem d_Parser_parsePrimary_262 : decode b_Parser_parsePrimary 262 = .ok (.iconst 1, 1) := by decide +kernel
theorem d_Parser_parsePrimary_263 : decode b_Parser_parsePrimary 263 = .ok (.iadd, 1) := by decide +kernel
theorem d_Parser_parsePrimary_264 : decode b_Parser_parsePrimary 264 = .ok (.invokevirtual 182, 3) := by decide +kernel
theorem d_Parser_parsePrimary_267 : decode b_Parser_parsePrimary 267 = .ok (.iastore, 1) := by decide +kernel
theorem d_Parser_parsePrimary_268 : decode b_Parser_parsePrimary 268 = .ok (.goto 31, 3) := by decide +kernel
theorem d_Parser_parsePrimary_271 : decode b_Parser_parsePrimary 271 = .ok (.aload_n 0, 1) := by decide +kernel
theorem d_Parser_parsePrimary_272 : decode b_Parser_parsePrimary 272 = .ok (.invokevirtual 59, 3) := by decide +kernel
theorem d_Parser_parsePrimary_275 : decode b_Parser_parsePrimary 275 = .ok (.aload_n 0, 1) := by decide +kernel
theorem d_Parser_parsePrimary_276 : decode b_Parser_parsePrimary 276 = .ok (.iload_n 3, 1) := by decide +kernel
theorem d_Parser_parsePrimary_277 : decode b_Parser_parsePrimary 277 = .ok (.iload_n 2, 1) := by decide +kernel
theorem d_Parser_parsePrimary_278 : decode b_Parser_parsePrimary 278 = .ok (.iload_n 1, 1) := by decide +kernel
theorem d_Parser_parsePrimary_279 : decode b_Parser_parsePrimary 279 = .ok (.invokevirtual 204, 3) := by decide +kernel
theorem d_Parser_parsePrimary_282 : decode b_Parser_parsePrimary 282 = .ok (.goto 17, 3) := by decide +kernel
theorem d_Parser_parsePrimary_285 : decode b_Parser_parsePrimary 285 = .ok (.aload_n 0, 1) := by decide +kernel
theorem d_Parser_parsePrimary_286 : decode b_Parser_parsePrimary 286 = .ok (.iload_n 3, 1) := by decide +kernel
theorem d_Parser_parsePrimary_287 : decode b_Parser_parsePrimary 287 = .ok (.iload_n 2, 1) := by decide +kernel
theorem d_Parser_parsePrimary_288 : decode b_Parser_parsePrimary 288 = .ok (.iload_n 1, 1) := by decide +kernel
theorem d_Parser_parsePrimary_289 : decode b_Parser_parsePrimary 289 = .ok (.invokevirtual 204, 3) := by decide +kernel
theorem d_Parser_parsePrimary_292 : decode b_Parser_parsePrimary 292 = .ok (.goto 7, 3) := by decide +kernel
theorem d_Parser_parsePrimary_295 : decode b_Parser_parsePrimary 295 = .ok (.aload_n 0, 1) := by decide +kernel
theorem d_Parser_parsePrimary_296 : decode b_Parser_parsePrimary 296 = .ok (.invokevirtual 62, 3) := by decide +kernel
theorem d_Parser_parsePrimary_299 : decode b_Parser_parsePrimary 299 = .ok (.iload_n 3, 1) := by decide +kernel
theorem d_Parser_parsePrimary_300 : decode b_Parser_parsePrimary 300 = .ok (.ireturn, 1) := by decide +kernel
abbrev b_Parser_parseTail : ByteArray := prog_8_method_26_code
abbrev y_Parser_parseTail : MethodName := ⟨R_Parser, "parseTail", "(I)I"⟩
theorem co_Parser_parseTail : Cond.code y_Parser_parseTail b_Parser_parseTail 4 (some .int) ∈ lw_good := lg_in (tin_5 _ (List.mem_of_getElem? (i := 10) rfl)) rfl
abbrev w_Parser_parseTail : List Cond := Cond.code y_Parser_parseTail b_Parser_parseTail 4 (some .int) :: lw_good
theorem im_Parser_parseTail : Cond.instanceMethod y_Parser_parseTail ∈ lw_good := lg_right (i := 969) (by decide +kernel) rfl
theorem se_Parser_parseTail : Cond.selects R_Parser y_Parser_parseTail y_Parser_parseTail ∈ lw_good := lg_left (i := 28) (by decide +kernel) rfl
theorem d_Parser_parseTail_0 : decode b_Parser_parseTail 0 = .ok (.aload_n 0, 1) := by decide +kernel
theorem d_Parser_parseTail_1 : decode b_Parser_parseTail 1 = .ok (.getfield 33, 3) := by decide +kernel
theorem d_Parser_parseTail_4 : decode b_Parser_parseTail 4 = .ok (.istore_n 2, 1) := by decide +kernel
theorem d_Parser_parseTail_5 : decode b_Parser_parseTail 5 = .ok (.aload_n 0, 1) := by decide +kernel
theorem d_Parser_parseTail_6 : decode b_Parser_parseTail 6 = .ok (.getfield 9, 3) := by decide +kernel
theorem d_Parser_parseTail_9 : decode b_Parser_parseTail 9 = .ok (.iload_n 2, 1) := by decide +kernel
theorem d_Parser_parseTail_10 : decode b_Parser_parseTail 10 = .ok (.aload_n 0, 1) := by decide +kernel
theorem d_Parser_parseTail_11 : decode b_Parser_parseTail 11 = .ok (.getfield 23, 3) := by decide +kernel
theorem d_Parser_parseTail_14 : decode b_Parser_parseTail 14 = .ok (.invokevirtual 166, 3) := by decide +kernel
theorem d_Parser_parseTail_17 : decode b_Parser_parseTail 17 = .ok (.istore_n 3, 1) := by decide +kernel
theorem d_Parser_parseTail_18 : decode b_Parser_parseTail 18 = .ok (.aload_n 0, 1) := by decide +kernel
theorem d_Parser_parseTail_19 : decode b_Parser_parseTail 19 = .ok (.invokevirtual 59, 3) := by decide +kernel
theorem d_Parser_parseTail_22 : decode b_Parser_parseTail 22 = .ok (.iload_n 2, 1) := by decide +kernel
theorem d_Parser_parseTail_23 : decode b_Parser_parseTail 23 = .ok (.bipush 44, 2) := by decide +kernel
theorem d_Parser_parseTail_25 : decode b_Parser_parseTail 25 = .ok (.if_icmp .ne 28, 3) := by decide +kernel
theorem d_Parser_parseTail_28 : decode b_Parser_parseTail 28 = .ok (.aload_n 0, 1) := by decide +kernel
theorem d_Parser_parseTail_29 : decode b_Parser_parseTail 29 = .ok (.getfield 9, 3) := by decide +kernel
theorem d_Parser_parseTail_32 : decode b_Parser_parseTail 32 = .ok (.getfield 169, 3) := by decide +kernel
theorem d_Parser_parseTail_35 : decode b_Parser_parseTail 35 = .ok (.iload_n 3, 1) := by decide +kernel
theorem d_Parser_parseTail_36 : decode b_Parser_parseTail 36 = .ok (.aload_n 0, 1) := by decide +kernel
theorem d_Parser_parseTail_37 : decode b_Parser_parseTail 37 = .ok (.iload_n 1, 1) := by decide +kernel
theorem d_Parser_parseTail_38 : decode b_Parser_parseTail 38 = .ok (.iconst 1, 1) := by decide +kernel
theorem d_Parser_parseTail_39 : decode b_Parser_parseTail 39 = .ok (.iadd, 1) := by decide +kernel
theorem d_Parser_parseTail_40 : decode b_Parser_parseTail 40 = .ok (.invokevirtual 172, 3) := by decide +kernel
theorem d_Parser_parseTail_43 : decode b_Parser_parseTail 43 = .ok (.iastore, 1) := by decide +kernel
theorem d_Parser_parseTail_44 : decode b_Parser_parseTail 44 = .ok (.aload_n 0, 1) := by decide +kernel
theorem d_Parser_parseTail_45 : decode b_Parser_parseTail 45 = .ok (.bipush 45, 2) := by decide +kernel
theorem d_Parser_parseTail_47 : decode b_Parser_parseTail 47 = .ok (.invokevirtual 85, 3) := by decide +kernel
theorem d_Parser_parseTail_50 : decode b_Parser_parseTail 50 = .ok (.goto 14, 3) := by decide +kernel
theorem d_Parser_parseTail_53 : decode b_Parser_parseTail 53 = .ok (.iload_n 2, 1) := by decide +kernel
theorem d_Parser_parseTail_54 : decode b_Parser_parseTail 54 = .ok (.bipush 61, 2) := by decide +kernel
theorem d_Parser_parseTail_56 : decode b_Parser_parseTail 56 = .ok (.if_icmp .eq 8, 3) := by decide +kernel
theorem d_Parser_parseTail_59 : decode b_Parser_parseTail 59 = .ok (.aload_n 0, 1) := by decide +kernel
theorem d_Parser_parseTail_60 : decode b_Parser_parseTail 60 = .ok (.iconst 2, 1) := by decide +kernel
theorem d_Parser_parseTail_61 : decode b_Parser_parseTail 61 = .ok (.invokevirtual 85, 3) := by decide +kernel
theorem d_Parser_parseTail_64 : decode b_Parser_parseTail 64 = .ok (.iload_n 3, 1) := by decide +kernel
theorem d_Parser_parseTail_65 : decode b_Parser_parseTail 65 = .ok (.ireturn, 1) := by decide +kernel
abbrev b_Parser_parseNew : ByteArray := prog_8_method_28_code
abbrev y_Parser_parseNew : MethodName := ⟨R_Parser, "parseNew", "(II)V"⟩
theorem co_Parser_parseNew : Cond.code y_Parser_parseNew b_Parser_parseNew 3 none ∈ lw_good := lg_in (tin_5 _ (List.mem_of_getElem? (i := 2) rfl)) rfl
abbrev w_Parser_parseNew : List Cond := Cond.code y_Parser_parseNew b_Parser_parseNew 3 none :: lw_good
theorem im_Parser_parseNew : Cond.instanceMethod y_Parser_parseNew ∈ lw_good := lg_right (i := 961) (by decide +kernel) rfl
theorem se_Parser_parseNew : Cond.selects R_Parser y_Parser_parseNew y_Parser_parseNew ∈ lw_good := lg_left (i := 26) (by decide +kernel) rfl
theorem d_Parser_parseNew_0 : decode b_Parser_parseNew 0 = .ok (.aload_n 0, 1) := by decide +kernel
theorem d_Parser_parseNew_1 : decode b_Parser_parseNew 1 = .ok (.iconst 4, 1) := by decide +kernel
theorem d_Parser_parseNew_2 : decode b_Parser_parseNew 2 = .ok (.invokevirtual 85, 3) := by decide +kernel
theorem d_Parser_parseNew_5 : decode b_Parser_parseNew 5 = .ok (.aload_n 0, 1) := by decide +kernel
theorem d_Parser_parseNew_6 : decode b_Parser_parseNew 6 = .ok (.iconst 3, 1) := by decide +kernel
theorem d_Parser_parseNew_7 : decode b_Parser_parseNew 7 = .ok (.invokevirtual 85, 3) := by decide +kernel
theorem d_Parser_parseNew_10 : decode b_Parser_parseNew 10 = .ok (.aload_n 0, 1) := by decide +kernel
theorem d_Parser_parseNew_11 : decode b_Parser_parseNew 11 = .ok (.getfield 9, 3) := by decide +kernel
theorem d_Parser_parseNew_14 : decode b_Parser_parseNew 14 = .ok (.getfield 175, 3) := by decide +kernel
theorem d_Parser_parseNew_17 : decode b_Parser_parseNew 17 = .ok (.iload_n 1, 1) := by decide +kernel
theorem d_Parser_parseNew_18 : decode b_Parser_parseNew 18 = .ok (.aload_n 0, 1) := by decide +kernel
theorem d_Parser_parseNew_19 : decode b_Parser_parseNew 19 = .ok (.iconst 3, 1) := by decide +kernel
theorem d_Parser_parseNew_20 : decode b_Parser_parseNew 20 = .ok (.invokevirtual 91, 3) := by decide +kernel
theorem d_Parser_parseNew_23 : decode b_Parser_parseNew 23 = .ok (.iastore, 1) := by decide +kernel
theorem d_Parser_parseNew_24 : decode b_Parser_parseNew 24 = .ok (.aload_n 0, 1) := by decide +kernel
theorem d_Parser_parseNew_25 : decode b_Parser_parseNew 25 = .ok (.bipush 49, 2) := by decide +kernel
theorem d_Parser_parseNew_27 : decode b_Parser_parseNew 27 = .ok (.invokevirtual 125, 3) := by decide +kernel
theorem d_Parser_parseNew_30 : decode b_Parser_parseNew 30 = .ok (.ifCond .eq 19, 3) := by decide +kernel
theorem d_Parser_parseNew_33 : decode b_Parser_parseNew 33 = .ok (.aload_n 0, 1) := by decide +kernel
theorem d_Parser_parseNew_34 : decode b_Parser_parseNew 34 = .ok (.iconst 2, 1) := by decide +kernel
theorem d_Parser_parseNew_35 : decode b_Parser_parseNew 35 = .ok (.invokevirtual 85, 3) := by decide +kernel
theorem d_Parser_parseNew_38 : decode b_Parser_parseNew 38 = .ok (.aload_n 0, 1) := by decide +kernel
theorem d_Parser_parseNew_39 : decode b_Parser_parseNew 39 = .ok (.iload_n 1, 1) := by decide +kernel
theorem d_Parser_parseNew_40 : decode b_Parser_parseNew 40 = .ok (.bipush 28, 2) := by decide +kernel
theorem d_Parser_parseNew_42 : decode b_Parser_parseNew 42 = .ok (.iload_n 2, 1) := by decide +kernel
theorem d_Parser_parseNew_43 : decode b_Parser_parseNew 43 = .ok (.invokevirtual 204, 3) := by decide +kernel
theorem d_Parser_parseNew_46 : decode b_Parser_parseNew 46 = .ok (.goto 27, 3) := by decide +kernel
theorem d_Parser_parseNew_49 : decode b_Parser_parseNew 49 = .ok (.aload_n 0, 1) := by decide +kernel
theorem d_Parser_parseNew_50 : decode b_Parser_parseNew 50 = .ok (.bipush 40, 2) := by decide +kernel
theorem d_Parser_parseNew_52 : decode b_Parser_parseNew 52 = .ok (.invokevirtual 85, 3) := by decide +kernel
theorem d_Parser_parseNew_55 : decode b_Parser_parseNew 55 = .ok (.aload_n 0, 1) := by decide +kernel
theorem d_Parser_parseNew_56 : decode b_Parser_parseNew 56 = .ok (.getfield 9, 3) := by decide +kernel
theorem d_Parser_parseNew_59 : decode b_Parser_parseNew 59 = .ok (.getfield 169, 3) := by decide +kernel
theorem d_Parser_parseNew_62 : decode b_Parser_parseNew 62 = .ok (.iload_n 1, 1) := by decide +kernel
theorem d_Parser_parseNew_63 : decode b_Parser_parseNew 63 = .ok (.aload_n 0, 1) := by decide +kernel
theorem d_Parser_parseNew_64 : decode b_Parser_parseNew 64 = .ok (.iload_n 2, 1) := by decide +kernel
theorem d_Parser_parseNew_65 : decode b_Parser_parseNew 65 = .ok (.iconst 1, 1) := by decide +kernel
theorem d_Parser_parseNew_66 : decode b_Parser_parseNew 66 = .ok (.iadd, 1) := by decide +kernel
theorem d_Parser_parseNew_67 : decode b_Parser_parseNew 67 = .ok (.bipush 41, 2) := by decide +kernel
theorem d_Parser_parseNew_69 : decode b_Parser_parseNew 69 = .ok (.invokevirtual 198, 3) := by decide +kernel
theorem d_Parser_parseNew_72 : decode b_Parser_parseNew 72 = .ok (.iastore, 1) := by decide +kernel
theorem d_Parser_parseNew_73 : decode b_Parser_parseNew 73 = .ok (.return_, 1) := by decide +kernel
abbrev b_Parser_parseMaking : ByteArray := prog_8_method_29_code
abbrev y_Parser_parseMaking : MethodName := ⟨R_Parser, "parseMaking", "(III)V"⟩
theorem co_Parser_parseMaking : Cond.code y_Parser_parseMaking b_Parser_parseMaking 5 none ∈ lw_good := lg_in (tin_5 _ (List.mem_of_getElem? (i := 6) rfl)) rfl
abbrev w_Parser_parseMaking : List Cond := Cond.code y_Parser_parseMaking b_Parser_parseMaking 5 none :: lw_good
theorem im_Parser_parseMaking : Cond.instanceMethod y_Parser_parseMaking ∈ lw_good := lg_right (i := 965) (by decide +kernel) rfl
theorem se_Parser_parseMaking : Cond.selects R_Parser y_Parser_parseMaking y_Parser_parseMaking ∈ lw_good := lg_left (i := 27) (by decide +kernel) rfl
theorem d_Parser_parseMaking_0 : decode b_Parser_parseMaking 0 = .ok (.aload_n 0, 1) := by decide +kernel
theorem d_Parser_parseMaking_1 : decode b_Parser_parseMaking 1 = .ok (.bipush 42, 2) := by decide +kernel
theorem d_Parser_parseMaking_3 : decode b_Parser_parseMaking 3 = .ok (.invokevirtual 85, 3) := by decide +kernel
theorem d_Parser_parseMaking_6 : decode b_Parser_parseMaking 6 = .ok (.aload_n 0, 1) := by decide +kernel
theorem d_Parser_parseMaking_7 : decode b_Parser_parseMaking 7 = .ok (.iload_n 3, 1) := by decide +kernel
theorem d_Parser_parseMaking_8 : decode b_Parser_parseMaking 8 = .ok (.iconst 1, 1) := by decide +kernel
theorem d_Parser_parseMaking_9 : decode b_Parser_parseMaking 9 = .ok (.iadd, 1) := by decide +kernel
theorem d_Parser_parseMaking_10 : decode b_Parser_parseMaking 10 = .ok (.invokevirtual 172, 3) := by decide +kernel
theorem d_Parser_parseMaking_13 : decode b_Parser_parseMaking 13 = .ok (.istore 4, 2) := by decide +kernel
theorem d_Parser_parseMaking_15 : decode b_Parser_parseMaking 15 = .ok (.aload_n 0, 1) := by decide +kernel
theorem d_Parser_parseMaking_16 : decode b_Parser_parseMaking 16 = .ok (.getfield 9, 3) := by decide +kernel
theorem d_Parser_parseMaking_19 : decode b_Parser_parseMaking 19 = .ok (.getfield 169, 3) := by decide +kernel
theorem d_Parser_parseMaking_22 : decode b_Parser_parseMaking 22 = .ok (.iload_n 1, 1) := by decide +kernel
theorem d_Parser_parseMaking_23 : decode b_Parser_parseMaking 23 = .ok (.iload 4, 2) := by decide +kernel
theorem d_Parser_parseMaking_25 : decode b_Parser_parseMaking 25 = .ok (.iastore, 1) := by decide +kernel
theorem d_Parser_parseMaking_26 : decode b_Parser_parseMaking 26 = .ok (.iload_n 2, 1) := by decide +kernel
theorem d_Parser_parseMaking_27 : decode b_Parser_parseMaking 27 = .ok (.bipush 30, 2) := by decide +kernel
theorem d_Parser_parseMaking_29 : decode b_Parser_parseMaking 29 = .ok (.if_icmp .ne 26, 3) := by decide +kernel
theorem d_Parser_parseMaking_32 : decode b_Parser_parseMaking 32 = .ok (.aload_n 0, 1) := by decide +kernel
theorem d_Parser_parseMaking_33 : decode b_Parser_parseMaking 33 = .ok (.bipush 47, 2) := by decide +kernel
theorem d_Parser_parseMaking_35 : decode b_Parser_parseMaking 35 = .ok (.invokevirtual 85, 3) := by decide +kernel
theorem d_Parser_parseMaking_38 : decode b_Parser_parseMaking 38 = .ok (.aload_n 0, 1) := by decide +kernel
theorem d_Parser_parseMaking_39 : decode b_Parser_parseMaking 39 = .ok (.getfield 9, 3) := by decide +kernel
theorem d_Parser_parseMaking_42 : decode b_Parser_parseMaking 42 = .ok (.getfield 208, 3) := by decide +kernel
theorem fl_Parser_208 : Cond.fieldLink R_Parser 208 "PointerHouse$Source" "peer" "[I" ∈ lw_good := lg_right (i := 205) (by decide +kernel) rfl
theorem d_Parser_parseMaking_45 : decode b_Parser_parseMaking 45 = .ok (.iload 4, 2) := by decide +kernel
theorem d_Parser_parseMaking_47 : decode b_Parser_parseMaking 47 = .ok (.aload_n 0, 1) := by decide +kernel
theorem d_Parser_parseMaking_48 : decode b_Parser_parseMaking 48 = .ok (.iload_n 3, 1) := by decide +kernel
theorem d_Parser_parseMaking_49 : decode b_Parser_parseMaking 49 = .ok (.iconst 1, 1) := by decide +kernel
theorem d_Parser_parseMaking_50 : decode b_Parser_parseMaking 50 = .ok (.iadd, 1) := by decide +kernel
theorem d_Parser_parseMaking_51 : decode b_Parser_parseMaking 51 = .ok (.invokevirtual 172, 3) := by decide +kernel
theorem d_Parser_parseMaking_54 : decode b_Parser_parseMaking 54 = .ok (.iastore, 1) := by decide +kernel
theorem d_Parser_parseMaking_55 : decode b_Parser_parseMaking 55 = .ok (.aload_n 0, 1) := by decide +kernel
theorem d_Parser_parseMaking_56 : decode b_Parser_parseMaking 56 = .ok (.bipush 43, 2) := by decide +kernel
theorem d_Parser_parseMaking_58 : decode b_Parser_parseMaking 58 = .ok (.invokevirtual 85, 3) := by decide +kernel
theorem d_Parser_parseMaking_61 : decode b_Parser_parseMaking 61 = .ok (.return_, 1) := by decide +kernel
abbrev b_Parser_parseArguments : ByteArray := prog_8_method_30_code
abbrev y_Parser_parseArguments : MethodName := ⟨R_Parser, "parseArguments", "(II)I"⟩
theorem co_Parser_parseArguments : Cond.code y_Parser_parseArguments b_Parser_parseArguments 7 (some .int) ∈ lw_good := lg_in (tin_4 _ (List.mem_of_getElem? (i := 238) rfl)) rfl
abbrev w_Parser_parseArguments : List Cond := Cond.code y_Parser_parseArguments b_Parser_parseArguments 7 (some .int) :: lw_good
theorem im_Parser_parseArguments : Cond.instanceMethod y_Parser_parseArguments ∈ lw_good := lg_right (i := 957) (by decide +kernel) rfl
theorem se_Parser_parseArguments : Cond.selects R_Parser y_Parser_parseArguments y_Parser_parseArguments ∈ lw_good := lg_left (i := 25) (by decide +kernel) rfl
theorem d_Parser_parseArguments_0 : decode b_Parser_parseArguments 0 = .ok (.aload_n 0, 1) := by decide +kernel
theorem d_Parser_parseArguments_1 : decode b_Parser_parseArguments 1 = .ok (.iload_n 2, 1) := by decide +kernel
theorem d_Parser_parseArguments_2 : decode b_Parser_parseArguments 2 = .ok (.invokevirtual 125, 3) := by decide +kernel
theorem d_Parser_parseArguments_5 : decode b_Parser_parseArguments 5 = .ok (.ifCond .eq 5, 3) := by decide +kernel
theorem d_Parser_parseArguments_8 : decode b_Parser_parseArguments 8 = .ok (.iconst 0, 1) := by decide +kernel
theorem d_Parser_parseArguments_9 : decode b_Parser_parseArguments 9 = .ok (.ireturn, 1) := by decide +kernel
theorem d_Parser_parseArguments_10 : decode b_Parser_parseArguments 10 = .ok (.aload_n 0, 1) := by decide +kernel
theorem d_Parser_parseArguments_11 : decode b_Parser_parseArguments 11 = .ok (.iload_n 1, 1) := by decide +kernel
theorem d_Parser_parseArguments_12 : decode b_Parser_parseArguments 12 = .ok (.invokevirtual 172, 3) := by decide +kernel
theorem d_Parser_parseArguments_15 : decode b_Parser_parseArguments 15 = .ok (.istore_n 3, 1) := by decide +kernel
theorem d_Parser_parseArguments_16 : decode b_Parser_parseArguments 16 = .ok (.iload_n 3, 1) := by decide +kernel
theorem d_Parser_parseArguments_17 : decode b_Parser_parseArguments 17 = .ok (.istore 4, 2) := by decide +kernel
theorem d_Parser_parseArguments_19 : decode b_Parser_parseArguments 19 = .ok (.iconst 1, 1) := by decide +kernel
theorem d_Parser_parseArguments_20 : decode b_Parser_parseArguments 20 = .ok (.istore 5, 2) := by decide +kernel
theorem d_Parser_parseArguments_22 : decode b_Parser_parseArguments 22 = .ok (.iload 5, 2) := by decide +kernel
theorem d_Parser_parseArguments_24 : decode b_Parser_parseArguments 24 = .ok (.bipush 8, 2) := by decide +kernel
theorem d_Parser_parseArguments_26 : decode b_Parser_parseArguments 26 = .ok (.if_icmp .gt 52, 3) := by decide +kernel
theorem d_Parser_parseArguments_29 : decode b_Parser_parseArguments 29 = .ok (.aload_n 0, 1) := by decide +kernel
theorem d_Parser_parseArguments_30 : decode b_Parser_parseArguments 30 = .ok (.bipush 47, 2) := by decide +kernel
theorem d_Parser_parseArguments_32 : decode b_Parser_parseArguments 32 = .ok (.invokevirtual 125, 3) := by decide +kernel
theorem d_Parser_parseArguments_35 : decode b_Parser_parseArguments 35 = .ok (.ifCond .eq 43, 3) := by decide +kernel
theorem d_Parser_parseArguments_38 : decode b_Parser_parseArguments 38 = .ok (.iload 5, 2) := by decide +kernel
theorem d_Parser_parseArguments_40 : decode b_Parser_parseArguments 40 = .ok (.bipush 8, 2) := by decide +kernel
theorem d_Parser_parseArguments_42 : decode b_Parser_parseArguments 42 = .ok (.if_icmp .ne 7, 3) := by decide +kernel
theorem d_Parser_parseArguments_45 : decode b_Parser_parseArguments 45 = .ok (.aload_n 0, 1) := by decide +kernel
theorem d_Parser_parseArguments_46 : decode b_Parser_parseArguments 46 = .ok (.invokevirtual 62, 3) := by decide +kernel
theorem d_Parser_parseArguments_49 : decode b_Parser_parseArguments 49 = .ok (.aload_n 0, 1) := by decide +kernel
theorem d_Parser_parseArguments_50 : decode b_Parser_parseArguments 50 = .ok (.iload_n 1, 1) := by decide +kernel
theorem d_Parser_parseArguments_51 : decode b_Parser_parseArguments 51 = .ok (.invokevirtual 172, 3) := by decide +kernel
theorem d_Parser_parseArguments_54 : decode b_Parser_parseArguments 54 = .ok (.istore 6, 2) := by decide +kernel
theorem d_Parser_parseArguments_56 : decode b_Parser_parseArguments 56 = .ok (.aload_n 0, 1) := by decide +kernel
theorem d_Parser_parseArguments_57 : decode b_Parser_parseArguments 57 = .ok (.getfield 9, 3) := by decide +kernel
theorem d_Parser_parseArguments_60 : decode b_Parser_parseArguments 60 = .ok (.getfield 208, 3) := by decide +kernel
theorem d_Parser_parseArguments_63 : decode b_Parser_parseArguments 63 = .ok (.iload 4, 2) := by decide +kernel
theorem d_Parser_parseArguments_65 : decode b_Parser_parseArguments 65 = .ok (.iload 6, 2) := by decide +kernel
theorem d_Parser_parseArguments_67 : decode b_Parser_parseArguments 67 = .ok (.iastore, 1) := by decide +kernel
theorem d_Parser_parseArguments_68 : decode b_Parser_parseArguments 68 = .ok (.iload 6, 2) := by decide +kernel
theorem d_Parser_parseArguments_70 : decode b_Parser_parseArguments 70 = .ok (.istore 4, 2) := by decide +kernel
theorem d_Parser_parseArguments_72 : decode b_Parser_parseArguments 72 = .ok (.iinc 5 1, 3) := by decide +kernel
theorem d_Parser_parseArguments_75 : decode b_Parser_parseArguments 75 = .ok (.goto (-53), 3) := by decide +kernel
theorem d_Parser_parseArguments_78 : decode b_Parser_parseArguments 78 = .ok (.aload_n 0, 1) := by decide +kernel
theorem d_Parser_parseArguments_79 : decode b_Parser_parseArguments 79 = .ok (.iload_n 2, 1) := by decide +kernel
theorem d_Parser_parseArguments_80 : decode b_Parser_parseArguments 80 = .ok (.invokevirtual 85, 3) := by decide +kernel
theorem d_Parser_parseArguments_83 : decode b_Parser_parseArguments 83 = .ok (.iload_n 3, 1) := by decide +kernel
theorem d_Parser_parseArguments_84 : decode b_Parser_parseArguments 84 = .ok (.ireturn, 1) := by decide +kernel
abbrev b_Types_clear : ByteArray := prog_12_method_2_code
abbrev y_Types_clear : MethodName := ⟨R_Types, "clear", "()V"⟩
theorem co_Types_clear : Cond.code y_Types_clear b_Types_clear 1 none ∈ lw_good := lg_in (tin_5 _ (List.mem_of_getElem? (i := 50) rfl)) rfl
abbrev w_Types_clear : List Cond := Cond.code y_Types_clear b_Types_clear 1 none :: lw_good
theorem im_Types_clear : Cond.instanceMethod y_Types_clear ∈ lw_good := lg_right (i := 1008) (by decide +kernel) rfl
theorem se_Types_clear : Cond.selects R_Types y_Types_clear y_Types_clear ∈ lw_good := lg_right (i := 1009) (by decide +kernel) rfl
theorem d_Types_clear_0 : decode b_Types_clear 0 = .ok (.aload_n 0, 1) := by decide +kernel
theorem d_Types_clear_1 : decode b_Types_clear 1 = .ok (.dup, 1) := by decide +kernel
theorem d_Types_clear_2 : decode b_Types_clear 2 = .ok (.getfield 15, 3) := by decide +kernel
theorem fl_Types_15 : Cond.fieldLink R_Types 15 "PointerHouse$Types" "era" "J" ∈ lw_good := lg_right (i := 448) (by decide +kernel) rfl
theorem d_Types_clear_5 : decode b_Types_clear 5 = .ok (.lconst 1, 1) := by decide +kernel
theorem d_Types_clear_6 : decode b_Types_clear 6 = .ok (.ladd, 1) := by decide +kernel
theorem d_Types_clear_7 : decode b_Types_clear 7 = .ok (.putfield 15, 3) := by decide +kernel
theorem d_Types_clear_10 : decode b_Types_clear 10 = .ok (.return_, 1) := by decide +kernel
abbrev b_Types_keep : ByteArray := prog_12_method_3_code
abbrev y_Types_keep : MethodName := ⟨R_Types, "keep", "(J)I"⟩
theorem co_Types_keep : Cond.code y_Types_keep b_Types_keep 7 (some .int) ∈ lw_good := lg_in (tin_5 _ (List.mem_of_getElem? (i := 117) rfl)) rfl
abbrev w_Types_keep : List Cond := Cond.code y_Types_keep b_Types_keep 7 (some .int) :: lw_good
theorem im_Types_keep : Cond.instanceMethod y_Types_keep ∈ lw_good := lg_right (i := 1076) (by decide +kernel) rfl
theorem se_Types_keep : Cond.selects R_Types y_Types_keep y_Types_keep ∈ lw_good := lg_left (i := 39) (by decide +kernel) rfl
theorem d_Types_keep_0 : decode b_Types_keep 0 = .ok (.lload_n 1, 1) := by decide +kernel
theorem d_Types_keep_1 : decode b_Types_keep 1 = .ok (.aload_n 0, 1) := by decide +kernel
theorem d_Types_keep_2 : decode b_Types_keep 2 = .ok (.getfield 15, 3) := by decide +kernel
theorem d_Types_keep_5 : decode b_Types_keep 5 = .ok (.bipush 24, 2) := by decide +kernel
theorem d_Types_keep_7 : decode b_Types_keep 7 = .ok (.lshl, 1) := by decide +kernel
theorem d_Types_keep_8 : decode b_Types_keep 8 = .ok (.lor, 1) := by decide +kernel
theorem d_Types_keep_9 : decode b_Types_keep 9 = .ok (.lstore_n 3, 1) := by decide +kernel
theorem d_Types_keep_10 : decode b_Types_keep 10 = .ok (.lload_n 1, 1) := by decide +kernel
theorem d_Types_keep_11 : decode b_Types_keep 11 = .ok (.ldc2_w 19, 3) := by decide +kernel
theorem k_Types_19 : Cond.constantLong R_Types 19 (-7046029254386353131) ∈ lw_good := lg_right (i := 1078) (by decide +kernel) rfl
theorem d_Types_keep_14 : decode b_Types_keep 14 = .ok (.lmul, 1) := by decide +kernel
theorem d_Types_keep_15 : decode b_Types_keep 15 = .ok (.bipush 50, 2) := by decide +kernel
theorem d_Types_keep_17 : decode b_Types_keep 17 = .ok (.lushr, 1) := by decide +kernel
theorem d_Types_keep_18 : decode b_Types_keep 18 = .ok (.l2i, 1) := by decide +kernel
theorem d_Types_keep_19 : decode b_Types_keep 19 = .ok (.istore 5, 2) := by decide +kernel
theorem d_Types_keep_21 : decode b_Types_keep 21 = .ok (.iconst 0, 1) := by decide +kernel
theorem d_Types_keep_22 : decode b_Types_keep 22 = .ok (.istore 6, 2) := by decide +kernel
theorem d_Types_keep_24 : decode b_Types_keep 24 = .ok (.iload 6, 2) := by decide +kernel
theorem d_Types_keep_26 : decode b_Types_keep 26 = .ok (.sipush 16384, 3) := by decide +kernel
theorem d_Types_keep_29 : decode b_Types_keep 29 = .ok (.if_icmp .ge 62, 3) := by decide +kernel
theorem d_Types_keep_32 : decode b_Types_keep 32 = .ok (.aload_n 0, 1) := by decide +kernel
theorem d_Types_keep_33 : decode b_Types_keep 33 = .ok (.getfield 11, 3) := by decide +kernel
theorem fl_Types_11 : Cond.fieldLink R_Types 11 "PointerHouse$Types" "slots" "[J" ∈ lw_good := lg_right (i := 447) (by decide +kernel) rfl
theorem d_Types_keep_36 : decode b_Types_keep 36 = .ok (.iload 5, 2) := by decide +kernel
theorem d_Types_keep_38 : decode b_Types_keep 38 = .ok (.laload, 1) := by decide +kernel
theorem d_Types_keep_39 : decode b_Types_keep 39 = .ok (.bipush 24, 2) := by decide +kernel
theorem d_Types_keep_41 : decode b_Types_keep 41 = .ok (.lushr, 1) := by decide +kernel
theorem d_Types_keep_42 : decode b_Types_keep 42 = .ok (.aload_n 0, 1) := by decide +kernel
theorem d_Types_keep_43 : decode b_Types_keep 43 = .ok (.getfield 15, 3) := by decide +kernel
theorem d_Types_keep_46 : decode b_Types_keep 46 = .ok (.lcmp, 1) := by decide +kernel
theorem d_Types_keep_47 : decode b_Types_keep 47 = .ok (.ifCond .eq 11, 3) := by decide +kernel
theorem d_Types_keep_50 : decode b_Types_keep 50 = .ok (.aload_n 0, 1) := by decide +kernel
theorem d_Types_keep_51 : decode b_Types_keep 51 = .ok (.getfield 11, 3) := by decide +kernel
theorem d_Types_keep_54 : decode b_Types_keep 54 = .ok (.iload 5, 2) := by decide +kernel
theorem d_Types_keep_56 : decode b_Types_keep 56 = .ok (.lload_n 3, 1) := by decide +kernel
theorem d_Types_keep_57 : decode b_Types_keep 57 = .ok (.lastore, 1) := by decide +kernel
theorem d_Types_keep_58 : decode b_Types_keep 58 = .ok (.aload_n 0, 1) := by decide +kernel
theorem d_Types_keep_59 : decode b_Types_keep 59 = .ok (.getfield 11, 3) := by decide +kernel
theorem d_Types_keep_62 : decode b_Types_keep 62 = .ok (.iload 5, 2) := by decide +kernel
theorem d_Types_keep_64 : decode b_Types_keep 64 = .ok (.laload, 1) := by decide +kernel
theorem d_Types_keep_65 : decode b_Types_keep 65 = .ok (.lload_n 3, 1) := by decide +kernel
theorem d_Types_keep_66 : decode b_Types_keep 66 = .ok (.lcmp, 1) := by decide +kernel
theorem d_Types_keep_67 : decode b_Types_keep 67 = .ok (.ifCond .ne 8, 3) := by decide +kernel
theorem d_Types_keep_70 : decode b_Types_keep 70 = .ok (.iload 5, 2) := by decide +kernel
theorem d_Types_keep_72 : decode b_Types_keep 72 = .ok (.iconst 3, 1) := by decide +kernel
theorem d_Types_keep_73 : decode b_Types_keep 73 = .ok (.iadd, 1) := by decide +kernel
theorem d_Types_keep_74 : decode b_Types_keep 74 = .ok (.ireturn, 1) := by decide +kernel
theorem d_Types_keep_75 : decode b_Types_keep 75 = .ok (.iload 5, 2) := by decide +kernel
theorem d_Types_keep_77 : decode b_Types_keep 77 = .ok (.iconst 1, 1) := by decide +kernel
theorem d_Types_keep_78 : decode b_Types_keep 78 = .ok (.iadd, 1) := by decide +kernel
theorem d_Types_keep_79 : decode b_Types_keep 79 = .ok (.sipush 16383, 3) := by decide +kernel
theorem d_Types_keep_82 : decode b_Types_keep 82 = .ok (.iand, 1) := by decide +kernel
theorem d_Types_keep_83 : decode b_Types_keep 83 = .ok (.istore 5, 2) := by decide +kernel
theorem d_Types_keep_85 : decode b_Types_keep 85 = .ok (.iinc 6 1, 3) := by decide +kernel
theorem d_Types_keep_88 : decode b_Types_keep 88 = .ok (.goto (-64), 3) := by decide +kernel
theorem d_Types_keep_91 : decode b_Types_keep 91 = .ok (.iconst 1, 1) := by decide +kernel
theorem d_Types_keep_92 : decode b_Types_keep 92 = .ok (.ireturn, 1) := by decide +kernel
abbrev b_Types_pointer : ByteArray := prog_12_method_4_code
abbrev y_Types_pointer : MethodName := ⟨R_Types, "pointer", "(III)I"⟩
theorem co_Types_pointer : Cond.code y_Types_pointer b_Types_pointer 4 (some .int) ∈ lw_good := lg_in (tin_5 _ (List.mem_of_getElem? (i := 122) rfl)) rfl
abbrev w_Types_pointer : List Cond := Cond.code y_Types_pointer b_Types_pointer 4 (some .int) :: lw_good
theorem im_Types_pointer : Cond.instanceMethod y_Types_pointer ∈ lw_good := lg_right (i := 1080) (by decide +kernel) rfl
theorem se_Types_pointer : Cond.selects R_Types y_Types_pointer y_Types_pointer ∈ lw_good := lg_right (i := 1081) (by decide +kernel) rfl
theorem d_Types_pointer_0 : decode b_Types_pointer 0 = .ok (.aload_n 0, 1) := by decide +kernel
theorem d_Types_pointer_1 : decode b_Types_pointer 1 = .ok (.iload_n 1, 1) := by decide +kernel
theorem d_Types_pointer_2 : decode b_Types_pointer 2 = .ok (.iload_n 2, 1) := by decide +kernel
theorem d_Types_pointer_3 : decode b_Types_pointer 3 = .ok (.iconst 3, 1) := by decide +kernel
theorem d_Types_pointer_4 : decode b_Types_pointer 4 = .ok (.ishl, 1) := by decide +kernel
theorem d_Types_pointer_5 : decode b_Types_pointer 5 = .ok (.ior, 1) := by decide +kernel
theorem d_Types_pointer_6 : decode b_Types_pointer 6 = .ok (.iload_n 3, 1) := by decide +kernel
theorem d_Types_pointer_7 : decode b_Types_pointer 7 = .ok (.bipush 7, 2) := by decide +kernel
theorem d_Types_pointer_9 : decode b_Types_pointer 9 = .ok (.ishl, 1) := by decide +kernel
theorem d_Types_pointer_10 : decode b_Types_pointer 10 = .ok (.ior, 1) := by decide +kernel
theorem d_Types_pointer_11 : decode b_Types_pointer 11 = .ok (.i2l, 1) := by decide +kernel
theorem d_Types_pointer_12 : decode b_Types_pointer 12 = .ok (.invokevirtual 21, 3) := by decide +kernel
theorem ml_Types_21 : Cond.methodLink R_Types 21 ⟨"PointerHouse$Types", "keep", "(J)I"⟩ ∈ lw_good := lg_right (i := 1074) (by decide +kernel) rfl
theorem d_Types_pointer_15 : decode b_Types_pointer 15 = .ok (.ireturn, 1) := by decide +kernel
abbrev b_Types_thing : ByteArray := prog_12_method_5_code
abbrev y_Types_thing : MethodName := ⟨R_Types, "thing", "(II)I"⟩
theorem co_Types_thing : Cond.code y_Types_thing b_Types_thing 3 (some .int) ∈ lw_good := lg_in (tin_5 _ (List.mem_of_getElem? (i := 113) rfl)) rfl
abbrev w_Types_thing : List Cond := Cond.code y_Types_thing b_Types_thing 3 (some .int) :: lw_good
theorem im_Types_thing : Cond.instanceMethod y_Types_thing ∈ lw_good := lg_right (i := 1071) (by decide +kernel) rfl
theorem se_Types_thing : Cond.selects R_Types y_Types_thing y_Types_thing ∈ lw_good := lg_right (i := 1072) (by decide +kernel) rfl
theorem d_Types_thing_0 : decode b_Types_thing 0 = .ok (.aload_n 0, 1) := by decide +kernel
theorem d_Types_thing_1 : decode b_Types_thing 1 = .ok (.bipush 6, 2) := by decide +kernel
theorem d_Types_thing_3 : decode b_Types_thing 3 = .ok (.iload_n 1, 1) := by decide +kernel
theorem d_Types_thing_4 : decode b_Types_thing 4 = .ok (.iconst 3, 1) := by decide +kernel
theorem d_Types_thing_5 : decode b_Types_thing 5 = .ok (.ishl, 1) := by decide +kernel
theorem d_Types_thing_6 : decode b_Types_thing 6 = .ok (.ior, 1) := by decide +kernel
theorem d_Types_thing_7 : decode b_Types_thing 7 = .ok (.iload_n 2, 1) := by decide +kernel
theorem d_Types_thing_8 : decode b_Types_thing 8 = .ok (.bipush 8, 2) := by decide +kernel
theorem d_Types_thing_10 : decode b_Types_thing 10 = .ok (.ishl, 1) := by decide +kernel
theorem d_Types_thing_11 : decode b_Types_thing 11 = .ok (.ior, 1) := by decide +kernel
theorem d_Types_thing_12 : decode b_Types_thing 12 = .ok (.i2l, 1) := by decide +kernel
theorem d_Types_thing_13 : decode b_Types_thing 13 = .ok (.invokevirtual 21, 3) := by decide +kernel
theorem d_Types_thing_16 : decode b_Types_thing 16 = .ok (.ireturn, 1) := by decide +kernel
abbrev b_Types_keyOf : ByteArray := prog_12_method_6_code
abbrev y_Types_keyOf : MethodName := ⟨R_Types, "keyOf", "(I)I"⟩
theorem co_Types_keyOf : Cond.code y_Types_keyOf b_Types_keyOf 2 (some .int) ∈ lw_good := lg_in (tin_5 _ (List.mem_of_getElem? (i := 134) rfl)) rfl
abbrev w_Types_keyOf : List Cond := Cond.code y_Types_keyOf b_Types_keyOf 2 (some .int) :: lw_good
theorem im_Types_keyOf : Cond.instanceMethod y_Types_keyOf ∈ lw_good := lg_right (i := 1093) (by decide +kernel) rfl
theorem se_Types_keyOf : Cond.selects R_Types y_Types_keyOf y_Types_keyOf ∈ lw_good := lg_left (i := 40) (by decide +kernel) rfl
theorem d_Types_keyOf_0 : decode b_Types_keyOf 0 = .ok (.iload_n 1, 1) := by decide +kernel
theorem d_Types_keyOf_1 : decode b_Types_keyOf 1 = .ok (.iconst 3, 1) := by decide +kernel
theorem d_Types_keyOf_2 : decode b_Types_keyOf 2 = .ok (.if_icmp .lt 10, 3) := by decide +kernel
theorem d_Types_keyOf_5 : decode b_Types_keyOf 5 = .ok (.iload_n 1, 1) := by decide +kernel
theorem d_Types_keyOf_6 : decode b_Types_keyOf 6 = .ok (.sipush 16387, 3) := by decide +kernel
theorem d_Types_keyOf_9 : decode b_Types_keyOf 9 = .ok (.if_icmp .lt 7, 3) := by decide +kernel
theorem d_Types_keyOf_12 : decode b_Types_keyOf 12 = .ok (.iconst 0, 1) := by decide +kernel
theorem d_Types_keyOf_13 : decode b_Types_keyOf 13 = .ok (.goto 15, 3) := by decide +kernel
theorem d_Types_keyOf_16 : decode b_Types_keyOf 16 = .ok (.aload_n 0, 1) := by decide +kernel
theorem d_Types_keyOf_17 : decode b_Types_keyOf 17 = .ok (.getfield 11, 3) := by decide +kernel
theorem d_Types_keyOf_20 : decode b_Types_keyOf 20 = .ok (.iload_n 1, 1) := by decide +kernel
theorem d_Types_keyOf_21 : decode b_Types_keyOf 21 = .ok (.iconst 3, 1) := by decide +kernel
theorem d_Types_keyOf_22 : decode b_Types_keyOf 22 = .ok (.isub, 1) := by decide +kernel
theorem d_Types_keyOf_23 : decode b_Types_keyOf 23 = .ok (.laload, 1) := by decide +kernel
theorem d_Types_keyOf_24 : decode b_Types_keyOf 24 = .ok (.l2i, 1) := by decide +kernel
theorem d_Types_keyOf_25 : decode b_Types_keyOf 25 = .ok (.ldc 25, 2) := by decide +kernel
theorem k_Types_25 : Cond.constant R_Types 25 (16777215) ∈ lw_good := lg_right (i := 1095) (by decide +kernel) rfl
theorem d_Types_keyOf_27 : decode b_Types_keyOf 27 = .ok (.iand, 1) := by decide +kernel
theorem d_Types_keyOf_28 : decode b_Types_keyOf 28 = .ok (.ireturn, 1) := by decide +kernel
abbrev b_Types_kindOf : ByteArray := prog_12_method_7_code
abbrev y_Types_kindOf : MethodName := ⟨R_Types, "kindOf", "(I)I"⟩
theorem co_Types_kindOf : Cond.code y_Types_kindOf b_Types_kindOf 2 (some .int) ∈ lw_good := lg_in (tin_6 _ (List.mem_of_getElem? (i := 44) rfl)) rfl
abbrev w_Types_kindOf : List Cond := Cond.code y_Types_kindOf b_Types_kindOf 2 (some .int) :: lw_good
theorem im_Types_kindOf : Cond.instanceMethod y_Types_kindOf ∈ lw_good := lg_right (i := 1242) (by decide +kernel) rfl
theorem se_Types_kindOf : Cond.selects R_Types y_Types_kindOf y_Types_kindOf ∈ lw_good := lg_right (i := 1243) (by decide +kernel) rfl
theorem d_Types_kindOf_0 : decode b_Types_kindOf 0 = .ok (.iload_n 1, 1) := by decide +kernel
theorem d_Types_kindOf_1 : decode b_Types_kindOf 1 = .ok (.iconst 3, 1) := by decide +kernel
theorem d_Types_kindOf_2 : decode b_Types_kindOf 2 = .ok (.if_icmp .ge 7, 3) := by decide +kernel
theorem d_Types_kindOf_5 : decode b_Types_kindOf 5 = .ok (.iload_n 1, 1) := by decide +kernel
theorem d_Types_kindOf_6 : decode b_Types_kindOf 6 = .ok (.goto 11, 3) := by decide +kernel
theorem d_Types_kindOf_9 : decode b_Types_kindOf 9 = .ok (.aload_n 0, 1) := by decide +kernel
theorem d_Types_kindOf_10 : decode b_Types_kindOf 10 = .ok (.iload_n 1, 1) := by decide +kernel
theorem d_Types_kindOf_11 : decode b_Types_kindOf 11 = .ok (.invokevirtual 26, 3) := by decide +kernel
theorem ml_Types_26 : Cond.methodLink R_Types 26 ⟨"PointerHouse$Types", "keyOf", "(I)I"⟩ ∈ lw_good := lg_right (i := 1091) (by decide +kernel) rfl
theorem d_Types_kindOf_14 : decode b_Types_kindOf 14 = .ok (.bipush 7, 2) := by decide +kernel
theorem d_Types_kindOf_16 : decode b_Types_kindOf 16 = .ok (.iand, 1) := by decide +kernel
theorem d_Types_kindOf_17 : decode b_Types_kindOf 17 = .ok (.ireturn, 1) := by decide +kernel
abbrev b_Types_regionOf : ByteArray := prog_12_method_8_code
abbrev y_Types_regionOf : MethodName := ⟨R_Types, "regionOf", "(I)I"⟩
theorem co_Types_regionOf : Cond.code y_Types_regionOf b_Types_regionOf 2 (some .int) ∈ lw_good := lg_in (tin_6 _ (List.mem_of_getElem? (i := 56) rfl)) rfl
abbrev w_Types_regionOf : List Cond := Cond.code y_Types_regionOf b_Types_regionOf 2 (some .int) :: lw_good
theorem im_Types_regionOf : Cond.instanceMethod y_Types_regionOf ∈ lw_good := lg_right (i := 1254) (by decide +kernel) rfl
theorem se_Types_regionOf : Cond.selects R_Types y_Types_regionOf y_Types_regionOf ∈ lw_good := lg_right (i := 1255) (by decide +kernel) rfl
theorem d_Types_regionOf_0 : decode b_Types_regionOf 0 = .ok (.aload_n 0, 1) := by decide +kernel
theorem d_Types_regionOf_1 : decode b_Types_regionOf 1 = .ok (.iload_n 1, 1) := by decide +kernel
theorem d_Types_regionOf_2 : decode b_Types_regionOf 2 = .ok (.invokevirtual 26, 3) := by decide +kernel
theorem d_Types_regionOf_5 : decode b_Types_regionOf 5 = .ok (.iconst 3, 1) := by decide +kernel
theorem d_Types_regionOf_6 : decode b_Types_regionOf 6 = .ok (.ishr, 1) := by decide +kernel
theorem d_Types_regionOf_7 : decode b_Types_regionOf 7 = .ok (.bipush 15, 2) := by decide +kernel
theorem d_Types_regionOf_9 : decode b_Types_regionOf 9 = .ok (.iand, 1) := by decide +kernel
theorem d_Types_regionOf_10 : decode b_Types_regionOf 10 = .ok (.ireturn, 1) := by decide +kernel
abbrev b_Types_behind : ByteArray := prog_12_method_9_code
abbrev y_Types_behind : MethodName := ⟨R_Types, "behind", "(I)I"⟩
theorem co_Types_behind : Cond.code y_Types_behind b_Types_behind 2 (some .int) ∈ lw_good := lg_in (tin_6 _ (List.mem_of_getElem? (i := 60) rfl)) rfl
abbrev w_Types_behind : List Cond := Cond.code y_Types_behind b_Types_behind 2 (some .int) :: lw_good
theorem im_Types_behind : Cond.instanceMethod y_Types_behind ∈ lw_good := lg_right (i := 1258) (by decide +kernel) rfl
theorem se_Types_behind : Cond.selects R_Types y_Types_behind y_Types_behind ∈ lw_good := lg_right (i := 1259) (by decide +kernel) rfl
theorem d_Types_behind_0 : decode b_Types_behind 0 = .ok (.aload_n 0, 1) := by decide +kernel
theorem d_Types_behind_1 : decode b_Types_behind 1 = .ok (.iload_n 1, 1) := by decide +kernel
theorem d_Types_behind_2 : decode b_Types_behind 2 = .ok (.invokevirtual 26, 3) := by decide +kernel
theorem d_Types_behind_5 : decode b_Types_behind 5 = .ok (.bipush 7, 2) := by decide +kernel
theorem d_Types_behind_7 : decode b_Types_behind 7 = .ok (.ishr, 1) := by decide +kernel
theorem d_Types_behind_8 : decode b_Types_behind 8 = .ok (.ireturn, 1) := by decide +kernel
abbrev b_Types_titleBehind : ByteArray := prog_12_method_10_code
abbrev y_Types_titleBehind : MethodName := ⟨R_Types, "titleBehind", "(I)I"⟩
theorem co_Types_titleBehind : Cond.code y_Types_titleBehind b_Types_titleBehind 3 (some .int) ∈ lw_good := lg_in (tin_6 _ (List.mem_of_getElem? (i := 147) rfl)) rfl
abbrev w_Types_titleBehind : List Cond := Cond.code y_Types_titleBehind b_Types_titleBehind 3 (some .int) :: lw_good
theorem im_Types_titleBehind : Cond.instanceMethod y_Types_titleBehind ∈ lw_good := lg_right (i := 1345) (by decide +kernel) rfl
theorem se_Types_titleBehind : Cond.selects R_Types y_Types_titleBehind y_Types_titleBehind ∈ lw_good := lg_right (i := 1346) (by decide +kernel) rfl
theorem d_Types_titleBehind_0 : decode b_Types_titleBehind 0 = .ok (.aload_n 0, 1) := by decide +kernel
theorem d_Types_titleBehind_1 : decode b_Types_titleBehind 1 = .ok (.iload_n 1, 1) := by decide +kernel
theorem d_Types_titleBehind_2 : decode b_Types_titleBehind 2 = .ok (.invokevirtual 30, 3) := by decide +kernel
theorem ml_Types_30 : Cond.methodLink R_Types 30 ⟨"PointerHouse$Types", "isPointed", "(I)Z"⟩ ∈ lw_good := lg_right (i := 1348) (by decide +kernel) rfl
theorem d_Types_titleBehind_5 : decode b_Types_titleBehind 5 = .ok (.ifCond .eq 15, 3) := by decide +kernel
theorem d_Types_titleBehind_8 : decode b_Types_titleBehind 8 = .ok (.aload_n 0, 1) := by decide +kernel
theorem d_Types_titleBehind_9 : decode b_Types_titleBehind 9 = .ok (.aload_n 0, 1) := by decide +kernel
theorem d_Types_titleBehind_10 : decode b_Types_titleBehind 10 = .ok (.iload_n 1, 1) := by decide +kernel
theorem d_Types_titleBehind_11 : decode b_Types_titleBehind 11 = .ok (.invokevirtual 34, 3) := by decide +kernel
theorem ml_Types_34 : Cond.methodLink R_Types 34 ⟨"PointerHouse$Types", "behind", "(I)I"⟩ ∈ lw_good := lg_right (i := 1290) (by decide +kernel) rfl
theorem d_Types_titleBehind_14 : decode b_Types_titleBehind 14 = .ok (.invokevirtual 26, 3) := by decide +kernel
theorem d_Types_titleBehind_17 : decode b_Types_titleBehind 17 = .ok (.goto 4, 3) := by decide +kernel
theorem d_Types_titleBehind_20 : decode b_Types_titleBehind 20 = .ok (.iconst 0, 1) := by decide +kernel
theorem d_Types_titleBehind_21 : decode b_Types_titleBehind 21 = .ok (.istore_n 2, 1) := by decide +kernel
theorem d_Types_titleBehind_22 : decode b_Types_titleBehind 22 = .ok (.iload_n 2, 1) := by decide +kernel
theorem d_Types_titleBehind_23 : decode b_Types_titleBehind 23 = .ok (.bipush 7, 2) := by decide +kernel
theorem d_Types_titleBehind_25 : decode b_Types_titleBehind 25 = .ok (.iand, 1) := by decide +kernel
theorem d_Types_titleBehind_26 : decode b_Types_titleBehind 26 = .ok (.bipush 6, 2) := by decide +kernel
theorem d_Types_titleBehind_28 : decode b_Types_titleBehind 28 = .ok (.if_icmp .ne 12, 3) := by decide +kernel
theorem d_Types_titleBehind_31 : decode b_Types_titleBehind 31 = .ok (.iload_n 2, 1) := by decide +kernel
theorem d_Types_titleBehind_32 : decode b_Types_titleBehind 32 = .ok (.iconst 3, 1) := by decide +kernel
theorem d_Types_titleBehind_33 : decode b_Types_titleBehind 33 = .ok (.ishr, 1) := by decide +kernel
theorem d_Types_titleBehind_34 : decode b_Types_titleBehind 34 = .ok (.bipush 31, 2) := by decide +kernel
theorem d_Types_titleBehind_36 : decode b_Types_titleBehind 36 = .ok (.iand, 1) := by decide +kernel
theorem d_Types_titleBehind_37 : decode b_Types_titleBehind 37 = .ok (.goto 4, 3) := by decide +kernel
theorem d_Types_titleBehind_40 : decode b_Types_titleBehind 40 = .ok (.iconst (-1), 1) := by decide +kernel
theorem d_Types_titleBehind_41 : decode b_Types_titleBehind 41 = .ok (.ireturn, 1) := by decide +kernel
abbrev b_Types_isPointed : ByteArray := prog_12_method_12_code
abbrev y_Types_isPointed : MethodName := ⟨R_Types, "isPointed", "(I)Z"⟩
theorem co_Types_isPointed : Cond.code y_Types_isPointed b_Types_isPointed 3 (some .boolean) ∈ lw_good := lg_in (tin_6 _ (List.mem_of_getElem? (i := 151) rfl)) rfl
abbrev w_Types_isPointed : List Cond := Cond.code y_Types_isPointed b_Types_isPointed 3 (some .boolean) :: lw_good
theorem im_Types_isPointed : Cond.instanceMethod y_Types_isPointed ∈ lw_good := lg_right (i := 1349) (by decide +kernel) rfl
theorem se_Types_isPointed : Cond.selects R_Types y_Types_isPointed y_Types_isPointed ∈ lw_good := lg_right (i := 1350) (by decide +kernel) rfl
theorem d_Types_isPointed_0 : decode b_Types_isPointed 0 = .ok (.aload_n 0, 1) := by decide +kernel
theorem d_Types_isPointed_1 : decode b_Types_isPointed 1 = .ok (.iload_n 1, 1) := by decide +kernel
theorem d_Types_isPointed_2 : decode b_Types_isPointed 2 = .ok (.invokevirtual 26, 3) := by decide +kernel
theorem d_Types_isPointed_5 : decode b_Types_isPointed 5 = .ok (.bipush 7, 2) := by decide +kernel
theorem d_Types_isPointed_7 : decode b_Types_isPointed 7 = .ok (.iand, 1) := by decide +kernel
theorem d_Types_isPointed_8 : decode b_Types_isPointed 8 = .ok (.istore_n 2, 1) := by decide +kernel
theorem d_Types_isPointed_9 : decode b_Types_isPointed 9 = .ok (.iload_n 2, 1) := by decide +kernel
theorem d_Types_isPointed_10 : decode b_Types_isPointed 10 = .ok (.iconst 3, 1) := by decide +kernel
theorem d_Types_isPointed_11 : decode b_Types_isPointed 11 = .ok (.if_icmp .eq 8, 3) := by decide +kernel
theorem d_Types_isPointed_14 : decode b_Types_isPointed 14 = .ok (.iload_n 2, 1) := by decide +kernel
theorem d_Types_isPointed_15 : decode b_Types_isPointed 15 = .ok (.iconst 4, 1) := by decide +kernel
theorem d_Types_isPointed_16 : decode b_Types_isPointed 16 = .ok (.if_icmp .ne 7, 3) := by decide +kernel
theorem d_Types_isPointed_19 : decode b_Types_isPointed 19 = .ok (.iconst 1, 1) := by decide +kernel
theorem d_Types_isPointed_20 : decode b_Types_isPointed 20 = .ok (.goto 4, 3) := by decide +kernel
theorem d_Types_isPointed_23 : decode b_Types_isPointed 23 = .ok (.iconst 0, 1) := by decide +kernel
theorem d_Types_isPointed_24 : decode b_Types_isPointed 24 = .ok (.ireturn, 1) := by decide +kernel
abbrev b_Types_regionsBehind : ByteArray := prog_12_method_11_code
abbrev y_Types_regionsBehind : MethodName := ⟨R_Types, "regionsBehind", "(I)I"⟩
theorem co_Types_regionsBehind : Cond.code y_Types_regionsBehind b_Types_regionsBehind 2 (some .int) ∈ lw_good := lg_in (tin_6 _ (List.mem_of_getElem? (i := 162) rfl)) rfl
abbrev w_Types_regionsBehind : List Cond := Cond.code y_Types_regionsBehind b_Types_regionsBehind 2 (some .int) :: lw_good
theorem im_Types_regionsBehind : Cond.instanceMethod y_Types_regionsBehind ∈ lw_good := lg_right (i := 1360) (by decide +kernel) rfl
theorem se_Types_regionsBehind : Cond.selects R_Types y_Types_regionsBehind y_Types_regionsBehind ∈ lw_good := lg_right (i := 1361) (by decide +kernel) rfl
theorem d_Types_regionsBehind_0 : decode b_Types_regionsBehind 0 = .ok (.aload_n 0, 1) := by decide +kernel
theorem d_Types_regionsBehind_1 : decode b_Types_regionsBehind 1 = .ok (.aload_n 0, 1) := by decide +kernel
theorem d_Types_regionsBehind_2 : decode b_Types_regionsBehind 2 = .ok (.iload_n 1, 1) := by decide +kernel
theorem d_Types_regionsBehind_3 : decode b_Types_regionsBehind 3 = .ok (.invokevirtual 34, 3) := by decide +kernel
theorem d_Types_regionsBehind_6 : decode b_Types_regionsBehind 6 = .ok (.invokevirtual 26, 3) := by decide +kernel
theorem d_Types_regionsBehind_9 : decode b_Types_regionsBehind 9 = .ok (.bipush 8, 2) := by decide +kernel
theorem d_Types_regionsBehind_11 : decode b_Types_regionsBehind 11 = .ok (.ishr, 1) := by decide +kernel
theorem d_Types_regionsBehind_12 : decode b_Types_regionsBehind 12 = .ok (.sipush 4095, 3) := by decide +kernel
theorem d_Types_regionsBehind_15 : decode b_Types_regionsBehind 15 = .ok (.iand, 1) := by decide +kernel
theorem d_Types_regionsBehind_16 : decode b_Types_regionsBehind 16 = .ok (.ireturn, 1) := by decide +kernel
section GV
variable {p : Program} {l : Launch} {e : Env} {R : Room} {s : State} {m : MethodId} {args : Array Value} {below : List Frame} {meth : Method} {c : Code} {H : Heap} {locs : List Loc} {cells slots : Nat} {Q : State → Prop}
variable {cc : ByteArray} {pc : Nat} {ls : Array Slot} {rest st0 : List Value} {dC : Nat → ClassId} {dI : Nat → Nat → Nat} {A : Nat → Prop} {ad ea ev : Nat → Nat} {km : Nat → ClassId} {T T' : gSt} {H0 : Heap}
theorem wr_Parser_116 (hx : p.tables.exec = Jvm.exec) (hb : c.code = cc) (hT : ∀ w ∈ lw_good, w.before args s = true) (hown : s.vm.findClass R_Parser = some m.cls) (hK : va_K (dC, dI) cls_all (gT LH km) s) (hP : va_P (dC, dI) cls_all (gW LH ad km T) H) (hD : va_D A (gW LH ad km T)) (hS : va_S A H0 H locs) {v : Int32} (hdg : decode cc pc = .ok (.putfield 116, 3)) (kk : ∀ (T1 : gSt), T1 = sI T 60 0 v → ∀ (H1 : Heap) (locs1 : List Loc), va_P (dC, dI) cls_all (gW LH ad km T1) H1 → va_D A (gW LH ad km T1) → va_S A H0 H1 locs1 → W p l e R s m args below meth c H1 locs1 cells slots Q (F0 m (pc + 3) ls rest)) : W p l e R s m args below meth c H locs cells slots Q (F0 m pc ls (.int v :: .ref (ad 4) :: rest)) := gw_puti okH hx hb hT i_Parser t_Parser t_Parser_ok n_Parser hown hK hP hD hS 4 6 60 (Nat.le_of_ble_eq_true rfl) rfl rfl (Nat.le_of_ble_eq_true rfl) rfl rfl (hT _ fl_Parser_116) (fun _ h9 => h9) rfl (ty := .int) (by decide +kernel) rfl rfl hdg kk
theorem wr_Parser_119 (hx : p.tables.exec = Jvm.exec) (hb : c.code = cc) (hT : ∀ w ∈ lw_good, w.before args s = true) (hown : s.vm.findClass R_Parser = some m.cls) (hK : va_K (dC, dI) cls_all (gT LH km) s) (hP : va_P (dC, dI) cls_all (gW LH ad km T) H) (hD : va_D A (gW LH ad km T)) (hS : va_S A H0 H locs) {v : Int32} (hdg : decode cc pc = .ok (.putfield 119, 3)) (kk : ∀ (T1 : gSt), T1 = sI T 61 0 v → ∀ (H1 : Heap) (locs1 : List Loc), va_P (dC, dI) cls_all (gW LH ad km T1) H1 → va_D A (gW LH ad km T1) → va_S A H0 H1 locs1 → W p l e R s m args below meth c H1 locs1 cells slots Q (F0 m (pc + 3) ls rest)) : W p l e R s m args below meth c H locs cells slots Q (F0 m pc ls (.int v :: .ref (ad 4) :: rest)) := gw_puti okH hx hb hT i_Parser t_Parser t_Parser_ok n_Parser hown hK hP hD hS 4 7 61 (Nat.le_of_ble_eq_true rfl) rfl rfl (Nat.le_of_ble_eq_true rfl) rfl rfl (hT _ fl_Parser_119) (fun _ h9 => h9) rfl (ty := .int) (by decide +kernel) rfl rfl hdg kk
theorem rd_Parser_132 (hx : p.tables.exec = Jvm.exec) (hb : c.code = cc) (hT : ∀ w ∈ lw_good, w.before args s = true) (hown : s.vm.findClass R_Parser = some m.cls) (hK : va_K (dC, dI) cls_all (gT LH km) s) (hP : va_P (dC, dI) cls_all (gW LH ad km T) H) (hdg : decode cc pc = .ok (.getfield 132, 3)) (kk : W p l e R s m args below meth c H locs cells slots Q (F0 m (pc + 3) ls (.ref (ad 33) :: rest))) : W p l e R s m args below meth c H locs cells slots Q (F0 m pc ls (.ref (ad 2) :: rest)) := gw_get hx hb hT i_Items hown hK hP 2 9 36 (Nat.le_of_ble_eq_true rfl) rfl rfl (Nat.le_of_ble_eq_true rfl) rfl (gv_a rfl) (hT _ fl_Parser_132) (fun _ h9 => h9) hdg kk
theorem laH_21 (hx : p.tables.exec = Jvm.exec) (hb : c.code = cc) (hK : va_K (dC, dI) cls_all (gT LH km) s) (hP : va_P (dC, dI) cls_all (gW LH ad km T) H) {x : Int32} (hin : inb x 24) (hdg : decode cc pc = .ok (.iaload, 1)) (kk : W p l e R s m args below meth c H locs cells slots Q (F0 m (pc + 1) ls (.int (T.1 36 x.toNatClampNeg) :: rest))) : W p l e R s m args below meth c H locs cells slots Q (F0 m pc ls (.int x :: .ref (ad 33) :: rest)) := gw_iald hx hb hK hP 21 36 24 33 (Nat.le_of_ble_eq_true rfl) rfl rfl rfl rfl rfl hin hdg kk
theorem saH_21 (hx : p.tables.exec = Jvm.exec) (hb : c.code = cc) (hK : va_K (dC, dI) cls_all (gT LH km) s) (hP : va_P (dC, dI) cls_all (gW LH ad km T) H) (hD : va_D A (gW LH ad km T)) (hS : va_S A H0 H locs) {x : Int32} {v : Int32} (hin : inb x 24) (hdg : decode cc pc = .ok (.iastore, 1)) (kk : ∀ (T1 : gSt), T1 = sI T 36 x.toNatClampNeg v → ∀ (H1 : Heap) (locs1 : List Loc), va_P (dC, dI) cls_all (gW LH ad km T1) H1 → va_D A (gW LH ad km T1) → va_S A H0 H1 locs1 → W p l e R s m args below meth c H1 locs1 cells slots Q (F0 m (pc + 1) ls rest)) : W p l e R s m args below meth c H locs cells slots Q (F0 m pc ls (.int v :: .int x :: .ref (ad 33) :: rest)) := gw_iast okH hx hb hK hP hD hS 21 36 24 33 (Nat.le_of_ble_eq_true rfl) rfl rfl rfl rfl rfl hin hdg kk
theorem rd_Parser_138 (hx : p.tables.exec = Jvm.exec) (hb : c.code = cc) (hT : ∀ w ∈ lw_good, w.before args s = true) (hown : s.vm.findClass R_Parser = some m.cls) (hK : va_K (dC, dI) cls_all (gT LH km) s) (hP : va_P (dC, dI) cls_all (gW LH ad km T) H) (hdg : decode cc pc = .ok (.getfield 138, 3)) (kk : W p l e R s m args below meth c H locs cells slots Q (F0 m (pc + 3) ls (.ref (ad 34) :: rest))) : W p l e R s m args below meth c H locs cells slots Q (F0 m pc ls (.ref (ad 2) :: rest)) := gw_get hx hb hT i_Items hown hK hP 2 10 37 (Nat.le_of_ble_eq_true rfl) rfl rfl (Nat.le_of_ble_eq_true rfl) rfl (gv_a rfl) (hT _ fl_Parser_138) (fun _ h9 => h9) hdg kk
theorem laH_22 (hx : p.tables.exec = Jvm.exec) (hb : c.code = cc) (hK : va_K (dC, dI) cls_all (gT LH km) s) (hP : va_P (dC, dI) cls_all (gW LH ad km T) H) {x : Int32} (hin : inb x 24) (hdg : decode cc pc = .ok (.iaload, 1)) (kk : W p l e R s m args below meth c H locs cells slots Q (F0 m (pc + 1) ls (.int (T.1 37 x.toNatClampNeg) :: rest))) : W p l e R s m args below meth c H locs cells slots Q (F0 m pc ls (.int x :: .ref (ad 34) :: rest)) := gw_iald hx hb hK hP 22 37 24 34 (Nat.le_of_ble_eq_true rfl) rfl rfl rfl rfl rfl hin hdg kk
theorem saH_22 (hx : p.tables.exec = Jvm.exec) (hb : c.code = cc) (hK : va_K (dC, dI) cls_all (gT LH km) s) (hP : va_P (dC, dI) cls_all (gW LH ad km T) H) (hD : va_D A (gW LH ad km T)) (hS : va_S A H0 H locs) {x : Int32} {v : Int32} (hin : inb x 24) (hdg : decode cc pc = .ok (.iastore, 1)) (kk : ∀ (T1 : gSt), T1 = sI T 37 x.toNatClampNeg v → ∀ (H1 : Heap) (locs1 : List Loc), va_P (dC, dI) cls_all (gW LH ad km T1) H1 → va_D A (gW LH ad km T1) → va_S A H0 H1 locs1 → W p l e R s m args below meth c H1 locs1 cells slots Q (F0 m (pc + 1) ls rest)) : W p l e R s m args below meth c H locs cells slots Q (F0 m pc ls (.int v :: .int x :: .ref (ad 34) :: rest)) := gw_iast okH hx hb hK hP hD hS 22 37 24 34 (Nat.le_of_ble_eq_true rfl) rfl rfl rfl rfl rfl hin hdg kk
theorem rd_Parser_116 (hx : p.tables.exec = Jvm.exec) (hb : c.code = cc) (hT : ∀ w ∈ lw_good, w.before args s = true) (hown : s.vm.findClass R_Parser = some m.cls) (hK : va_K (dC, dI) cls_all (gT LH km) s) (hP : va_P (dC, dI) cls_all (gW LH ad km T) H) (hdg : decode cc pc = .ok (.getfield 116, 3)) (kk : W p l e R s m args below meth c H locs cells slots Q (F0 m (pc + 3) ls (.int (T.1 60 0) :: rest))) : W p l e R s m args below meth c H locs cells slots Q (F0 m pc ls (.ref (ad 4) :: rest)) := gw_get hx hb hT i_Parser hown hK hP 4 6 60 (Nat.le_of_ble_eq_true rfl) rfl rfl (Nat.le_of_ble_eq_true rfl) rfl (gv_i rfl) (hT _ fl_Parser_116) (fun _ h9 => h9) hdg kk
theorem rd_Parser_144 (hx : p.tables.exec = Jvm.exec) (hb : c.code = cc) (hT : ∀ w ∈ lw_good, w.before args s = true) (hown : s.vm.findClass R_Parser = some m.cls) (hK : va_K (dC, dI) cls_all (gT LH km) s) (hP : va_P (dC, dI) cls_all (gW LH ad km T) H) (hdg : decode cc pc = .ok (.getfield 144, 3)) (kk : W p l e R s m args below meth c H locs cells slots Q (F0 m (pc + 3) ls (.ref (ad 15) :: rest))) : W p l e R s m args below meth c H locs cells slots Q (F0 m pc ls (.ref (ad 1) :: rest)) := gw_get hx hb hT i_Source hown hK hP 1 2 13 (Nat.le_of_ble_eq_true rfl) rfl rfl (Nat.le_of_ble_eq_true rfl) rfl (gv_a rfl) (hT _ fl_Parser_144) (fun _ h9 => h9) hdg kk
theorem rd_Parser_169 (hx : p.tables.exec = Jvm.exec) (hb : c.code = cc) (hT : ∀ w ∈ lw_good, w.before args s = true) (hown : s.vm.findClass R_Parser = some m.cls) (hK : va_K (dC, dI) cls_all (gT LH km) s) (hP : va_P (dC, dI) cls_all (gW LH ad km T) H) (hdg : decode cc pc = .ok (.getfield 169, 3)) (kk : W p l e R s m args below meth c H locs cells slots Q (F0 m (pc + 3) ls (.ref (ad 19) :: rest))) : W p l e R s m args below meth c H locs cells slots Q (F0 m pc ls (.ref (ad 1) :: rest)) := gw_get hx hb hT i_Source hown hK hP 1 6 17 (Nat.le_of_ble_eq_true rfl) rfl rfl (Nat.le_of_ble_eq_true rfl) rfl (gv_a rfl) (hT _ fl_Parser_169) (fun _ h9 => h9) hdg kk
theorem rd_Parser_175 (hx : p.tables.exec = Jvm.exec) (hb : c.code = cc) (hT : ∀ w ∈ lw_good, w.before args s = true) (hown : s.vm.findClass R_Parser = some m.cls) (hK : va_K (dC, dI) cls_all (gT LH km) s) (hP : va_P (dC, dI) cls_all (gW LH ad km T) H) (hdg : decode cc pc = .ok (.getfield 175, 3)) (kk : W p l e R s m args below meth c H locs cells slots Q (F0 m (pc + 3) ls (.ref (ad 18) :: rest))) : W p l e R s m args below meth c H locs cells slots Q (F0 m pc ls (.ref (ad 1) :: rest)) := gw_get hx hb hT i_Source hown hK hP 1 5 16 (Nat.le_of_ble_eq_true rfl) rfl rfl (Nat.le_of_ble_eq_true rfl) rfl (gv_a rfl) (hT _ fl_Parser_175) (fun _ h9 => h9) hdg kk
theorem rd_Parser_178 (hx : p.tables.exec = Jvm.exec) (hb : c.code = cc) (hT : ∀ w ∈ lw_good, w.before args s = true) (hown : s.vm.findClass R_Parser = some m.cls) (hK : va_K (dC, dI) cls_all (gT LH km) s) (hP : va_P (dC, dI) cls_all (gW LH ad km T) H) (hdg : decode cc pc = .ok (.getfield 178, 3)) (kk : W p l e R s m args below meth c H locs cells slots Q (F0 m (pc + 3) ls (.ref (ad 20) :: rest))) : W p l e R s m args below meth c H locs cells slots Q (F0 m pc ls (.ref (ad 1) :: rest)) := gw_get hx hb hT i_Source hown hK hP 1 7 18 (Nat.le_of_ble_eq_true rfl) rfl rfl (Nat.le_of_ble_eq_true rfl) rfl (gv_a rfl) (hT _ fl_Parser_178) (fun _ h9 => h9) hdg kk
theorem rd_Parser_119 (hx : p.tables.exec = Jvm.exec) (hb : c.code = cc) (hT : ∀ w ∈ lw_good, w.before args s = true) (hown : s.vm.findClass R_Parser = some m.cls) (hK : va_K (dC, dI) cls_all (gT LH km) s) (hP : va_P (dC, dI) cls_all (gW LH ad km T) H) (hdg : decode cc pc = .ok (.getfield 119, 3)) (kk : W p l e R s m args below meth c H locs cells slots Q (F0 m (pc + 3) ls (.int (T.1 61 0) :: rest))) : W p l e R s m args below meth c H locs cells slots Q (F0 m pc ls (.ref (ad 4) :: rest)) := gw_get hx hb hT i_Parser hown hK hP 4 7 61 (Nat.le_of_ble_eq_true rfl) rfl rfl (Nat.le_of_ble_eq_true rfl) rfl (gv_i rfl) (hT _ fl_Parser_119) (fun _ h9 => h9) hdg kk
theorem rd_Parser_181 (hx : p.tables.exec = Jvm.exec) (hb : c.code = cc) (hT : ∀ w ∈ lw_good, w.before args s = true) (hown : s.vm.findClass R_Parser = some m.cls) (hK : va_K (dC, dI) cls_all (gT LH km) s) (hP : va_P (dC, dI) cls_all (gW LH ad km T) H) (hdg : decode cc pc = .ok (.getfield 181, 3)) (kk : W p l e R s m args below meth c H locs cells slots Q (F0 m (pc + 3) ls (.ref (ad 13) :: rest))) : W p l e R s m args below meth c H locs cells slots Q (F0 m pc ls (.ref (ad 1) :: rest)) := gw_get hx hb hT i_Source hown hK hP 1 0 11 (Nat.le_of_ble_eq_true rfl) rfl rfl (Nat.le_of_ble_eq_true rfl) rfl (gv_a rfl) (hT _ fl_Parser_181) (fun _ h9 => h9) hdg kk
theorem rd_Parser_189 (hx : p.tables.exec = Jvm.exec) (hb : c.code = cc) (hT : ∀ w ∈ lw_good, w.before args s = true) (hown : s.vm.findClass R_Parser = some m.cls) (hK : va_K (dC, dI) cls_all (gT LH km) s) (hP : va_P (dC, dI) cls_all (gW LH ad km T) H) (hdg : decode cc pc = .ok (.getfield 189, 3)) (kk : W p l e R s m args below meth c H locs cells slots Q (F0 m (pc + 3) ls (.ref (ad 17) :: rest))) : W p l e R s m args below meth c H locs cells slots Q (F0 m pc ls (.ref (ad 1) :: rest)) := gw_get hx hb hT i_Source hown hK hP 1 4 15 (Nat.le_of_ble_eq_true rfl) rfl rfl (Nat.le_of_ble_eq_true rfl) rfl (gv_a rfl) (hT _ fl_Parser_189) (fun _ h9 => h9) hdg kk
theorem rd_Parser_208 (hx : p.tables.exec = Jvm.exec) (hb : c.code = cc) (hT : ∀ w ∈ lw_good, w.before args s = true) (hown : s.vm.findClass R_Parser = some m.cls) (hK : va_K (dC, dI) cls_all (gT LH km) s) (hP : va_P (dC, dI) cls_all (gW LH ad km T) H) (hdg : decode cc pc = .ok (.getfield 208, 3)) (kk : W p l e R s m args below meth c H locs cells slots Q (F0 m (pc + 3) ls (.ref (ad 16) :: rest))) : W p l e R s m args below meth c H locs cells slots Q (F0 m pc ls (.ref (ad 1) :: rest)) := gw_get hx hb hT i_Source hown hK hP 1 3 14 (Nat.le_of_ble_eq_true rfl) rfl rfl (Nat.le_of_ble_eq_true rfl) rfl (gv_a rfl) (hT _ fl_Parser_208) (fun _ h9 => h9) hdg kk
theorem rd_Types_15 (hx : p.tables.exec = Jvm.exec) (hb : c.code = cc) (hT : ∀ w ∈ lw_good, w.before args s = true) (hown : s.vm.findClass R_Types = some m.cls) (hK : va_K (dC, dI) cls_all (gT LH km) s) (hP : va_P (dC, dI) cls_all (gW LH ad km T) H) (hdg : decode cc pc = .ok (.getfield 15, 3)) (kk : W p l e R s m args below meth c H locs cells slots Q (F0 m (pc + 3) ls (.long (T.2 63 0) :: rest))) : W p l e R s m args below meth c H locs cells slots Q (F0 m pc ls (.ref (ad 5) :: rest)) := gw_get hx hb hT i_Types hown hK hP 5 1 63 (Nat.le_of_ble_eq_true rfl) rfl rfl (Nat.le_of_ble_eq_true rfl) rfl (gv_l rfl) (hT _ fl_Types_15) (fun _ h9 => h9) hdg kk
theorem wr_Types_15 (hx : p.tables.exec = Jvm.exec) (hb : c.code = cc) (hT : ∀ w ∈ lw_good, w.before args s = true) (hown : s.vm.findClass R_Types = some m.cls) (hK : va_K (dC, dI) cls_all (gT LH km) s) (hP : va_P (dC, dI) cls_all (gW LH ad km T) H) (hD : va_D A (gW LH ad km T)) (hS : va_S A H0 H locs) {v : Int64} (hdg : decode cc pc = .ok (.putfield 15, 3)) (kk : ∀ (T1 : gSt), T1 = sJ T 63 0 v → ∀ (H1 : Heap) (locs1 : List Loc), va_P (dC, dI) cls_all (gW LH ad km T1) H1 → va_D A (gW LH ad km T1) → va_S A H0 H1 locs1 → W p l e R s m args below meth c H1 locs1 cells slots Q (F0 m (pc + 3) ls rest)) : W p l e R s m args below meth c H locs cells slots Q (F0 m pc ls (.long v :: .ref (ad 5) :: rest)) := gw_putj okH hx hb hT i_Types t_Types t_Types_ok n_Types hown hK hP hD hS 5 1 63 (Nat.le_of_ble_eq_true rfl) rfl rfl (Nat.le_of_ble_eq_true rfl) rfl rfl (hT _ fl_Types_15) (fun _ h9 => h9) rfl (ty := .long) (by decide +kernel) rfl rfl hdg kk
theorem rd_Types_11 (hx : p.tables.exec = Jvm.exec) (hb : c.code = cc) (hT : ∀ w ∈ lw_good, w.before args s = true) (hown : s.vm.findClass R_Types = some m.cls) (hK : va_K (dC, dI) cls_all (gT LH km) s) (hP : va_P (dC, dI) cls_all (gW LH ad km T) H) (hdg : decode cc pc = .ok (.getfield 11, 3)) (kk : W p l e R s m args below meth c H locs cells slots Q (F0 m (pc + 3) ls (.ref (ad 49) :: rest))) : W p l e R s m args below meth c H locs cells slots Q (F0 m pc ls (.ref (ad 5) :: rest)) := gw_get hx hb hT i_Types hown hK hP 5 0 62 (Nat.le_of_ble_eq_true rfl) rfl rfl (Nat.le_of_ble_eq_true rfl) rfl (gv_a rfl) (hT _ fl_Types_11) (fun _ h9 => h9) hdg kk
theorem laH_37 (hx : p.tables.exec = Jvm.exec) (hb : c.code = cc) (hK : va_K (dC, dI) cls_all (gT LH km) s) (hP : va_P (dC, dI) cls_all (gW LH ad km T) H) {x : Int32} (hin : inb x 16384) (hdg : decode cc pc = .ok (.laload, 1)) (kk : W p l e R s m args below meth c H locs cells slots Q (F0 m (pc + 1) ls (.long (T.2 62 x.toNatClampNeg) :: rest))) : W p l e R s m args below meth c H locs cells slots Q (F0 m pc ls (.int x :: .ref (ad 49) :: rest)) := gw_lald hx hb hK hP 37 62 16384 49 (Nat.le_of_ble_eq_true rfl) rfl rfl rfl rfl rfl hin hdg kk
theorem saH_37 (hx : p.tables.exec = Jvm.exec) (hb : c.code = cc) (hK : va_K (dC, dI) cls_all (gT LH km) s) (hP : va_P (dC, dI) cls_all (gW LH ad km T) H) (hD : va_D A (gW LH ad km T)) (hS : va_S A H0 H locs) {x : Int32} {v : Int64} (hin : inb x 16384) (hdg : decode cc pc = .ok (.lastore, 1)) (kk : ∀ (T1 : gSt), T1 = sJ T 62 x.toNatClampNeg v → ∀ (H1 : Heap) (locs1 : List Loc), va_P (dC, dI) cls_all (gW LH ad km T1) H1 → va_D A (gW LH ad km T1) → va_S A H0 H1 locs1 → W p l e R s m args below meth c H1 locs1 cells slots Q (F0 m (pc + 1) ls rest)) : W p l e R s m args below meth c H locs cells slots Q (F0 m pc ls (.long v :: .int x :: .ref (ad 49) :: rest)) := gw_last okH hx hb hK hP hD hS 37 62 16384 49 (Nat.le_of_ble_eq_true rfl) rfl rfl rfl rfl rfl hin hdg kk
end GV
def mt_Parser_parseParameters (l : Launch) (dC : Nat → ClassId) (dI : Nat → Nat → Nat) (ea ev ad : Nat → Nat) (km : Nat → ClassId) (F : gF) (d : Nat) : Prop := ∀ (T : gSt) (p1 : Int32) (r : Int32) (rl : Int64) (T' : gSt), F 67 T [p1] [] = some (r, rl, T') → GMv l dC dI LH ad km ea ev y_Parser_parseParameters w_Parser_parseParameters (rmD d) [.ref (ad 4), .int p1] T T'
theorem pd_Parser_parseParameters : (y_Parser_parseParameters).cls = R_Parser ∧ (y_Parser_parseParameters).cls ≠ "java/lang/invoke/MethodHandle" ∧ (y_Parser_parseParameters).cls ≠ "java/lang/invoke/VarHandle" ∧ (parseMethodDescriptor (y_Parser_parseParameters).desc).map (fun d => d.parameters.length) = some 1 := by decide +kernel
def mt_Parser_parseWhere (l : Launch) (dC : Nat → ClassId) (dI : Nat → Nat → Nat) (ea ev ad : Nat → Nat) (km : Nat → ClassId) (F : gF) (d : Nat) : Prop := ∀ (T : gSt)  (r : Int32) (rl : Int64) (T' : gSt), F 68 T [] [] = some (r, rl, T') → GMv l dC dI LH ad km ea ev y_Parser_parseWhere w_Parser_parseWhere (rmD d) [.ref (ad 4)] T T'
theorem pd_Parser_parseWhere : (y_Parser_parseWhere).cls = R_Parser ∧ (y_Parser_parseWhere).cls ≠ "java/lang/invoke/MethodHandle" ∧ (y_Parser_parseWhere).cls ≠ "java/lang/invoke/VarHandle" ∧ (parseMethodDescriptor (y_Parser_parseWhere).desc).map (fun d => d.parameters.length) = some 0 := by decide +kernel
def mt_Parser_parseBlock (l : Launch) (dC : Nat → ClassId) (dI : Nat → Nat → Nat) (ea ev ad : Nat → Nat) (km : Nat → ClassId) (F : gF) (d : Nat) : Prop := ∀ (T : gSt) (p1 : Int32) (r : Int32) (rl : Int64) (T' : gSt), F 70 T [p1] [] = some (r, rl, T') → GMi l dC dI LH ad km ea ev y_Parser_parseBlock w_Parser_parseBlock (rmD d) [.ref (ad 4), .int p1] T r T'
theorem pd_Parser_parseBlock : (y_Parser_parseBlock).cls = R_Parser ∧ (y_Parser_parseBlock).cls ≠ "java/lang/invoke/MethodHandle" ∧ (y_Parser_parseBlock).cls ≠ "java/lang/invoke/VarHandle" ∧ (parseMethodDescriptor (y_Parser_parseBlock).desc).map (fun d => d.parameters.length) = some 1 := by decide +kernel
def mt_Parser_parseStep (l : Launch) (dC : Nat → ClassId) (dI : Nat → Nat → Nat) (ea ev ad : Nat → Nat) (km : Nat → ClassId) (F : gF) (d : Nat) : Prop := ∀ (T : gSt) (p1 : Int32) (r : Int32) (rl : Int64) (T' : gSt), F 71 T [p1] [] = some (r, rl, T') → GMi l dC dI LH ad km ea ev y_Parser_parseStep w_Parser_parseStep (rmD d) [.ref (ad 4), .int p1] T r T'
theorem pd_Parser_parseStep : (y_Parser_parseStep).cls = R_Parser ∧ (y_Parser_parseStep).cls ≠ "java/lang/invoke/MethodHandle" ∧ (y_Parser_parseStep).cls ≠ "java/lang/invoke/VarHandle" ∧ (parseMethodDescriptor (y_Parser_parseStep).desc).map (fun d => d.parameters.length) = some 1 := by decide +kernel
def mt_Parser_parseVar (l : Launch) (dC : Nat → ClassId) (dI : Nat → Nat → Nat) (ea ev ad : Nat → Nat) (km : Nat → ClassId) (F : gF) (d : Nat) : Prop := ∀ (T : gSt) (p1 : Int32) (r : Int32) (rl : Int64) (T' : gSt), F 72 T [p1] [] = some (r, rl, T') → GMi l dC dI LH ad km ea ev y_Parser_parseVar w_Parser_parseVar (rmD d) [.ref (ad 4), .int p1] T r T'
theorem pd_Parser_parseVar : (y_Parser_parseVar).cls = R_Parser ∧ (y_Parser_parseVar).cls ≠ "java/lang/invoke/MethodHandle" ∧ (y_Parser_parseVar).cls ≠ "java/lang/invoke/VarHandle" ∧ (parseMethodDescriptor (y_Parser_parseVar).desc).map (fun d => d.parameters.length) = some 1 := by decide +kernel
def mt_Parser_parseChoice (l : Launch) (dC : Nat → ClassId) (dI : Nat → Nat → Nat) (ea ev ad : Nat → Nat) (km : Nat → ClassId) (F : gF) (d : Nat) : Prop := ∀ (T : gSt) (p1 : Int32) (p2 : Int32) (r : Int32) (rl : Int64) (T' : gSt), F 73 T [p1, p2] [] = some (r, rl, T') → GMi l dC dI LH ad km ea ev y_Parser_parseChoice w_Parser_parseChoice (rmD d) [.ref (ad 4), .int p1, .int p2] T r T'
theorem pd_Parser_parseChoice : (y_Parser_parseChoice).cls = R_Parser ∧ (y_Parser_parseChoice).cls ≠ "java/lang/invoke/MethodHandle" ∧ (y_Parser_parseChoice).cls ≠ "java/lang/invoke/VarHandle" ∧ (parseMethodDescriptor (y_Parser_parseChoice).desc).map (fun d => d.parameters.length) = some 2 := by decide +kernel
def mt_Parser_parsePlain (l : Launch) (dC : Nat → ClassId) (dI : Nat → Nat → Nat) (ea ev ad : Nat → Nat) (km : Nat → ClassId) (F : gF) (d : Nat) : Prop := ∀ (T : gSt) (p1 : Int32) (r : Int32) (rl : Int64) (T' : gSt), F 77 T [p1] [] = some (r, rl, T') → GMi l dC dI LH ad km ea ev y_Parser_parsePlain w_Parser_parsePlain (rmD d) [.ref (ad 4), .int p1] T r T'
theorem pd_Parser_parsePlain : (y_Parser_parsePlain).cls = R_Parser ∧ (y_Parser_parsePlain).cls ≠ "java/lang/invoke/MethodHandle" ∧ (y_Parser_parsePlain).cls ≠ "java/lang/invoke/VarHandle" ∧ (parseMethodDescriptor (y_Parser_parsePlain).desc).map (fun d => d.parameters.length) = some 1 := by decide +kernel
def mt_Parser_parseWordStep (l : Launch) (dC : Nat → ClassId) (dI : Nat → Nat → Nat) (ea ev ad : Nat → Nat) (km : Nat → ClassId) (F : gF) (d : Nat) : Prop := ∀ (T : gSt) (p1 : Int32) (p2 : Int32) (r : Int32) (rl : Int64) (T' : gSt), F 76 T [p1, p2] [] = some (r, rl, T') → GMi l dC dI LH ad km ea ev y_Parser_parseWordStep w_Parser_parseWordStep (rmD d) [.ref (ad 4), .int p1, .int p2] T r T'
theorem pd_Parser_parseWordStep : (y_Parser_parseWordStep).cls = R_Parser ∧ (y_Parser_parseWordStep).cls ≠ "java/lang/invoke/MethodHandle" ∧ (y_Parser_parseWordStep).cls ≠ "java/lang/invoke/VarHandle" ∧ (parseMethodDescriptor (y_Parser_parseWordStep).desc).map (fun d => d.parameters.length) = some 2 := by decide +kernel
def mt_Parser_parseRegionStep (l : Launch) (dC : Nat → ClassId) (dI : Nat → Nat → Nat) (ea ev ad : Nat → Nat) (km : Nat → ClassId) (F : gF) (d : Nat) : Prop := ∀ (T : gSt) (p1 : Int32) (p2 : Int32) (r : Int32) (rl : Int64) (T' : gSt), F 74 T [p1, p2] [] = some (r, rl, T') → GMi l dC dI LH ad km ea ev y_Parser_parseRegionStep w_Parser_parseRegionStep (rmD d) [.ref (ad 4), .int p1, .int p2] T r T'
theorem pd_Parser_parseRegionStep : (y_Parser_parseRegionStep).cls = R_Parser ∧ (y_Parser_parseRegionStep).cls ≠ "java/lang/invoke/MethodHandle" ∧ (y_Parser_parseRegionStep).cls ≠ "java/lang/invoke/VarHandle" ∧ (parseMethodDescriptor (y_Parser_parseRegionStep).desc).map (fun d => d.parameters.length) = some 2 := by decide +kernel
def mt_Parser_parseTry (l : Launch) (dC : Nat → ClassId) (dI : Nat → Nat → Nat) (ea ev ad : Nat → Nat) (km : Nat → ClassId) (F : gF) (d : Nat) : Prop := ∀ (T : gSt) (p1 : Int32) (r : Int32) (rl : Int64) (T' : gSt), F 75 T [p1] [] = some (r, rl, T') → GMi l dC dI LH ad km ea ev y_Parser_parseTry w_Parser_parseTry (rmD d) [.ref (ad 4), .int p1] T r T'
theorem pd_Parser_parseTry : (y_Parser_parseTry).cls = R_Parser ∧ (y_Parser_parseTry).cls ≠ "java/lang/invoke/MethodHandle" ∧ (y_Parser_parseTry).cls ≠ "java/lang/invoke/VarHandle" ∧ (parseMethodDescriptor (y_Parser_parseTry).desc).map (fun d => d.parameters.length) = some 1 := by decide +kernel
def mt_Parser_parseExpr (l : Launch) (dC : Nat → ClassId) (dI : Nat → Nat → Nat) (ea ev ad : Nat → Nat) (km : Nat → ClassId) (F : gF) (d : Nat) : Prop := ∀ (T : gSt) (p1 : Int32) (r : Int32) (rl : Int64) (T' : gSt), F 78 T [p1] [] = some (r, rl, T') → GMi l dC dI LH ad km ea ev y_Parser_parseExpr w_Parser_parseExpr (rmD d) [.ref (ad 4), .int p1] T r T'
theorem pd_Parser_parseExpr : (y_Parser_parseExpr).cls = R_Parser ∧ (y_Parser_parseExpr).cls ≠ "java/lang/invoke/MethodHandle" ∧ (y_Parser_parseExpr).cls ≠ "java/lang/invoke/VarHandle" ∧ (parseMethodDescriptor (y_Parser_parseExpr).desc).map (fun d => d.parameters.length) = some 1 := by decide +kernel
def mt_Parser_parseTerm (l : Launch) (dC : Nat → ClassId) (dI : Nat → Nat → Nat) (ea ev ad : Nat → Nat) (km : Nat → ClassId) (F : gF) (d : Nat) : Prop := ∀ (T : gSt) (p1 : Int32) (r : Int32) (rl : Int64) (T' : gSt), F 80 T [p1] [] = some (r, rl, T') → GMi l dC dI LH ad km ea ev y_Parser_parseTerm w_Parser_parseTerm (rmD d) [.ref (ad 4), .int p1] T r T'
theorem pd_Parser_parseTerm : (y_Parser_parseTerm).cls = R_Parser ∧ (y_Parser_parseTerm).cls ≠ "java/lang/invoke/MethodHandle" ∧ (y_Parser_parseTerm).cls ≠ "java/lang/invoke/VarHandle" ∧ (parseMethodDescriptor (y_Parser_parseTerm).desc).map (fun d => d.parameters.length) = some 1 := by decide +kernel
def mt_Parser_seesOperator (l : Launch) (dC : Nat → ClassId) (dI : Nat → Nat → Nat) (ea ev ad : Nat → Nat) (km : Nat → ClassId) (F : gF) (d : Nat) : Prop := ∀ (T : gSt)  (r : Int32) (rl : Int64) (T' : gSt), F 79 T [] [] = some (r, rl, T') → GMi l dC dI LH ad km ea ev y_Parser_seesOperator w_Parser_seesOperator (rmD d) [.ref (ad 4)] T r T'
theorem pd_Parser_seesOperator : (y_Parser_seesOperator).cls = R_Parser ∧ (y_Parser_seesOperator).cls ≠ "java/lang/invoke/MethodHandle" ∧ (y_Parser_seesOperator).cls ≠ "java/lang/invoke/VarHandle" ∧ (parseMethodDescriptor (y_Parser_seesOperator).desc).map (fun d => d.parameters.length) = some 0 := by decide +kernel
def mt_Parser_parsePrimary (l : Launch) (dC : Nat → ClassId) (dI : Nat → Nat → Nat) (ea ev ad : Nat → Nat) (km : Nat → ClassId) (F : gF) (d : Nat) : Prop := ∀ (T : gSt) (p1 : Int32) (r : Int32) (rl : Int64) (T' : gSt), F 82 T [p1] [] = some (r, rl, T') → GMi l dC dI LH ad km ea ev y_Parser_parsePrimary w_Parser_parsePrimary (rmD d) [.ref (ad 4), .int p1] T r T'
theorem pd_Parser_parsePrimary : (y_Parser_parsePrimary).cls = R_Parser ∧ (y_Parser_parsePrimary).cls ≠ "java/lang/invoke/MethodHandle" ∧ (y_Parser_parsePrimary).cls ≠ "java/lang/invoke/VarHandle" ∧ (parseMethodDescriptor (y_Parser_parsePrimary).desc).map (fun d => d.parameters.length) = some 1 := by decide +kernel
def mt_Parser_parseTail (l : Launch) (dC : Nat → ClassId) (dI : Nat → Nat → Nat) (ea ev ad : Nat → Nat) (km : Nat → ClassId) (F : gF) (d : Nat) : Prop := ∀ (T : gSt) (p1 : Int32) (r : Int32) (rl : Int64) (T' : gSt), F 81 T [p1] [] = some (r, rl, T') → GMi l dC dI LH ad km ea ev y_Parser_parseTail w_Parser_parseTail (rmD d) [.ref (ad 4), .int p1] T r T'
theorem pd_Parser_parseTail : (y_Parser_parseTail).cls = R_Parser ∧ (y_Parser_parseTail).cls ≠ "java/lang/invoke/MethodHandle" ∧ (y_Parser_parseTail).cls ≠ "java/lang/invoke/VarHandle" ∧ (parseMethodDescriptor (y_Parser_parseTail).desc).map (fun d => d.parameters.length) = some 1 := by decide +kernel
def mt_Parser_parseNew (l : Launch) (dC : Nat → ClassId) (dI : Nat → Nat → Nat) (ea ev ad : Nat → Nat) (km : Nat → ClassId) (F : gF) (d : Nat) : Prop := ∀ (T : gSt) (p1 : Int32) (p2 : Int32) (r : Int32) (rl : Int64) (T' : gSt), F 83 T [p1, p2] [] = some (r, rl, T') → GMv l dC dI LH ad km ea ev y_Parser_parseNew w_Parser_parseNew (rmD d) [.ref (ad 4), .int p1, .int p2] T T'
theorem pd_Parser_parseNew : (y_Parser_parseNew).cls = R_Parser ∧ (y_Parser_parseNew).cls ≠ "java/lang/invoke/MethodHandle" ∧ (y_Parser_parseNew).cls ≠ "java/lang/invoke/VarHandle" ∧ (parseMethodDescriptor (y_Parser_parseNew).desc).map (fun d => d.parameters.length) = some 2 := by decide +kernel
def mt_Parser_parseMaking (l : Launch) (dC : Nat → ClassId) (dI : Nat → Nat → Nat) (ea ev ad : Nat → Nat) (km : Nat → ClassId) (F : gF) (d : Nat) : Prop := ∀ (T : gSt) (p1 : Int32) (p2 : Int32) (p3 : Int32) (r : Int32) (rl : Int64) (T' : gSt), F 84 T [p1, p2, p3] [] = some (r, rl, T') → GMv l dC dI LH ad km ea ev y_Parser_parseMaking w_Parser_parseMaking (rmD d) [.ref (ad 4), .int p1, .int p2, .int p3] T T'
theorem pd_Parser_parseMaking : (y_Parser_parseMaking).cls = R_Parser ∧ (y_Parser_parseMaking).cls ≠ "java/lang/invoke/MethodHandle" ∧ (y_Parser_parseMaking).cls ≠ "java/lang/invoke/VarHandle" ∧ (parseMethodDescriptor (y_Parser_parseMaking).desc).map (fun d => d.parameters.length) = some 3 := by decide +kernel
def mt_Parser_parseArguments (l : Launch) (dC : Nat → ClassId) (dI : Nat → Nat → Nat) (ea ev ad : Nat → Nat) (km : Nat → ClassId) (F : gF) (d : Nat) : Prop := ∀ (T : gSt) (p1 : Int32) (p2 : Int32) (r : Int32) (rl : Int64) (T' : gSt), F 85 T [p1, p2] [] = some (r, rl, T') → GMi l dC dI LH ad km ea ev y_Parser_parseArguments w_Parser_parseArguments (rmD d) [.ref (ad 4), .int p1, .int p2] T r T'
theorem pd_Parser_parseArguments : (y_Parser_parseArguments).cls = R_Parser ∧ (y_Parser_parseArguments).cls ≠ "java/lang/invoke/MethodHandle" ∧ (y_Parser_parseArguments).cls ≠ "java/lang/invoke/VarHandle" ∧ (parseMethodDescriptor (y_Parser_parseArguments).desc).map (fun d => d.parameters.length) = some 2 := by decide +kernel
def mt_Types_clear (l : Launch) (dC : Nat → ClassId) (dI : Nat → Nat → Nat) (ea ev ad : Nat → Nat) (km : Nat → ClassId) (F : gF) (d : Nat) : Prop := ∀ (T : gSt)  (r : Int32) (rl : Int64) (T' : gSt), F 86 T [] [] = some (r, rl, T') → GMv l dC dI LH ad km ea ev y_Types_clear w_Types_clear (rmD d) [.ref (ad 5)] T T'
theorem pd_Types_clear : (y_Types_clear).cls = R_Types ∧ (y_Types_clear).cls ≠ "java/lang/invoke/MethodHandle" ∧ (y_Types_clear).cls ≠ "java/lang/invoke/VarHandle" ∧ (parseMethodDescriptor (y_Types_clear).desc).map (fun d => d.parameters.length) = some 0 := by decide +kernel
def mt_Types_keep (l : Launch) (dC : Nat → ClassId) (dI : Nat → Nat → Nat) (ea ev ad : Nat → Nat) (km : Nat → ClassId) (F : gF) (d : Nat) : Prop := ∀ (T : gSt) (p1 : Int64) (r : Int32) (rl : Int64) (T' : gSt), F 87 T [] [p1] = some (r, rl, T') → GMi l dC dI LH ad km ea ev y_Types_keep w_Types_keep (rmD d) [.ref (ad 5), .long p1] T r T'
theorem pd_Types_keep : (y_Types_keep).cls = R_Types ∧ (y_Types_keep).cls ≠ "java/lang/invoke/MethodHandle" ∧ (y_Types_keep).cls ≠ "java/lang/invoke/VarHandle" ∧ (parseMethodDescriptor (y_Types_keep).desc).map (fun d => d.parameters.length) = some 1 := by decide +kernel
def mt_Types_pointer (l : Launch) (dC : Nat → ClassId) (dI : Nat → Nat → Nat) (ea ev ad : Nat → Nat) (km : Nat → ClassId) (F : gF) (d : Nat) : Prop := ∀ (T : gSt) (p1 : Int32) (p2 : Int32) (p3 : Int32) (r : Int32) (rl : Int64) (T' : gSt), F 88 T [p1, p2, p3] [] = some (r, rl, T') → GMi l dC dI LH ad km ea ev y_Types_pointer w_Types_pointer (rmD d) [.ref (ad 5), .int p1, .int p2, .int p3] T r T'
theorem pd_Types_pointer : (y_Types_pointer).cls = R_Types ∧ (y_Types_pointer).cls ≠ "java/lang/invoke/MethodHandle" ∧ (y_Types_pointer).cls ≠ "java/lang/invoke/VarHandle" ∧ (parseMethodDescriptor (y_Types_pointer).desc).map (fun d => d.parameters.length) = some 3 := by decide +kernel
def mt_Types_thing (l : Launch) (dC : Nat → ClassId) (dI : Nat → Nat → Nat) (ea ev ad : Nat → Nat) (km : Nat → ClassId) (F : gF) (d : Nat) : Prop := ∀ (T : gSt) (p1 : Int32) (p2 : Int32) (r : Int32) (rl : Int64) (T' : gSt), F 89 T [p1, p2] [] = some (r, rl, T') → GMi l dC dI LH ad km ea ev y_Types_thing w_Types_thing (rmD d) [.ref (ad 5), .int p1, .int p2] T r T'
theorem pd_Types_thing : (y_Types_thing).cls = R_Types ∧ (y_Types_thing).cls ≠ "java/lang/invoke/MethodHandle" ∧ (y_Types_thing).cls ≠ "java/lang/invoke/VarHandle" ∧ (parseMethodDescriptor (y_Types_thing).desc).map (fun d => d.parameters.length) = some 2 := by decide +kernel
def mt_Types_keyOf (l : Launch) (dC : Nat → ClassId) (dI : Nat → Nat → Nat) (ea ev ad : Nat → Nat) (km : Nat → ClassId) (F : gF) (d : Nat) : Prop := ∀ (T : gSt) (p1 : Int32) (r : Int32) (rl : Int64) (T' : gSt), F 90 T [p1] [] = some (r, rl, T') → GMi l dC dI LH ad km ea ev y_Types_keyOf w_Types_keyOf (rmD d) [.ref (ad 5), .int p1] T r T'
theorem pd_Types_keyOf : (y_Types_keyOf).cls = R_Types ∧ (y_Types_keyOf).cls ≠ "java/lang/invoke/MethodHandle" ∧ (y_Types_keyOf).cls ≠ "java/lang/invoke/VarHandle" ∧ (parseMethodDescriptor (y_Types_keyOf).desc).map (fun d => d.parameters.length) = some 1 := by decide +kernel
def mt_Types_kindOf (l : Launch) (dC : Nat → ClassId) (dI : Nat → Nat → Nat) (ea ev ad : Nat → Nat) (km : Nat → ClassId) (F : gF) (d : Nat) : Prop := ∀ (T : gSt) (p1 : Int32) (r : Int32) (rl : Int64) (T' : gSt), F 91 T [p1] [] = some (r, rl, T') → GMi l dC dI LH ad km ea ev y_Types_kindOf w_Types_kindOf (rmD d) [.ref (ad 5), .int p1] T r T'
theorem pd_Types_kindOf : (y_Types_kindOf).cls = R_Types ∧ (y_Types_kindOf).cls ≠ "java/lang/invoke/MethodHandle" ∧ (y_Types_kindOf).cls ≠ "java/lang/invoke/VarHandle" ∧ (parseMethodDescriptor (y_Types_kindOf).desc).map (fun d => d.parameters.length) = some 1 := by decide +kernel
def mt_Types_regionOf (l : Launch) (dC : Nat → ClassId) (dI : Nat → Nat → Nat) (ea ev ad : Nat → Nat) (km : Nat → ClassId) (F : gF) (d : Nat) : Prop := ∀ (T : gSt) (p1 : Int32) (r : Int32) (rl : Int64) (T' : gSt), F 92 T [p1] [] = some (r, rl, T') → GMi l dC dI LH ad km ea ev y_Types_regionOf w_Types_regionOf (rmD d) [.ref (ad 5), .int p1] T r T'
theorem pd_Types_regionOf : (y_Types_regionOf).cls = R_Types ∧ (y_Types_regionOf).cls ≠ "java/lang/invoke/MethodHandle" ∧ (y_Types_regionOf).cls ≠ "java/lang/invoke/VarHandle" ∧ (parseMethodDescriptor (y_Types_regionOf).desc).map (fun d => d.parameters.length) = some 1 := by decide +kernel
def mt_Types_behind (l : Launch) (dC : Nat → ClassId) (dI : Nat → Nat → Nat) (ea ev ad : Nat → Nat) (km : Nat → ClassId) (F : gF) (d : Nat) : Prop := ∀ (T : gSt) (p1 : Int32) (r : Int32) (rl : Int64) (T' : gSt), F 93 T [p1] [] = some (r, rl, T') → GMi l dC dI LH ad km ea ev y_Types_behind w_Types_behind (rmD d) [.ref (ad 5), .int p1] T r T'
theorem pd_Types_behind : (y_Types_behind).cls = R_Types ∧ (y_Types_behind).cls ≠ "java/lang/invoke/MethodHandle" ∧ (y_Types_behind).cls ≠ "java/lang/invoke/VarHandle" ∧ (parseMethodDescriptor (y_Types_behind).desc).map (fun d => d.parameters.length) = some 1 := by decide +kernel
def mt_Types_isPointed (l : Launch) (dC : Nat → ClassId) (dI : Nat → Nat → Nat) (ea ev ad : Nat → Nat) (km : Nat → ClassId) (F : gF) (d : Nat) : Prop := ∀ (T : gSt) (p1 : Int32) (r : Int32) (rl : Int64) (T' : gSt), F 96 T [p1] [] = some (r, rl, T') → GMi l dC dI LH ad km ea ev y_Types_isPointed w_Types_isPointed (rmD d) [.ref (ad 5), .int p1] T r T'
theorem pd_Types_isPointed : (y_Types_isPointed).cls = R_Types ∧ (y_Types_isPointed).cls ≠ "java/lang/invoke/MethodHandle" ∧ (y_Types_isPointed).cls ≠ "java/lang/invoke/VarHandle" ∧ (parseMethodDescriptor (y_Types_isPointed).desc).map (fun d => d.parameters.length) = some 1 := by decide +kernel
def mt_Types_titleBehind (l : Launch) (dC : Nat → ClassId) (dI : Nat → Nat → Nat) (ea ev ad : Nat → Nat) (km : Nat → ClassId) (F : gF) (d : Nat) : Prop := ∀ (T : gSt) (p1 : Int32) (r : Int32) (rl : Int64) (T' : gSt), F 94 T [p1] [] = some (r, rl, T') → GMi l dC dI LH ad km ea ev y_Types_titleBehind w_Types_titleBehind (rmD d) [.ref (ad 5), .int p1] T r T'
theorem pd_Types_titleBehind : (y_Types_titleBehind).cls = R_Types ∧ (y_Types_titleBehind).cls ≠ "java/lang/invoke/MethodHandle" ∧ (y_Types_titleBehind).cls ≠ "java/lang/invoke/VarHandle" ∧ (parseMethodDescriptor (y_Types_titleBehind).desc).map (fun d => d.parameters.length) = some 1 := by decide +kernel
def mt_Types_regionsBehind (l : Launch) (dC : Nat → ClassId) (dI : Nat → Nat → Nat) (ea ev ad : Nat → Nat) (km : Nat → ClassId) (F : gF) (d : Nat) : Prop := ∀ (T : gSt) (p1 : Int32) (r : Int32) (rl : Int64) (T' : gSt), F 95 T [p1] [] = some (r, rl, T') → GMi l dC dI LH ad km ea ev y_Types_regionsBehind w_Types_regionsBehind (rmD d) [.ref (ad 5), .int p1] T r T'
theorem pd_Types_regionsBehind : (y_Types_regionsBehind).cls = R_Types ∧ (y_Types_regionsBehind).cls ≠ "java/lang/invoke/MethodHandle" ∧ (y_Types_regionsBehind).cls ≠ "java/lang/invoke/VarHandle" ∧ (parseMethodDescriptor (y_Types_regionsBehind).desc).map (fun d => d.parameters.length) = some 1 := by decide +kernel
set_option maxHeartbeats 4000000 in
set_option maxRecDepth 100000 in
theorem sp_Parser_parseFun (l : Launch) (dC : Nat → ClassId) (dI : Nat → Nat → Nat) (ea ev ad : Nat → Nat) (km : Nat → ClassId) (F : gF) (nf d : Nat) (h_Parser_need : mt_Parser_need l dC dI ea ev ad km F d) (h_Parser_parseParameters : mt_Parser_parseParameters l dC dI ea ev ad km F d) (h_Parser_accept : mt_Parser_accept l dC dI ea ev ad km F d) (h_Parser_parseType : mt_Parser_parseType l dC dI ea ev ad km F d) (h_Parser_parseRegions : mt_Parser_parseRegions l dC dI ea ev ad km F d) (h_Parser_parseWhere : mt_Parser_parseWhere l dC dI ea ev ad km F d) (h_Parser_parseBlock : mt_Parser_parseBlock l dC dI ea ev ad km F d) (T0 : gSt) (p1 : Int32) (r0 : Int32) (rl0 : Int64) (T9 : gSt) (hR : rb_Parser_parseFun F nf T0 p1 = some (r0, rl0, T9)) : GMv l dC dI LH ad km ea ev y_Parser_parseFun w_Parser_parseFun (rmD (d + 1)) [.ref (ad 4), .int p1] T0 T9 := by
  intro sz
  refine Met.ofW (cc := b_Parser_parseFun) (maxL := 2) (ret := none) (by decide) rfl ?_
  intro p e s m args below meth c s₁ B hml hv
  obtain ⟨rfl, hsz, hP, hK, hD0, hnw, henv⟩ := hv
  have hx := B.exec
  have hb := B.bytes
  have hr := B.returns
  have hT : ∀ w ∈ lw_good, w.before _ s = true := fun w h => atoms_spec (ws := w_Parser_parseFun) B.pre w (List.mem_cons_of_mem _ h)
  have hown : s.vm.findClass R_Parser = some m.cls := findClass_of_methodNamed B.named
  subst hsz
  have hD := hD0.self (sz := s.heap.size)
  clear hD0
  generalize hAe : va_A (gW LH ad km T0) s.heap.size = A at hD henv ⊢
  have hA : ∀ q : Nat, s.heap.size ≤ q → A q := fun q h => by rw [← hAe]; exact Or.inr h
  have hS : va_S A s.heap s.heap [] := va_S.rf
  have hl := lv_entry ([.ref (ad 4), .int p1]) (n := 2) (Nat.le_of_ble_eq_true rfl)
  rw [lg_entry_eq]
  generalize (lg_sl ([.ref (ad 4), .int p1]) ++ List.replicate (2 - (lg_sl ([.ref (ad 4), .int p1])).length) Slot.unset).toArray = ls at hl ⊢
  have hl : lv_has ls 2 [(0, .ref (ad 4)), (1, .int p1)] := hl
  obtain ⟨G, hG⟩ : ∃ G : Nat → List (Nat × Value) → List Value → gSt → Prop, G = (fun pc lv stk T => ∀ (H : Heap) (locs : List Loc), va_P (dC, dI) cls_all (gW LH ad km T) H → va_D A (gW LH ad km T) → va_S A s.heap H locs → ∀ (ls : Array Slot), lv_has ls 2 lv → W p l e (headSpec w_Parser_parseFun (rmD (d + 1))).room s m ([.ref (ad 4), .int p1] : List Value).toArray below meth c H locs 0 0 (MQ below (va_Qv (fun (_ : Unit) => True) (fun _ t => gPost dC dI LH ad km T9 A t) A) ([.ref (ad 4), .int p1] : List Value).toArray s 0 0 A) (F0 m pc ls stk)) := ⟨_, rfl⟩
  have lb_112 : ∀ (T : gSt) (x1 : Int32), rj_Parser_parseFun_112 F nf T x1 = some (r0, rl0, T9) → G 112 [(0, .ref (ad 4)), (1, .int x1)] [] T := by
    intro T x1 hR; unfold rj_Parser_parseFun_112 at hR; rw [hG]; intro H locs hP hD hS ls hl
    refine lv_aload_n hx hb d_Parser_parseFun_112 rfl (lv_at hl 0 rfl) ?_
    refine rd_Parser_15 hx hb hT hown hK hP d_Parser_parseFun_113 ?_
    refine rd_Parser_132 hx hb hT hown hK hP d_Parser_parseFun_116 ?_
    refine lv_iload_n hx hb d_Parser_parseFun_119 rfl (lv_at hl 1 rfl) ?_
    refine lv_aload_n hx hb d_Parser_parseFun_120 rfl (lv_at hl 0 rfl) ?_
    refine lv_iconst (v := 1) hx hb d_Parser_parseFun_121 (by decide) ?_
    replace hR := bi_e hR
    obtain ⟨r18, l18, T18, hc18, hR⟩ := hR
    refine gcV_i (rest := [.int x1, .ref (ad 33)]) ⟨hx, hb, hml, hown, hT⟩ (h_Parser_parseBlock _ _ _ _ _ hc18) (cwV 1 hT (gV ml_Parser_135 im_Parser_parseBlock se_Parser_parseBlock ini_Parser co_Parser_parseBlock) rfl rfl rfl pd_Parser_parseBlock ⟨rm_hi, rm_lo (Nat.le_of_ble_eq_true rfl)⟩) hK hP hD hS hA hnw henv (Nat.le_of_ble_eq_true rfl) rfl rfl hl.1 rfl (Nat.le_of_ble_eq_true rfl) d_Parser_parseFun_122 ⟨Nat.le_refl _, Nat.le_refl _⟩ (fun H locs hP hD hS => ?_)
    clear hc18
    replace hR := gd_e hR
    obtain ⟨b19, hR⟩ := hR
    refine saH_21 hx hb hK hP hD hS b19 d_Parser_parseFun_125 (fun T19 eT H locs hP hD hS => ?_)
    replace hR := stK_e eT hR
    clear eT
    refine lv_aload_n hx hb d_Parser_parseFun_126 rfl (lv_at hl 0 rfl) ?_
    refine rd_Parser_15 hx hb hT hown hK hP d_Parser_parseFun_127 ?_
    refine rd_Parser_138 hx hb hT hown hK hP d_Parser_parseFun_130 ?_
    refine lv_iload_n hx hb d_Parser_parseFun_133 rfl (lv_at hl 1 rfl) ?_
    refine lv_aload_n hx hb d_Parser_parseFun_134 rfl (lv_at hl 0 rfl) ?_
    refine rd_Parser_23 hx hb hT hown hK hP d_Parser_parseFun_135 ?_
    refine lv_iconst (v := 1) hx hb d_Parser_parseFun_138 (by decide) ?_
    refine lv_isub hx hb d_Parser_parseFun_139 ?_
    replace hR := gd_e hR
    obtain ⟨b20, hR⟩ := hR
    refine saH_22 hx hb hK hP hD hS b20 d_Parser_parseFun_140 (fun T20 eT H locs hP hD hS => ?_)
    replace hR := stK_e eT hR
    clear eT
    obtain ⟨-, -, e3⟩ := re_e hR
    subst e3
    exact W.vret hx hb hr (fun t ht hW => ⟨⟨(), rfl, trivial, by rw [ht]; exact hP, va_K.moved hW.alike hK, hD⟩, hS.F ht⟩) hS.2.2 d_Parser_parseFun_141
  have lb_84 : ∀ (T : gSt) (x1 : Int32), rj_Parser_parseFun_84 F nf T x1 = some (r0, rl0, T9) → G 84 [(0, .ref (ad 4)), (1, .int x1)] [] T := by
    intro T x1 hR; unfold rj_Parser_parseFun_84 at hR; rw [hG]; intro H locs hP hD hS ls hl
    refine lv_aload_n hx hb d_Parser_parseFun_84 rfl (lv_at hl 0 rfl) ?_
    refine lv_bipush (v := 14) hx hb d_Parser_parseFun_85 (by decide) ?_
    replace hR := bi_e hR
    obtain ⟨r14, l14, T14, hc14, hR⟩ := hR
    refine gcV_i (rest := []) ⟨hx, hb, hml, hown, hT⟩ (h_Parser_accept _ _ _ _ _ hc14) (cwV 1 hT (gV ml_Parser_125 im_Parser_accept se_Parser_accept ini_Parser co_Parser_accept) rfl rfl rfl pd_Parser_accept ⟨rm_hi, rm_lo (Nat.le_of_ble_eq_true rfl)⟩) hK hP hD hS hA hnw henv (Nat.le_of_ble_eq_true rfl) rfl rfl hl.1 rfl (Nat.le_of_ble_eq_true rfl) d_Parser_parseFun_87 ⟨Nat.le_refl _, Nat.le_refl _⟩ (fun H locs hP hD hS => ?_)
    clear hc14
    refine lv_if_eq (tgt := 112) hx hb d_Parser_parseFun_90 (by decide) (fun c15 => ?_) (fun c15 => ?_)
    · replace hR := if_p c15 hR
      have g := lb_112 T14 x1 hR
      rw [hG] at g
      exact g _ _ hP hD hS _ (lv_sub hl [0, 1] rfl)
    · replace hR := if_n c15 hR
      refine lv_aload_n hx hb d_Parser_parseFun_93 rfl (lv_at hl 0 rfl) ?_
      refine rd_Parser_15 hx hb hT hown hK hP d_Parser_parseFun_94 ?_
      refine rd_Parser_103 hx hb hT hown hK hP d_Parser_parseFun_97 ?_
      refine lv_iload_n hx hb d_Parser_parseFun_100 rfl (lv_at hl 1 rfl) ?_
      refine lv_aload_n hx hb d_Parser_parseFun_101 rfl (lv_at hl 0 rfl) ?_
      refine rd_Parser_23 hx hb hT hown hK hP d_Parser_parseFun_102 ?_
      refine lv_iconst (v := 1) hx hb d_Parser_parseFun_105 (by decide) ?_
      refine lv_isub hx hb d_Parser_parseFun_106 ?_
      replace hR := gd_e hR
      obtain ⟨b16, hR⟩ := hR
      refine saH_20 hx hb hK hP hD hS b16 d_Parser_parseFun_107 (fun T16 eT H locs hP hD hS => ?_)
      replace hR := stK_e eT hR
      clear eT
      refine lv_aload_n hx hb d_Parser_parseFun_108 rfl (lv_at hl 0 rfl) ?_
      replace hR := bi_e hR
      obtain ⟨r17, l17, T17, hc17, hR⟩ := hR
      refine gcV_v (rest := []) ⟨hx, hb, hml, hown, hT⟩ (h_Parser_parseWhere _ _ _ _ hc17) (cwV 0 hT (gV ml_Parser_129 im_Parser_parseWhere se_Parser_parseWhere ini_Parser co_Parser_parseWhere) rfl rfl rfl pd_Parser_parseWhere ⟨rm_hi, rm_lo (Nat.le_of_ble_eq_true rfl)⟩) hK hP hD hS hA hnw henv (Nat.le_of_ble_eq_true rfl) rfl rfl hl.1 rfl (Nat.le_of_ble_eq_true rfl) d_Parser_parseFun_109 ⟨Nat.le_refl _, Nat.le_refl _⟩ (fun H locs hP hD hS => ?_)
      clear hc17
      have g := lb_112 T17 x1 hR
      rw [hG] at g
      exact g _ _ hP hD hS _ (lv_sub hl [0, 1] rfl)
  have lb_49 : ∀ (T : gSt) (x1 : Int32), rj_Parser_parseFun_49 F nf T x1 = some (r0, rl0, T9) → G 49 [(0, .ref (ad 4)), (1, .int x1)] [] T := by
    intro T x1 hR; unfold rj_Parser_parseFun_49 at hR; rw [hG]; intro H locs hP hD hS ls hl
    refine lv_aload_n hx hb d_Parser_parseFun_49 rfl (lv_at hl 0 rfl) ?_
    refine lv_bipush (v := 13) hx hb d_Parser_parseFun_50 (by decide) ?_
    replace hR := bi_e hR
    obtain ⟨r9, l9, T9, hc9, hR⟩ := hR
    refine gcV_i (rest := []) ⟨hx, hb, hml, hown, hT⟩ (h_Parser_accept _ _ _ _ _ hc9) (cwV 1 hT (gV ml_Parser_125 im_Parser_accept se_Parser_accept ini_Parser co_Parser_accept) rfl rfl rfl pd_Parser_accept ⟨rm_hi, rm_lo (Nat.le_of_ble_eq_true rfl)⟩) hK hP hD hS hA hnw henv (Nat.le_of_ble_eq_true rfl) rfl rfl hl.1 rfl (Nat.le_of_ble_eq_true rfl) d_Parser_parseFun_52 ⟨Nat.le_refl _, Nat.le_refl _⟩ (fun H locs hP hD hS => ?_)
    clear hc9
    refine lv_if_eq (tgt := 84) hx hb d_Parser_parseFun_55 (by decide) (fun c10 => ?_) (fun c10 => ?_)
    · replace hR := if_p c10 hR
      have g := lb_84 T9 x1 hR
      rw [hG] at g
      exact g _ _ hP hD hS _ (lv_sub hl [0, 1] rfl)
    · replace hR := if_n c10 hR
      refine lv_aload_n hx hb d_Parser_parseFun_58 rfl (lv_at hl 0 rfl) ?_
      refine rd_Parser_15 hx hb hT hown hK hP d_Parser_parseFun_59 ?_
      refine rd_Parser_100 hx hb hT hown hK hP d_Parser_parseFun_62 ?_
      refine lv_iload_n hx hb d_Parser_parseFun_65 rfl (lv_at hl 1 rfl) ?_
      refine lv_aload_n hx hb d_Parser_parseFun_66 rfl (lv_at hl 0 rfl) ?_
      refine rd_Parser_23 hx hb hT hown hK hP d_Parser_parseFun_67 ?_
      refine lv_iconst (v := 1) hx hb d_Parser_parseFun_70 (by decide) ?_
      refine lv_isub hx hb d_Parser_parseFun_71 ?_
      replace hR := gd_e hR
      obtain ⟨b11, hR⟩ := hR
      refine saH_19 hx hb hK hP hD hS b11 d_Parser_parseFun_72 (fun T11 eT H locs hP hD hS => ?_)
      replace hR := stK_e eT hR
      clear eT
      refine lv_aload_n hx hb d_Parser_parseFun_73 rfl (lv_at hl 0 rfl) ?_
      refine lv_iconst (v := 4) hx hb d_Parser_parseFun_74 (by decide) ?_
      replace hR := bi_e hR
      obtain ⟨r12, l12, T12, hc12, hR⟩ := hR
      refine gcV_v (rest := []) ⟨hx, hb, hml, hown, hT⟩ (h_Parser_need _ _ _ _ _ hc12) (cwV 1 hT (gV ml_Parser_85 im_Parser_need se_Parser_need ini_Parser co_Parser_need) rfl rfl rfl pd_Parser_need ⟨rm_hi, rm_lo (Nat.le_of_ble_eq_true rfl)⟩) hK hP hD hS hA hnw henv (Nat.le_of_ble_eq_true rfl) rfl rfl hl.1 rfl (Nat.le_of_ble_eq_true rfl) d_Parser_parseFun_75 ⟨Nat.le_refl _, Nat.le_refl _⟩ (fun H locs hP hD hS => ?_)
      clear hc12
      refine lv_aload_n hx hb d_Parser_parseFun_78 rfl (lv_at hl 0 rfl) ?_
      refine lv_iconst (v := 2) hx hb d_Parser_parseFun_79 (by decide) ?_
      replace hR := bi_e hR
      obtain ⟨r13, l13, T13, hc13, hR⟩ := hR
      refine gcV_i (rest := []) ⟨hx, hb, hml, hown, hT⟩ (h_Parser_parseRegions _ _ _ _ _ hc13) (cwV 1 hT (gV ml_Parser_91 im_Parser_parseRegions se_Parser_parseRegions ini_Parser co_Parser_parseRegions) rfl rfl rfl pd_Parser_parseRegions ⟨rm_hi, rm_lo (Nat.le_of_ble_eq_true rfl)⟩) hK hP hD hS hA hnw henv (Nat.le_of_ble_eq_true rfl) rfl rfl hl.1 rfl (Nat.le_of_ble_eq_true rfl) d_Parser_parseFun_80 ⟨Nat.le_refl _, Nat.le_refl _⟩ (fun H locs hP hD hS => ?_)
      clear hc13
      refine lv_pop hx hb d_Parser_parseFun_83 rfl ?_
      have g := lb_84 T13 x1 hR
      rw [hG] at g
      exact g _ _ hP hD hS _ (lv_sub hl [0, 1] rfl)
  unfold rb_Parser_parseFun at hR
  refine lv_aload_n hx hb d_Parser_parseFun_0 rfl (lv_at hl 0 rfl) ?_
  refine lv_iconst (v := 0) hx hb d_Parser_parseFun_1 (by decide) ?_
  refine wr_Parser_116 hx hb hT hown hK hP hD hS d_Parser_parseFun_2 (fun T1 eT H locs hP hD hS => ?_)
  replace hR := stK_e eT hR
  clear eT
  refine lv_aload_n hx hb d_Parser_parseFun_5 rfl (lv_at hl 0 rfl) ?_
  refine lv_iconst (v := 0) hx hb d_Parser_parseFun_6 (by decide) ?_
  refine wr_Parser_119 hx hb hT hown hK hP hD hS d_Parser_parseFun_7 (fun T2 eT H locs hP hD hS => ?_)
  replace hR := stK_e eT hR
  clear eT
  refine lv_aload_n hx hb d_Parser_parseFun_10 rfl (lv_at hl 0 rfl) ?_
  refine lv_bipush (v := 42) hx hb d_Parser_parseFun_11 (by decide) ?_
  replace hR := bi_e hR
  obtain ⟨r3, l3, T3, hc3, hR⟩ := hR
  refine gcV_v (rest := []) ⟨hx, hb, hml, hown, hT⟩ (h_Parser_need _ _ _ _ _ hc3) (cwV 1 hT (gV ml_Parser_85 im_Parser_need se_Parser_need ini_Parser co_Parser_need) rfl rfl rfl pd_Parser_need ⟨rm_hi, rm_lo (Nat.le_of_ble_eq_true rfl)⟩) hK hP hD hS hA hnw henv (Nat.le_of_ble_eq_true rfl) rfl rfl hl.1 rfl (Nat.le_of_ble_eq_true rfl) d_Parser_parseFun_13 ⟨Nat.le_refl _, Nat.le_refl _⟩ (fun H locs hP hD hS => ?_)
  clear hc3
  refine lv_aload_n hx hb d_Parser_parseFun_16 rfl (lv_at hl 0 rfl) ?_
  refine lv_iload_n hx hb d_Parser_parseFun_17 rfl (lv_at hl 1 rfl) ?_
  replace hR := bi_e hR
  obtain ⟨r4, l4, T4, hc4, hR⟩ := hR
  refine gcV_v (rest := []) ⟨hx, hb, hml, hown, hT⟩ (h_Parser_parseParameters _ _ _ _ _ hc4) (cwV 1 hT (gV ml_Parser_122 im_Parser_parseParameters se_Parser_parseParameters ini_Parser co_Parser_parseParameters) rfl rfl rfl pd_Parser_parseParameters ⟨rm_hi, rm_lo (Nat.le_of_ble_eq_true rfl)⟩) hK hP hD hS hA hnw henv (Nat.le_of_ble_eq_true rfl) rfl rfl hl.1 rfl (Nat.le_of_ble_eq_true rfl) d_Parser_parseFun_18 ⟨Nat.le_refl _, Nat.le_refl _⟩ (fun H locs hP hD hS => ?_)
  clear hc4
  refine lv_aload_n hx hb d_Parser_parseFun_21 rfl (lv_at hl 0 rfl) ?_
  refine lv_bipush (v := 48) hx hb d_Parser_parseFun_22 (by decide) ?_
  replace hR := bi_e hR
  obtain ⟨r5, l5, T5, hc5, hR⟩ := hR
  refine gcV_i (rest := []) ⟨hx, hb, hml, hown, hT⟩ (h_Parser_accept _ _ _ _ _ hc5) (cwV 1 hT (gV ml_Parser_125 im_Parser_accept se_Parser_accept ini_Parser co_Parser_accept) rfl rfl rfl pd_Parser_accept ⟨rm_hi, rm_lo (Nat.le_of_ble_eq_true rfl)⟩) hK hP hD hS hA hnw henv (Nat.le_of_ble_eq_true rfl) rfl rfl hl.1 rfl (Nat.le_of_ble_eq_true rfl) d_Parser_parseFun_24 ⟨Nat.le_refl _, Nat.le_refl _⟩ (fun H locs hP hD hS => ?_)
  clear hc5
  refine lv_if_eq (tgt := 49) hx hb d_Parser_parseFun_27 (by decide) (fun c6 => ?_) (fun c6 => ?_)
  · replace hR := if_p c6 hR
    have g := lb_49 T5 p1 hR
    rw [hG] at g
    exact g _ _ hP hD hS _ (lv_sub hl [0, 1] rfl)
  · replace hR := if_n c6 hR
    refine lv_aload_n hx hb d_Parser_parseFun_30 rfl (lv_at hl 0 rfl) ?_
    refine rd_Parser_15 hx hb hT hown hK hP d_Parser_parseFun_31 ?_
    refine rd_Parser_97 hx hb hT hown hK hP d_Parser_parseFun_34 ?_
    refine lv_iload_n hx hb d_Parser_parseFun_37 rfl (lv_at hl 1 rfl) ?_
    refine lv_aload_n hx hb d_Parser_parseFun_38 rfl (lv_at hl 0 rfl) ?_
    refine rd_Parser_23 hx hb hT hown hK hP d_Parser_parseFun_39 ?_
    replace hR := gd_e hR
    obtain ⟨b7, hR⟩ := hR
    refine saH_18 hx hb hK hP hD hS b7 d_Parser_parseFun_42 (fun T7 eT H locs hP hD hS => ?_)
    replace hR := stK_e eT hR
    clear eT
    refine lv_aload_n hx hb d_Parser_parseFun_43 rfl (lv_at hl 0 rfl) ?_
    refine lv_iconst (v := 1) hx hb d_Parser_parseFun_44 (by decide) ?_
    refine lv_iconst (v := 0) hx hb d_Parser_parseFun_45 (by decide) ?_
    replace hR := bi_e hR
    obtain ⟨r8, l8, T8, hc8, hR⟩ := hR
    refine gcV_v (rest := []) ⟨hx, hb, hml, hown, hT⟩ (h_Parser_parseType _ _ _ _ _ _ hc8) (cwV 2 hT (gV ml_Parser_112 im_Parser_parseType se_Parser_parseType ini_Parser co_Parser_parseType) rfl rfl rfl pd_Parser_parseType ⟨rm_hi, rm_lo (Nat.le_of_ble_eq_true rfl)⟩) hK hP hD hS hA hnw henv (Nat.le_of_ble_eq_true rfl) rfl rfl hl.1 rfl (Nat.le_of_ble_eq_true rfl) d_Parser_parseFun_46 ⟨Nat.le_refl _, Nat.le_refl _⟩ (fun H locs hP hD hS => ?_)
    clear hc8
    have g := lb_49 T8 p1 hR
    rw [hG] at g
    exact g _ _ hP hD hS _ (lv_sub hl [0, 1] rfl)
set_option maxHeartbeats 4000000 in
set_option maxRecDepth 100000 in
theorem sp_Parser_parseParameters (l : Launch) (dC : Nat → ClassId) (dI : Nat → Nat → Nat) (ea ev ad : Nat → Nat) (km : Nat → ClassId) (F : gF) (nf d : Nat) (h_Parser_need : mt_Parser_need l dC dI ea ev ad km F d) (h_Parser_stop : mt_Parser_stop l dC dI ea ev ad km F d) (h_Parser_parsePart : mt_Parser_parsePart l dC dI ea ev ad km F d) (h_Parser_accept : mt_Parser_accept l dC dI ea ev ad km F d) (T0 : gSt) (p1 : Int32) (r0 : Int32) (rl0 : Int64) (T9 : gSt) (hR : rb_Parser_parseParameters F nf T0 p1 = some (r0, rl0, T9)) : GMv l dC dI LH ad km ea ev y_Parser_parseParameters w_Parser_parseParameters (rmD (d + 1)) [.ref (ad 4), .int p1] T0 T9 := by
  intro sz
  refine Met.ofW (cc := b_Parser_parseParameters) (maxL := 4) (ret := none) (by decide) rfl ?_
  intro p e s m args below meth c s₁ B hml hv
  obtain ⟨rfl, hsz, hP, hK, hD0, hnw, henv⟩ := hv
  have hx := B.exec
  have hb := B.bytes
  have hr := B.returns
  have hT : ∀ w ∈ lw_good, w.before _ s = true := fun w h => atoms_spec (ws := w_Parser_parseParameters) B.pre w (List.mem_cons_of_mem _ h)
  have hown : s.vm.findClass R_Parser = some m.cls := findClass_of_methodNamed B.named
  subst hsz
  have hD := hD0.self (sz := s.heap.size)
  clear hD0
  generalize hAe : va_A (gW LH ad km T0) s.heap.size = A at hD henv ⊢
  have hA : ∀ q : Nat, s.heap.size ≤ q → A q := fun q h => by rw [← hAe]; exact Or.inr h
  have hS : va_S A s.heap s.heap [] := va_S.rf
  have hl := lv_entry ([.ref (ad 4), .int p1]) (n := 4) (Nat.le_of_ble_eq_true rfl)
  rw [lg_entry_eq]
  generalize (lg_sl ([.ref (ad 4), .int p1]) ++ List.replicate (4 - (lg_sl ([.ref (ad 4), .int p1])).length) Slot.unset).toArray = ls at hl ⊢
  have hl : lv_has ls 4 [(0, .ref (ad 4)), (1, .int p1)] := hl
  obtain ⟨G, hG⟩ : ∃ G : Nat → List (Nat × Value) → List Value → gSt → Prop, G = (fun pc lv stk T => ∀ (H : Heap) (locs : List Loc), va_P (dC, dI) cls_all (gW LH ad km T) H → va_D A (gW LH ad km T) → va_S A s.heap H locs → ∀ (ls : Array Slot), lv_has ls 4 lv → W p l e (headSpec w_Parser_parseParameters (rmD (d + 1))).room s m ([.ref (ad 4), .int p1] : List Value).toArray below meth c H locs 0 0 (MQ below (va_Qv (fun (_ : Unit) => True) (fun _ t => gPost dC dI LH ad km T9 A t) A) ([.ref (ad 4), .int p1] : List Value).toArray s 0 0 A) (F0 m pc ls stk)) := ⟨_, rfl⟩
  have lb_37 : ∀ (rec_17 : gSt → Int32 → Int32 → Int32 → gR) (hrec_17 : ∀ (T : gSt) (x1 : Int32) (x2 : Int32) (x3 : Int32), rec_17 T x1 x2 x3 = some (r0, rl0, T9) → G 17 [(0, .ref (ad 4)), (1, .int x1), (2, .int x2), (3, .int x3)] [] T) (T : gSt) (x1 : Int32) (x3 : Int32), rj_Parser_parseParameters_37 F nf rec_17 T x1 x3 = some (r0, rl0, T9) → G 37 [(0, .ref (ad 4)), (1, .int x1), (3, .int x3)] [] T := by
    intro rec_17 hrec_17 T x1 x3 hR; unfold rj_Parser_parseParameters_37 at hR; rw [hG]; intro H locs hP hD hS ls hl
    refine lv_aload_n hx hb d_Parser_parseParameters_37 rfl (lv_at hl 0 rfl) ?_
    refine lv_dup hx hb d_Parser_parseParameters_38 rfl ?_
    refine rd_Parser_116 hx hb hT hown hK hP d_Parser_parseParameters_39 ?_
    refine lv_iconst (v := 1) hx hb d_Parser_parseParameters_42 (by decide) ?_
    refine lv_iadd hx hb d_Parser_parseParameters_43 ?_
    refine wr_Parser_116 hx hb hT hown hK hP hD hS d_Parser_parseParameters_44 (fun T8 eT H locs hP hD hS => ?_)
    replace hR := stK_e eT hR
    clear eT
    refine lv_aload_n hx hb d_Parser_parseParameters_47 rfl (lv_at hl 0 rfl) ?_
    refine lv_iload_n hx hb d_Parser_parseParameters_48 rfl (lv_at hl 1 rfl) ?_
    replace hR := bi_e hR
    obtain ⟨r9, l9, T9, hc9, hR⟩ := hR
    refine gcV_v (rest := []) ⟨hx, hb, hml, hown, hT⟩ (h_Parser_parsePart _ _ _ _ _ hc9) (cwV 1 hT (gV ml_Parser_106 im_Parser_parsePart se_Parser_parsePart ini_Parser co_Parser_parsePart) rfl rfl rfl pd_Parser_parsePart ⟨rm_hi, rm_lo (Nat.le_of_ble_eq_true rfl)⟩) hK hP hD hS hA hnw henv (Nat.le_of_ble_eq_true rfl) rfl rfl hl.1 rfl (Nat.le_of_ble_eq_true rfl) d_Parser_parseParameters_49 ⟨Nat.le_refl _, Nat.le_refl _⟩ (fun H locs hP hD hS => ?_)
    clear hc9
    refine lv_aload_n hx hb d_Parser_parseParameters_52 rfl (lv_at hl 0 rfl) ?_
    refine lv_bipush (v := 47) hx hb d_Parser_parseParameters_53 (by decide) ?_
    replace hR := bi_e hR
    obtain ⟨r10, l10, T10, hc10, hR⟩ := hR
    refine gcV_i (rest := []) ⟨hx, hb, hml, hown, hT⟩ (h_Parser_accept _ _ _ _ _ hc10) (cwV 1 hT (gV ml_Parser_125 im_Parser_accept se_Parser_accept ini_Parser co_Parser_accept) rfl rfl rfl pd_Parser_accept ⟨rm_hi, rm_lo (Nat.le_of_ble_eq_true rfl)⟩) hK hP hD hS hA hnw henv (Nat.le_of_ble_eq_true rfl) rfl rfl hl.1 rfl (Nat.le_of_ble_eq_true rfl) d_Parser_parseParameters_55 ⟨Nat.le_refl _, Nat.le_refl _⟩ (fun H locs hP hD hS => ?_)
    clear hc10
    refine lv_istore_n (lv' := [(2, .int r10), (0, .ref (ad 4)), (1, .int x1), (3, .int x3)]) hx hb d_Parser_parseParameters_58 rfl hl (by decide) rfl (fun ls hl => ?_)
    obtain ⟨z11, e11⟩ : ∃ y : Int32, y = x3 + (1 : Int32) := ⟨_, rfl⟩
    replace hR := vK_e e11 hR
    refine lv_iinc (v := z11) (lv' := [(3, .int z11), (2, .int r10), (0, .ref (ad 4)), (1, .int x1)]) hx hb d_Parser_parseParameters_59 hl (k := 3) rfl (by rw [e11]; rfl) (by decide) rfl (fun ls hl => ?_)
    refine lv_goto (tgt := 17) hx hb d_Parser_parseParameters_62 (by decide) ?_
    have g := hrec_17 T10 x1 r10 z11 hR
    rw [hG] at g
    exact g _ _ hP hD hS _ (lv_sub hl [2, 3, 1, 0] rfl)
  have lb_17 : ∀ (n : Nat) (T : gSt) (x1 : Int32) (x2 : Int32) (x3 : Int32), rl_Parser_parseParameters_17 F nf n T x1 x2 x3 = some (r0, rl0, T9) → G 17 [(0, .ref (ad 4)), (1, .int x1), (2, .int x2), (3, .int x3)] [] T := by
    intro n
    induction n with
    | zero => intro T x1 x2 x3 hR; rw [rl_Parser_parseParameters_17] at hR; cases hR
    | succ n ih =>
      intro T x1 x2 x3 hR; rw [rl_Parser_parseParameters_17] at hR; rw [hG]; intro H locs hP hD hS ls hl
      refine lv_iload_n hx hb d_Parser_parseParameters_17 rfl (lv_at hl 3 rfl) ?_
      refine lv_bipush (v := 6) hx hb d_Parser_parseParameters_18 (by decide) ?_
      refine lv_icmp_gt (tgt := 65) hx hb d_Parser_parseParameters_20 (by decide) (fun c2 => ?_) (fun c2 => ?_)
      · replace hR := if_p c2 hR
        refine lv_aload_n hx hb d_Parser_parseParameters_65 rfl (lv_at hl 0 rfl) ?_
        refine lv_bipush (v := 43) hx hb d_Parser_parseParameters_66 (by decide) ?_
        replace hR := bi_e hR
        obtain ⟨r3, l3, T3, hc3, hR⟩ := hR
        refine gcV_v (rest := []) ⟨hx, hb, hml, hown, hT⟩ (h_Parser_need _ _ _ _ _ hc3) (cwV 1 hT (gV ml_Parser_85 im_Parser_need se_Parser_need ini_Parser co_Parser_need) rfl rfl rfl pd_Parser_need ⟨rm_hi, rm_lo (Nat.le_of_ble_eq_true rfl)⟩) hK hP hD hS hA hnw henv (Nat.le_of_ble_eq_true rfl) rfl rfl hl.1 rfl (Nat.le_of_ble_eq_true rfl) d_Parser_parseParameters_68 ⟨Nat.le_refl _, Nat.le_refl _⟩ (fun H locs hP hD hS => ?_)
        clear hc3
        obtain ⟨-, -, e3⟩ := re_e hR
        subst e3
        exact W.vret hx hb hr (fun t ht hW => ⟨⟨(), rfl, trivial, by rw [ht]; exact hP, va_K.moved hW.alike hK, hD⟩, hS.F ht⟩) hS.2.2 d_Parser_parseParameters_71
      · replace hR := if_n c2 hR
        refine lv_iload_n hx hb d_Parser_parseParameters_23 rfl (lv_at hl 2 rfl) ?_
        refine lv_if_eq (tgt := 65) hx hb d_Parser_parseParameters_24 (by decide) (fun c4 => ?_) (fun c4 => ?_)
        · replace hR := if_p c4 hR
          refine lv_aload_n hx hb d_Parser_parseParameters_65 rfl (lv_at hl 0 rfl) ?_
          refine lv_bipush (v := 43) hx hb d_Parser_parseParameters_66 (by decide) ?_
          replace hR := bi_e hR
          obtain ⟨r5, l5, T5, hc5, hR⟩ := hR
          refine gcV_v (rest := []) ⟨hx, hb, hml, hown, hT⟩ (h_Parser_need _ _ _ _ _ hc5) (cwV 1 hT (gV ml_Parser_85 im_Parser_need se_Parser_need ini_Parser co_Parser_need) rfl rfl rfl pd_Parser_need ⟨rm_hi, rm_lo (Nat.le_of_ble_eq_true rfl)⟩) hK hP hD hS hA hnw henv (Nat.le_of_ble_eq_true rfl) rfl rfl hl.1 rfl (Nat.le_of_ble_eq_true rfl) d_Parser_parseParameters_68 ⟨Nat.le_refl _, Nat.le_refl _⟩ (fun H locs hP hD hS => ?_)
          clear hc5
          obtain ⟨-, -, e3⟩ := re_e hR
          subst e3
          exact W.vret hx hb hr (fun t ht hW => ⟨⟨(), rfl, trivial, by rw [ht]; exact hP, va_K.moved hW.alike hK, hD⟩, hS.F ht⟩) hS.2.2 d_Parser_parseParameters_71
        · replace hR := if_n c4 hR
          refine lv_iload_n hx hb d_Parser_parseParameters_27 rfl (lv_at hl 3 rfl) ?_
          refine lv_bipush (v := 6) hx hb d_Parser_parseParameters_28 (by decide) ?_
          refine lv_icmp_ne (tgt := 37) hx hb d_Parser_parseParameters_30 (by decide) (fun c6 => ?_) (fun c6 => ?_)
          · replace hR := if_n c6 hR
            have g := lb_37 (rl_Parser_parseParameters_17 F nf n) ih T x1 x3 hR
            rw [hG] at g
            exact g _ _ hP hD hS _ (lv_sub hl [0, 1, 3] rfl)
          · replace hR := if_p c6 hR
            refine lv_aload_n hx hb d_Parser_parseParameters_33 rfl (lv_at hl 0 rfl) ?_
            replace hR := bi_e hR
            obtain ⟨r7, l7, T7, hc7, hR⟩ := hR
            refine gcV_v (rest := []) ⟨hx, hb, hml, hown, hT⟩ (h_Parser_stop _ _ _ _ hc7) (cwV 0 hT (gV ml_Parser_62 im_Parser_stop se_Parser_stop ini_Parser co_Parser_stop) rfl rfl rfl pd_Parser_stop ⟨rm_hi, rm_lo (Nat.le_of_ble_eq_true rfl)⟩) hK hP hD hS hA hnw henv (Nat.le_of_ble_eq_true rfl) rfl rfl hl.1 rfl (Nat.le_of_ble_eq_true rfl) d_Parser_parseParameters_34 ⟨Nat.le_refl _, Nat.le_refl _⟩ (fun H locs hP hD hS => ?_)
            clear hc7
            have g := lb_37 (rl_Parser_parseParameters_17 F nf n) ih T7 x1 x3 hR
            rw [hG] at g
            exact g _ _ hP hD hS _ (lv_sub hl [0, 1, 3] rfl)
  unfold rb_Parser_parseParameters at hR
  refine lv_aload_n hx hb d_Parser_parseParameters_0 rfl (lv_at hl 0 rfl) ?_
  refine rd_Parser_33 hx hb hT hown hK hP d_Parser_parseParameters_1 ?_
  refine lv_bipush (v := 43) hx hb d_Parser_parseParameters_4 (by decide) ?_
  refine lv_icmp_eq (tgt := 13) hx hb d_Parser_parseParameters_6 (by decide) (fun c1 => ?_) (fun c1 => ?_)
  · replace hR := if_p c1 hR
    refine lv_iconst (v := 0) hx hb d_Parser_parseParameters_13 (by decide) ?_
    refine lv_istore_n (lv' := [(2, .int (0 : Int32)), (0, .ref (ad 4)), (1, .int p1)]) hx hb d_Parser_parseParameters_14 rfl hl (by decide) rfl (fun ls hl => ?_)
    refine lv_iconst (v := 0) hx hb d_Parser_parseParameters_15 (by decide) ?_
    refine lv_istore_n (lv' := [(3, .int (0 : Int32)), (2, .int (0 : Int32)), (0, .ref (ad 4)), (1, .int p1)]) hx hb d_Parser_parseParameters_16 rfl hl (by decide) rfl (fun ls hl => ?_)
    have g := lb_17 nf T0 p1 (0 : Int32) (0 : Int32) hR
    rw [hG] at g
    exact g _ _ hP hD hS _ (lv_sub hl [2, 3, 1, 0] rfl)
  · replace hR := if_n c1 hR
    refine lv_iconst (v := 1) hx hb d_Parser_parseParameters_9 (by decide) ?_
    refine lv_goto (tgt := 14) hx hb d_Parser_parseParameters_10 (by decide) ?_
    refine lv_istore_n (lv' := [(2, .int (1 : Int32)), (0, .ref (ad 4)), (1, .int p1)]) hx hb d_Parser_parseParameters_14 rfl hl (by decide) rfl (fun ls hl => ?_)
    refine lv_iconst (v := 0) hx hb d_Parser_parseParameters_15 (by decide) ?_
    refine lv_istore_n (lv' := [(3, .int (0 : Int32)), (2, .int (1 : Int32)), (0, .ref (ad 4)), (1, .int p1)]) hx hb d_Parser_parseParameters_16 rfl hl (by decide) rfl (fun ls hl => ?_)
    have g := lb_17 nf T0 p1 (1 : Int32) (0 : Int32) hR
    rw [hG] at g
    exact g _ _ hP hD hS _ (lv_sub hl [2, 3, 1, 0] rfl)
set_option maxHeartbeats 4000000 in
set_option maxRecDepth 100000 in
theorem sp_Parser_parseWhere (l : Launch) (dC : Nat → ClassId) (dI : Nat → Nat → Nat) (ea ev ad : Nat → Nat) (km : Nat → ClassId) (F : gF) (nf d : Nat) (h_Parser_stop : mt_Parser_stop l dC dI ea ev ad km F d) (h_Parser_need : mt_Parser_need l dC dI ea ev ad km F d) (h_Parser_accept : mt_Parser_accept l dC dI ea ev ad km F d) (T0 : gSt) (r0 : Int32) (rl0 : Int64) (T9 : gSt) (hR : rb_Parser_parseWhere F nf T0 = some (r0, rl0, T9)) : GMv l dC dI LH ad km ea ev y_Parser_parseWhere w_Parser_parseWhere (rmD (d + 1)) [.ref (ad 4)] T0 T9 := by
  intro sz
  refine Met.ofW (cc := b_Parser_parseWhere) (maxL := 3) (ret := none) (by decide) rfl ?_
  intro p e s m args below meth c s₁ B hml hv
  obtain ⟨rfl, hsz, hP, hK, hD0, hnw, henv⟩ := hv
  have hx := B.exec
  have hb := B.bytes
  have hr := B.returns
  have hT : ∀ w ∈ lw_good, w.before _ s = true := fun w h => atoms_spec (ws := w_Parser_parseWhere) B.pre w (List.mem_cons_of_mem _ h)
  have hown : s.vm.findClass R_Parser = some m.cls := findClass_of_methodNamed B.named
  subst hsz
  have hD := hD0.self (sz := s.heap.size)
  clear hD0
  generalize hAe : va_A (gW LH ad km T0) s.heap.size = A at hD henv ⊢
  have hA : ∀ q : Nat, s.heap.size ≤ q → A q := fun q h => by rw [← hAe]; exact Or.inr h
  have hS : va_S A s.heap s.heap [] := va_S.rf
  have hl := lv_entry ([.ref (ad 4)]) (n := 3) (Nat.le_of_ble_eq_true rfl)
  rw [lg_entry_eq]
  generalize (lg_sl ([.ref (ad 4)]) ++ List.replicate (3 - (lg_sl ([.ref (ad 4)])).length) Slot.unset).toArray = ls at hl ⊢
  have hl : lv_has ls 3 [(0, .ref (ad 4))] := hl
  obtain ⟨G, hG⟩ : ∃ G : Nat → List (Nat × Value) → List Value → gSt → Prop, G = (fun pc lv stk T => ∀ (H : Heap) (locs : List Loc), va_P (dC, dI) cls_all (gW LH ad km T) H → va_D A (gW LH ad km T) → va_S A s.heap H locs → ∀ (ls : Array Slot), lv_has ls 3 lv → W p l e (headSpec w_Parser_parseWhere (rmD (d + 1))).room s m ([.ref (ad 4)] : List Value).toArray below meth c H locs 0 0 (MQ below (va_Qv (fun (_ : Unit) => True) (fun _ t => gPost dC dI LH ad km T9 A t) A) ([.ref (ad 4)] : List Value).toArray s 0 0 A) (F0 m pc ls stk)) := ⟨_, rfl⟩
  have lb_22 : ∀ (rec_4 : gSt → Int32 → Int32 → gR) (hrec_4 : ∀ (T : gSt) (x1 : Int32) (x2 : Int32), rec_4 T x1 x2 = some (r0, rl0, T9) → G 4 [(0, .ref (ad 4)), (1, .int x1), (2, .int x2)] [] T) (T : gSt) (x2 : Int32), rj_Parser_parseWhere_22 F nf rec_4 T x2 = some (r0, rl0, T9) → G 22 [(0, .ref (ad 4)), (2, .int x2)] [] T := by
    intro rec_4 hrec_4 T x2 hR; unfold rj_Parser_parseWhere_22 at hR; rw [hG]; intro H locs hP hD hS ls hl
    refine lv_aload_n hx hb d_Parser_parseWhere_22 rfl (lv_at hl 0 rfl) ?_
    refine lv_iconst (v := 4) hx hb d_Parser_parseWhere_23 (by decide) ?_
    replace hR := bi_e hR
    obtain ⟨r5, l5, T5, hc5, hR⟩ := hR
    refine gcV_v (rest := []) ⟨hx, hb, hml, hown, hT⟩ (h_Parser_need _ _ _ _ _ hc5) (cwV 1 hT (gV ml_Parser_85 im_Parser_need se_Parser_need ini_Parser co_Parser_need) rfl rfl rfl pd_Parser_need ⟨rm_hi, rm_lo (Nat.le_of_ble_eq_true rfl)⟩) hK hP hD hS hA hnw henv (Nat.le_of_ble_eq_true rfl) rfl rfl hl.1 rfl (Nat.le_of_ble_eq_true rfl) d_Parser_parseWhere_24 ⟨Nat.le_refl _, Nat.le_refl _⟩ (fun H locs hP hD hS => ?_)
    clear hc5
    refine lv_aload_n hx hb d_Parser_parseWhere_27 rfl (lv_at hl 0 rfl) ?_
    refine lv_bipush (v := 52) hx hb d_Parser_parseWhere_28 (by decide) ?_
    replace hR := bi_e hR
    obtain ⟨r6, l6, T6, hc6, hR⟩ := hR
    refine gcV_v (rest := []) ⟨hx, hb, hml, hown, hT⟩ (h_Parser_need _ _ _ _ _ hc6) (cwV 1 hT (gV ml_Parser_85 im_Parser_need se_Parser_need ini_Parser co_Parser_need) rfl rfl rfl pd_Parser_need ⟨rm_hi, rm_lo (Nat.le_of_ble_eq_true rfl)⟩) hK hP hD hS hA hnw henv (Nat.le_of_ble_eq_true rfl) rfl rfl hl.1 rfl (Nat.le_of_ble_eq_true rfl) d_Parser_parseWhere_30 ⟨Nat.le_refl _, Nat.le_refl _⟩ (fun H locs hP hD hS => ?_)
    clear hc6
    refine lv_aload_n hx hb d_Parser_parseWhere_33 rfl (lv_at hl 0 rfl) ?_
    refine lv_iconst (v := 4) hx hb d_Parser_parseWhere_34 (by decide) ?_
    replace hR := bi_e hR
    obtain ⟨r7, l7, T7, hc7, hR⟩ := hR
    refine gcV_v (rest := []) ⟨hx, hb, hml, hown, hT⟩ (h_Parser_need _ _ _ _ _ hc7) (cwV 1 hT (gV ml_Parser_85 im_Parser_need se_Parser_need ini_Parser co_Parser_need) rfl rfl rfl pd_Parser_need ⟨rm_hi, rm_lo (Nat.le_of_ble_eq_true rfl)⟩) hK hP hD hS hA hnw henv (Nat.le_of_ble_eq_true rfl) rfl rfl hl.1 rfl (Nat.le_of_ble_eq_true rfl) d_Parser_parseWhere_35 ⟨Nat.le_refl _, Nat.le_refl _⟩ (fun H locs hP hD hS => ?_)
    clear hc7
    refine lv_aload_n hx hb d_Parser_parseWhere_38 rfl (lv_at hl 0 rfl) ?_
    refine lv_bipush (v := 47) hx hb d_Parser_parseWhere_39 (by decide) ?_
    replace hR := bi_e hR
    obtain ⟨r8, l8, T8, hc8, hR⟩ := hR
    refine gcV_i (rest := []) ⟨hx, hb, hml, hown, hT⟩ (h_Parser_accept _ _ _ _ _ hc8) (cwV 1 hT (gV ml_Parser_125 im_Parser_accept se_Parser_accept ini_Parser co_Parser_accept) rfl rfl rfl pd_Parser_accept ⟨rm_hi, rm_lo (Nat.le_of_ble_eq_true rfl)⟩) hK hP hD hS hA hnw henv (Nat.le_of_ble_eq_true rfl) rfl rfl hl.1 rfl (Nat.le_of_ble_eq_true rfl) d_Parser_parseWhere_41 ⟨Nat.le_refl _, Nat.le_refl _⟩ (fun H locs hP hD hS => ?_)
    clear hc8
    refine lv_istore_n (lv' := [(1, .int r8), (0, .ref (ad 4)), (2, .int x2)]) hx hb d_Parser_parseWhere_44 rfl hl (by decide) rfl (fun ls hl => ?_)
    obtain ⟨z9, e9⟩ : ∃ y : Int32, y = x2 + (1 : Int32) := ⟨_, rfl⟩
    replace hR := vK_e e9 hR
    refine lv_iinc (v := z9) (lv' := [(2, .int z9), (1, .int r8), (0, .ref (ad 4))]) hx hb d_Parser_parseWhere_45 hl (k := 2) rfl (by rw [e9]; rfl) (by decide) rfl (fun ls hl => ?_)
    refine lv_goto (tgt := 4) hx hb d_Parser_parseWhere_48 (by decide) ?_
    have g := hrec_4 T8 r8 z9 hR
    rw [hG] at g
    exact g _ _ hP hD hS _ (lv_sub hl [2, 1, 0] rfl)
  have lb_4 : ∀ (n : Nat) (T : gSt) (x1 : Int32) (x2 : Int32), rl_Parser_parseWhere_4 F nf n T x1 x2 = some (r0, rl0, T9) → G 4 [(0, .ref (ad 4)), (1, .int x1), (2, .int x2)] [] T := by
    intro n
    induction n with
    | zero => intro T x1 x2 hR; rw [rl_Parser_parseWhere_4] at hR; cases hR
    | succ n ih =>
      intro T x1 x2 hR; rw [rl_Parser_parseWhere_4] at hR; rw [hG]; intro H locs hP hD hS ls hl
      refine lv_iload_n hx hb d_Parser_parseWhere_4 rfl (lv_at hl 2 rfl) ?_
      refine lv_iconst (v := 3) hx hb d_Parser_parseWhere_5 (by decide) ?_
      refine lv_icmp_gt (tgt := 51) hx hb d_Parser_parseWhere_6 (by decide) (fun c1 => ?_) (fun c1 => ?_)
      · replace hR := if_p c1 hR
        obtain ⟨-, -, e3⟩ := re_e hR
        subst e3
        exact W.vret hx hb hr (fun t ht hW => ⟨⟨(), rfl, trivial, by rw [ht]; exact hP, va_K.moved hW.alike hK, hD⟩, hS.F ht⟩) hS.2.2 d_Parser_parseWhere_51
      · replace hR := if_n c1 hR
        refine lv_iload_n hx hb d_Parser_parseWhere_9 rfl (lv_at hl 1 rfl) ?_
        refine lv_if_eq (tgt := 51) hx hb d_Parser_parseWhere_10 (by decide) (fun c2 => ?_) (fun c2 => ?_)
        · replace hR := if_p c2 hR
          obtain ⟨-, -, e3⟩ := re_e hR
          subst e3
          exact W.vret hx hb hr (fun t ht hW => ⟨⟨(), rfl, trivial, by rw [ht]; exact hP, va_K.moved hW.alike hK, hD⟩, hS.F ht⟩) hS.2.2 d_Parser_parseWhere_51
        · replace hR := if_n c2 hR
          refine lv_iload_n hx hb d_Parser_parseWhere_13 rfl (lv_at hl 2 rfl) ?_
          refine lv_iconst (v := 3) hx hb d_Parser_parseWhere_14 (by decide) ?_
          refine lv_icmp_ne (tgt := 22) hx hb d_Parser_parseWhere_15 (by decide) (fun c3 => ?_) (fun c3 => ?_)
          · replace hR := if_n c3 hR
            have g := lb_22 (rl_Parser_parseWhere_4 F nf n) ih T x2 hR
            rw [hG] at g
            exact g _ _ hP hD hS _ (lv_sub hl [0, 2] rfl)
          · replace hR := if_p c3 hR
            refine lv_aload_n hx hb d_Parser_parseWhere_18 rfl (lv_at hl 0 rfl) ?_
            replace hR := bi_e hR
            obtain ⟨r4, l4, T4, hc4, hR⟩ := hR
            refine gcV_v (rest := []) ⟨hx, hb, hml, hown, hT⟩ (h_Parser_stop _ _ _ _ hc4) (cwV 0 hT (gV ml_Parser_62 im_Parser_stop se_Parser_stop ini_Parser co_Parser_stop) rfl rfl rfl pd_Parser_stop ⟨rm_hi, rm_lo (Nat.le_of_ble_eq_true rfl)⟩) hK hP hD hS hA hnw henv (Nat.le_of_ble_eq_true rfl) rfl rfl hl.1 rfl (Nat.le_of_ble_eq_true rfl) d_Parser_parseWhere_19 ⟨Nat.le_refl _, Nat.le_refl _⟩ (fun H locs hP hD hS => ?_)
            clear hc4
            have g := lb_22 (rl_Parser_parseWhere_4 F nf n) ih T4 x2 hR
            rw [hG] at g
            exact g _ _ hP hD hS _ (lv_sub hl [0, 2] rfl)
  unfold rb_Parser_parseWhere at hR
  refine lv_iconst (v := 1) hx hb d_Parser_parseWhere_0 (by decide) ?_
  refine lv_istore_n (lv' := [(1, .int (1 : Int32)), (0, .ref (ad 4))]) hx hb d_Parser_parseWhere_1 rfl hl (by decide) rfl (fun ls hl => ?_)
  refine lv_iconst (v := 0) hx hb d_Parser_parseWhere_2 (by decide) ?_
  refine lv_istore_n (lv' := [(2, .int (0 : Int32)), (1, .int (1 : Int32)), (0, .ref (ad 4))]) hx hb d_Parser_parseWhere_3 rfl hl (by decide) rfl (fun ls hl => ?_)
  have g := lb_4 nf T0 (1 : Int32) (0 : Int32) hR
  rw [hG] at g
  exact g _ _ hP hD hS _ (lv_sub hl [2, 1, 0] rfl)
set_option maxHeartbeats 4000000 in
set_option maxRecDepth 100000 in
theorem sp_Parser_parseType (l : Launch) (dC : Nat → ClassId) (dI : Nat → Nat → Nat) (ea ev ad : Nat → Nat) (km : Nat → ClassId) (F : gF) (nf d : Nat) (h_Parser_accept : mt_Parser_accept l dC dI ea ev ad km F d) (h_Parser_parseRegions : mt_Parser_parseRegions l dC dI ea ev ad km F d) (h_Parser_stop : mt_Parser_stop l dC dI ea ev ad km F d) (h_Parser_need : mt_Parser_need l dC dI ea ev ad km F d) (h_Parser_parseType : mt_Parser_parseType l dC dI ea ev ad km F d) (T0 : gSt) (p1 : Int32) (p2 : Int32) (r0 : Int32) (rl0 : Int64) (T9 : gSt) (hR : rb_Parser_parseType F nf T0 p1 p2 = some (r0, rl0, T9)) : GMv l dC dI LH ad km ea ev y_Parser_parseType w_Parser_parseType (rmD (d + 1)) [.ref (ad 4), .int p1, .int p2] T0 T9 := by
  intro sz
  refine Met.ofW (cc := b_Parser_parseType) (maxL := 3) (ret := none) (by decide) rfl ?_
  intro p e s m args below meth c s₁ B hml hv
  obtain ⟨rfl, hsz, hP, hK, hD0, hnw, henv⟩ := hv
  have hx := B.exec
  have hb := B.bytes
  have hr := B.returns
  have hT : ∀ w ∈ lw_good, w.before _ s = true := fun w h => atoms_spec (ws := w_Parser_parseType) B.pre w (List.mem_cons_of_mem _ h)
  have hown : s.vm.findClass R_Parser = some m.cls := findClass_of_methodNamed B.named
  subst hsz
  have hD := hD0.self (sz := s.heap.size)
  clear hD0
  generalize hAe : va_A (gW LH ad km T0) s.heap.size = A at hD henv ⊢
  have hA : ∀ q : Nat, s.heap.size ≤ q → A q := fun q h => by rw [← hAe]; exact Or.inr h
  have hS : va_S A s.heap s.heap [] := va_S.rf
  have hl := lv_entry ([.ref (ad 4), .int p1, .int p2]) (n := 3) (Nat.le_of_ble_eq_true rfl)
  rw [lg_entry_eq]
  generalize (lg_sl ([.ref (ad 4), .int p1, .int p2]) ++ List.replicate (3 - (lg_sl ([.ref (ad 4), .int p1, .int p2])).length) Slot.unset).toArray = ls at hl ⊢
  have hl : lv_has ls 3 [(0, .ref (ad 4)), (1, .int p1), (2, .int p2)] := hl
  obtain ⟨G, hG⟩ : ∃ G : Nat → List (Nat × Value) → List Value → gSt → Prop, G = (fun pc lv stk T => ∀ (H : Heap) (locs : List Loc), va_P (dC, dI) cls_all (gW LH ad km T) H → va_D A (gW LH ad km T) → va_S A s.heap H locs → ∀ (ls : Array Slot), lv_has ls 3 lv → W p l e (headSpec w_Parser_parseType (rmD (d + 1))).room s m ([.ref (ad 4), .int p1, .int p2] : List Value).toArray below meth c H locs 0 0 (MQ below (va_Qv (fun (_ : Unit) => True) (fun _ t => gPost dC dI LH ad km T9 A t) A) ([.ref (ad 4), .int p1, .int p2] : List Value).toArray s 0 0 A) (F0 m pc ls stk)) := ⟨_, rfl⟩
  have lb_34 : ∀ (T : gSt) (x1 : Int32), rj_Parser_parseType_34 F nf T x1 = some (r0, rl0, T9) → G 34 [(0, .ref (ad 4)), (1, .int x1)] [] T := by
    intro T x1 hR; unfold rj_Parser_parseType_34 at hR; rw [hG]; intro H locs hP hD hS ls hl
    refine lv_aload_n hx hb d_Parser_parseType_34 rfl (lv_at hl 0 rfl) ?_
    refine lv_bipush (v := 59) hx hb d_Parser_parseType_35 (by decide) ?_
    replace hR := bi_e hR
    obtain ⟨r7, l7, T7, hc7, hR⟩ := hR
    refine gcV_i (rest := []) ⟨hx, hb, hml, hown, hT⟩ (h_Parser_accept _ _ _ _ _ hc7) (cwV 1 hT (gV ml_Parser_125 im_Parser_accept se_Parser_accept ini_Parser co_Parser_accept) rfl rfl rfl pd_Parser_accept ⟨rm_hi, rm_lo (Nat.le_of_ble_eq_true rfl)⟩) hK hP hD hS hA hnw henv (Nat.le_of_ble_eq_true rfl) rfl rfl hl.1 rfl (Nat.le_of_ble_eq_true rfl) d_Parser_parseType_37 ⟨Nat.le_refl _, Nat.le_refl _⟩ (fun H locs hP hD hS => ?_)
    clear hc7
    refine lv_if_ne (tgt := 52) hx hb d_Parser_parseType_40 (by decide) (fun c8 => ?_) (fun c8 => ?_)
    · replace hR := if_n c8 hR
      refine lv_aload_n hx hb d_Parser_parseType_52 rfl (lv_at hl 0 rfl) ?_
      refine lv_iconst (v := 4) hx hb d_Parser_parseType_53 (by decide) ?_
      replace hR := bi_e hR
      obtain ⟨r9, l9, T9, hc9, hR⟩ := hR
      refine gcV_v (rest := []) ⟨hx, hb, hml, hown, hT⟩ (h_Parser_need _ _ _ _ _ hc9) (cwV 1 hT (gV ml_Parser_85 im_Parser_need se_Parser_need ini_Parser co_Parser_need) rfl rfl rfl pd_Parser_need ⟨rm_hi, rm_lo (Nat.le_of_ble_eq_true rfl)⟩) hK hP hD hS hA hnw henv (Nat.le_of_ble_eq_true rfl) rfl rfl hl.1 rfl (Nat.le_of_ble_eq_true rfl) d_Parser_parseType_54 ⟨Nat.le_refl _, Nat.le_refl _⟩ (fun H locs hP hD hS => ?_)
      clear hc9
      refine lv_aload_n hx hb d_Parser_parseType_57 rfl (lv_at hl 0 rfl) ?_
      refine lv_iload_n hx hb d_Parser_parseType_58 rfl (lv_at hl 1 rfl) ?_
      refine lv_iconst (v := 1) hx hb d_Parser_parseType_59 (by decide) ?_
      refine lv_iadd hx hb d_Parser_parseType_60 ?_
      refine lv_iconst (v := 1) hx hb d_Parser_parseType_61 (by decide) ?_
      replace hR := bi_e hR
      obtain ⟨r10, l10, T10, hc10, hR⟩ := hR
      refine gcV_v (rest := []) ⟨hx, hb, hml, hown, hT⟩ (h_Parser_parseType _ _ _ _ _ _ hc10) (cwV 2 hT (gV ml_Parser_112 im_Parser_parseType se_Parser_parseType ini_Parser co_Parser_parseType) rfl rfl rfl pd_Parser_parseType ⟨rm_hi, rm_lo (Nat.le_of_ble_eq_true rfl)⟩) hK hP hD hS hA hnw henv (Nat.le_of_ble_eq_true rfl) rfl rfl hl.1 rfl (Nat.le_of_ble_eq_true rfl) d_Parser_parseType_62 ⟨Nat.le_refl _, Nat.le_refl _⟩ (fun H locs hP hD hS => ?_)
      clear hc10
      refine lv_goto (tgt := 99) hx hb d_Parser_parseType_65 (by decide) ?_
      obtain ⟨-, -, e3⟩ := re_e hR
      subst e3
      exact W.vret hx hb hr (fun t ht hW => ⟨⟨(), rfl, trivial, by rw [ht]; exact hP, va_K.moved hW.alike hK, hD⟩, hS.F ht⟩) hS.2.2 d_Parser_parseType_99
    · replace hR := if_p c8 hR
      refine lv_aload_n hx hb d_Parser_parseType_43 rfl (lv_at hl 0 rfl) ?_
      refine lv_bipush (v := 55) hx hb d_Parser_parseType_44 (by decide) ?_
      replace hR := bi_e hR
      obtain ⟨r11, l11, T11, hc11, hR⟩ := hR
      refine gcV_i (rest := []) ⟨hx, hb, hml, hown, hT⟩ (h_Parser_accept _ _ _ _ _ hc11) (cwV 1 hT (gV ml_Parser_125 im_Parser_accept se_Parser_accept ini_Parser co_Parser_accept) rfl rfl rfl pd_Parser_accept ⟨rm_hi, rm_lo (Nat.le_of_ble_eq_true rfl)⟩) hK hP hD hS hA hnw henv (Nat.le_of_ble_eq_true rfl) rfl rfl hl.1 rfl (Nat.le_of_ble_eq_true rfl) d_Parser_parseType_46 ⟨Nat.le_refl _, Nat.le_refl _⟩ (fun H locs hP hD hS => ?_)
      clear hc11
      refine lv_if_eq (tgt := 68) hx hb d_Parser_parseType_49 (by decide) (fun c12 => ?_) (fun c12 => ?_)
      · replace hR := if_p c12 hR
        refine lv_aload_n hx hb d_Parser_parseType_68 rfl (lv_at hl 0 rfl) ?_
        refine lv_bipush (v := 60) hx hb d_Parser_parseType_69 (by decide) ?_
        replace hR := bi_e hR
        obtain ⟨r13, l13, T13, hc13, hR⟩ := hR
        refine gcV_i (rest := []) ⟨hx, hb, hml, hown, hT⟩ (h_Parser_accept _ _ _ _ _ hc13) (cwV 1 hT (gV ml_Parser_125 im_Parser_accept se_Parser_accept ini_Parser co_Parser_accept) rfl rfl rfl pd_Parser_accept ⟨rm_hi, rm_lo (Nat.le_of_ble_eq_true rfl)⟩) hK hP hD hS hA hnw henv (Nat.le_of_ble_eq_true rfl) rfl rfl hl.1 rfl (Nat.le_of_ble_eq_true rfl) d_Parser_parseType_71 ⟨Nat.le_refl _, Nat.le_refl _⟩ (fun H locs hP hD hS => ?_)
        clear hc13
        refine lv_if_eq (tgt := 93) hx hb d_Parser_parseType_74 (by decide) (fun c14 => ?_) (fun c14 => ?_)
        · replace hR := if_p c14 hR
          refine lv_aload_n hx hb d_Parser_parseType_93 rfl (lv_at hl 0 rfl) ?_
          refine lv_bipush (v := 26) hx hb d_Parser_parseType_94 (by decide) ?_
          replace hR := bi_e hR
          obtain ⟨r15, l15, T15, hc15, hR⟩ := hR
          refine gcV_v (rest := []) ⟨hx, hb, hml, hown, hT⟩ (h_Parser_need _ _ _ _ _ hc15) (cwV 1 hT (gV ml_Parser_85 im_Parser_need se_Parser_need ini_Parser co_Parser_need) rfl rfl rfl pd_Parser_need ⟨rm_hi, rm_lo (Nat.le_of_ble_eq_true rfl)⟩) hK hP hD hS hA hnw henv (Nat.le_of_ble_eq_true rfl) rfl rfl hl.1 rfl (Nat.le_of_ble_eq_true rfl) d_Parser_parseType_96 ⟨Nat.le_refl _, Nat.le_refl _⟩ (fun H locs hP hD hS => ?_)
          clear hc15
          obtain ⟨-, -, e3⟩ := re_e hR
          subst e3
          exact W.vret hx hb hr (fun t ht hW => ⟨⟨(), rfl, trivial, by rw [ht]; exact hP, va_K.moved hW.alike hK, hD⟩, hS.F ht⟩) hS.2.2 d_Parser_parseType_99
        · replace hR := if_n c14 hR
          refine lv_aload_n hx hb d_Parser_parseType_77 rfl (lv_at hl 0 rfl) ?_
          refine lv_iconst (v := 4) hx hb d_Parser_parseType_78 (by decide) ?_
          replace hR := bi_e hR
          obtain ⟨r16, l16, T16, hc16, hR⟩ := hR
          refine gcV_v (rest := []) ⟨hx, hb, hml, hown, hT⟩ (h_Parser_need _ _ _ _ _ hc16) (cwV 1 hT (gV ml_Parser_85 im_Parser_need se_Parser_need ini_Parser co_Parser_need) rfl rfl rfl pd_Parser_need ⟨rm_hi, rm_lo (Nat.le_of_ble_eq_true rfl)⟩) hK hP hD hS hA hnw henv (Nat.le_of_ble_eq_true rfl) rfl rfl hl.1 rfl (Nat.le_of_ble_eq_true rfl) d_Parser_parseType_79 ⟨Nat.le_refl _, Nat.le_refl _⟩ (fun H locs hP hD hS => ?_)
          clear hc16
          refine lv_aload_n hx hb d_Parser_parseType_82 rfl (lv_at hl 0 rfl) ?_
          refine lv_iload_n hx hb d_Parser_parseType_83 rfl (lv_at hl 1 rfl) ?_
          refine lv_iconst (v := 1) hx hb d_Parser_parseType_84 (by decide) ?_
          refine lv_iadd hx hb d_Parser_parseType_85 ?_
          refine lv_iconst (v := 0) hx hb d_Parser_parseType_86 (by decide) ?_
          replace hR := bi_e hR
          obtain ⟨r17, l17, T17, hc17, hR⟩ := hR
          refine gcV_v (rest := []) ⟨hx, hb, hml, hown, hT⟩ (h_Parser_parseType _ _ _ _ _ _ hc17) (cwV 2 hT (gV ml_Parser_112 im_Parser_parseType se_Parser_parseType ini_Parser co_Parser_parseType) rfl rfl rfl pd_Parser_parseType ⟨rm_hi, rm_lo (Nat.le_of_ble_eq_true rfl)⟩) hK hP hD hS hA hnw henv (Nat.le_of_ble_eq_true rfl) rfl rfl hl.1 rfl (Nat.le_of_ble_eq_true rfl) d_Parser_parseType_87 ⟨Nat.le_refl _, Nat.le_refl _⟩ (fun H locs hP hD hS => ?_)
          clear hc17
          refine lv_goto (tgt := 99) hx hb d_Parser_parseType_90 (by decide) ?_
          obtain ⟨-, -, e3⟩ := re_e hR
          subst e3
          exact W.vret hx hb hr (fun t ht hW => ⟨⟨(), rfl, trivial, by rw [ht]; exact hP, va_K.moved hW.alike hK, hD⟩, hS.F ht⟩) hS.2.2 d_Parser_parseType_99
      · replace hR := if_n c12 hR
        refine lv_aload_n hx hb d_Parser_parseType_52 rfl (lv_at hl 0 rfl) ?_
        refine lv_iconst (v := 4) hx hb d_Parser_parseType_53 (by decide) ?_
        replace hR := bi_e hR
        obtain ⟨r18, l18, T18, hc18, hR⟩ := hR
        refine gcV_v (rest := []) ⟨hx, hb, hml, hown, hT⟩ (h_Parser_need _ _ _ _ _ hc18) (cwV 1 hT (gV ml_Parser_85 im_Parser_need se_Parser_need ini_Parser co_Parser_need) rfl rfl rfl pd_Parser_need ⟨rm_hi, rm_lo (Nat.le_of_ble_eq_true rfl)⟩) hK hP hD hS hA hnw henv (Nat.le_of_ble_eq_true rfl) rfl rfl hl.1 rfl (Nat.le_of_ble_eq_true rfl) d_Parser_parseType_54 ⟨Nat.le_refl _, Nat.le_refl _⟩ (fun H locs hP hD hS => ?_)
        clear hc18
        refine lv_aload_n hx hb d_Parser_parseType_57 rfl (lv_at hl 0 rfl) ?_
        refine lv_iload_n hx hb d_Parser_parseType_58 rfl (lv_at hl 1 rfl) ?_
        refine lv_iconst (v := 1) hx hb d_Parser_parseType_59 (by decide) ?_
        refine lv_iadd hx hb d_Parser_parseType_60 ?_
        refine lv_iconst (v := 1) hx hb d_Parser_parseType_61 (by decide) ?_
        replace hR := bi_e hR
        obtain ⟨r19, l19, T19, hc19, hR⟩ := hR
        refine gcV_v (rest := []) ⟨hx, hb, hml, hown, hT⟩ (h_Parser_parseType _ _ _ _ _ _ hc19) (cwV 2 hT (gV ml_Parser_112 im_Parser_parseType se_Parser_parseType ini_Parser co_Parser_parseType) rfl rfl rfl pd_Parser_parseType ⟨rm_hi, rm_lo (Nat.le_of_ble_eq_true rfl)⟩) hK hP hD hS hA hnw henv (Nat.le_of_ble_eq_true rfl) rfl rfl hl.1 rfl (Nat.le_of_ble_eq_true rfl) d_Parser_parseType_62 ⟨Nat.le_refl _, Nat.le_refl _⟩ (fun H locs hP hD hS => ?_)
        clear hc19
        refine lv_goto (tgt := 99) hx hb d_Parser_parseType_65 (by decide) ?_
        obtain ⟨-, -, e3⟩ := re_e hR
        subst e3
        exact W.vret hx hb hr (fun t ht hW => ⟨⟨(), rfl, trivial, by rw [ht]; exact hP, va_K.moved hW.alike hK, hD⟩, hS.F ht⟩) hS.2.2 d_Parser_parseType_99
  unfold rb_Parser_parseType at hR
  refine lv_iload_n hx hb d_Parser_parseType_0 rfl (lv_at hl 1 rfl) ?_
  refine lv_bipush (v := 6) hx hb d_Parser_parseType_1 (by decide) ?_
  refine lv_icmp_le (tgt := 13) hx hb d_Parser_parseType_3 (by decide) (fun c1 => ?_) (fun c1 => ?_)
  · replace hR := if_p c1 hR
    refine lv_iload_n hx hb d_Parser_parseType_13 rfl (lv_at hl 2 rfl) ?_
    refine lv_if_eq (tgt := 34) hx hb d_Parser_parseType_14 (by decide) (fun c2 => ?_) (fun c2 => ?_)
    · replace hR := if_p c2 hR
      have g := lb_34 T0 p1 hR
      rw [hG] at g
      exact g _ _ hP hD hS _ (lv_sub hl [0, 1] rfl)
    · replace hR := if_n c2 hR
      refine lv_aload_n hx hb d_Parser_parseType_17 rfl (lv_at hl 0 rfl) ?_
      refine lv_iconst (v := 3) hx hb d_Parser_parseType_18 (by decide) ?_
      replace hR := bi_e hR
      obtain ⟨r3, l3, T3, hc3, hR⟩ := hR
      refine gcV_i (rest := []) ⟨hx, hb, hml, hown, hT⟩ (h_Parser_accept _ _ _ _ _ hc3) (cwV 1 hT (gV ml_Parser_125 im_Parser_accept se_Parser_accept ini_Parser co_Parser_accept) rfl rfl rfl pd_Parser_accept ⟨rm_hi, rm_lo (Nat.le_of_ble_eq_true rfl)⟩) hK hP hD hS hA hnw henv (Nat.le_of_ble_eq_true rfl) rfl rfl hl.1 rfl (Nat.le_of_ble_eq_true rfl) d_Parser_parseType_19 ⟨Nat.le_refl _, Nat.le_refl _⟩ (fun H locs hP hD hS => ?_)
      clear hc3
      refine lv_if_eq (tgt := 34) hx hb d_Parser_parseType_22 (by decide) (fun c4 => ?_) (fun c4 => ?_)
      · replace hR := if_p c4 hR
        have g := lb_34 T3 p1 hR
        rw [hG] at g
        exact g _ _ hP hD hS _ (lv_sub hl [0, 1] rfl)
      · replace hR := if_n c4 hR
        refine lv_aload_n hx hb d_Parser_parseType_25 rfl (lv_at hl 0 rfl) ?_
        refine lv_iconst (v := 3) hx hb d_Parser_parseType_26 (by decide) ?_
        replace hR := bi_e hR
        obtain ⟨r5, l5, T5, hc5, hR⟩ := hR
        refine gcV_i (rest := []) ⟨hx, hb, hml, hown, hT⟩ (h_Parser_parseRegions _ _ _ _ _ hc5) (cwV 1 hT (gV ml_Parser_91 im_Parser_parseRegions se_Parser_parseRegions ini_Parser co_Parser_parseRegions) rfl rfl rfl pd_Parser_parseRegions ⟨rm_hi, rm_lo (Nat.le_of_ble_eq_true rfl)⟩) hK hP hD hS hA hnw henv (Nat.le_of_ble_eq_true rfl) rfl rfl hl.1 rfl (Nat.le_of_ble_eq_true rfl) d_Parser_parseType_27 ⟨Nat.le_refl _, Nat.le_refl _⟩ (fun H locs hP hD hS => ?_)
        clear hc5
        refine lv_pop hx hb d_Parser_parseType_30 rfl ?_
        refine lv_goto (tgt := 99) hx hb d_Parser_parseType_31 (by decide) ?_
        obtain ⟨-, -, e3⟩ := re_e hR
        subst e3
        exact W.vret hx hb hr (fun t ht hW => ⟨⟨(), rfl, trivial, by rw [ht]; exact hP, va_K.moved hW.alike hK, hD⟩, hS.F ht⟩) hS.2.2 d_Parser_parseType_99
  · replace hR := if_n c1 hR
    refine lv_aload_n hx hb d_Parser_parseType_6 rfl (lv_at hl 0 rfl) ?_
    replace hR := bi_e hR
    obtain ⟨r6, l6, T6, hc6, hR⟩ := hR
    refine gcV_v (rest := []) ⟨hx, hb, hml, hown, hT⟩ (h_Parser_stop _ _ _ _ hc6) (cwV 0 hT (gV ml_Parser_62 im_Parser_stop se_Parser_stop ini_Parser co_Parser_stop) rfl rfl rfl pd_Parser_stop ⟨rm_hi, rm_lo (Nat.le_of_ble_eq_true rfl)⟩) hK hP hD hS hA hnw henv (Nat.le_of_ble_eq_true rfl) rfl rfl hl.1 rfl (Nat.le_of_ble_eq_true rfl) d_Parser_parseType_7 ⟨Nat.le_refl _, Nat.le_refl _⟩ (fun H locs hP hD hS => ?_)
    clear hc6
    refine lv_goto (tgt := 99) hx hb d_Parser_parseType_10 (by decide) ?_
    obtain ⟨-, -, e3⟩ := re_e hR
    subst e3
    exact W.vret hx hb hr (fun t ht hW => ⟨⟨(), rfl, trivial, by rw [ht]; exact hP, va_K.moved hW.alike hK, hD⟩, hS.F ht⟩) hS.2.2 d_Parser_parseType_99
set_option maxHeartbeats 4000000 in
set_option maxRecDepth 100000 in
theorem sp_Parser_parseBlock (l : Launch) (dC : Nat → ClassId) (dI : Nat → Nat → Nat) (ea ev ad : Nat → Nat) (km : Nat → ClassId) (F : gF) (nf d : Nat) (h_Parser_need : mt_Parser_need l dC dI ea ev ad km F d) (h_Parser_stop : mt_Parser_stop l dC dI ea ev ad km F d) (h_Parser_parseStep : mt_Parser_parseStep l dC dI ea ev ad km F d) (T0 : gSt) (p1 : Int32) (r0 : Int32) (rl0 : Int64) (T9 : gSt) (hR : rb_Parser_parseBlock F nf T0 p1 = some (r0, rl0, T9)) : GMi l dC dI LH ad km ea ev y_Parser_parseBlock w_Parser_parseBlock (rmD (d + 1)) [.ref (ad 4), .int p1] T0 r0 T9 := by
  intro sz
  refine Met.ofW (cc := b_Parser_parseBlock) (maxL := 6) (ret := (some .int)) (by decide) rfl ?_
  intro p e s m args below meth c s₁ B hml hv
  obtain ⟨rfl, hsz, hP, hK, hD0, hnw, henv⟩ := hv
  have hx := B.exec
  have hb := B.bytes
  have hr := B.returns
  have hT : ∀ w ∈ lw_good, w.before _ s = true := fun w h => atoms_spec (ws := w_Parser_parseBlock) B.pre w (List.mem_cons_of_mem _ h)
  have hown : s.vm.findClass R_Parser = some m.cls := findClass_of_methodNamed B.named
  subst hsz
  have hD := hD0.self (sz := s.heap.size)
  clear hD0
  generalize hAe : va_A (gW LH ad km T0) s.heap.size = A at hD henv ⊢
  have hA : ∀ q : Nat, s.heap.size ≤ q → A q := fun q h => by rw [← hAe]; exact Or.inr h
  have hS : va_S A s.heap s.heap [] := va_S.rf
  have hl := lv_entry ([.ref (ad 4), .int p1]) (n := 6) (Nat.le_of_ble_eq_true rfl)
  rw [lg_entry_eq]
  generalize (lg_sl ([.ref (ad 4), .int p1]) ++ List.replicate (6 - (lg_sl ([.ref (ad 4), .int p1])).length) Slot.unset).toArray = ls at hl ⊢
  have hl : lv_has ls 6 [(0, .ref (ad 4)), (1, .int p1)] := hl
  obtain ⟨G, hG⟩ : ∃ G : Nat → List (Nat × Value) → List Value → gSt → Prop, G = (fun pc lv stk T => ∀ (H : Heap) (locs : List Loc), va_P (dC, dI) cls_all (gW LH ad km T) H → va_D A (gW LH ad km T) → va_S A s.heap H locs → ∀ (ls : Array Slot), lv_has ls 6 lv → W p l e (headSpec w_Parser_parseBlock (rmD (d + 1))).room s m ([.ref (ad 4), .int p1] : List Value).toArray below meth c H locs 0 0 (MQ below (va_Qi (fun (z : Int32) (_ : Unit) => z = r0) (fun _ t => gPost dC dI LH ad km T9 A t) A) ([.ref (ad 4), .int p1] : List Value).toArray s 0 0 A) (F0 m pc ls stk)) := ⟨_, rfl⟩
  have lb_25 : ∀ (n : Nat) (T : gSt) (x1 : Int32) (x2 : Int32) (x3 : Int32) (x4 : Int32), rl_Parser_parseBlock_25 F nf n T x1 x2 x3 x4 = some (r0, rl0, T9) → G 25 [(0, .ref (ad 4)), (1, .int x1), (2, .int x2), (3, .int x3), (4, .int x4)] [] T := by
    intro n
    induction n with
    | zero => intro T x1 x2 x3 x4 hR; rw [rl_Parser_parseBlock_25] at hR; cases hR
    | succ n ih =>
      intro T x1 x2 x3 x4 hR; rw [rl_Parser_parseBlock_25] at hR; rw [hG]; intro H locs hP hD hS ls hl
      refine lv_iload hx hb d_Parser_parseBlock_25 (lv_at hl 4 rfl) ?_
      refine lv_sipush (v := 4000) hx hb d_Parser_parseBlock_27 (by decide) ?_
      refine lv_icmp_ge (tgt := 86) hx hb d_Parser_parseBlock_30 (by decide) (fun c5 => ?_) (fun c5 => ?_)
      · replace hR := if_p c5 hR
        refine lv_aload_n hx hb d_Parser_parseBlock_86 rfl (lv_at hl 0 rfl) ?_
        refine lv_bipush (v := 41) hx hb d_Parser_parseBlock_87 (by decide) ?_
        replace hR := bi_e hR
        obtain ⟨r6, l6, T6, hc6, hR⟩ := hR
        refine gcV_v (rest := []) ⟨hx, hb, hml, hown, hT⟩ (h_Parser_need _ _ _ _ _ hc6) (cwV 1 hT (gV ml_Parser_85 im_Parser_need se_Parser_need ini_Parser co_Parser_need) rfl rfl rfl pd_Parser_need ⟨rm_hi, rm_lo (Nat.le_of_ble_eq_true rfl)⟩) hK hP hD hS hA hnw henv (Nat.le_of_ble_eq_true rfl) rfl rfl hl.1 rfl (Nat.le_of_ble_eq_true rfl) d_Parser_parseBlock_89 ⟨Nat.le_refl _, Nat.le_refl _⟩ (fun H locs hP hD hS => ?_)
        clear hc6
        refine lv_iload_n hx hb d_Parser_parseBlock_92 rfl (lv_at hl 2 rfl) ?_
        obtain ⟨e1, -, e3⟩ := re_e hR
        subst e1; subst e3
        exact W.iret (v := x2) hx hb hr (fun t ht hW => ⟨⟨x2, (), rfl, rfl, by rw [ht]; exact hP, va_K.moved hW.alike hK, hD⟩, hS.F ht⟩) hS.2.2 d_Parser_parseBlock_93
      · replace hR := if_n c5 hR
        refine lv_aload_n hx hb d_Parser_parseBlock_33 rfl (lv_at hl 0 rfl) ?_
        refine rd_Parser_36 hx hb hT hown hK hP d_Parser_parseBlock_34 ?_
        refine lv_if_ne (tgt := 86) hx hb d_Parser_parseBlock_37 (by decide) (fun c8 => ?_) (fun c8 => ?_)
        · replace hR := if_n c8 hR
          refine lv_aload_n hx hb d_Parser_parseBlock_86 rfl (lv_at hl 0 rfl) ?_
          refine lv_bipush (v := 41) hx hb d_Parser_parseBlock_87 (by decide) ?_
          replace hR := bi_e hR
          obtain ⟨r9, l9, T9, hc9, hR⟩ := hR
          refine gcV_v (rest := []) ⟨hx, hb, hml, hown, hT⟩ (h_Parser_need _ _ _ _ _ hc9) (cwV 1 hT (gV ml_Parser_85 im_Parser_need se_Parser_need ini_Parser co_Parser_need) rfl rfl rfl pd_Parser_need ⟨rm_hi, rm_lo (Nat.le_of_ble_eq_true rfl)⟩) hK hP hD hS hA hnw henv (Nat.le_of_ble_eq_true rfl) rfl rfl hl.1 rfl (Nat.le_of_ble_eq_true rfl) d_Parser_parseBlock_89 ⟨Nat.le_refl _, Nat.le_refl _⟩ (fun H locs hP hD hS => ?_)
          clear hc9
          refine lv_iload_n hx hb d_Parser_parseBlock_92 rfl (lv_at hl 2 rfl) ?_
          obtain ⟨e1, -, e3⟩ := re_e hR
          subst e1; subst e3
          exact W.iret (v := x2) hx hb hr (fun t ht hW => ⟨⟨x2, (), rfl, rfl, by rw [ht]; exact hP, va_K.moved hW.alike hK, hD⟩, hS.F ht⟩) hS.2.2 d_Parser_parseBlock_93
        · replace hR := if_p c8 hR
          refine lv_aload_n hx hb d_Parser_parseBlock_40 rfl (lv_at hl 0 rfl) ?_
          refine rd_Parser_33 hx hb hT hown hK hP d_Parser_parseBlock_41 ?_
          refine lv_bipush (v := 41) hx hb d_Parser_parseBlock_44 (by decide) ?_
          refine lv_icmp_eq (tgt := 86) hx hb d_Parser_parseBlock_46 (by decide) (fun c11 => ?_) (fun c11 => ?_)
          · replace hR := if_p c11 hR
            refine lv_aload_n hx hb d_Parser_parseBlock_86 rfl (lv_at hl 0 rfl) ?_
            refine lv_bipush (v := 41) hx hb d_Parser_parseBlock_87 (by decide) ?_
            replace hR := bi_e hR
            obtain ⟨r12, l12, T12, hc12, hR⟩ := hR
            refine gcV_v (rest := []) ⟨hx, hb, hml, hown, hT⟩ (h_Parser_need _ _ _ _ _ hc12) (cwV 1 hT (gV ml_Parser_85 im_Parser_need se_Parser_need ini_Parser co_Parser_need) rfl rfl rfl pd_Parser_need ⟨rm_hi, rm_lo (Nat.le_of_ble_eq_true rfl)⟩) hK hP hD hS hA hnw henv (Nat.le_of_ble_eq_true rfl) rfl rfl hl.1 rfl (Nat.le_of_ble_eq_true rfl) d_Parser_parseBlock_89 ⟨Nat.le_refl _, Nat.le_refl _⟩ (fun H locs hP hD hS => ?_)
            clear hc12
            refine lv_iload_n hx hb d_Parser_parseBlock_92 rfl (lv_at hl 2 rfl) ?_
            obtain ⟨e1, -, e3⟩ := re_e hR
            subst e1; subst e3
            exact W.iret (v := x2) hx hb hr (fun t ht hW => ⟨⟨x2, (), rfl, rfl, by rw [ht]; exact hP, va_K.moved hW.alike hK, hD⟩, hS.F ht⟩) hS.2.2 d_Parser_parseBlock_93
          · replace hR := if_n c11 hR
            refine lv_aload_n hx hb d_Parser_parseBlock_49 rfl (lv_at hl 0 rfl) ?_
            refine lv_iload_n hx hb d_Parser_parseBlock_50 rfl (lv_at hl 1 rfl) ?_
            replace hR := bi_e hR
            obtain ⟨r14, l14, T14, hc14, hR⟩ := hR
            refine gcV_i (rest := []) ⟨hx, hb, hml, hown, hT⟩ (h_Parser_parseStep _ _ _ _ _ hc14) (cwV 1 hT (gV ml_Parser_141 im_Parser_parseStep se_Parser_parseStep ini_Parser co_Parser_parseStep) rfl rfl rfl pd_Parser_parseStep ⟨rm_hi, rm_lo (Nat.le_of_ble_eq_true rfl)⟩) hK hP hD hS hA hnw henv (Nat.le_of_ble_eq_true rfl) rfl rfl hl.1 rfl (Nat.le_of_ble_eq_true rfl) d_Parser_parseBlock_51 ⟨Nat.le_refl _, Nat.le_refl _⟩ (fun H locs hP hD hS => ?_)
            clear hc14
            refine lv_istore (lv' := [(5, .int r14), (0, .ref (ad 4)), (1, .int x1), (2, .int x2), (3, .int x3), (4, .int x4)]) hx hb d_Parser_parseBlock_54 hl (by decide) rfl (fun ls hl => ?_)
            refine lv_iload_n hx hb d_Parser_parseBlock_56 rfl (lv_at hl 4 rfl) ?_
            refine lv_if_ne (tgt := 66) hx hb d_Parser_parseBlock_57 (by decide) (fun c15 => ?_) (fun c15 => ?_)
            · replace hR := if_n c15 hR
              refine lv_aload_n hx hb d_Parser_parseBlock_66 rfl (lv_at hl 1 rfl) ?_
              refine rd_Parser_9 hx hb hT hown hK hP d_Parser_parseBlock_67 ?_
              refine rd_Parser_144 hx hb hT hown hK hP d_Parser_parseBlock_70 ?_
              refine lv_iload_n hx hb d_Parser_parseBlock_73 rfl (lv_at hl 4 rfl) ?_
              refine lv_iload hx hb d_Parser_parseBlock_74 (lv_at hl 0 rfl) ?_
              replace hR := gd_e hR
              obtain ⟨b16, hR⟩ := hR
              refine saH_3 hx hb hK hP hD hS b16 d_Parser_parseBlock_76 (fun T16 eT H locs hP hD hS => ?_)
              replace hR := stK_e eT hR
              clear eT
              refine lv_iload hx hb d_Parser_parseBlock_77 (lv_at hl 0 rfl) ?_
              refine lv_istore_n (lv' := [(3, .int r14), (5, .int r14), (0, .ref (ad 4)), (1, .int x1), (2, .int x2), (4, .int x4)]) hx hb d_Parser_parseBlock_79 rfl hl (by decide) rfl (fun ls hl => ?_)
              obtain ⟨z17, e17⟩ : ∃ y : Int32, y = x4 + (1 : Int32) := ⟨_, rfl⟩
              replace hR := vK_e e17 hR
              refine lv_iinc (v := z17) (lv' := [(4, .int z17), (3, .int r14), (5, .int r14), (0, .ref (ad 4)), (1, .int x1), (2, .int x2)]) hx hb d_Parser_parseBlock_80 hl (k := 5) rfl (by rw [e17]; rfl) (by decide) rfl (fun ls hl => ?_)
              refine lv_goto (tgt := 25) hx hb d_Parser_parseBlock_83 (by decide) ?_
              have g := ih T16 x1 x2 r14 z17 hR
              rw [hG] at g
              exact g _ _ hP hD hS _ (lv_sub hl [3, 4, 5, 1, 0] rfl)
            · replace hR := if_p c15 hR
              refine lv_iload hx hb d_Parser_parseBlock_60 (lv_at hl 0 rfl) ?_
              refine lv_istore_n (lv' := [(2, .int r14), (5, .int r14), (0, .ref (ad 4)), (1, .int x1), (3, .int x3), (4, .int x4)]) hx hb d_Parser_parseBlock_62 rfl hl (by decide) rfl (fun ls hl => ?_)
              refine lv_goto (tgt := 77) hx hb d_Parser_parseBlock_63 (by decide) ?_
              refine lv_iload hx hb d_Parser_parseBlock_77 (lv_at hl 1 rfl) ?_
              refine lv_istore_n (lv' := [(3, .int r14), (2, .int r14), (5, .int r14), (0, .ref (ad 4)), (1, .int x1), (4, .int x4)]) hx hb d_Parser_parseBlock_79 rfl hl (by decide) rfl (fun ls hl => ?_)
              obtain ⟨z18, e18⟩ : ∃ y : Int32, y = x4 + (1 : Int32) := ⟨_, rfl⟩
              replace hR := vK_e e18 hR
              refine lv_iinc (v := z18) (lv' := [(4, .int z18), (3, .int r14), (2, .int r14), (5, .int r14), (0, .ref (ad 4)), (1, .int x1)]) hx hb d_Parser_parseBlock_80 hl (k := 5) rfl (by rw [e18]; rfl) (by decide) rfl (fun ls hl => ?_)
              refine lv_goto (tgt := 25) hx hb d_Parser_parseBlock_83 (by decide) ?_
              have g := ih T14 x1 r14 r14 z18 hR
              rw [hG] at g
              exact g _ _ hP hD hS _ (lv_sub hl [4, 5, 2, 1, 0] rfl)
  unfold rb_Parser_parseBlock at hR
  refine lv_iload_n hx hb d_Parser_parseBlock_0 rfl (lv_at hl 1 rfl) ?_
  refine lv_bipush (v := 20) hx hb d_Parser_parseBlock_1 (by decide) ?_
  refine lv_icmp_le (tgt := 12) hx hb d_Parser_parseBlock_3 (by decide) (fun c1 => ?_) (fun c1 => ?_)
  · replace hR := if_p c1 hR
    refine lv_aload_n hx hb d_Parser_parseBlock_12 rfl (lv_at hl 0 rfl) ?_
    refine lv_bipush (v := 40) hx hb d_Parser_parseBlock_13 (by decide) ?_
    replace hR := bi_e hR
    obtain ⟨r2, l2, T2, hc2, hR⟩ := hR
    refine gcV_v (rest := []) ⟨hx, hb, hml, hown, hT⟩ (h_Parser_need _ _ _ _ _ hc2) (cwV 1 hT (gV ml_Parser_85 im_Parser_need se_Parser_need ini_Parser co_Parser_need) rfl rfl rfl pd_Parser_need ⟨rm_hi, rm_lo (Nat.le_of_ble_eq_true rfl)⟩) hK hP hD hS hA hnw henv (Nat.le_of_ble_eq_true rfl) rfl rfl hl.1 rfl (Nat.le_of_ble_eq_true rfl) d_Parser_parseBlock_15 ⟨Nat.le_refl _, Nat.le_refl _⟩ (fun H locs hP hD hS => ?_)
    clear hc2
    refine lv_iconst (v := 0) hx hb d_Parser_parseBlock_18 (by decide) ?_
    refine lv_istore_n (lv' := [(2, .int (0 : Int32)), (0, .ref (ad 4)), (1, .int p1)]) hx hb d_Parser_parseBlock_19 rfl hl (by decide) rfl (fun ls hl => ?_)
    refine lv_iconst (v := 0) hx hb d_Parser_parseBlock_20 (by decide) ?_
    refine lv_istore_n (lv' := [(3, .int (0 : Int32)), (2, .int (0 : Int32)), (0, .ref (ad 4)), (1, .int p1)]) hx hb d_Parser_parseBlock_21 rfl hl (by decide) rfl (fun ls hl => ?_)
    refine lv_iconst (v := 0) hx hb d_Parser_parseBlock_22 (by decide) ?_
    refine lv_istore (lv' := [(4, .int (0 : Int32)), (3, .int (0 : Int32)), (2, .int (0 : Int32)), (0, .ref (ad 4)), (1, .int p1)]) hx hb d_Parser_parseBlock_23 hl (by decide) rfl (fun ls hl => ?_)
    have g := lb_25 nf T2 p1 (0 : Int32) (0 : Int32) (0 : Int32) hR
    rw [hG] at g
    exact g _ _ hP hD hS _ (lv_sub hl [3, 4, 2, 1, 0] rfl)
  · replace hR := if_n c1 hR
    refine lv_aload_n hx hb d_Parser_parseBlock_6 rfl (lv_at hl 0 rfl) ?_
    replace hR := bi_e hR
    obtain ⟨r3, l3, T3, hc3, hR⟩ := hR
    refine gcV_v (rest := []) ⟨hx, hb, hml, hown, hT⟩ (h_Parser_stop _ _ _ _ hc3) (cwV 0 hT (gV ml_Parser_62 im_Parser_stop se_Parser_stop ini_Parser co_Parser_stop) rfl rfl rfl pd_Parser_stop ⟨rm_hi, rm_lo (Nat.le_of_ble_eq_true rfl)⟩) hK hP hD hS hA hnw henv (Nat.le_of_ble_eq_true rfl) rfl rfl hl.1 rfl (Nat.le_of_ble_eq_true rfl) d_Parser_parseBlock_7 ⟨Nat.le_refl _, Nat.le_refl _⟩ (fun H locs hP hD hS => ?_)
    clear hc3
    refine lv_iconst (v := 0) hx hb d_Parser_parseBlock_10 (by decide) ?_
    obtain ⟨e1, -, e3⟩ := re_e hR
    subst e1; subst e3
    exact W.iret (v := (0 : Int32)) hx hb hr (fun t ht hW => ⟨⟨(0 : Int32), (), rfl, rfl, by rw [ht]; exact hP, va_K.moved hW.alike hK, hD⟩, hS.F ht⟩) hS.2.2 d_Parser_parseBlock_11
set_option maxHeartbeats 4000000 in
set_option maxRecDepth 100000 in
theorem sp_Parser_parseStep (l : Launch) (dC : Nat → ClassId) (dI : Nat → Nat → Nat) (ea ev ad : Nat → Nat) (km : Nat → ClassId) (F : gF) (nf d : Nat) (h_Parser_parseVar : mt_Parser_parseVar l dC dI ea ev ad km F d) (h_Parser_parseChoice : mt_Parser_parseChoice l dC dI ea ev ad km F d) (h_Parser_parsePlain : mt_Parser_parsePlain l dC dI ea ev ad km F d) (h_Parser_parseWordStep : mt_Parser_parseWordStep l dC dI ea ev ad km F d) (h_Parser_parseRegionStep : mt_Parser_parseRegionStep l dC dI ea ev ad km F d) (h_Parser_parseTry : mt_Parser_parseTry l dC dI ea ev ad km F d) (T0 : gSt) (p1 : Int32) (r0 : Int32) (rl0 : Int64) (T9 : gSt) (hR : rb_Parser_parseStep F nf T0 p1 = some (r0, rl0, T9)) : GMi l dC dI LH ad km ea ev y_Parser_parseStep w_Parser_parseStep (rmD (d + 1)) [.ref (ad 4), .int p1] T0 r0 T9 := by
  intro sz
  refine Met.ofW (cc := b_Parser_parseStep) (maxL := 3) (ret := (some .int)) (by decide) rfl ?_
  intro p e s m args below meth c s₁ B hml hv
  obtain ⟨rfl, hsz, hP, hK, hD0, hnw, henv⟩ := hv
  have hx := B.exec
  have hb := B.bytes
  have hr := B.returns
  have hT : ∀ w ∈ lw_good, w.before _ s = true := fun w h => atoms_spec (ws := w_Parser_parseStep) B.pre w (List.mem_cons_of_mem _ h)
  have hown : s.vm.findClass R_Parser = some m.cls := findClass_of_methodNamed B.named
  subst hsz
  have hD := hD0.self (sz := s.heap.size)
  clear hD0
  generalize hAe : va_A (gW LH ad km T0) s.heap.size = A at hD henv ⊢
  have hA : ∀ q : Nat, s.heap.size ≤ q → A q := fun q h => by rw [← hAe]; exact Or.inr h
  have hS : va_S A s.heap s.heap [] := va_S.rf
  have hl := lv_entry ([.ref (ad 4), .int p1]) (n := 3) (Nat.le_of_ble_eq_true rfl)
  rw [lg_entry_eq]
  generalize (lg_sl ([.ref (ad 4), .int p1]) ++ List.replicate (3 - (lg_sl ([.ref (ad 4), .int p1])).length) Slot.unset).toArray = ls at hl ⊢
  have hl : lv_has ls 3 [(0, .ref (ad 4)), (1, .int p1)] := hl
  unfold rb_Parser_parseStep at hR
  refine lv_aload_n hx hb d_Parser_parseStep_0 rfl (lv_at hl 0 rfl) ?_
  refine rd_Parser_33 hx hb hT hown hK hP d_Parser_parseStep_1 ?_
  refine lv_topi (fun z1 e1 => ?_)
  replace hR := vK_e e1 hR
  refine lv_istore_n (lv' := [(2, .int z1), (0, .ref (ad 4)), (1, .int p1)]) hx hb d_Parser_parseStep_4 rfl hl (by decide) rfl (fun ls hl => ?_)
  refine lv_iload_n hx hb d_Parser_parseStep_5 rfl (lv_at hl 0 rfl) ?_
  by_cases c2 : z1 = (15 : Int32)
  · replace hR := if_p c2 hR
    refine lv_tableIn (off := 58) (tgt := 64) hx hb d_Parser_parseStep_6 (by rw [c2]; decide) (by rw [c2]; decide) (by rw [c2]; decide) (by decide) ?_
    refine lv_aload_n hx hb d_Parser_parseStep_64 rfl (lv_at hl 1 rfl) ?_
    refine lv_iload_n hx hb d_Parser_parseStep_65 rfl (lv_at hl 2 rfl) ?_
    replace hR := bi_e hR
    obtain ⟨r3, l3, T3, hc3, hR⟩ := hR
    refine gcV_i (rest := []) ⟨hx, hb, hml, hown, hT⟩ (h_Parser_parseVar _ _ _ _ _ hc3) (cwV 1 hT (gV ml_Parser_147 im_Parser_parseVar se_Parser_parseVar ini_Parser co_Parser_parseVar) rfl rfl rfl pd_Parser_parseVar ⟨rm_hi, rm_lo (Nat.le_of_ble_eq_true rfl)⟩) hK hP hD hS hA hnw henv (Nat.le_of_ble_eq_true rfl) rfl rfl hl.1 rfl (Nat.le_of_ble_eq_true rfl) d_Parser_parseStep_66 ⟨Nat.le_refl _, Nat.le_refl _⟩ (fun H locs hP hD hS => ?_)
    clear hc3
    obtain ⟨e1, -, e3⟩ := re_e hR
    subst e1; subst e3
    exact W.iret (v := r3) hx hb hr (fun t ht hW => ⟨⟨r3, (), rfl, rfl, by rw [ht]; exact hP, va_K.moved hW.alike hK, hD⟩, hS.F ht⟩) hS.2.2 d_Parser_parseStep_69
  replace hR := if_n c2 hR
  by_cases c5 : z1 = (16 : Int32)
  · replace hR := if_p c5 hR
    refine lv_tableIn (off := 64) (tgt := 70) hx hb d_Parser_parseStep_6 (by rw [c5]; decide) (by rw [c5]; decide) (by rw [c5]; decide) (by decide) ?_
    refine lv_aload_n hx hb d_Parser_parseStep_70 rfl (lv_at hl 1 rfl) ?_
    refine lv_iload_n hx hb d_Parser_parseStep_71 rfl (lv_at hl 0 rfl) ?_
    refine lv_iload_n hx hb d_Parser_parseStep_72 rfl (lv_at hl 2 rfl) ?_
    replace hR := bi_e hR
    obtain ⟨r6, l6, T6, hc6, hR⟩ := hR
    refine gcV_i (rest := []) ⟨hx, hb, hml, hown, hT⟩ (h_Parser_parseChoice _ _ _ _ _ _ hc6) (cwV 2 hT (gV ml_Parser_150 im_Parser_parseChoice se_Parser_parseChoice ini_Parser co_Parser_parseChoice) rfl rfl rfl pd_Parser_parseChoice ⟨rm_hi, rm_lo (Nat.le_of_ble_eq_true rfl)⟩) hK hP hD hS hA hnw henv (Nat.le_of_ble_eq_true rfl) rfl rfl hl.1 rfl (Nat.le_of_ble_eq_true rfl) d_Parser_parseStep_73 ⟨Nat.le_refl _, Nat.le_refl _⟩ (fun H locs hP hD hS => ?_)
    clear hc6
    obtain ⟨e1, -, e3⟩ := re_e hR
    subst e1; subst e3
    exact W.iret (v := r6) hx hb hr (fun t ht hW => ⟨⟨r6, (), rfl, rfl, by rw [ht]; exact hP, va_K.moved hW.alike hK, hD⟩, hS.F ht⟩) hS.2.2 d_Parser_parseStep_76
  replace hR := if_n c5 hR
  by_cases c8 : z1 = (17 : Int32)
  · replace hR := if_p c8 hR
    refine lv_tableIn (off := 91) (tgt := 97) hx hb d_Parser_parseStep_6 (by rw [c8]; decide) (by rw [c8]; decide) (by rw [c8]; decide) (by decide) ?_
    refine lv_aload_n hx hb d_Parser_parseStep_97 rfl (lv_at hl 1 rfl) ?_
    refine lv_iload_n hx hb d_Parser_parseStep_98 rfl (lv_at hl 2 rfl) ?_
    replace hR := bi_e hR
    obtain ⟨r9, l9, T9, hc9, hR⟩ := hR
    refine gcV_i (rest := []) ⟨hx, hb, hml, hown, hT⟩ (h_Parser_parsePlain _ _ _ _ _ hc9) (cwV 1 hT (gV ml_Parser_163 im_Parser_parsePlain se_Parser_parsePlain ini_Parser co_Parser_parsePlain) rfl rfl rfl pd_Parser_parsePlain ⟨rm_hi, rm_lo (Nat.le_of_ble_eq_true rfl)⟩) hK hP hD hS hA hnw henv (Nat.le_of_ble_eq_true rfl) rfl rfl hl.1 rfl (Nat.le_of_ble_eq_true rfl) d_Parser_parseStep_99 ⟨Nat.le_refl _, Nat.le_refl _⟩ (fun H locs hP hD hS => ?_)
    clear hc9
    obtain ⟨e1, -, e3⟩ := re_e hR
    subst e1; subst e3
    exact W.iret (v := r9) hx hb hr (fun t ht hW => ⟨⟨r9, (), rfl, rfl, by rw [ht]; exact hP, va_K.moved hW.alike hK, hD⟩, hS.F ht⟩) hS.2.2 d_Parser_parseStep_102
  replace hR := if_n c8 hR
  by_cases c11 : z1 = (18 : Int32)
  · replace hR := if_p c11 hR
    refine lv_tableIn (off := 64) (tgt := 70) hx hb d_Parser_parseStep_6 (by rw [c11]; decide) (by rw [c11]; decide) (by rw [c11]; decide) (by decide) ?_
    refine lv_aload_n hx hb d_Parser_parseStep_70 rfl (lv_at hl 1 rfl) ?_
    refine lv_iload_n hx hb d_Parser_parseStep_71 rfl (lv_at hl 0 rfl) ?_
    refine lv_iload_n hx hb d_Parser_parseStep_72 rfl (lv_at hl 2 rfl) ?_
    replace hR := bi_e hR
    obtain ⟨r12, l12, T12, hc12, hR⟩ := hR
    refine gcV_i (rest := []) ⟨hx, hb, hml, hown, hT⟩ (h_Parser_parseChoice _ _ _ _ _ _ hc12) (cwV 2 hT (gV ml_Parser_150 im_Parser_parseChoice se_Parser_parseChoice ini_Parser co_Parser_parseChoice) rfl rfl rfl pd_Parser_parseChoice ⟨rm_hi, rm_lo (Nat.le_of_ble_eq_true rfl)⟩) hK hP hD hS hA hnw henv (Nat.le_of_ble_eq_true rfl) rfl rfl hl.1 rfl (Nat.le_of_ble_eq_true rfl) d_Parser_parseStep_73 ⟨Nat.le_refl _, Nat.le_refl _⟩ (fun H locs hP hD hS => ?_)
    clear hc12
    obtain ⟨e1, -, e3⟩ := re_e hR
    subst e1; subst e3
    exact W.iret (v := r12) hx hb hr (fun t ht hW => ⟨⟨r12, (), rfl, rfl, by rw [ht]; exact hP, va_K.moved hW.alike hK, hD⟩, hS.F ht⟩) hS.2.2 d_Parser_parseStep_76
  replace hR := if_n c11 hR
  by_cases c14 : z1 = (19 : Int32)
  · replace hR := if_p c14 hR
    refine lv_tableIn (off := 84) (tgt := 90) hx hb d_Parser_parseStep_6 (by rw [c14]; decide) (by rw [c14]; decide) (by rw [c14]; decide) (by decide) ?_
    refine lv_aload_n hx hb d_Parser_parseStep_90 rfl (lv_at hl 1 rfl) ?_
    refine lv_iload_n hx hb d_Parser_parseStep_91 rfl (lv_at hl 0 rfl) ?_
    refine lv_iload_n hx hb d_Parser_parseStep_92 rfl (lv_at hl 2 rfl) ?_
    replace hR := bi_e hR
    obtain ⟨r15, l15, T15, hc15, hR⟩ := hR
    refine gcV_i (rest := []) ⟨hx, hb, hml, hown, hT⟩ (h_Parser_parseWordStep _ _ _ _ _ _ hc15) (cwV 2 hT (gV ml_Parser_160 im_Parser_parseWordStep se_Parser_parseWordStep ini_Parser co_Parser_parseWordStep) rfl rfl rfl pd_Parser_parseWordStep ⟨rm_hi, rm_lo (Nat.le_of_ble_eq_true rfl)⟩) hK hP hD hS hA hnw henv (Nat.le_of_ble_eq_true rfl) rfl rfl hl.1 rfl (Nat.le_of_ble_eq_true rfl) d_Parser_parseStep_93 ⟨Nat.le_refl _, Nat.le_refl _⟩ (fun H locs hP hD hS => ?_)
    clear hc15
    obtain ⟨e1, -, e3⟩ := re_e hR
    subst e1; subst e3
    exact W.iret (v := r15) hx hb hr (fun t ht hW => ⟨⟨r15, (), rfl, rfl, by rw [ht]; exact hP, va_K.moved hW.alike hK, hD⟩, hS.F ht⟩) hS.2.2 d_Parser_parseStep_96
  replace hR := if_n c14 hR
  by_cases c17 : z1 = (20 : Int32)
  · replace hR := if_p c17 hR
    refine lv_tableIn (off := 84) (tgt := 90) hx hb d_Parser_parseStep_6 (by rw [c17]; decide) (by rw [c17]; decide) (by rw [c17]; decide) (by decide) ?_
    refine lv_aload_n hx hb d_Parser_parseStep_90 rfl (lv_at hl 1 rfl) ?_
    refine lv_iload_n hx hb d_Parser_parseStep_91 rfl (lv_at hl 0 rfl) ?_
    refine lv_iload_n hx hb d_Parser_parseStep_92 rfl (lv_at hl 2 rfl) ?_
    replace hR := bi_e hR
    obtain ⟨r18, l18, T18, hc18, hR⟩ := hR
    refine gcV_i (rest := []) ⟨hx, hb, hml, hown, hT⟩ (h_Parser_parseWordStep _ _ _ _ _ _ hc18) (cwV 2 hT (gV ml_Parser_160 im_Parser_parseWordStep se_Parser_parseWordStep ini_Parser co_Parser_parseWordStep) rfl rfl rfl pd_Parser_parseWordStep ⟨rm_hi, rm_lo (Nat.le_of_ble_eq_true rfl)⟩) hK hP hD hS hA hnw henv (Nat.le_of_ble_eq_true rfl) rfl rfl hl.1 rfl (Nat.le_of_ble_eq_true rfl) d_Parser_parseStep_93 ⟨Nat.le_refl _, Nat.le_refl _⟩ (fun H locs hP hD hS => ?_)
    clear hc18
    obtain ⟨e1, -, e3⟩ := re_e hR
    subst e1; subst e3
    exact W.iret (v := r18) hx hb hr (fun t ht hW => ⟨⟨r18, (), rfl, rfl, by rw [ht]; exact hP, va_K.moved hW.alike hK, hD⟩, hS.F ht⟩) hS.2.2 d_Parser_parseStep_96
  replace hR := if_n c17 hR
  by_cases c20 : z1 = (21 : Int32)
  · replace hR := if_p c20 hR
    refine lv_tableIn (off := 71) (tgt := 77) hx hb d_Parser_parseStep_6 (by rw [c20]; decide) (by rw [c20]; decide) (by rw [c20]; decide) (by decide) ?_
    refine lv_aload_n hx hb d_Parser_parseStep_77 rfl (lv_at hl 1 rfl) ?_
    refine lv_iload_n hx hb d_Parser_parseStep_78 rfl (lv_at hl 0 rfl) ?_
    refine lv_iload_n hx hb d_Parser_parseStep_79 rfl (lv_at hl 2 rfl) ?_
    replace hR := bi_e hR
    obtain ⟨r21, l21, T21, hc21, hR⟩ := hR
    refine gcV_i (rest := []) ⟨hx, hb, hml, hown, hT⟩ (h_Parser_parseRegionStep _ _ _ _ _ _ hc21) (cwV 2 hT (gV ml_Parser_154 im_Parser_parseRegionStep se_Parser_parseRegionStep ini_Parser co_Parser_parseRegionStep) rfl rfl rfl pd_Parser_parseRegionStep ⟨rm_hi, rm_lo (Nat.le_of_ble_eq_true rfl)⟩) hK hP hD hS hA hnw henv (Nat.le_of_ble_eq_true rfl) rfl rfl hl.1 rfl (Nat.le_of_ble_eq_true rfl) d_Parser_parseStep_80 ⟨Nat.le_refl _, Nat.le_refl _⟩ (fun H locs hP hD hS => ?_)
    clear hc21
    obtain ⟨e1, -, e3⟩ := re_e hR
    subst e1; subst e3
    exact W.iret (v := r21) hx hb hr (fun t ht hW => ⟨⟨r21, (), rfl, rfl, by rw [ht]; exact hP, va_K.moved hW.alike hK, hD⟩, hS.F ht⟩) hS.2.2 d_Parser_parseStep_83
  replace hR := if_n c20 hR
  by_cases c23 : z1 = (22 : Int32)
  · replace hR := if_p c23 hR
    refine lv_tableIn (off := 71) (tgt := 77) hx hb d_Parser_parseStep_6 (by rw [c23]; decide) (by rw [c23]; decide) (by rw [c23]; decide) (by decide) ?_
    refine lv_aload_n hx hb d_Parser_parseStep_77 rfl (lv_at hl 1 rfl) ?_
    refine lv_iload_n hx hb d_Parser_parseStep_78 rfl (lv_at hl 0 rfl) ?_
    refine lv_iload_n hx hb d_Parser_parseStep_79 rfl (lv_at hl 2 rfl) ?_
    replace hR := bi_e hR
    obtain ⟨r24, l24, T24, hc24, hR⟩ := hR
    refine gcV_i (rest := []) ⟨hx, hb, hml, hown, hT⟩ (h_Parser_parseRegionStep _ _ _ _ _ _ hc24) (cwV 2 hT (gV ml_Parser_154 im_Parser_parseRegionStep se_Parser_parseRegionStep ini_Parser co_Parser_parseRegionStep) rfl rfl rfl pd_Parser_parseRegionStep ⟨rm_hi, rm_lo (Nat.le_of_ble_eq_true rfl)⟩) hK hP hD hS hA hnw henv (Nat.le_of_ble_eq_true rfl) rfl rfl hl.1 rfl (Nat.le_of_ble_eq_true rfl) d_Parser_parseStep_80 ⟨Nat.le_refl _, Nat.le_refl _⟩ (fun H locs hP hD hS => ?_)
    clear hc24
    obtain ⟨e1, -, e3⟩ := re_e hR
    subst e1; subst e3
    exact W.iret (v := r24) hx hb hr (fun t ht hW => ⟨⟨r24, (), rfl, rfl, by rw [ht]; exact hP, va_K.moved hW.alike hK, hD⟩, hS.F ht⟩) hS.2.2 d_Parser_parseStep_83
  replace hR := if_n c23 hR
  by_cases c26 : z1 = (23 : Int32)
  · replace hR := if_p c26 hR
    refine lv_tableIn (off := 78) (tgt := 84) hx hb d_Parser_parseStep_6 (by rw [c26]; decide) (by rw [c26]; decide) (by rw [c26]; decide) (by decide) ?_
    refine lv_aload_n hx hb d_Parser_parseStep_84 rfl (lv_at hl 1 rfl) ?_
    refine lv_iload_n hx hb d_Parser_parseStep_85 rfl (lv_at hl 2 rfl) ?_
    replace hR := bi_e hR
    obtain ⟨r27, l27, T27, hc27, hR⟩ := hR
    refine gcV_i (rest := []) ⟨hx, hb, hml, hown, hT⟩ (h_Parser_parseTry _ _ _ _ _ hc27) (cwV 1 hT (gV ml_Parser_157 im_Parser_parseTry se_Parser_parseTry ini_Parser co_Parser_parseTry) rfl rfl rfl pd_Parser_parseTry ⟨rm_hi, rm_lo (Nat.le_of_ble_eq_true rfl)⟩) hK hP hD hS hA hnw henv (Nat.le_of_ble_eq_true rfl) rfl rfl hl.1 rfl (Nat.le_of_ble_eq_true rfl) d_Parser_parseStep_86 ⟨Nat.le_refl _, Nat.le_refl _⟩ (fun H locs hP hD hS => ?_)
    clear hc27
    obtain ⟨e1, -, e3⟩ := re_e hR
    subst e1; subst e3
    exact W.iret (v := r27) hx hb hr (fun t ht hW => ⟨⟨r27, (), rfl, rfl, by rw [ht]; exact hP, va_K.moved hW.alike hK, hD⟩, hS.F ht⟩) hS.2.2 d_Parser_parseStep_89
  replace hR := if_n c26 hR
  by_cases c29 : z1 = (24 : Int32)
  · replace hR := if_p c29 hR
    refine lv_tableIn (off := 91) (tgt := 97) hx hb d_Parser_parseStep_6 (by rw [c29]; decide) (by rw [c29]; decide) (by rw [c29]; decide) (by decide) ?_
    refine lv_aload_n hx hb d_Parser_parseStep_97 rfl (lv_at hl 1 rfl) ?_
    refine lv_iload_n hx hb d_Parser_parseStep_98 rfl (lv_at hl 2 rfl) ?_
    replace hR := bi_e hR
    obtain ⟨r30, l30, T30, hc30, hR⟩ := hR
    refine gcV_i (rest := []) ⟨hx, hb, hml, hown, hT⟩ (h_Parser_parsePlain _ _ _ _ _ hc30) (cwV 1 hT (gV ml_Parser_163 im_Parser_parsePlain se_Parser_parsePlain ini_Parser co_Parser_parsePlain) rfl rfl rfl pd_Parser_parsePlain ⟨rm_hi, rm_lo (Nat.le_of_ble_eq_true rfl)⟩) hK hP hD hS hA hnw henv (Nat.le_of_ble_eq_true rfl) rfl rfl hl.1 rfl (Nat.le_of_ble_eq_true rfl) d_Parser_parseStep_99 ⟨Nat.le_refl _, Nat.le_refl _⟩ (fun H locs hP hD hS => ?_)
    clear hc30
    obtain ⟨e1, -, e3⟩ := re_e hR
    subst e1; subst e3
    exact W.iret (v := r30) hx hb hr (fun t ht hW => ⟨⟨r30, (), rfl, rfl, by rw [ht]; exact hP, va_K.moved hW.alike hK, hD⟩, hS.F ht⟩) hS.2.2 d_Parser_parseStep_102
  replace hR := if_n c29 hR
  by_cases c32 : z1 = (25 : Int32)
  · replace hR := if_p c32 hR
    refine lv_tableIn (off := 84) (tgt := 90) hx hb d_Parser_parseStep_6 (by rw [c32]; decide) (by rw [c32]; decide) (by rw [c32]; decide) (by decide) ?_
    refine lv_aload_n hx hb d_Parser_parseStep_90 rfl (lv_at hl 1 rfl) ?_
    refine lv_iload_n hx hb d_Parser_parseStep_91 rfl (lv_at hl 0 rfl) ?_
    refine lv_iload_n hx hb d_Parser_parseStep_92 rfl (lv_at hl 2 rfl) ?_
    replace hR := bi_e hR
    obtain ⟨r33, l33, T33, hc33, hR⟩ := hR
    refine gcV_i (rest := []) ⟨hx, hb, hml, hown, hT⟩ (h_Parser_parseWordStep _ _ _ _ _ _ hc33) (cwV 2 hT (gV ml_Parser_160 im_Parser_parseWordStep se_Parser_parseWordStep ini_Parser co_Parser_parseWordStep) rfl rfl rfl pd_Parser_parseWordStep ⟨rm_hi, rm_lo (Nat.le_of_ble_eq_true rfl)⟩) hK hP hD hS hA hnw henv (Nat.le_of_ble_eq_true rfl) rfl rfl hl.1 rfl (Nat.le_of_ble_eq_true rfl) d_Parser_parseStep_93 ⟨Nat.le_refl _, Nat.le_refl _⟩ (fun H locs hP hD hS => ?_)
    clear hc33
    obtain ⟨e1, -, e3⟩ := re_e hR
    subst e1; subst e3
    exact W.iret (v := r33) hx hb hr (fun t ht hW => ⟨⟨r33, (), rfl, rfl, by rw [ht]; exact hP, va_K.moved hW.alike hK, hD⟩, hS.F ht⟩) hS.2.2 d_Parser_parseStep_96
  replace hR := if_n c32 hR
  have h335 : (z1 : Int32).toInt < 15 ∨ 25 < (z1 : Int32).toInt := by
    simp only [i_eq, Int32.reduceToInt] at c2 c5 c8 c11 c14 c17 c20 c23 c26 c29 c32; omega
  refine lv_tableOut (tgt := 97) hx hb d_Parser_parseStep_6 h335 (by decide) ?_
  refine lv_aload_n hx hb d_Parser_parseStep_97 rfl (lv_at hl 1 rfl) ?_
  refine lv_iload_n hx hb d_Parser_parseStep_98 rfl (lv_at hl 2 rfl) ?_
  replace hR := bi_e hR
  obtain ⟨r36, l36, T36, hc36, hR⟩ := hR
  refine gcV_i (rest := []) ⟨hx, hb, hml, hown, hT⟩ (h_Parser_parsePlain _ _ _ _ _ hc36) (cwV 1 hT (gV ml_Parser_163 im_Parser_parsePlain se_Parser_parsePlain ini_Parser co_Parser_parsePlain) rfl rfl rfl pd_Parser_parsePlain ⟨rm_hi, rm_lo (Nat.le_of_ble_eq_true rfl)⟩) hK hP hD hS hA hnw henv (Nat.le_of_ble_eq_true rfl) rfl rfl hl.1 rfl (Nat.le_of_ble_eq_true rfl) d_Parser_parseStep_99 ⟨Nat.le_refl _, Nat.le_refl _⟩ (fun H locs hP hD hS => ?_)
  clear hc36
  obtain ⟨e1, -, e3⟩ := re_e hR
  subst e1; subst e3
  exact W.iret (v := r36) hx hb hr (fun t ht hW => ⟨⟨r36, (), rfl, rfl, by rw [ht]; exact hP, va_K.moved hW.alike hK, hD⟩, hS.F ht⟩) hS.2.2 d_Parser_parseStep_102
set_option maxHeartbeats 4000000 in
set_option maxRecDepth 100000 in
theorem sp_Parser_parseVar (l : Launch) (dC : Nat → ClassId) (dI : Nat → Nat → Nat) (ea ev ad : Nat → Nat) (km : Nat → ClassId) (F : gF) (nf d : Nat) (h_Source_addNode : mt_Source_addNode l dC dI ea ev ad km F d) (h_Parser_advance : mt_Parser_advance l dC dI ea ev ad km F d) (h_Parser_stop : mt_Parser_stop l dC dI ea ev ad km F d) (h_Parser_need : mt_Parser_need l dC dI ea ev ad km F d) (h_Parser_parseType : mt_Parser_parseType l dC dI ea ev ad km F d) (h_Parser_accept : mt_Parser_accept l dC dI ea ev ad km F d) (h_Parser_parseExpr : mt_Parser_parseExpr l dC dI ea ev ad km F d) (T0 : gSt) (p1 : Int32) (r0 : Int32) (rl0 : Int64) (T9 : gSt) (hR : rb_Parser_parseVar F nf T0 p1 = some (r0, rl0, T9)) : GMi l dC dI LH ad km ea ev y_Parser_parseVar w_Parser_parseVar (rmD (d + 1)) [.ref (ad 4), .int p1] T0 r0 T9 := by
  intro sz
  refine Met.ofW (cc := b_Parser_parseVar) (maxL := 3) (ret := (some .int)) (by decide) rfl ?_
  intro p e s m args below meth c s₁ B hml hv
  obtain ⟨rfl, hsz, hP, hK, hD0, hnw, henv⟩ := hv
  have hx := B.exec
  have hb := B.bytes
  have hr := B.returns
  have hT : ∀ w ∈ lw_good, w.before _ s = true := fun w h => atoms_spec (ws := w_Parser_parseVar) B.pre w (List.mem_cons_of_mem _ h)
  have hown : s.vm.findClass R_Parser = some m.cls := findClass_of_methodNamed B.named
  subst hsz
  have hD := hD0.self (sz := s.heap.size)
  clear hD0
  generalize hAe : va_A (gW LH ad km T0) s.heap.size = A at hD henv ⊢
  have hA : ∀ q : Nat, s.heap.size ≤ q → A q := fun q h => by rw [← hAe]; exact Or.inr h
  have hS : va_S A s.heap s.heap [] := va_S.rf
  have hl := lv_entry ([.ref (ad 4), .int p1]) (n := 3) (Nat.le_of_ble_eq_true rfl)
  rw [lg_entry_eq]
  generalize (lg_sl ([.ref (ad 4), .int p1]) ++ List.replicate (3 - (lg_sl ([.ref (ad 4), .int p1])).length) Slot.unset).toArray = ls at hl ⊢
  have hl : lv_has ls 3 [(0, .ref (ad 4)), (1, .int p1)] := hl
  obtain ⟨G, hG⟩ : ∃ G : Nat → List (Nat × Value) → List Value → gSt → Prop, G = (fun pc lv stk T => ∀ (H : Heap) (locs : List Loc), va_P (dC, dI) cls_all (gW LH ad km T) H → va_D A (gW LH ad km T) → va_S A s.heap H locs → ∀ (ls : Array Slot), lv_has ls 3 lv → W p l e (headSpec w_Parser_parseVar (rmD (d + 1))).room s m ([.ref (ad 4), .int p1] : List Value).toArray below meth c H locs 0 0 (MQ below (va_Qi (fun (z : Int32) (_ : Unit) => z = r0) (fun _ t => gPost dC dI LH ad km T9 A t) A) ([.ref (ad 4), .int p1] : List Value).toArray s 0 0 A) (F0 m pc ls stk)) := ⟨_, rfl⟩
  have lb_31 : ∀ (T : gSt) (x1 : Int32) (x2 : Int32), rj_Parser_parseVar_31 F nf T x1 x2 = some (r0, rl0, T9) → G 31 [(0, .ref (ad 4)), (1, .int x1), (2, .int x2)] [] T := by
    intro T x1 x2 hR; unfold rj_Parser_parseVar_31 at hR; rw [hG]; intro H locs hP hD hS ls hl
    refine lv_aload_n hx hb d_Parser_parseVar_31 rfl (lv_at hl 0 rfl) ?_
    refine lv_dup hx hb d_Parser_parseVar_32 rfl ?_
    refine rd_Parser_116 hx hb hT hown hK hP d_Parser_parseVar_33 ?_
    refine lv_iconst (v := 1) hx hb d_Parser_parseVar_36 (by decide) ?_
    refine lv_iadd hx hb d_Parser_parseVar_37 ?_
    refine wr_Parser_116 hx hb hT hown hK hP hD hS d_Parser_parseVar_38 (fun T5 eT H locs hP hD hS => ?_)
    replace hR := stK_e eT hR
    clear eT
    refine lv_aload_n hx hb d_Parser_parseVar_41 rfl (lv_at hl 0 rfl) ?_
    refine lv_iconst (v := 2) hx hb d_Parser_parseVar_42 (by decide) ?_
    replace hR := bi_e hR
    obtain ⟨r6, l6, T6, hc6, hR⟩ := hR
    refine gcV_v (rest := []) ⟨hx, hb, hml, hown, hT⟩ (h_Parser_need _ _ _ _ _ hc6) (cwV 1 hT (gV ml_Parser_85 im_Parser_need se_Parser_need ini_Parser co_Parser_need) rfl rfl rfl pd_Parser_need ⟨rm_hi, rm_lo (Nat.le_of_ble_eq_true rfl)⟩) hK hP hD hS hA hnw henv (Nat.le_of_ble_eq_true rfl) rfl rfl hl.1 rfl (Nat.le_of_ble_eq_true rfl) d_Parser_parseVar_43 ⟨Nat.le_refl _, Nat.le_refl _⟩ (fun H locs hP hD hS => ?_)
    clear hc6
    refine lv_aload_n hx hb d_Parser_parseVar_46 rfl (lv_at hl 0 rfl) ?_
    refine lv_bipush (v := 48) hx hb d_Parser_parseVar_47 (by decide) ?_
    replace hR := bi_e hR
    obtain ⟨r7, l7, T7, hc7, hR⟩ := hR
    refine gcV_v (rest := []) ⟨hx, hb, hml, hown, hT⟩ (h_Parser_need _ _ _ _ _ hc7) (cwV 1 hT (gV ml_Parser_85 im_Parser_need se_Parser_need ini_Parser co_Parser_need) rfl rfl rfl pd_Parser_need ⟨rm_hi, rm_lo (Nat.le_of_ble_eq_true rfl)⟩) hK hP hD hS hA hnw henv (Nat.le_of_ble_eq_true rfl) rfl rfl hl.1 rfl (Nat.le_of_ble_eq_true rfl) d_Parser_parseVar_49 ⟨Nat.le_refl _, Nat.le_refl _⟩ (fun H locs hP hD hS => ?_)
    clear hc7
    refine lv_aload_n hx hb d_Parser_parseVar_52 rfl (lv_at hl 0 rfl) ?_
    refine lv_iconst (v := 1) hx hb d_Parser_parseVar_53 (by decide) ?_
    refine lv_iconst (v := 0) hx hb d_Parser_parseVar_54 (by decide) ?_
    replace hR := bi_e hR
    obtain ⟨r8, l8, T8, hc8, hR⟩ := hR
    refine gcV_v (rest := []) ⟨hx, hb, hml, hown, hT⟩ (h_Parser_parseType _ _ _ _ _ _ hc8) (cwV 2 hT (gV ml_Parser_112 im_Parser_parseType se_Parser_parseType ini_Parser co_Parser_parseType) rfl rfl rfl pd_Parser_parseType ⟨rm_hi, rm_lo (Nat.le_of_ble_eq_true rfl)⟩) hK hP hD hS hA hnw henv (Nat.le_of_ble_eq_true rfl) rfl rfl hl.1 rfl (Nat.le_of_ble_eq_true rfl) d_Parser_parseVar_55 ⟨Nat.le_refl _, Nat.le_refl _⟩ (fun H locs hP hD hS => ?_)
    clear hc8
    refine lv_aload_n hx hb d_Parser_parseVar_58 rfl (lv_at hl 0 rfl) ?_
    refine lv_bipush (v := 50) hx hb d_Parser_parseVar_59 (by decide) ?_
    replace hR := bi_e hR
    obtain ⟨r9, l9, T9, hc9, hR⟩ := hR
    refine gcV_i (rest := []) ⟨hx, hb, hml, hown, hT⟩ (h_Parser_accept _ _ _ _ _ hc9) (cwV 1 hT (gV ml_Parser_125 im_Parser_accept se_Parser_accept ini_Parser co_Parser_accept) rfl rfl rfl pd_Parser_accept ⟨rm_hi, rm_lo (Nat.le_of_ble_eq_true rfl)⟩) hK hP hD hS hA hnw henv (Nat.le_of_ble_eq_true rfl) rfl rfl hl.1 rfl (Nat.le_of_ble_eq_true rfl) d_Parser_parseVar_61 ⟨Nat.le_refl _, Nat.le_refl _⟩ (fun H locs hP hD hS => ?_)
    clear hc9
    refine lv_if_eq (tgt := 83) hx hb d_Parser_parseVar_64 (by decide) (fun c10 => ?_) (fun c10 => ?_)
    · replace hR := if_p c10 hR
      refine lv_aload_n hx hb d_Parser_parseVar_83 rfl (lv_at hl 0 rfl) ?_
      refine lv_bipush (v := 46) hx hb d_Parser_parseVar_84 (by decide) ?_
      replace hR := bi_e hR
      obtain ⟨r11, l11, T11, hc11, hR⟩ := hR
      refine gcV_v (rest := []) ⟨hx, hb, hml, hown, hT⟩ (h_Parser_need _ _ _ _ _ hc11) (cwV 1 hT (gV ml_Parser_85 im_Parser_need se_Parser_need ini_Parser co_Parser_need) rfl rfl rfl pd_Parser_need ⟨rm_hi, rm_lo (Nat.le_of_ble_eq_true rfl)⟩) hK hP hD hS hA hnw henv (Nat.le_of_ble_eq_true rfl) rfl rfl hl.1 rfl (Nat.le_of_ble_eq_true rfl) d_Parser_parseVar_86 ⟨Nat.le_refl _, Nat.le_refl _⟩ (fun H locs hP hD hS => ?_)
      clear hc11
      refine lv_iload_n hx hb d_Parser_parseVar_89 rfl (lv_at hl 2 rfl) ?_
      obtain ⟨e1, -, e3⟩ := re_e hR
      subst e1; subst e3
      exact W.iret (v := x2) hx hb hr (fun t ht hW => ⟨⟨x2, (), rfl, rfl, by rw [ht]; exact hP, va_K.moved hW.alike hK, hD⟩, hS.F ht⟩) hS.2.2 d_Parser_parseVar_90
    · replace hR := if_n c10 hR
      refine lv_aload_n hx hb d_Parser_parseVar_67 rfl (lv_at hl 0 rfl) ?_
      refine rd_Parser_9 hx hb hT hown hK hP d_Parser_parseVar_68 ?_
      refine rd_Parser_169 hx hb hT hown hK hP d_Parser_parseVar_71 ?_
      refine lv_iload_n hx hb d_Parser_parseVar_74 rfl (lv_at hl 2 rfl) ?_
      refine lv_aload_n hx hb d_Parser_parseVar_75 rfl (lv_at hl 0 rfl) ?_
      refine lv_iload_n hx hb d_Parser_parseVar_76 rfl (lv_at hl 1 rfl) ?_
      refine lv_iconst (v := 1) hx hb d_Parser_parseVar_77 (by decide) ?_
      refine lv_iadd hx hb d_Parser_parseVar_78 ?_
      replace hR := bi_e hR
      obtain ⟨r13, l13, T13, hc13, hR⟩ := hR
      refine gcV_i (rest := [.int x2, .ref (ad 19)]) ⟨hx, hb, hml, hown, hT⟩ (h_Parser_parseExpr _ _ _ _ _ hc13) (cwV 1 hT (gV ml_Parser_172 im_Parser_parseExpr se_Parser_parseExpr ini_Parser co_Parser_parseExpr) rfl rfl rfl pd_Parser_parseExpr ⟨rm_hi, rm_lo (Nat.le_of_ble_eq_true rfl)⟩) hK hP hD hS hA hnw henv (Nat.le_of_ble_eq_true rfl) rfl rfl hl.1 rfl (Nat.le_of_ble_eq_true rfl) d_Parser_parseVar_79 ⟨Nat.le_refl _, Nat.le_refl _⟩ (fun H locs hP hD hS => ?_)
      clear hc13
      replace hR := gd_e hR
      obtain ⟨b14, hR⟩ := hR
      refine saH_7 hx hb hK hP hD hS b14 d_Parser_parseVar_82 (fun T14 eT H locs hP hD hS => ?_)
      replace hR := stK_e eT hR
      clear eT
      refine lv_aload_n hx hb d_Parser_parseVar_83 rfl (lv_at hl 0 rfl) ?_
      refine lv_bipush (v := 46) hx hb d_Parser_parseVar_84 (by decide) ?_
      replace hR := bi_e hR
      obtain ⟨r15, l15, T15, hc15, hR⟩ := hR
      refine gcV_v (rest := []) ⟨hx, hb, hml, hown, hT⟩ (h_Parser_need _ _ _ _ _ hc15) (cwV 1 hT (gV ml_Parser_85 im_Parser_need se_Parser_need ini_Parser co_Parser_need) rfl rfl rfl pd_Parser_need ⟨rm_hi, rm_lo (Nat.le_of_ble_eq_true rfl)⟩) hK hP hD hS hA hnw henv (Nat.le_of_ble_eq_true rfl) rfl rfl hl.1 rfl (Nat.le_of_ble_eq_true rfl) d_Parser_parseVar_86 ⟨Nat.le_refl _, Nat.le_refl _⟩ (fun H locs hP hD hS => ?_)
      clear hc15
      refine lv_iload_n hx hb d_Parser_parseVar_89 rfl (lv_at hl 2 rfl) ?_
      obtain ⟨e1, -, e3⟩ := re_e hR
      subst e1; subst e3
      exact W.iret (v := x2) hx hb hr (fun t ht hW => ⟨⟨x2, (), rfl, rfl, by rw [ht]; exact hP, va_K.moved hW.alike hK, hD⟩, hS.F ht⟩) hS.2.2 d_Parser_parseVar_90
  unfold rb_Parser_parseVar at hR
  refine lv_aload_n hx hb d_Parser_parseVar_0 rfl (lv_at hl 0 rfl) ?_
  refine rd_Parser_9 hx hb hT hown hK hP d_Parser_parseVar_1 ?_
  refine lv_bipush (v := 15) hx hb d_Parser_parseVar_4 (by decide) ?_
  refine lv_aload_n hx hb d_Parser_parseVar_6 rfl (lv_at hl 0 rfl) ?_
  refine rd_Parser_23 hx hb hT hown hK hP d_Parser_parseVar_7 ?_
  replace hR := bi_e hR
  obtain ⟨r1, l1, T1, hc1, hR⟩ := hR
  refine gcV_i (rest := []) ⟨hx, hb, hml, hown, hT⟩ (h_Source_addNode _ _ _ _ _ _ hc1) (cwV 2 hT (gV ml_Parser_166 im_Source_addNode se_Source_addNode ini_Source co_Source_addNode) rfl rfl rfl pd_Source_addNode ⟨rm_hi, rm_lo (Nat.le_of_ble_eq_true rfl)⟩) hK hP hD hS hA hnw henv (Nat.le_of_ble_eq_true rfl) rfl rfl hl.1 rfl (Nat.le_of_ble_eq_true rfl) d_Parser_parseVar_10 ⟨Nat.le_refl _, Nat.le_refl _⟩ (fun H locs hP hD hS => ?_)
  clear hc1
  refine lv_istore_n (lv' := [(2, .int r1), (0, .ref (ad 4)), (1, .int p1)]) hx hb d_Parser_parseVar_13 rfl hl (by decide) rfl (fun ls hl => ?_)
  refine lv_aload_n hx hb d_Parser_parseVar_14 rfl (lv_at hl 1 rfl) ?_
  replace hR := bi_e hR
  obtain ⟨r2, l2, T2, hc2, hR⟩ := hR
  refine gcV_v (rest := []) ⟨hx, hb, hml, hown, hT⟩ (h_Parser_advance _ _ _ _ hc2) (cwV 0 hT (gV ml_Parser_59 im_Parser_advance se_Parser_advance ini_Parser co_Parser_advance) rfl rfl rfl pd_Parser_advance ⟨rm_hi, rm_lo (Nat.le_of_ble_eq_true rfl)⟩) hK hP hD hS hA hnw henv (Nat.le_of_ble_eq_true rfl) rfl rfl hl.1 rfl (Nat.le_of_ble_eq_true rfl) d_Parser_parseVar_15 ⟨Nat.le_refl _, Nat.le_refl _⟩ (fun H locs hP hD hS => ?_)
  clear hc2
  refine lv_aload_n hx hb d_Parser_parseVar_18 rfl (lv_at hl 1 rfl) ?_
  refine rd_Parser_116 hx hb hT hown hK hP d_Parser_parseVar_19 ?_
  refine lv_bipush (v := 20) hx hb d_Parser_parseVar_22 (by decide) ?_
  refine lv_icmp_ne (tgt := 31) hx hb d_Parser_parseVar_24 (by decide) (fun c3 => ?_) (fun c3 => ?_)
  · replace hR := if_n c3 hR
    have g := lb_31 T2 p1 r1 hR
    rw [hG] at g
    exact g _ _ hP hD hS _ (lv_sub hl [1, 2, 0] rfl)
  · replace hR := if_p c3 hR
    refine lv_aload_n hx hb d_Parser_parseVar_27 rfl (lv_at hl 1 rfl) ?_
    replace hR := bi_e hR
    obtain ⟨r4, l4, T4, hc4, hR⟩ := hR
    refine gcV_v (rest := []) ⟨hx, hb, hml, hown, hT⟩ (h_Parser_stop _ _ _ _ hc4) (cwV 0 hT (gV ml_Parser_62 im_Parser_stop se_Parser_stop ini_Parser co_Parser_stop) rfl rfl rfl pd_Parser_stop ⟨rm_hi, rm_lo (Nat.le_of_ble_eq_true rfl)⟩) hK hP hD hS hA hnw henv (Nat.le_of_ble_eq_true rfl) rfl rfl hl.1 rfl (Nat.le_of_ble_eq_true rfl) d_Parser_parseVar_28 ⟨Nat.le_refl _, Nat.le_refl _⟩ (fun H locs hP hD hS => ?_)
    clear hc4
    have g := lb_31 T4 p1 r1 hR
    rw [hG] at g
    exact g _ _ hP hD hS _ (lv_sub hl [1, 2, 0] rfl)
set_option maxHeartbeats 4000000 in
set_option maxRecDepth 100000 in
theorem sp_Parser_parseChoice (l : Launch) (dC : Nat → ClassId) (dI : Nat → Nat → Nat) (ea ev ad : Nat → Nat) (km : Nat → ClassId) (F : gF) (nf d : Nat) (h_Source_addNode : mt_Source_addNode l dC dI ea ev ad km F d) (h_Parser_advance : mt_Parser_advance l dC dI ea ev ad km F d) (h_Parser_parseExpr : mt_Parser_parseExpr l dC dI ea ev ad km F d) (h_Parser_parseBlock : mt_Parser_parseBlock l dC dI ea ev ad km F d) (h_Parser_accept : mt_Parser_accept l dC dI ea ev ad km F d) (T0 : gSt) (p1 : Int32) (p2 : Int32) (r0 : Int32) (rl0 : Int64) (T9 : gSt) (hR : rb_Parser_parseChoice F nf T0 p1 p2 = some (r0, rl0, T9)) : GMi l dC dI LH ad km ea ev y_Parser_parseChoice w_Parser_parseChoice (rmD (d + 1)) [.ref (ad 4), .int p1, .int p2] T0 r0 T9 := by
  intro sz
  refine Met.ofW (cc := b_Parser_parseChoice) (maxL := 4) (ret := (some .int)) (by decide) rfl ?_
  intro p e s m args below meth c s₁ B hml hv
  obtain ⟨rfl, hsz, hP, hK, hD0, hnw, henv⟩ := hv
  have hx := B.exec
  have hb := B.bytes
  have hr := B.returns
  have hT : ∀ w ∈ lw_good, w.before _ s = true := fun w h => atoms_spec (ws := w_Parser_parseChoice) B.pre w (List.mem_cons_of_mem _ h)
  have hown : s.vm.findClass R_Parser = some m.cls := findClass_of_methodNamed B.named
  subst hsz
  have hD := hD0.self (sz := s.heap.size)
  clear hD0
  generalize hAe : va_A (gW LH ad km T0) s.heap.size = A at hD henv ⊢
  have hA : ∀ q : Nat, s.heap.size ≤ q → A q := fun q h => by rw [← hAe]; exact Or.inr h
  have hS : va_S A s.heap s.heap [] := va_S.rf
  have hl := lv_entry ([.ref (ad 4), .int p1, .int p2]) (n := 4) (Nat.le_of_ble_eq_true rfl)
  rw [lg_entry_eq]
  generalize (lg_sl ([.ref (ad 4), .int p1, .int p2]) ++ List.replicate (4 - (lg_sl ([.ref (ad 4), .int p1, .int p2])).length) Slot.unset).toArray = ls at hl ⊢
  have hl : lv_has ls 4 [(0, .ref (ad 4)), (1, .int p1), (2, .int p2)] := hl
  unfold rb_Parser_parseChoice at hR
  refine lv_aload_n hx hb d_Parser_parseChoice_0 rfl (lv_at hl 0 rfl) ?_
  refine rd_Parser_9 hx hb hT hown hK hP d_Parser_parseChoice_1 ?_
  refine lv_iload_n hx hb d_Parser_parseChoice_4 rfl (lv_at hl 1 rfl) ?_
  refine lv_aload_n hx hb d_Parser_parseChoice_5 rfl (lv_at hl 0 rfl) ?_
  refine rd_Parser_23 hx hb hT hown hK hP d_Parser_parseChoice_6 ?_
  replace hR := bi_e hR
  obtain ⟨r1, l1, T1, hc1, hR⟩ := hR
  refine gcV_i (rest := []) ⟨hx, hb, hml, hown, hT⟩ (h_Source_addNode _ _ _ _ _ _ hc1) (cwV 2 hT (gV ml_Parser_166 im_Source_addNode se_Source_addNode ini_Source co_Source_addNode) rfl rfl rfl pd_Source_addNode ⟨rm_hi, rm_lo (Nat.le_of_ble_eq_true rfl)⟩) hK hP hD hS hA hnw henv (Nat.le_of_ble_eq_true rfl) rfl rfl hl.1 rfl (Nat.le_of_ble_eq_true rfl) d_Parser_parseChoice_9 ⟨Nat.le_refl _, Nat.le_refl _⟩ (fun H locs hP hD hS => ?_)
  clear hc1
  refine lv_istore_n (lv' := [(3, .int r1), (0, .ref (ad 4)), (1, .int p1), (2, .int p2)]) hx hb d_Parser_parseChoice_12 rfl hl (by decide) rfl (fun ls hl => ?_)
  refine lv_aload_n hx hb d_Parser_parseChoice_13 rfl (lv_at hl 1 rfl) ?_
  replace hR := bi_e hR
  obtain ⟨r2, l2, T2, hc2, hR⟩ := hR
  refine gcV_v (rest := []) ⟨hx, hb, hml, hown, hT⟩ (h_Parser_advance _ _ _ _ hc2) (cwV 0 hT (gV ml_Parser_59 im_Parser_advance se_Parser_advance ini_Parser co_Parser_advance) rfl rfl rfl pd_Parser_advance ⟨rm_hi, rm_lo (Nat.le_of_ble_eq_true rfl)⟩) hK hP hD hS hA hnw henv (Nat.le_of_ble_eq_true rfl) rfl rfl hl.1 rfl (Nat.le_of_ble_eq_true rfl) d_Parser_parseChoice_14 ⟨Nat.le_refl _, Nat.le_refl _⟩ (fun H locs hP hD hS => ?_)
  clear hc2
  refine lv_aload_n hx hb d_Parser_parseChoice_17 rfl (lv_at hl 1 rfl) ?_
  refine rd_Parser_9 hx hb hT hown hK hP d_Parser_parseChoice_18 ?_
  refine rd_Parser_175 hx hb hT hown hK hP d_Parser_parseChoice_21 ?_
  refine lv_iload_n hx hb d_Parser_parseChoice_24 rfl (lv_at hl 0 rfl) ?_
  refine lv_aload_n hx hb d_Parser_parseChoice_25 rfl (lv_at hl 1 rfl) ?_
  refine lv_iload_n hx hb d_Parser_parseChoice_26 rfl (lv_at hl 3 rfl) ?_
  refine lv_iconst (v := 1) hx hb d_Parser_parseChoice_27 (by decide) ?_
  refine lv_iadd hx hb d_Parser_parseChoice_28 ?_
  replace hR := bi_e hR
  obtain ⟨r3, l3, T3, hc3, hR⟩ := hR
  refine gcV_i (rest := [.int r1, .ref (ad 18)]) ⟨hx, hb, hml, hown, hT⟩ (h_Parser_parseExpr _ _ _ _ _ hc3) (cwV 1 hT (gV ml_Parser_172 im_Parser_parseExpr se_Parser_parseExpr ini_Parser co_Parser_parseExpr) rfl rfl rfl pd_Parser_parseExpr ⟨rm_hi, rm_lo (Nat.le_of_ble_eq_true rfl)⟩) hK hP hD hS hA hnw henv (Nat.le_of_ble_eq_true rfl) rfl rfl hl.1 rfl (Nat.le_of_ble_eq_true rfl) d_Parser_parseChoice_29 ⟨Nat.le_refl _, Nat.le_refl _⟩ (fun H locs hP hD hS => ?_)
  clear hc3
  replace hR := gd_e hR
  obtain ⟨b4, hR⟩ := hR
  refine saH_6 hx hb hK hP hD hS b4 d_Parser_parseChoice_32 (fun T4 eT H locs hP hD hS => ?_)
  replace hR := stK_e eT hR
  clear eT
  refine lv_aload_n hx hb d_Parser_parseChoice_33 rfl (lv_at hl 1 rfl) ?_
  refine rd_Parser_9 hx hb hT hown hK hP d_Parser_parseChoice_34 ?_
  refine rd_Parser_169 hx hb hT hown hK hP d_Parser_parseChoice_37 ?_
  refine lv_iload_n hx hb d_Parser_parseChoice_40 rfl (lv_at hl 0 rfl) ?_
  refine lv_aload_n hx hb d_Parser_parseChoice_41 rfl (lv_at hl 1 rfl) ?_
  refine lv_iload_n hx hb d_Parser_parseChoice_42 rfl (lv_at hl 3 rfl) ?_
  refine lv_iconst (v := 1) hx hb d_Parser_parseChoice_43 (by decide) ?_
  refine lv_iadd hx hb d_Parser_parseChoice_44 ?_
  replace hR := bi_e hR
  obtain ⟨r5, l5, T5, hc5, hR⟩ := hR
  refine gcV_i (rest := [.int r1, .ref (ad 19)]) ⟨hx, hb, hml, hown, hT⟩ (h_Parser_parseBlock _ _ _ _ _ hc5) (cwV 1 hT (gV ml_Parser_135 im_Parser_parseBlock se_Parser_parseBlock ini_Parser co_Parser_parseBlock) rfl rfl rfl pd_Parser_parseBlock ⟨rm_hi, rm_lo (Nat.le_of_ble_eq_true rfl)⟩) hK hP hD hS hA hnw henv (Nat.le_of_ble_eq_true rfl) rfl rfl hl.1 rfl (Nat.le_of_ble_eq_true rfl) d_Parser_parseChoice_45 ⟨Nat.le_refl _, Nat.le_refl _⟩ (fun H locs hP hD hS => ?_)
  clear hc5
  replace hR := gd_e hR
  obtain ⟨b6, hR⟩ := hR
  refine saH_7 hx hb hK hP hD hS b6 d_Parser_parseChoice_48 (fun T6 eT H locs hP hD hS => ?_)
  replace hR := stK_e eT hR
  clear eT
  refine lv_iload_n hx hb d_Parser_parseChoice_49 rfl (lv_at hl 2 rfl) ?_
  refine lv_bipush (v := 16) hx hb d_Parser_parseChoice_50 (by decide) ?_
  refine lv_icmp_ne (tgt := 80) hx hb d_Parser_parseChoice_52 (by decide) (fun c7 => ?_) (fun c7 => ?_)
  · replace hR := if_n c7 hR
    refine lv_iload_n hx hb d_Parser_parseChoice_80 rfl (lv_at hl 0 rfl) ?_
    obtain ⟨e1, -, e3⟩ := re_e hR
    subst e1; subst e3
    exact W.iret (v := r1) hx hb hr (fun t ht hW => ⟨⟨r1, (), rfl, rfl, by rw [ht]; exact hP, va_K.moved hW.alike hK, hD⟩, hS.F ht⟩) hS.2.2 d_Parser_parseChoice_81
  · replace hR := if_p c7 hR
    refine lv_aload_n hx hb d_Parser_parseChoice_55 rfl (lv_at hl 1 rfl) ?_
    refine lv_bipush (v := 17) hx hb d_Parser_parseChoice_56 (by decide) ?_
    replace hR := bi_e hR
    obtain ⟨r9, l9, T9, hc9, hR⟩ := hR
    refine gcV_i (rest := []) ⟨hx, hb, hml, hown, hT⟩ (h_Parser_accept _ _ _ _ _ hc9) (cwV 1 hT (gV ml_Parser_125 im_Parser_accept se_Parser_accept ini_Parser co_Parser_accept) rfl rfl rfl pd_Parser_accept ⟨rm_hi, rm_lo (Nat.le_of_ble_eq_true rfl)⟩) hK hP hD hS hA hnw henv (Nat.le_of_ble_eq_true rfl) rfl rfl hl.1 rfl (Nat.le_of_ble_eq_true rfl) d_Parser_parseChoice_58 ⟨Nat.le_refl _, Nat.le_refl _⟩ (fun H locs hP hD hS => ?_)
    clear hc9
    refine lv_if_eq (tgt := 80) hx hb d_Parser_parseChoice_61 (by decide) (fun c10 => ?_) (fun c10 => ?_)
    · replace hR := if_p c10 hR
      refine lv_iload_n hx hb d_Parser_parseChoice_80 rfl (lv_at hl 0 rfl) ?_
      obtain ⟨e1, -, e3⟩ := re_e hR
      subst e1; subst e3
      exact W.iret (v := r1) hx hb hr (fun t ht hW => ⟨⟨r1, (), rfl, rfl, by rw [ht]; exact hP, va_K.moved hW.alike hK, hD⟩, hS.F ht⟩) hS.2.2 d_Parser_parseChoice_81
    · replace hR := if_n c10 hR
      refine lv_aload_n hx hb d_Parser_parseChoice_64 rfl (lv_at hl 1 rfl) ?_
      refine rd_Parser_9 hx hb hT hown hK hP d_Parser_parseChoice_65 ?_
      refine rd_Parser_178 hx hb hT hown hK hP d_Parser_parseChoice_68 ?_
      refine lv_iload_n hx hb d_Parser_parseChoice_71 rfl (lv_at hl 0 rfl) ?_
      refine lv_aload_n hx hb d_Parser_parseChoice_72 rfl (lv_at hl 1 rfl) ?_
      refine lv_iload_n hx hb d_Parser_parseChoice_73 rfl (lv_at hl 3 rfl) ?_
      refine lv_iconst (v := 1) hx hb d_Parser_parseChoice_74 (by decide) ?_
      refine lv_iadd hx hb d_Parser_parseChoice_75 ?_
      replace hR := bi_e hR
      obtain ⟨r12, l12, T12, hc12, hR⟩ := hR
      refine gcV_i (rest := [.int r1, .ref (ad 20)]) ⟨hx, hb, hml, hown, hT⟩ (h_Parser_parseBlock _ _ _ _ _ hc12) (cwV 1 hT (gV ml_Parser_135 im_Parser_parseBlock se_Parser_parseBlock ini_Parser co_Parser_parseBlock) rfl rfl rfl pd_Parser_parseBlock ⟨rm_hi, rm_lo (Nat.le_of_ble_eq_true rfl)⟩) hK hP hD hS hA hnw henv (Nat.le_of_ble_eq_true rfl) rfl rfl hl.1 rfl (Nat.le_of_ble_eq_true rfl) d_Parser_parseChoice_76 ⟨Nat.le_refl _, Nat.le_refl _⟩ (fun H locs hP hD hS => ?_)
      clear hc12
      replace hR := gd_e hR
      obtain ⟨b13, hR⟩ := hR
      refine saH_8 hx hb hK hP hD hS b13 d_Parser_parseChoice_79 (fun T13 eT H locs hP hD hS => ?_)
      replace hR := stK_e eT hR
      clear eT
      refine lv_iload_n hx hb d_Parser_parseChoice_80 rfl (lv_at hl 0 rfl) ?_
      obtain ⟨e1, -, e3⟩ := re_e hR
      subst e1; subst e3
      exact W.iret (v := r1) hx hb hr (fun t ht hW => ⟨⟨r1, (), rfl, rfl, by rw [ht]; exact hP, va_K.moved hW.alike hK, hD⟩, hS.F ht⟩) hS.2.2 d_Parser_parseChoice_81
set_option maxHeartbeats 4000000 in
set_option maxRecDepth 100000 in
theorem sp_Parser_parseRegionStep (l : Launch) (dC : Nat → ClassId) (dI : Nat → Nat → Nat) (ea ev ad : Nat → Nat) (km : Nat → ClassId) (F : gF) (nf d : Nat) (h_Parser_stop : mt_Parser_stop l dC dI ea ev ad km F d) (h_Source_addNode : mt_Source_addNode l dC dI ea ev ad km F d) (h_Parser_advance : mt_Parser_advance l dC dI ea ev ad km F d) (h_Parser_need : mt_Parser_need l dC dI ea ev ad km F d) (h_Parser_parseBlock : mt_Parser_parseBlock l dC dI ea ev ad km F d) (T0 : gSt) (p1 : Int32) (p2 : Int32) (r0 : Int32) (rl0 : Int64) (T9 : gSt) (hR : rb_Parser_parseRegionStep F nf T0 p1 p2 = some (r0, rl0, T9)) : GMi l dC dI LH ad km ea ev y_Parser_parseRegionStep w_Parser_parseRegionStep (rmD (d + 1)) [.ref (ad 4), .int p1, .int p2] T0 r0 T9 := by
  intro sz
  refine Met.ofW (cc := b_Parser_parseRegionStep) (maxL := 4) (ret := (some .int)) (by decide) rfl ?_
  intro p e s m args below meth c s₁ B hml hv
  obtain ⟨rfl, hsz, hP, hK, hD0, hnw, henv⟩ := hv
  have hx := B.exec
  have hb := B.bytes
  have hr := B.returns
  have hT : ∀ w ∈ lw_good, w.before _ s = true := fun w h => atoms_spec (ws := w_Parser_parseRegionStep) B.pre w (List.mem_cons_of_mem _ h)
  have hown : s.vm.findClass R_Parser = some m.cls := findClass_of_methodNamed B.named
  subst hsz
  have hD := hD0.self (sz := s.heap.size)
  clear hD0
  generalize hAe : va_A (gW LH ad km T0) s.heap.size = A at hD henv ⊢
  have hA : ∀ q : Nat, s.heap.size ≤ q → A q := fun q h => by rw [← hAe]; exact Or.inr h
  have hS : va_S A s.heap s.heap [] := va_S.rf
  have hl := lv_entry ([.ref (ad 4), .int p1, .int p2]) (n := 4) (Nat.le_of_ble_eq_true rfl)
  rw [lg_entry_eq]
  generalize (lg_sl ([.ref (ad 4), .int p1, .int p2]) ++ List.replicate (4 - (lg_sl ([.ref (ad 4), .int p1, .int p2])).length) Slot.unset).toArray = ls at hl ⊢
  have hl : lv_has ls 4 [(0, .ref (ad 4)), (1, .int p1), (2, .int p2)] := hl
  obtain ⟨G, hG⟩ : ∃ G : Nat → List (Nat × Value) → List Value → gSt → Prop, G = (fun pc lv stk T => ∀ (H : Heap) (locs : List Loc), va_P (dC, dI) cls_all (gW LH ad km T) H → va_D A (gW LH ad km T) → va_S A s.heap H locs → ∀ (ls : Array Slot), lv_has ls 4 lv → W p l e (headSpec w_Parser_parseRegionStep (rmD (d + 1))).room s m ([.ref (ad 4), .int p1, .int p2] : List Value).toArray below meth c H locs 0 0 (MQ below (va_Qi (fun (z : Int32) (_ : Unit) => z = r0) (fun _ t => gPost dC dI LH ad km T9 A t) A) ([.ref (ad 4), .int p1, .int p2] : List Value).toArray s 0 0 A) (F0 m pc ls stk)) := ⟨_, rfl⟩
  have lb_19 : ∀ (T : gSt) (x1 : Int32) (x2 : Int32), rj_Parser_parseRegionStep_19 F nf T x1 x2 = some (r0, rl0, T9) → G 19 [(0, .ref (ad 4)), (1, .int x1), (2, .int x2)] [] T := by
    intro T x1 x2 hR; unfold rj_Parser_parseRegionStep_19 at hR; rw [hG]; intro H locs hP hD hS ls hl
    refine lv_aload_n hx hb d_Parser_parseRegionStep_19 rfl (lv_at hl 0 rfl) ?_
    refine rd_Parser_9 hx hb hT hown hK hP d_Parser_parseRegionStep_20 ?_
    refine lv_iload_n hx hb d_Parser_parseRegionStep_23 rfl (lv_at hl 1 rfl) ?_
    refine lv_aload_n hx hb d_Parser_parseRegionStep_24 rfl (lv_at hl 0 rfl) ?_
    refine rd_Parser_23 hx hb hT hown hK hP d_Parser_parseRegionStep_25 ?_
    replace hR := bi_e hR
    obtain ⟨r4, l4, T4, hc4, hR⟩ := hR
    refine gcV_i (rest := []) ⟨hx, hb, hml, hown, hT⟩ (h_Source_addNode _ _ _ _ _ _ hc4) (cwV 2 hT (gV ml_Parser_166 im_Source_addNode se_Source_addNode ini_Source co_Source_addNode) rfl rfl rfl pd_Source_addNode ⟨rm_hi, rm_lo (Nat.le_of_ble_eq_true rfl)⟩) hK hP hD hS hA hnw henv (Nat.le_of_ble_eq_true rfl) rfl rfl hl.1 rfl (Nat.le_of_ble_eq_true rfl) d_Parser_parseRegionStep_28 ⟨Nat.le_refl _, Nat.le_refl _⟩ (fun H locs hP hD hS => ?_)
    clear hc4
    refine lv_istore_n (lv' := [(3, .int r4), (0, .ref (ad 4)), (1, .int x1), (2, .int x2)]) hx hb d_Parser_parseRegionStep_31 rfl hl (by decide) rfl (fun ls hl => ?_)
    refine lv_aload_n hx hb d_Parser_parseRegionStep_32 rfl (lv_at hl 1 rfl) ?_
    replace hR := bi_e hR
    obtain ⟨r5, l5, T5, hc5, hR⟩ := hR
    refine gcV_v (rest := []) ⟨hx, hb, hml, hown, hT⟩ (h_Parser_advance _ _ _ _ hc5) (cwV 0 hT (gV ml_Parser_59 im_Parser_advance se_Parser_advance ini_Parser co_Parser_advance) rfl rfl rfl pd_Parser_advance ⟨rm_hi, rm_lo (Nat.le_of_ble_eq_true rfl)⟩) hK hP hD hS hA hnw henv (Nat.le_of_ble_eq_true rfl) rfl rfl hl.1 rfl (Nat.le_of_ble_eq_true rfl) d_Parser_parseRegionStep_33 ⟨Nat.le_refl _, Nat.le_refl _⟩ (fun H locs hP hD hS => ?_)
    clear hc5
    refine lv_aload_n hx hb d_Parser_parseRegionStep_36 rfl (lv_at hl 1 rfl) ?_
    refine lv_iconst (v := 4) hx hb d_Parser_parseRegionStep_37 (by decide) ?_
    replace hR := bi_e hR
    obtain ⟨r6, l6, T6, hc6, hR⟩ := hR
    refine gcV_v (rest := []) ⟨hx, hb, hml, hown, hT⟩ (h_Parser_need _ _ _ _ _ hc6) (cwV 1 hT (gV ml_Parser_85 im_Parser_need se_Parser_need ini_Parser co_Parser_need) rfl rfl rfl pd_Parser_need ⟨rm_hi, rm_lo (Nat.le_of_ble_eq_true rfl)⟩) hK hP hD hS hA hnw henv (Nat.le_of_ble_eq_true rfl) rfl rfl hl.1 rfl (Nat.le_of_ble_eq_true rfl) d_Parser_parseRegionStep_38 ⟨Nat.le_refl _, Nat.le_refl _⟩ (fun H locs hP hD hS => ?_)
    clear hc6
    refine lv_iload_n hx hb d_Parser_parseRegionStep_41 rfl (lv_at hl 2 rfl) ?_
    refine lv_bipush (v := 21) hx hb d_Parser_parseRegionStep_42 (by decide) ?_
    refine lv_icmp_ne (tgt := 76) hx hb d_Parser_parseRegionStep_44 (by decide) (fun c7 => ?_) (fun c7 => ?_)
    · replace hR := if_n c7 hR
      refine lv_aload_n hx hb d_Parser_parseRegionStep_76 rfl (lv_at hl 1 rfl) ?_
      refine lv_bipush (v := 46) hx hb d_Parser_parseRegionStep_77 (by decide) ?_
      replace hR := bi_e hR
      obtain ⟨r8, l8, T8, hc8, hR⟩ := hR
      refine gcV_v (rest := []) ⟨hx, hb, hml, hown, hT⟩ (h_Parser_need _ _ _ _ _ hc8) (cwV 1 hT (gV ml_Parser_85 im_Parser_need se_Parser_need ini_Parser co_Parser_need) rfl rfl rfl pd_Parser_need ⟨rm_hi, rm_lo (Nat.le_of_ble_eq_true rfl)⟩) hK hP hD hS hA hnw henv (Nat.le_of_ble_eq_true rfl) rfl rfl hl.1 rfl (Nat.le_of_ble_eq_true rfl) d_Parser_parseRegionStep_79 ⟨Nat.le_refl _, Nat.le_refl _⟩ (fun H locs hP hD hS => ?_)
      clear hc8
      refine lv_iload_n hx hb d_Parser_parseRegionStep_82 rfl (lv_at hl 0 rfl) ?_
      obtain ⟨e1, -, e3⟩ := re_e hR
      subst e1; subst e3
      exact W.iret (v := r4) hx hb hr (fun t ht hW => ⟨⟨r4, (), rfl, rfl, by rw [ht]; exact hP, va_K.moved hW.alike hK, hD⟩, hS.F ht⟩) hS.2.2 d_Parser_parseRegionStep_83
    · replace hR := if_p c7 hR
      refine lv_aload_n hx hb d_Parser_parseRegionStep_47 rfl (lv_at hl 1 rfl) ?_
      refine lv_dup hx hb d_Parser_parseRegionStep_48 rfl ?_
      refine rd_Parser_119 hx hb hT hown hK hP d_Parser_parseRegionStep_49 ?_
      refine lv_iconst (v := 1) hx hb d_Parser_parseRegionStep_52 (by decide) ?_
      refine lv_iadd hx hb d_Parser_parseRegionStep_53 ?_
      refine wr_Parser_119 hx hb hT hown hK hP hD hS d_Parser_parseRegionStep_54 (fun T10 eT H locs hP hD hS => ?_)
      replace hR := stK_e eT hR
      clear eT
      refine lv_aload_n hx hb d_Parser_parseRegionStep_57 rfl (lv_at hl 1 rfl) ?_
      refine rd_Parser_9 hx hb hT hown hK hP d_Parser_parseRegionStep_58 ?_
      refine rd_Parser_169 hx hb hT hown hK hP d_Parser_parseRegionStep_61 ?_
      refine lv_iload_n hx hb d_Parser_parseRegionStep_64 rfl (lv_at hl 0 rfl) ?_
      refine lv_aload_n hx hb d_Parser_parseRegionStep_65 rfl (lv_at hl 1 rfl) ?_
      refine lv_iload_n hx hb d_Parser_parseRegionStep_66 rfl (lv_at hl 3 rfl) ?_
      refine lv_iconst (v := 1) hx hb d_Parser_parseRegionStep_67 (by decide) ?_
      refine lv_iadd hx hb d_Parser_parseRegionStep_68 ?_
      replace hR := bi_e hR
      obtain ⟨r11, l11, T11, hc11, hR⟩ := hR
      refine gcV_i (rest := [.int r4, .ref (ad 19)]) ⟨hx, hb, hml, hown, hT⟩ (h_Parser_parseBlock _ _ _ _ _ hc11) (cwV 1 hT (gV ml_Parser_135 im_Parser_parseBlock se_Parser_parseBlock ini_Parser co_Parser_parseBlock) rfl rfl rfl pd_Parser_parseBlock ⟨rm_hi, rm_lo (Nat.le_of_ble_eq_true rfl)⟩) hK hP hD hS hA hnw henv (Nat.le_of_ble_eq_true rfl) rfl rfl hl.1 rfl (Nat.le_of_ble_eq_true rfl) d_Parser_parseRegionStep_69 ⟨Nat.le_refl _, Nat.le_refl _⟩ (fun H locs hP hD hS => ?_)
      clear hc11
      replace hR := gd_e hR
      obtain ⟨b12, hR⟩ := hR
      refine saH_7 hx hb hK hP hD hS b12 d_Parser_parseRegionStep_72 (fun T12 eT H locs hP hD hS => ?_)
      replace hR := stK_e eT hR
      clear eT
      refine lv_goto (tgt := 82) hx hb d_Parser_parseRegionStep_73 (by decide) ?_
      refine lv_iload_n hx hb d_Parser_parseRegionStep_82 rfl (lv_at hl 0 rfl) ?_
      obtain ⟨e1, -, e3⟩ := re_e hR
      subst e1; subst e3
      exact W.iret (v := r4) hx hb hr (fun t ht hW => ⟨⟨r4, (), rfl, rfl, by rw [ht]; exact hP, va_K.moved hW.alike hK, hD⟩, hS.F ht⟩) hS.2.2 d_Parser_parseRegionStep_83
  unfold rb_Parser_parseRegionStep at hR
  refine lv_iload_n hx hb d_Parser_parseRegionStep_0 rfl (lv_at hl 1 rfl) ?_
  refine lv_bipush (v := 21) hx hb d_Parser_parseRegionStep_1 (by decide) ?_
  refine lv_icmp_ne (tgt := 19) hx hb d_Parser_parseRegionStep_3 (by decide) (fun c1 => ?_) (fun c1 => ?_)
  · replace hR := if_n c1 hR
    have g := lb_19 T0 p1 p2 hR
    rw [hG] at g
    exact g _ _ hP hD hS _ (lv_sub hl [0, 1, 2] rfl)
  · replace hR := if_p c1 hR
    refine lv_aload_n hx hb d_Parser_parseRegionStep_6 rfl (lv_at hl 0 rfl) ?_
    refine rd_Parser_119 hx hb hT hown hK hP d_Parser_parseRegionStep_7 ?_
    refine lv_bipush (v := 8) hx hb d_Parser_parseRegionStep_10 (by decide) ?_
    refine lv_icmp_ne (tgt := 19) hx hb d_Parser_parseRegionStep_12 (by decide) (fun c2 => ?_) (fun c2 => ?_)
    · replace hR := if_n c2 hR
      have g := lb_19 T0 p1 p2 hR
      rw [hG] at g
      exact g _ _ hP hD hS _ (lv_sub hl [0, 1, 2] rfl)
    · replace hR := if_p c2 hR
      refine lv_aload_n hx hb d_Parser_parseRegionStep_15 rfl (lv_at hl 0 rfl) ?_
      replace hR := bi_e hR
      obtain ⟨r3, l3, T3, hc3, hR⟩ := hR
      refine gcV_v (rest := []) ⟨hx, hb, hml, hown, hT⟩ (h_Parser_stop _ _ _ _ hc3) (cwV 0 hT (gV ml_Parser_62 im_Parser_stop se_Parser_stop ini_Parser co_Parser_stop) rfl rfl rfl pd_Parser_stop ⟨rm_hi, rm_lo (Nat.le_of_ble_eq_true rfl)⟩) hK hP hD hS hA hnw henv (Nat.le_of_ble_eq_true rfl) rfl rfl hl.1 rfl (Nat.le_of_ble_eq_true rfl) d_Parser_parseRegionStep_16 ⟨Nat.le_refl _, Nat.le_refl _⟩ (fun H locs hP hD hS => ?_)
      clear hc3
      have g := lb_19 T3 p1 p2 hR
      rw [hG] at g
      exact g _ _ hP hD hS _ (lv_sub hl [0, 1, 2] rfl)
set_option maxHeartbeats 4000000 in
set_option maxRecDepth 100000 in
theorem sp_Parser_parseTry (l : Launch) (dC : Nat → ClassId) (dI : Nat → Nat → Nat) (ea ev ad : Nat → Nat) (km : Nat → ClassId) (F : gF) (nf d : Nat) (h_Source_addNode : mt_Source_addNode l dC dI ea ev ad km F d) (h_Parser_advance : mt_Parser_advance l dC dI ea ev ad km F d) (h_Parser_parseBlock : mt_Parser_parseBlock l dC dI ea ev ad km F d) (h_Parser_need : mt_Parser_need l dC dI ea ev ad km F d) (T0 : gSt) (p1 : Int32) (r0 : Int32) (rl0 : Int64) (T9 : gSt) (hR : rb_Parser_parseTry F nf T0 p1 = some (r0, rl0, T9)) : GMi l dC dI LH ad km ea ev y_Parser_parseTry w_Parser_parseTry (rmD (d + 1)) [.ref (ad 4), .int p1] T0 r0 T9 := by
  intro sz
  refine Met.ofW (cc := b_Parser_parseTry) (maxL := 3) (ret := (some .int)) (by decide) rfl ?_
  intro p e s m args below meth c s₁ B hml hv
  obtain ⟨rfl, hsz, hP, hK, hD0, hnw, henv⟩ := hv
  have hx := B.exec
  have hb := B.bytes
  have hr := B.returns
  have hT : ∀ w ∈ lw_good, w.before _ s = true := fun w h => atoms_spec (ws := w_Parser_parseTry) B.pre w (List.mem_cons_of_mem _ h)
  have hown : s.vm.findClass R_Parser = some m.cls := findClass_of_methodNamed B.named
  subst hsz
  have hD := hD0.self (sz := s.heap.size)
  clear hD0
  generalize hAe : va_A (gW LH ad km T0) s.heap.size = A at hD henv ⊢
  have hA : ∀ q : Nat, s.heap.size ≤ q → A q := fun q h => by rw [← hAe]; exact Or.inr h
  have hS : va_S A s.heap s.heap [] := va_S.rf
  have hl := lv_entry ([.ref (ad 4), .int p1]) (n := 3) (Nat.le_of_ble_eq_true rfl)
  rw [lg_entry_eq]
  generalize (lg_sl ([.ref (ad 4), .int p1]) ++ List.replicate (3 - (lg_sl ([.ref (ad 4), .int p1])).length) Slot.unset).toArray = ls at hl ⊢
  have hl : lv_has ls 3 [(0, .ref (ad 4)), (1, .int p1)] := hl
  unfold rb_Parser_parseTry at hR
  refine lv_aload_n hx hb d_Parser_parseTry_0 rfl (lv_at hl 0 rfl) ?_
  refine rd_Parser_9 hx hb hT hown hK hP d_Parser_parseTry_1 ?_
  refine lv_bipush (v := 23) hx hb d_Parser_parseTry_4 (by decide) ?_
  refine lv_aload_n hx hb d_Parser_parseTry_6 rfl (lv_at hl 0 rfl) ?_
  refine rd_Parser_23 hx hb hT hown hK hP d_Parser_parseTry_7 ?_
  replace hR := bi_e hR
  obtain ⟨r1, l1, T1, hc1, hR⟩ := hR
  refine gcV_i (rest := []) ⟨hx, hb, hml, hown, hT⟩ (h_Source_addNode _ _ _ _ _ _ hc1) (cwV 2 hT (gV ml_Parser_166 im_Source_addNode se_Source_addNode ini_Source co_Source_addNode) rfl rfl rfl pd_Source_addNode ⟨rm_hi, rm_lo (Nat.le_of_ble_eq_true rfl)⟩) hK hP hD hS hA hnw henv (Nat.le_of_ble_eq_true rfl) rfl rfl hl.1 rfl (Nat.le_of_ble_eq_true rfl) d_Parser_parseTry_10 ⟨Nat.le_refl _, Nat.le_refl _⟩ (fun H locs hP hD hS => ?_)
  clear hc1
  refine lv_istore_n (lv' := [(2, .int r1), (0, .ref (ad 4)), (1, .int p1)]) hx hb d_Parser_parseTry_13 rfl hl (by decide) rfl (fun ls hl => ?_)
  refine lv_aload_n hx hb d_Parser_parseTry_14 rfl (lv_at hl 1 rfl) ?_
  replace hR := bi_e hR
  obtain ⟨r2, l2, T2, hc2, hR⟩ := hR
  refine gcV_v (rest := []) ⟨hx, hb, hml, hown, hT⟩ (h_Parser_advance _ _ _ _ hc2) (cwV 0 hT (gV ml_Parser_59 im_Parser_advance se_Parser_advance ini_Parser co_Parser_advance) rfl rfl rfl pd_Parser_advance ⟨rm_hi, rm_lo (Nat.le_of_ble_eq_true rfl)⟩) hK hP hD hS hA hnw henv (Nat.le_of_ble_eq_true rfl) rfl rfl hl.1 rfl (Nat.le_of_ble_eq_true rfl) d_Parser_parseTry_15 ⟨Nat.le_refl _, Nat.le_refl _⟩ (fun H locs hP hD hS => ?_)
  clear hc2
  refine lv_aload_n hx hb d_Parser_parseTry_18 rfl (lv_at hl 1 rfl) ?_
  refine rd_Parser_9 hx hb hT hown hK hP d_Parser_parseTry_19 ?_
  refine rd_Parser_169 hx hb hT hown hK hP d_Parser_parseTry_22 ?_
  refine lv_iload_n hx hb d_Parser_parseTry_25 rfl (lv_at hl 0 rfl) ?_
  refine lv_aload_n hx hb d_Parser_parseTry_26 rfl (lv_at hl 1 rfl) ?_
  refine lv_iload_n hx hb d_Parser_parseTry_27 rfl (lv_at hl 2 rfl) ?_
  refine lv_iconst (v := 1) hx hb d_Parser_parseTry_28 (by decide) ?_
  refine lv_iadd hx hb d_Parser_parseTry_29 ?_
  replace hR := bi_e hR
  obtain ⟨r3, l3, T3, hc3, hR⟩ := hR
  refine gcV_i (rest := [.int r1, .ref (ad 19)]) ⟨hx, hb, hml, hown, hT⟩ (h_Parser_parseBlock _ _ _ _ _ hc3) (cwV 1 hT (gV ml_Parser_135 im_Parser_parseBlock se_Parser_parseBlock ini_Parser co_Parser_parseBlock) rfl rfl rfl pd_Parser_parseBlock ⟨rm_hi, rm_lo (Nat.le_of_ble_eq_true rfl)⟩) hK hP hD hS hA hnw henv (Nat.le_of_ble_eq_true rfl) rfl rfl hl.1 rfl (Nat.le_of_ble_eq_true rfl) d_Parser_parseTry_30 ⟨Nat.le_refl _, Nat.le_refl _⟩ (fun H locs hP hD hS => ?_)
  clear hc3
  replace hR := gd_e hR
  obtain ⟨b4, hR⟩ := hR
  refine saH_7 hx hb hK hP hD hS b4 d_Parser_parseTry_33 (fun T4 eT H locs hP hD hS => ?_)
  replace hR := stK_e eT hR
  clear eT
  refine lv_aload_n hx hb d_Parser_parseTry_34 rfl (lv_at hl 1 rfl) ?_
  refine lv_bipush (v := 24) hx hb d_Parser_parseTry_35 (by decide) ?_
  replace hR := bi_e hR
  obtain ⟨r5, l5, T5, hc5, hR⟩ := hR
  refine gcV_v (rest := []) ⟨hx, hb, hml, hown, hT⟩ (h_Parser_need _ _ _ _ _ hc5) (cwV 1 hT (gV ml_Parser_85 im_Parser_need se_Parser_need ini_Parser co_Parser_need) rfl rfl rfl pd_Parser_need ⟨rm_hi, rm_lo (Nat.le_of_ble_eq_true rfl)⟩) hK hP hD hS hA hnw henv (Nat.le_of_ble_eq_true rfl) rfl rfl hl.1 rfl (Nat.le_of_ble_eq_true rfl) d_Parser_parseTry_37 ⟨Nat.le_refl _, Nat.le_refl _⟩ (fun H locs hP hD hS => ?_)
  clear hc5
  refine lv_aload_n hx hb d_Parser_parseTry_40 rfl (lv_at hl 1 rfl) ?_
  refine rd_Parser_9 hx hb hT hown hK hP d_Parser_parseTry_41 ?_
  refine rd_Parser_178 hx hb hT hown hK hP d_Parser_parseTry_44 ?_
  refine lv_iload_n hx hb d_Parser_parseTry_47 rfl (lv_at hl 0 rfl) ?_
  refine lv_aload_n hx hb d_Parser_parseTry_48 rfl (lv_at hl 1 rfl) ?_
  refine lv_iload_n hx hb d_Parser_parseTry_49 rfl (lv_at hl 2 rfl) ?_
  refine lv_iconst (v := 1) hx hb d_Parser_parseTry_50 (by decide) ?_
  refine lv_iadd hx hb d_Parser_parseTry_51 ?_
  replace hR := bi_e hR
  obtain ⟨r6, l6, T6, hc6, hR⟩ := hR
  refine gcV_i (rest := [.int r1, .ref (ad 20)]) ⟨hx, hb, hml, hown, hT⟩ (h_Parser_parseBlock _ _ _ _ _ hc6) (cwV 1 hT (gV ml_Parser_135 im_Parser_parseBlock se_Parser_parseBlock ini_Parser co_Parser_parseBlock) rfl rfl rfl pd_Parser_parseBlock ⟨rm_hi, rm_lo (Nat.le_of_ble_eq_true rfl)⟩) hK hP hD hS hA hnw henv (Nat.le_of_ble_eq_true rfl) rfl rfl hl.1 rfl (Nat.le_of_ble_eq_true rfl) d_Parser_parseTry_52 ⟨Nat.le_refl _, Nat.le_refl _⟩ (fun H locs hP hD hS => ?_)
  clear hc6
  replace hR := gd_e hR
  obtain ⟨b7, hR⟩ := hR
  refine saH_8 hx hb hK hP hD hS b7 d_Parser_parseTry_55 (fun T7 eT H locs hP hD hS => ?_)
  replace hR := stK_e eT hR
  clear eT
  refine lv_iload_n hx hb d_Parser_parseTry_56 rfl (lv_at hl 0 rfl) ?_
  obtain ⟨e1, -, e3⟩ := re_e hR
  subst e1; subst e3
  exact W.iret (v := r1) hx hb hr (fun t ht hW => ⟨⟨r1, (), rfl, rfl, by rw [ht]; exact hP, va_K.moved hW.alike hK, hD⟩, hS.F ht⟩) hS.2.2 d_Parser_parseTry_57
set_option maxHeartbeats 4000000 in
set_option maxRecDepth 100000 in
theorem sp_Parser_parseWordStep (l : Launch) (dC : Nat → ClassId) (dI : Nat → Nat → Nat) (ea ev ad : Nat → Nat) (km : Nat → ClassId) (F : gF) (nf d : Nat) (h_Source_addNode : mt_Source_addNode l dC dI ea ev ad km F d) (h_Parser_advance : mt_Parser_advance l dC dI ea ev ad km F d) (h_Parser_need : mt_Parser_need l dC dI ea ev ad km F d) (h_Parser_parseExpr : mt_Parser_parseExpr l dC dI ea ev ad km F d) (T0 : gSt) (p1 : Int32) (p2 : Int32) (r0 : Int32) (rl0 : Int64) (T9 : gSt) (hR : rb_Parser_parseWordStep F nf T0 p1 p2 = some (r0, rl0, T9)) : GMi l dC dI LH ad km ea ev y_Parser_parseWordStep w_Parser_parseWordStep (rmD (d + 1)) [.ref (ad 4), .int p1, .int p2] T0 r0 T9 := by
  intro sz
  refine Met.ofW (cc := b_Parser_parseWordStep) (maxL := 4) (ret := (some .int)) (by decide) rfl ?_
  intro p e s m args below meth c s₁ B hml hv
  obtain ⟨rfl, hsz, hP, hK, hD0, hnw, henv⟩ := hv
  have hx := B.exec
  have hb := B.bytes
  have hr := B.returns
  have hT : ∀ w ∈ lw_good, w.before _ s = true := fun w h => atoms_spec (ws := w_Parser_parseWordStep) B.pre w (List.mem_cons_of_mem _ h)
  have hown : s.vm.findClass R_Parser = some m.cls := findClass_of_methodNamed B.named
  subst hsz
  have hD := hD0.self (sz := s.heap.size)
  clear hD0
  generalize hAe : va_A (gW LH ad km T0) s.heap.size = A at hD henv ⊢
  have hA : ∀ q : Nat, s.heap.size ≤ q → A q := fun q h => by rw [← hAe]; exact Or.inr h
  have hS : va_S A s.heap s.heap [] := va_S.rf
  have hl := lv_entry ([.ref (ad 4), .int p1, .int p2]) (n := 4) (Nat.le_of_ble_eq_true rfl)
  rw [lg_entry_eq]
  generalize (lg_sl ([.ref (ad 4), .int p1, .int p2]) ++ List.replicate (4 - (lg_sl ([.ref (ad 4), .int p1, .int p2])).length) Slot.unset).toArray = ls at hl ⊢
  have hl : lv_has ls 4 [(0, .ref (ad 4)), (1, .int p1), (2, .int p2)] := hl
  obtain ⟨G, hG⟩ : ∃ G : Nat → List (Nat × Value) → List Value → gSt → Prop, G = (fun pc lv stk T => ∀ (H : Heap) (locs : List Loc), va_P (dC, dI) cls_all (gW LH ad km T) H → va_D A (gW LH ad km T) → va_S A s.heap H locs → ∀ (ls : Array Slot), lv_has ls 4 lv → W p l e (headSpec w_Parser_parseWordStep (rmD (d + 1))).room s m ([.ref (ad 4), .int p1, .int p2] : List Value).toArray below meth c H locs 0 0 (MQ below (va_Qi (fun (z : Int32) (_ : Unit) => z = r0) (fun _ t => gPost dC dI LH ad km T9 A t) A) ([.ref (ad 4), .int p1, .int p2] : List Value).toArray s 0 0 A) (F0 m pc ls stk)) := ⟨_, rfl⟩
  have lb_32 : ∀ (T : gSt) (x2 : Int32) (x3 : Int32), rj_Parser_parseWordStep_32 F nf T x2 x3 = some (r0, rl0, T9) → G 32 [(0, .ref (ad 4)), (2, .int x2), (3, .int x3)] [] T := by
    intro T x2 x3 hR; unfold rj_Parser_parseWordStep_32 at hR; rw [hG]; intro H locs hP hD hS ls hl
    refine lv_aload_n hx hb d_Parser_parseWordStep_32 rfl (lv_at hl 0 rfl) ?_
    refine rd_Parser_9 hx hb hT hown hK hP d_Parser_parseWordStep_33 ?_
    refine rd_Parser_169 hx hb hT hown hK hP d_Parser_parseWordStep_36 ?_
    refine lv_iload_n hx hb d_Parser_parseWordStep_39 rfl (lv_at hl 2 rfl) ?_
    refine lv_aload_n hx hb d_Parser_parseWordStep_40 rfl (lv_at hl 0 rfl) ?_
    refine lv_iload_n hx hb d_Parser_parseWordStep_41 rfl (lv_at hl 1 rfl) ?_
    refine lv_iconst (v := 1) hx hb d_Parser_parseWordStep_42 (by decide) ?_
    refine lv_iadd hx hb d_Parser_parseWordStep_43 ?_
    replace hR := bi_e hR
    obtain ⟨r7, l7, T7, hc7, hR⟩ := hR
    refine gcV_i (rest := [.int x3, .ref (ad 19)]) ⟨hx, hb, hml, hown, hT⟩ (h_Parser_parseExpr _ _ _ _ _ hc7) (cwV 1 hT (gV ml_Parser_172 im_Parser_parseExpr se_Parser_parseExpr ini_Parser co_Parser_parseExpr) rfl rfl rfl pd_Parser_parseExpr ⟨rm_hi, rm_lo (Nat.le_of_ble_eq_true rfl)⟩) hK hP hD hS hA hnw henv (Nat.le_of_ble_eq_true rfl) rfl rfl hl.1 rfl (Nat.le_of_ble_eq_true rfl) d_Parser_parseWordStep_44 ⟨Nat.le_refl _, Nat.le_refl _⟩ (fun H locs hP hD hS => ?_)
    clear hc7
    replace hR := gd_e hR
    obtain ⟨b8, hR⟩ := hR
    refine saH_7 hx hb hK hP hD hS b8 d_Parser_parseWordStep_47 (fun T8 eT H locs hP hD hS => ?_)
    replace hR := stK_e eT hR
    clear eT
    refine lv_aload_n hx hb d_Parser_parseWordStep_48 rfl (lv_at hl 0 rfl) ?_
    refine lv_bipush (v := 46) hx hb d_Parser_parseWordStep_49 (by decide) ?_
    replace hR := bi_e hR
    obtain ⟨r9, l9, T9, hc9, hR⟩ := hR
    refine gcV_v (rest := []) ⟨hx, hb, hml, hown, hT⟩ (h_Parser_need _ _ _ _ _ hc9) (cwV 1 hT (gV ml_Parser_85 im_Parser_need se_Parser_need ini_Parser co_Parser_need) rfl rfl rfl pd_Parser_need ⟨rm_hi, rm_lo (Nat.le_of_ble_eq_true rfl)⟩) hK hP hD hS hA hnw henv (Nat.le_of_ble_eq_true rfl) rfl rfl hl.1 rfl (Nat.le_of_ble_eq_true rfl) d_Parser_parseWordStep_51 ⟨Nat.le_refl _, Nat.le_refl _⟩ (fun H locs hP hD hS => ?_)
    clear hc9
    refine lv_iload_n hx hb d_Parser_parseWordStep_54 rfl (lv_at hl 2 rfl) ?_
    obtain ⟨e1, -, e3⟩ := re_e hR
    subst e1; subst e3
    exact W.iret (v := x3) hx hb hr (fun t ht hW => ⟨⟨x3, (), rfl, rfl, by rw [ht]; exact hP, va_K.moved hW.alike hK, hD⟩, hS.F ht⟩) hS.2.2 d_Parser_parseWordStep_55
  unfold rb_Parser_parseWordStep at hR
  refine lv_aload_n hx hb d_Parser_parseWordStep_0 rfl (lv_at hl 0 rfl) ?_
  refine rd_Parser_9 hx hb hT hown hK hP d_Parser_parseWordStep_1 ?_
  refine lv_iload_n hx hb d_Parser_parseWordStep_4 rfl (lv_at hl 1 rfl) ?_
  refine lv_aload_n hx hb d_Parser_parseWordStep_5 rfl (lv_at hl 0 rfl) ?_
  refine rd_Parser_23 hx hb hT hown hK hP d_Parser_parseWordStep_6 ?_
  replace hR := bi_e hR
  obtain ⟨r1, l1, T1, hc1, hR⟩ := hR
  refine gcV_i (rest := []) ⟨hx, hb, hml, hown, hT⟩ (h_Source_addNode _ _ _ _ _ _ hc1) (cwV 2 hT (gV ml_Parser_166 im_Source_addNode se_Source_addNode ini_Source co_Source_addNode) rfl rfl rfl pd_Source_addNode ⟨rm_hi, rm_lo (Nat.le_of_ble_eq_true rfl)⟩) hK hP hD hS hA hnw henv (Nat.le_of_ble_eq_true rfl) rfl rfl hl.1 rfl (Nat.le_of_ble_eq_true rfl) d_Parser_parseWordStep_9 ⟨Nat.le_refl _, Nat.le_refl _⟩ (fun H locs hP hD hS => ?_)
  clear hc1
  refine lv_istore_n (lv' := [(3, .int r1), (0, .ref (ad 4)), (1, .int p1), (2, .int p2)]) hx hb d_Parser_parseWordStep_12 rfl hl (by decide) rfl (fun ls hl => ?_)
  refine lv_aload_n hx hb d_Parser_parseWordStep_13 rfl (lv_at hl 1 rfl) ?_
  replace hR := bi_e hR
  obtain ⟨r2, l2, T2, hc2, hR⟩ := hR
  refine gcV_v (rest := []) ⟨hx, hb, hml, hown, hT⟩ (h_Parser_advance _ _ _ _ hc2) (cwV 0 hT (gV ml_Parser_59 im_Parser_advance se_Parser_advance ini_Parser co_Parser_advance) rfl rfl rfl pd_Parser_advance ⟨rm_hi, rm_lo (Nat.le_of_ble_eq_true rfl)⟩) hK hP hD hS hA hnw henv (Nat.le_of_ble_eq_true rfl) rfl rfl hl.1 rfl (Nat.le_of_ble_eq_true rfl) d_Parser_parseWordStep_14 ⟨Nat.le_refl _, Nat.le_refl _⟩ (fun H locs hP hD hS => ?_)
  clear hc2
  refine lv_iload_n hx hb d_Parser_parseWordStep_17 rfl (lv_at hl 2 rfl) ?_
  refine lv_bipush (v := 19) hx hb d_Parser_parseWordStep_18 (by decide) ?_
  refine lv_icmp_ne (tgt := 32) hx hb d_Parser_parseWordStep_20 (by decide) (fun c3 => ?_) (fun c3 => ?_)
  · replace hR := if_n c3 hR
    have g := lb_32 T2 p2 r1 hR
    rw [hG] at g
    exact g _ _ hP hD hS _ (lv_sub hl [1, 3, 0] rfl)
  · replace hR := if_p c3 hR
    refine lv_aload_n hx hb d_Parser_parseWordStep_23 rfl (lv_at hl 1 rfl) ?_
    refine rd_Parser_33 hx hb hT hown hK hP d_Parser_parseWordStep_24 ?_
    refine lv_bipush (v := 46) hx hb d_Parser_parseWordStep_27 (by decide) ?_
    refine lv_icmp_eq (tgt := 48) hx hb d_Parser_parseWordStep_29 (by decide) (fun c4 => ?_) (fun c4 => ?_)
    · replace hR := if_p c4 hR
      refine lv_aload_n hx hb d_Parser_parseWordStep_48 rfl (lv_at hl 1 rfl) ?_
      refine lv_bipush (v := 46) hx hb d_Parser_parseWordStep_49 (by decide) ?_
      replace hR := bi_e hR
      obtain ⟨r5, l5, T5, hc5, hR⟩ := hR
      refine gcV_v (rest := []) ⟨hx, hb, hml, hown, hT⟩ (h_Parser_need _ _ _ _ _ hc5) (cwV 1 hT (gV ml_Parser_85 im_Parser_need se_Parser_need ini_Parser co_Parser_need) rfl rfl rfl pd_Parser_need ⟨rm_hi, rm_lo (Nat.le_of_ble_eq_true rfl)⟩) hK hP hD hS hA hnw henv (Nat.le_of_ble_eq_true rfl) rfl rfl hl.1 rfl (Nat.le_of_ble_eq_true rfl) d_Parser_parseWordStep_51 ⟨Nat.le_refl _, Nat.le_refl _⟩ (fun H locs hP hD hS => ?_)
      clear hc5
      refine lv_iload_n hx hb d_Parser_parseWordStep_54 rfl (lv_at hl 0 rfl) ?_
      obtain ⟨e1, -, e3⟩ := re_e hR
      subst e1; subst e3
      exact W.iret (v := r1) hx hb hr (fun t ht hW => ⟨⟨r1, (), rfl, rfl, by rw [ht]; exact hP, va_K.moved hW.alike hK, hD⟩, hS.F ht⟩) hS.2.2 d_Parser_parseWordStep_55
    · replace hR := if_n c4 hR
      have g := lb_32 T2 p2 r1 hR
      rw [hG] at g
      exact g _ _ hP hD hS _ (lv_sub hl [1, 3, 0] rfl)
set_option maxHeartbeats 4000000 in
set_option maxRecDepth 100000 in
theorem sp_Parser_parsePlain (l : Launch) (dC : Nat → ClassId) (dI : Nat → Nat → Nat) (ea ev ad : Nat → Nat) (km : Nat → ClassId) (F : gF) (nf d : Nat) (h_Source_addNode : mt_Source_addNode l dC dI ea ev ad km F d) (h_Parser_parseExpr : mt_Parser_parseExpr l dC dI ea ev ad km F d) (h_Parser_accept : mt_Parser_accept l dC dI ea ev ad km F d) (h_Parser_need : mt_Parser_need l dC dI ea ev ad km F d) (T0 : gSt) (p1 : Int32) (r0 : Int32) (rl0 : Int64) (T9 : gSt) (hR : rb_Parser_parsePlain F nf T0 p1 = some (r0, rl0, T9)) : GMi l dC dI LH ad km ea ev y_Parser_parsePlain w_Parser_parsePlain (rmD (d + 1)) [.ref (ad 4), .int p1] T0 r0 T9 := by
  intro sz
  refine Met.ofW (cc := b_Parser_parsePlain) (maxL := 4) (ret := (some .int)) (by decide) rfl ?_
  intro p e s m args below meth c s₁ B hml hv
  obtain ⟨rfl, hsz, hP, hK, hD0, hnw, henv⟩ := hv
  have hx := B.exec
  have hb := B.bytes
  have hr := B.returns
  have hT : ∀ w ∈ lw_good, w.before _ s = true := fun w h => atoms_spec (ws := w_Parser_parsePlain) B.pre w (List.mem_cons_of_mem _ h)
  have hown : s.vm.findClass R_Parser = some m.cls := findClass_of_methodNamed B.named
  subst hsz
  have hD := hD0.self (sz := s.heap.size)
  clear hD0
  generalize hAe : va_A (gW LH ad km T0) s.heap.size = A at hD henv ⊢
  have hA : ∀ q : Nat, s.heap.size ≤ q → A q := fun q h => by rw [← hAe]; exact Or.inr h
  have hS : va_S A s.heap s.heap [] := va_S.rf
  have hl := lv_entry ([.ref (ad 4), .int p1]) (n := 4) (Nat.le_of_ble_eq_true rfl)
  rw [lg_entry_eq]
  generalize (lg_sl ([.ref (ad 4), .int p1]) ++ List.replicate (4 - (lg_sl ([.ref (ad 4), .int p1])).length) Slot.unset).toArray = ls at hl ⊢
  have hl : lv_has ls 4 [(0, .ref (ad 4)), (1, .int p1)] := hl
  unfold rb_Parser_parsePlain at hR
  refine lv_aload_n hx hb d_Parser_parsePlain_0 rfl (lv_at hl 0 rfl) ?_
  refine rd_Parser_9 hx hb hT hown hK hP d_Parser_parsePlain_1 ?_
  refine lv_bipush (v := 64) hx hb d_Parser_parsePlain_4 (by decide) ?_
  refine lv_aload_n hx hb d_Parser_parsePlain_6 rfl (lv_at hl 0 rfl) ?_
  refine rd_Parser_23 hx hb hT hown hK hP d_Parser_parsePlain_7 ?_
  replace hR := bi_e hR
  obtain ⟨r1, l1, T1, hc1, hR⟩ := hR
  refine gcV_i (rest := []) ⟨hx, hb, hml, hown, hT⟩ (h_Source_addNode _ _ _ _ _ _ hc1) (cwV 2 hT (gV ml_Parser_166 im_Source_addNode se_Source_addNode ini_Source co_Source_addNode) rfl rfl rfl pd_Source_addNode ⟨rm_hi, rm_lo (Nat.le_of_ble_eq_true rfl)⟩) hK hP hD hS hA hnw henv (Nat.le_of_ble_eq_true rfl) rfl rfl hl.1 rfl (Nat.le_of_ble_eq_true rfl) d_Parser_parsePlain_10 ⟨Nat.le_refl _, Nat.le_refl _⟩ (fun H locs hP hD hS => ?_)
  clear hc1
  refine lv_istore_n (lv' := [(2, .int r1), (0, .ref (ad 4)), (1, .int p1)]) hx hb d_Parser_parsePlain_13 rfl hl (by decide) rfl (fun ls hl => ?_)
  refine lv_aload_n hx hb d_Parser_parsePlain_14 rfl (lv_at hl 1 rfl) ?_
  refine lv_iload_n hx hb d_Parser_parsePlain_15 rfl (lv_at hl 2 rfl) ?_
  refine lv_iconst (v := 1) hx hb d_Parser_parsePlain_16 (by decide) ?_
  refine lv_iadd hx hb d_Parser_parsePlain_17 ?_
  replace hR := bi_e hR
  obtain ⟨r2, l2, T2, hc2, hR⟩ := hR
  refine gcV_i (rest := []) ⟨hx, hb, hml, hown, hT⟩ (h_Parser_parseExpr _ _ _ _ _ hc2) (cwV 1 hT (gV ml_Parser_172 im_Parser_parseExpr se_Parser_parseExpr ini_Parser co_Parser_parseExpr) rfl rfl rfl pd_Parser_parseExpr ⟨rm_hi, rm_lo (Nat.le_of_ble_eq_true rfl)⟩) hK hP hD hS hA hnw henv (Nat.le_of_ble_eq_true rfl) rfl rfl hl.1 rfl (Nat.le_of_ble_eq_true rfl) d_Parser_parsePlain_18 ⟨Nat.le_refl _, Nat.le_refl _⟩ (fun H locs hP hD hS => ?_)
  clear hc2
  refine lv_istore_n (lv' := [(3, .int r2), (2, .int r1), (0, .ref (ad 4)), (1, .int p1)]) hx hb d_Parser_parsePlain_21 rfl hl (by decide) rfl (fun ls hl => ?_)
  refine lv_aload_n hx hb d_Parser_parsePlain_22 rfl (lv_at hl 2 rfl) ?_
  refine lv_bipush (v := 50) hx hb d_Parser_parsePlain_23 (by decide) ?_
  replace hR := bi_e hR
  obtain ⟨r3, l3, T3, hc3, hR⟩ := hR
  refine gcV_i (rest := []) ⟨hx, hb, hml, hown, hT⟩ (h_Parser_accept _ _ _ _ _ hc3) (cwV 1 hT (gV ml_Parser_125 im_Parser_accept se_Parser_accept ini_Parser co_Parser_accept) rfl rfl rfl pd_Parser_accept ⟨rm_hi, rm_lo (Nat.le_of_ble_eq_true rfl)⟩) hK hP hD hS hA hnw henv (Nat.le_of_ble_eq_true rfl) rfl rfl hl.1 rfl (Nat.le_of_ble_eq_true rfl) d_Parser_parsePlain_25 ⟨Nat.le_refl _, Nat.le_refl _⟩ (fun H locs hP hD hS => ?_)
  clear hc3
  refine lv_if_eq (tgt := 71) hx hb d_Parser_parsePlain_28 (by decide) (fun c4 => ?_) (fun c4 => ?_)
  · replace hR := if_p c4 hR
    refine lv_aload_n hx hb d_Parser_parsePlain_71 rfl (lv_at hl 2 rfl) ?_
    refine rd_Parser_9 hx hb hT hown hK hP d_Parser_parsePlain_72 ?_
    refine rd_Parser_169 hx hb hT hown hK hP d_Parser_parsePlain_75 ?_
    refine lv_iload_n hx hb d_Parser_parsePlain_78 rfl (lv_at hl 1 rfl) ?_
    refine lv_iload_n hx hb d_Parser_parsePlain_79 rfl (lv_at hl 0 rfl) ?_
    replace hR := gd_e hR
    obtain ⟨b5, hR⟩ := hR
    refine saH_7 hx hb hK hP hD hS b5 d_Parser_parsePlain_80 (fun T5 eT H locs hP hD hS => ?_)
    replace hR := stK_e eT hR
    clear eT
    refine lv_aload_n hx hb d_Parser_parsePlain_81 rfl (lv_at hl 2 rfl) ?_
    refine lv_bipush (v := 46) hx hb d_Parser_parsePlain_82 (by decide) ?_
    replace hR := bi_e hR
    obtain ⟨r6, l6, T6, hc6, hR⟩ := hR
    refine gcV_v (rest := []) ⟨hx, hb, hml, hown, hT⟩ (h_Parser_need _ _ _ _ _ hc6) (cwV 1 hT (gV ml_Parser_85 im_Parser_need se_Parser_need ini_Parser co_Parser_need) rfl rfl rfl pd_Parser_need ⟨rm_hi, rm_lo (Nat.le_of_ble_eq_true rfl)⟩) hK hP hD hS hA hnw henv (Nat.le_of_ble_eq_true rfl) rfl rfl hl.1 rfl (Nat.le_of_ble_eq_true rfl) d_Parser_parsePlain_84 ⟨Nat.le_refl _, Nat.le_refl _⟩ (fun H locs hP hD hS => ?_)
    clear hc6
    refine lv_iload_n hx hb d_Parser_parsePlain_87 rfl (lv_at hl 1 rfl) ?_
    obtain ⟨e1, -, e3⟩ := re_e hR
    subst e1; subst e3
    exact W.iret (v := r1) hx hb hr (fun t ht hW => ⟨⟨r1, (), rfl, rfl, by rw [ht]; exact hP, va_K.moved hW.alike hK, hD⟩, hS.F ht⟩) hS.2.2 d_Parser_parsePlain_88
  · replace hR := if_n c4 hR
    refine lv_aload_n hx hb d_Parser_parsePlain_31 rfl (lv_at hl 2 rfl) ?_
    refine rd_Parser_9 hx hb hT hown hK hP d_Parser_parsePlain_32 ?_
    refine rd_Parser_181 hx hb hT hown hK hP d_Parser_parsePlain_35 ?_
    refine lv_iload_n hx hb d_Parser_parsePlain_38 rfl (lv_at hl 1 rfl) ?_
    refine lv_bipush (v := 50) hx hb d_Parser_parsePlain_39 (by decide) ?_
    replace hR := gd_e hR
    obtain ⟨b8, hR⟩ := hR
    refine saH_1 hx hb hK hP hD hS b8 d_Parser_parsePlain_41 (fun T8 eT H locs hP hD hS => ?_)
    replace hR := stK_e eT hR
    clear eT
    refine lv_aload_n hx hb d_Parser_parsePlain_42 rfl (lv_at hl 2 rfl) ?_
    refine rd_Parser_9 hx hb hT hown hK hP d_Parser_parsePlain_43 ?_
    refine rd_Parser_175 hx hb hT hown hK hP d_Parser_parsePlain_46 ?_
    refine lv_iload_n hx hb d_Parser_parsePlain_49 rfl (lv_at hl 1 rfl) ?_
    refine lv_iload_n hx hb d_Parser_parsePlain_50 rfl (lv_at hl 0 rfl) ?_
    replace hR := gd_e hR
    obtain ⟨b9, hR⟩ := hR
    refine saH_6 hx hb hK hP hD hS b9 d_Parser_parsePlain_51 (fun T9 eT H locs hP hD hS => ?_)
    replace hR := stK_e eT hR
    clear eT
    refine lv_aload_n hx hb d_Parser_parsePlain_52 rfl (lv_at hl 2 rfl) ?_
    refine rd_Parser_9 hx hb hT hown hK hP d_Parser_parsePlain_53 ?_
    refine rd_Parser_169 hx hb hT hown hK hP d_Parser_parsePlain_56 ?_
    refine lv_iload_n hx hb d_Parser_parsePlain_59 rfl (lv_at hl 1 rfl) ?_
    refine lv_aload_n hx hb d_Parser_parsePlain_60 rfl (lv_at hl 2 rfl) ?_
    refine lv_iload_n hx hb d_Parser_parsePlain_61 rfl (lv_at hl 3 rfl) ?_
    refine lv_iconst (v := 1) hx hb d_Parser_parsePlain_62 (by decide) ?_
    refine lv_iadd hx hb d_Parser_parsePlain_63 ?_
    replace hR := bi_e hR
    obtain ⟨r10, l10, T10, hc10, hR⟩ := hR
    refine gcV_i (rest := [.int r1, .ref (ad 19)]) ⟨hx, hb, hml, hown, hT⟩ (h_Parser_parseExpr _ _ _ _ _ hc10) (cwV 1 hT (gV ml_Parser_172 im_Parser_parseExpr se_Parser_parseExpr ini_Parser co_Parser_parseExpr) rfl rfl rfl pd_Parser_parseExpr ⟨rm_hi, rm_lo (Nat.le_of_ble_eq_true rfl)⟩) hK hP hD hS hA hnw henv (Nat.le_of_ble_eq_true rfl) rfl rfl hl.1 rfl (Nat.le_of_ble_eq_true rfl) d_Parser_parsePlain_64 ⟨Nat.le_refl _, Nat.le_refl _⟩ (fun H locs hP hD hS => ?_)
    clear hc10
    replace hR := gd_e hR
    obtain ⟨b11, hR⟩ := hR
    refine saH_7 hx hb hK hP hD hS b11 d_Parser_parsePlain_67 (fun T11 eT H locs hP hD hS => ?_)
    replace hR := stK_e eT hR
    clear eT
    refine lv_goto (tgt := 81) hx hb d_Parser_parsePlain_68 (by decide) ?_
    refine lv_aload_n hx hb d_Parser_parsePlain_81 rfl (lv_at hl 2 rfl) ?_
    refine lv_bipush (v := 46) hx hb d_Parser_parsePlain_82 (by decide) ?_
    replace hR := bi_e hR
    obtain ⟨r12, l12, T12, hc12, hR⟩ := hR
    refine gcV_v (rest := []) ⟨hx, hb, hml, hown, hT⟩ (h_Parser_need _ _ _ _ _ hc12) (cwV 1 hT (gV ml_Parser_85 im_Parser_need se_Parser_need ini_Parser co_Parser_need) rfl rfl rfl pd_Parser_need ⟨rm_hi, rm_lo (Nat.le_of_ble_eq_true rfl)⟩) hK hP hD hS hA hnw henv (Nat.le_of_ble_eq_true rfl) rfl rfl hl.1 rfl (Nat.le_of_ble_eq_true rfl) d_Parser_parsePlain_84 ⟨Nat.le_refl _, Nat.le_refl _⟩ (fun H locs hP hD hS => ?_)
    clear hc12
    refine lv_iload_n hx hb d_Parser_parsePlain_87 rfl (lv_at hl 1 rfl) ?_
    obtain ⟨e1, -, e3⟩ := re_e hR
    subst e1; subst e3
    exact W.iret (v := r1) hx hb hr (fun t ht hW => ⟨⟨r1, (), rfl, rfl, by rw [ht]; exact hP, va_K.moved hW.alike hK, hD⟩, hS.F ht⟩) hS.2.2 d_Parser_parsePlain_88
set_option maxHeartbeats 4000000 in
set_option maxRecDepth 100000 in
theorem sp_Parser_parseExpr (l : Launch) (dC : Nat → ClassId) (dI : Nat → Nat → Nat) (ea ev ad : Nat → Nat) (km : Nat → ClassId) (F : gF) (nf d : Nat) (h_Parser_parseTerm : mt_Parser_parseTerm l dC dI ea ev ad km F d) (h_Parser_seesOperator : mt_Parser_seesOperator l dC dI ea ev ad km F d) (h_Parser_advance : mt_Parser_advance l dC dI ea ev ad km F d) (T0 : gSt) (p1 : Int32) (r0 : Int32) (rl0 : Int64) (T9 : gSt) (hR : rb_Parser_parseExpr F nf T0 p1 = some (r0, rl0, T9)) : GMi l dC dI LH ad km ea ev y_Parser_parseExpr w_Parser_parseExpr (rmD (d + 1)) [.ref (ad 4), .int p1] T0 r0 T9 := by
  intro sz
  refine Met.ofW (cc := b_Parser_parseExpr) (maxL := 7) (ret := (some .int)) (by decide) rfl ?_
  intro p e s m args below meth c s₁ B hml hv
  obtain ⟨rfl, hsz, hP, hK, hD0, hnw, henv⟩ := hv
  have hx := B.exec
  have hb := B.bytes
  have hr := B.returns
  have hT : ∀ w ∈ lw_good, w.before _ s = true := fun w h => atoms_spec (ws := w_Parser_parseExpr) B.pre w (List.mem_cons_of_mem _ h)
  have hown : s.vm.findClass R_Parser = some m.cls := findClass_of_methodNamed B.named
  subst hsz
  have hD := hD0.self (sz := s.heap.size)
  clear hD0
  generalize hAe : va_A (gW LH ad km T0) s.heap.size = A at hD henv ⊢
  have hA : ∀ q : Nat, s.heap.size ≤ q → A q := fun q h => by rw [← hAe]; exact Or.inr h
  have hS : va_S A s.heap s.heap [] := va_S.rf
  have hl := lv_entry ([.ref (ad 4), .int p1]) (n := 7) (Nat.le_of_ble_eq_true rfl)
  rw [lg_entry_eq]
  generalize (lg_sl ([.ref (ad 4), .int p1]) ++ List.replicate (7 - (lg_sl ([.ref (ad 4), .int p1])).length) Slot.unset).toArray = ls at hl ⊢
  have hl : lv_has ls 7 [(0, .ref (ad 4)), (1, .int p1)] := hl
  obtain ⟨G, hG⟩ : ∃ G : Nat → List (Nat × Value) → List Value → gSt → Prop, G = (fun pc lv stk T => ∀ (H : Heap) (locs : List Loc), va_P (dC, dI) cls_all (gW LH ad km T) H → va_D A (gW LH ad km T) → va_S A s.heap H locs → ∀ (ls : Array Slot), lv_has ls 7 lv → W p l e (headSpec w_Parser_parseExpr (rmD (d + 1))).room s m ([.ref (ad 4), .int p1] : List Value).toArray below meth c H locs 0 0 (MQ below (va_Qi (fun (z : Int32) (_ : Unit) => z = r0) (fun _ t => gPost dC dI LH ad km T9 A t) A) ([.ref (ad 4), .int p1] : List Value).toArray s 0 0 A) (F0 m pc ls stk)) := ⟨_, rfl⟩
  have lb_11 : ∀ (n : Nat) (T : gSt) (x1 : Int32) (x2 : Int32) (x3 : Int32) (x4 : Int32), rl_Parser_parseExpr_11 F nf n T x1 x2 x3 x4 = some (r0, rl0, T9) → G 11 [(0, .ref (ad 4)), (1, .int x1), (2, .int x2), (3, .int x3), (4, .int x4)] [] T := by
    intro n
    induction n with
    | zero => intro T x1 x2 x3 x4 hR; rw [rl_Parser_parseExpr_11] at hR; cases hR
    | succ n ih =>
      intro T x1 x2 x3 x4 hR; rw [rl_Parser_parseExpr_11] at hR; rw [hG]; intro H locs hP hD hS ls hl
      refine lv_iload hx hb d_Parser_parseExpr_11 (lv_at hl 4 rfl) ?_
      refine lv_sipush (v := 4000) hx hb d_Parser_parseExpr_13 (by decide) ?_
      refine lv_icmp_ge (tgt := 75) hx hb d_Parser_parseExpr_16 (by decide) (fun c2 => ?_) (fun c2 => ?_)
      · replace hR := if_p c2 hR
        refine lv_iload_n hx hb d_Parser_parseExpr_75 rfl (lv_at hl 2 rfl) ?_
        obtain ⟨e1, -, e3⟩ := re_e hR
        subst e1; subst e3
        exact W.iret (v := x2) hx hb hr (fun t ht hW => ⟨⟨x2, (), rfl, rfl, by rw [ht]; exact hP, va_K.moved hW.alike hK, hD⟩, hS.F ht⟩) hS.2.2 d_Parser_parseExpr_76
      · replace hR := if_n c2 hR
        refine lv_aload_n hx hb d_Parser_parseExpr_19 rfl (lv_at hl 0 rfl) ?_
        replace hR := bi_e hR
        obtain ⟨r4, l4, T4, hc4, hR⟩ := hR
        refine gcV_i (rest := []) ⟨hx, hb, hml, hown, hT⟩ (h_Parser_seesOperator _ _ _ _ hc4) (cwV 0 hT (gV ml_Parser_185 im_Parser_seesOperator se_Parser_seesOperator ini_Parser co_Parser_seesOperator) rfl rfl rfl pd_Parser_seesOperator ⟨rm_hi, rm_lo (Nat.le_of_ble_eq_true rfl)⟩) hK hP hD hS hA hnw henv (Nat.le_of_ble_eq_true rfl) rfl rfl hl.1 rfl (Nat.le_of_ble_eq_true rfl) d_Parser_parseExpr_20 ⟨Nat.le_refl _, Nat.le_refl _⟩ (fun H locs hP hD hS => ?_)
        clear hc4
        refine lv_if_eq (tgt := 75) hx hb d_Parser_parseExpr_23 (by decide) (fun c5 => ?_) (fun c5 => ?_)
        · replace hR := if_p c5 hR
          refine lv_iload_n hx hb d_Parser_parseExpr_75 rfl (lv_at hl 2 rfl) ?_
          obtain ⟨e1, -, e3⟩ := re_e hR
          subst e1; subst e3
          exact W.iret (v := x2) hx hb hr (fun t ht hW => ⟨⟨x2, (), rfl, rfl, by rw [ht]; exact hP, va_K.moved hW.alike hK, hD⟩, hS.F ht⟩) hS.2.2 d_Parser_parseExpr_76
        · replace hR := if_n c5 hR
          refine lv_aload_n hx hb d_Parser_parseExpr_26 rfl (lv_at hl 0 rfl) ?_
          refine rd_Parser_33 hx hb hT hown hK hP d_Parser_parseExpr_27 ?_
          refine lv_topi (fun z7 e7 => ?_)
          replace hR := vK_e e7 hR
          refine lv_istore (lv' := [(5, .int z7), (0, .ref (ad 4)), (1, .int x1), (2, .int x2), (3, .int x3), (4, .int x4)]) hx hb d_Parser_parseExpr_30 hl (by decide) rfl (fun ls hl => ?_)
          refine lv_aload_n hx hb d_Parser_parseExpr_32 rfl (lv_at hl 1 rfl) ?_
          replace hR := bi_e hR
          obtain ⟨r8, l8, T8, hc8, hR⟩ := hR
          refine gcV_v (rest := []) ⟨hx, hb, hml, hown, hT⟩ (h_Parser_advance _ _ _ _ hc8) (cwV 0 hT (gV ml_Parser_59 im_Parser_advance se_Parser_advance ini_Parser co_Parser_advance) rfl rfl rfl pd_Parser_advance ⟨rm_hi, rm_lo (Nat.le_of_ble_eq_true rfl)⟩) hK hP hD hS hA hnw henv (Nat.le_of_ble_eq_true rfl) rfl rfl hl.1 rfl (Nat.le_of_ble_eq_true rfl) d_Parser_parseExpr_33 ⟨Nat.le_refl _, Nat.le_refl _⟩ (fun H locs hP hD hS => ?_)
          clear hc8
          refine lv_aload_n hx hb d_Parser_parseExpr_36 rfl (lv_at hl 1 rfl) ?_
          refine lv_iload_n hx hb d_Parser_parseExpr_37 rfl (lv_at hl 2 rfl) ?_
          replace hR := bi_e hR
          obtain ⟨r9, l9, T9, hc9, hR⟩ := hR
          refine gcV_i (rest := []) ⟨hx, hb, hml, hown, hT⟩ (h_Parser_parseTerm _ _ _ _ _ hc9) (cwV 1 hT (gV ml_Parser_182 im_Parser_parseTerm se_Parser_parseTerm ini_Parser co_Parser_parseTerm) rfl rfl rfl pd_Parser_parseTerm ⟨rm_hi, rm_lo (Nat.le_of_ble_eq_true rfl)⟩) hK hP hD hS hA hnw henv (Nat.le_of_ble_eq_true rfl) rfl rfl hl.1 rfl (Nat.le_of_ble_eq_true rfl) d_Parser_parseExpr_38 ⟨Nat.le_refl _, Nat.le_refl _⟩ (fun H locs hP hD hS => ?_)
          clear hc9
          refine lv_istore (lv' := [(6, .int r9), (5, .int z7), (0, .ref (ad 4)), (1, .int x1), (2, .int x2), (3, .int x3), (4, .int x4)]) hx hb d_Parser_parseExpr_41 hl (by decide) rfl (fun ls hl => ?_)
          refine lv_aload_n hx hb d_Parser_parseExpr_43 rfl (lv_at hl 2 rfl) ?_
          refine rd_Parser_9 hx hb hT hown hK hP d_Parser_parseExpr_44 ?_
          refine rd_Parser_189 hx hb hT hown hK hP d_Parser_parseExpr_47 ?_
          refine lv_iload hx hb d_Parser_parseExpr_50 (lv_at hl 0 rfl) ?_
          refine lv_iload hx hb d_Parser_parseExpr_52 (lv_at hl 1 rfl) ?_
          replace hR := gd_e hR
          obtain ⟨b10, hR⟩ := hR
          refine saH_5 hx hb hK hP hD hS b10 d_Parser_parseExpr_54 (fun T10 eT H locs hP hD hS => ?_)
          replace hR := stK_e eT hR
          clear eT
          refine lv_aload_n hx hb d_Parser_parseExpr_55 rfl (lv_at hl 2 rfl) ?_
          refine rd_Parser_9 hx hb hT hown hK hP d_Parser_parseExpr_56 ?_
          refine rd_Parser_144 hx hb hT hown hK hP d_Parser_parseExpr_59 ?_
          refine lv_iload_n hx hb d_Parser_parseExpr_62 rfl (lv_at hl 5 rfl) ?_
          refine lv_iload hx hb d_Parser_parseExpr_63 (lv_at hl 0 rfl) ?_
          replace hR := gd_e hR
          obtain ⟨b11, hR⟩ := hR
          refine saH_3 hx hb hK hP hD hS b11 d_Parser_parseExpr_65 (fun T11 eT H locs hP hD hS => ?_)
          replace hR := stK_e eT hR
          clear eT
          refine lv_iload hx hb d_Parser_parseExpr_66 (lv_at hl 0 rfl) ?_
          refine lv_istore_n (lv' := [(3, .int r9), (6, .int r9), (5, .int z7), (0, .ref (ad 4)), (1, .int x1), (2, .int x2), (4, .int x4)]) hx hb d_Parser_parseExpr_68 rfl hl (by decide) rfl (fun ls hl => ?_)
          obtain ⟨z12, e12⟩ : ∃ y : Int32, y = x4 + (1 : Int32) := ⟨_, rfl⟩
          replace hR := vK_e e12 hR
          refine lv_iinc (v := z12) (lv' := [(4, .int z12), (3, .int r9), (6, .int r9), (5, .int z7), (0, .ref (ad 4)), (1, .int x1), (2, .int x2)]) hx hb d_Parser_parseExpr_69 hl (k := 6) rfl (by rw [e12]; rfl) (by decide) rfl (fun ls hl => ?_)
          refine lv_goto (tgt := 11) hx hb d_Parser_parseExpr_72 (by decide) ?_
          have g := ih T11 x1 x2 r9 z12 hR
          rw [hG] at g
          exact g _ _ hP hD hS _ (lv_sub hl [4, 5, 6, 1, 0] rfl)
  unfold rb_Parser_parseExpr at hR
  refine lv_aload_n hx hb d_Parser_parseExpr_0 rfl (lv_at hl 0 rfl) ?_
  refine lv_iload_n hx hb d_Parser_parseExpr_1 rfl (lv_at hl 1 rfl) ?_
  replace hR := bi_e hR
  obtain ⟨r1, l1, T1, hc1, hR⟩ := hR
  refine gcV_i (rest := []) ⟨hx, hb, hml, hown, hT⟩ (h_Parser_parseTerm _ _ _ _ _ hc1) (cwV 1 hT (gV ml_Parser_182 im_Parser_parseTerm se_Parser_parseTerm ini_Parser co_Parser_parseTerm) rfl rfl rfl pd_Parser_parseTerm ⟨rm_hi, rm_lo (Nat.le_of_ble_eq_true rfl)⟩) hK hP hD hS hA hnw henv (Nat.le_of_ble_eq_true rfl) rfl rfl hl.1 rfl (Nat.le_of_ble_eq_true rfl) d_Parser_parseExpr_2 ⟨Nat.le_refl _, Nat.le_refl _⟩ (fun H locs hP hD hS => ?_)
  clear hc1
  refine lv_istore_n (lv' := [(2, .int r1), (0, .ref (ad 4)), (1, .int p1)]) hx hb d_Parser_parseExpr_5 rfl hl (by decide) rfl (fun ls hl => ?_)
  refine lv_iload_n hx hb d_Parser_parseExpr_6 rfl (lv_at hl 0 rfl) ?_
  refine lv_istore_n (lv' := [(3, .int r1), (2, .int r1), (0, .ref (ad 4)), (1, .int p1)]) hx hb d_Parser_parseExpr_7 rfl hl (by decide) rfl (fun ls hl => ?_)
  refine lv_iconst (v := 0) hx hb d_Parser_parseExpr_8 (by decide) ?_
  refine lv_istore (lv' := [(4, .int (0 : Int32)), (3, .int r1), (2, .int r1), (0, .ref (ad 4)), (1, .int p1)]) hx hb d_Parser_parseExpr_9 hl (by decide) rfl (fun ls hl => ?_)
  have g := lb_11 nf T1 p1 r1 r1 (0 : Int32) hR
  rw [hG] at g
  exact g _ _ hP hD hS _ (lv_sub hl [3, 4, 2, 1, 0] rfl)
set_option maxHeartbeats 4000000 in
set_option maxRecDepth 100000 in
theorem sp_Parser_seesOperator (l : Launch) (dC : Nat → ClassId) (dI : Nat → Nat → Nat) (ea ev ad : Nat → Nat) (km : Nat → ClassId) (F : gF) (nf d : Nat) (T0 : gSt) (r0 : Int32) (rl0 : Int64) (T9 : gSt) (hR : rb_Parser_seesOperator F nf T0 = some (r0, rl0, T9)) : GMi l dC dI LH ad km ea ev y_Parser_seesOperator w_Parser_seesOperator (rmD (d + 1)) [.ref (ad 4)] T0 r0 T9 := by
  intro sz
  refine Met.ofW (cc := b_Parser_seesOperator) (maxL := 1) (ret := (some .boolean)) (by decide) rfl ?_
  intro p e s m args below meth c s₁ B hml hv
  obtain ⟨rfl, hsz, hP, hK, hD0, hnw, henv⟩ := hv
  have hx := B.exec
  have hb := B.bytes
  have hr := B.returns
  have hT : ∀ w ∈ lw_good, w.before _ s = true := fun w h => atoms_spec (ws := w_Parser_seesOperator) B.pre w (List.mem_cons_of_mem _ h)
  have hown : s.vm.findClass R_Parser = some m.cls := findClass_of_methodNamed B.named
  subst hsz
  have hD := hD0.self (sz := s.heap.size)
  clear hD0
  generalize hAe : va_A (gW LH ad km T0) s.heap.size = A at hD henv ⊢
  have hA : ∀ q : Nat, s.heap.size ≤ q → A q := fun q h => by rw [← hAe]; exact Or.inr h
  have hS : va_S A s.heap s.heap [] := va_S.rf
  have hl := lv_entry ([.ref (ad 4)]) (n := 1) (Nat.le_of_ble_eq_true rfl)
  rw [lg_entry_eq]
  generalize (lg_sl ([.ref (ad 4)]) ++ List.replicate (1 - (lg_sl ([.ref (ad 4)])).length) Slot.unset).toArray = ls at hl ⊢
  have hl : lv_has ls 1 [(0, .ref (ad 4))] := hl
  obtain ⟨G, hG⟩ : ∃ G : Nat → List (Nat × Value) → List Value → gSt → Prop, G = (fun pc lv stk T => ∀ (H : Heap) (locs : List Loc), va_P (dC, dI) cls_all (gW LH ad km T) H → va_D A (gW LH ad km T) → va_S A s.heap H locs → ∀ (ls : Array Slot), lv_has ls 1 lv → W p l e (headSpec w_Parser_seesOperator (rmD (d + 1))).room s m ([.ref (ad 4)] : List Value).toArray below meth c H locs 0 0 (MQ below (va_Qi (fun (z : Int32) (_ : Unit) => z = r0) (fun _ t => gPost dC dI LH ad km T9 A t) A) ([.ref (ad 4)] : List Value).toArray s 0 0 A) (F0 m pc ls stk)) := ⟨_, rfl⟩
  have lb_18 : ∀ (T : gSt), rj_Parser_seesOperator_18 F nf T = some (r0, rl0, T9) → G 18 [(0, .ref (ad 4))] [] T := by
    intro T hR; unfold rj_Parser_seesOperator_18 at hR; rw [hG]; intro H locs hP hD hS ls hl
    refine lv_aload_n hx hb d_Parser_seesOperator_18 rfl (lv_at hl 0 rfl) ?_
    refine rd_Parser_33 hx hb hT hown hK hP d_Parser_seesOperator_19 ?_
    refine lv_bipush (v := 62) hx hb d_Parser_seesOperator_22 (by decide) ?_
    refine lv_icmp_eq (tgt := 36) hx hb d_Parser_seesOperator_24 (by decide) (fun c4 => ?_) (fun c4 => ?_)
    · replace hR := if_p c4 hR
      refine lv_iconst (v := 1) hx hb d_Parser_seesOperator_36 (by decide) ?_
      refine lv_goto (tgt := 41) hx hb d_Parser_seesOperator_37 (by decide) ?_
      obtain ⟨e1, -, e3⟩ := re_e hR
      subst e1; subst e3
      exact W.zret (v := (1 : Int32)) hx hb hr (by first | rfl | decide) (fun t ht hW => ⟨⟨(1 : Int32), (), rfl, rfl, by rw [ht]; exact hP, va_K.moved hW.alike hK, hD⟩, hS.F ht⟩) hS.2.2 d_Parser_seesOperator_41
    · replace hR := if_n c4 hR
      refine lv_aload_n hx hb d_Parser_seesOperator_27 rfl (lv_at hl 0 rfl) ?_
      refine rd_Parser_33 hx hb hT hown hK hP d_Parser_seesOperator_28 ?_
      refine lv_bipush (v := 51) hx hb d_Parser_seesOperator_31 (by decide) ?_
      refine lv_icmp_ne (tgt := 40) hx hb d_Parser_seesOperator_33 (by decide) (fun c6 => ?_) (fun c6 => ?_)
      · replace hR := if_n c6 hR
        refine lv_iconst (v := 0) hx hb d_Parser_seesOperator_40 (by decide) ?_
        obtain ⟨e1, -, e3⟩ := re_e hR
        subst e1; subst e3
        exact W.zret (v := (0 : Int32)) hx hb hr (by first | rfl | decide) (fun t ht hW => ⟨⟨(0 : Int32), (), rfl, rfl, by rw [ht]; exact hP, va_K.moved hW.alike hK, hD⟩, hS.F ht⟩) hS.2.2 d_Parser_seesOperator_41
      · replace hR := if_p c6 hR
        refine lv_iconst (v := 1) hx hb d_Parser_seesOperator_36 (by decide) ?_
        refine lv_goto (tgt := 41) hx hb d_Parser_seesOperator_37 (by decide) ?_
        obtain ⟨e1, -, e3⟩ := re_e hR
        subst e1; subst e3
        exact W.zret (v := (1 : Int32)) hx hb hr (by first | rfl | decide) (fun t ht hW => ⟨⟨(1 : Int32), (), rfl, rfl, by rw [ht]; exact hP, va_K.moved hW.alike hK, hD⟩, hS.F ht⟩) hS.2.2 d_Parser_seesOperator_41
  unfold rb_Parser_seesOperator at hR
  refine lv_aload_n hx hb d_Parser_seesOperator_0 rfl (lv_at hl 0 rfl) ?_
  refine rd_Parser_33 hx hb hT hown hK hP d_Parser_seesOperator_1 ?_
  refine lv_bipush (v := 53) hx hb d_Parser_seesOperator_4 (by decide) ?_
  refine lv_icmp_lt (tgt := 18) hx hb d_Parser_seesOperator_6 (by decide) (fun c1 => ?_) (fun c1 => ?_)
  · replace hR := if_p c1 hR
    have g := lb_18 T0 hR
    rw [hG] at g
    exact g _ _ hP hD hS _ (lv_sub hl [0] rfl)
  · replace hR := if_n c1 hR
    refine lv_aload_n hx hb d_Parser_seesOperator_9 rfl (lv_at hl 0 rfl) ?_
    refine rd_Parser_33 hx hb hT hown hK hP d_Parser_seesOperator_10 ?_
    refine lv_bipush (v := 57) hx hb d_Parser_seesOperator_13 (by decide) ?_
    refine lv_icmp_le (tgt := 36) hx hb d_Parser_seesOperator_15 (by decide) (fun c2 => ?_) (fun c2 => ?_)
    · replace hR := if_p c2 hR
      refine lv_iconst (v := 1) hx hb d_Parser_seesOperator_36 (by decide) ?_
      refine lv_goto (tgt := 41) hx hb d_Parser_seesOperator_37 (by decide) ?_
      obtain ⟨e1, -, e3⟩ := re_e hR
      subst e1; subst e3
      exact W.zret (v := (1 : Int32)) hx hb hr (by first | rfl | decide) (fun t ht hW => ⟨⟨(1 : Int32), (), rfl, rfl, by rw [ht]; exact hP, va_K.moved hW.alike hK, hD⟩, hS.F ht⟩) hS.2.2 d_Parser_seesOperator_41
    · replace hR := if_n c2 hR
      have g := lb_18 T0 hR
      rw [hG] at g
      exact g _ _ hP hD hS _ (lv_sub hl [0] rfl)
set_option maxHeartbeats 4000000 in
set_option maxRecDepth 100000 in
theorem sp_Parser_parseTerm (l : Launch) (dC : Nat → ClassId) (dI : Nat → Nat → Nat) (ea ev ad : Nat → Nat) (km : Nat → ClassId) (F : gF) (nf d : Nat) (h_Parser_parsePrimary : mt_Parser_parsePrimary l dC dI ea ev ad km F d) (h_Parser_stop : mt_Parser_stop l dC dI ea ev ad km F d) (h_Parser_parseTail : mt_Parser_parseTail l dC dI ea ev ad km F d) (T0 : gSt) (p1 : Int32) (r0 : Int32) (rl0 : Int64) (T9 : gSt) (hR : rb_Parser_parseTerm F nf T0 p1 = some (r0, rl0, T9)) : GMi l dC dI LH ad km ea ev y_Parser_parseTerm w_Parser_parseTerm (rmD (d + 1)) [.ref (ad 4), .int p1] T0 r0 T9 := by
  intro sz
  refine Met.ofW (cc := b_Parser_parseTerm) (maxL := 6) (ret := (some .int)) (by decide) rfl ?_
  intro p e s m args below meth c s₁ B hml hv
  obtain ⟨rfl, hsz, hP, hK, hD0, hnw, henv⟩ := hv
  have hx := B.exec
  have hb := B.bytes
  have hr := B.returns
  have hT : ∀ w ∈ lw_good, w.before _ s = true := fun w h => atoms_spec (ws := w_Parser_parseTerm) B.pre w (List.mem_cons_of_mem _ h)
  have hown : s.vm.findClass R_Parser = some m.cls := findClass_of_methodNamed B.named
  subst hsz
  have hD := hD0.self (sz := s.heap.size)
  clear hD0
  generalize hAe : va_A (gW LH ad km T0) s.heap.size = A at hD henv ⊢
  have hA : ∀ q : Nat, s.heap.size ≤ q → A q := fun q h => by rw [← hAe]; exact Or.inr h
  have hS : va_S A s.heap s.heap [] := va_S.rf
  have hl := lv_entry ([.ref (ad 4), .int p1]) (n := 6) (Nat.le_of_ble_eq_true rfl)
  rw [lg_entry_eq]
  generalize (lg_sl ([.ref (ad 4), .int p1]) ++ List.replicate (6 - (lg_sl ([.ref (ad 4), .int p1])).length) Slot.unset).toArray = ls at hl ⊢
  have hl : lv_has ls 6 [(0, .ref (ad 4)), (1, .int p1)] := hl
  obtain ⟨G, hG⟩ : ∃ G : Nat → List (Nat × Value) → List Value → gSt → Prop, G = (fun pc lv stk T => ∀ (H : Heap) (locs : List Loc), va_P (dC, dI) cls_all (gW LH ad km T) H → va_D A (gW LH ad km T) → va_S A s.heap H locs → ∀ (ls : Array Slot), lv_has ls 6 lv → W p l e (headSpec w_Parser_parseTerm (rmD (d + 1))).room s m ([.ref (ad 4), .int p1] : List Value).toArray below meth c H locs 0 0 (MQ below (va_Qi (fun (z : Int32) (_ : Unit) => z = r0) (fun _ t => gPost dC dI LH ad km T9 A t) A) ([.ref (ad 4), .int p1] : List Value).toArray s 0 0 A) (F0 m pc ls stk)) := ⟨_, rfl⟩
  have lb_67 : ∀ (rec_23 : gSt → Int32 → Int32 → Int32 → Int32 → gR) (hrec_23 : ∀ (T : gSt) (x1 : Int32) (x2 : Int32) (x3 : Int32) (x4 : Int32), rec_23 T x1 x2 x3 x4 = some (r0, rl0, T9) → G 23 [(0, .ref (ad 4)), (1, .int x1), (2, .int x2), (3, .int x3), (4, .int x4)] [] T) (T : gSt) (x1 : Int32) (x2 : Int32) (x3 : Int32) (x4 : Int32), rj_Parser_parseTerm_67 F nf rec_23 T x1 x2 x3 x4 = some (r0, rl0, T9) → G 67 [(0, .ref (ad 4)), (1, .int x1), (2, .int x2), (3, .int x3), (4, .int x4)] [] T := by
    intro rec_23 hrec_23 T x1 x2 x3 x4 hR; unfold rj_Parser_parseTerm_67 at hR; rw [hG]; intro H locs hP hD hS ls hl
    refine lv_aload_n hx hb d_Parser_parseTerm_67 rfl (lv_at hl 0 rfl) ?_
    refine lv_iload_n hx hb d_Parser_parseTerm_68 rfl (lv_at hl 1 rfl) ?_
    replace hR := bi_e hR
    obtain ⟨r12, l12, T12, hc12, hR⟩ := hR
    refine gcV_i (rest := []) ⟨hx, hb, hml, hown, hT⟩ (h_Parser_parseTail _ _ _ _ _ hc12) (cwV 1 hT (gV ml_Parser_195 im_Parser_parseTail se_Parser_parseTail ini_Parser co_Parser_parseTail) rfl rfl rfl pd_Parser_parseTail ⟨rm_hi, rm_lo (Nat.le_of_ble_eq_true rfl)⟩) hK hP hD hS hA hnw henv (Nat.le_of_ble_eq_true rfl) rfl rfl hl.1 rfl (Nat.le_of_ble_eq_true rfl) d_Parser_parseTerm_69 ⟨Nat.le_refl _, Nat.le_refl _⟩ (fun H locs hP hD hS => ?_)
    clear hc12
    refine lv_istore (lv' := [(5, .int r12), (0, .ref (ad 4)), (1, .int x1), (2, .int x2), (3, .int x3), (4, .int x4)]) hx hb d_Parser_parseTerm_72 hl (by decide) rfl (fun ls hl => ?_)
    refine lv_iload_n hx hb d_Parser_parseTerm_74 rfl (lv_at hl 4 rfl) ?_
    refine lv_if_ne (tgt := 92) hx hb d_Parser_parseTerm_75 (by decide) (fun c13 => ?_) (fun c13 => ?_)
    · replace hR := if_n c13 hR
      refine lv_aload_n hx hb d_Parser_parseTerm_92 rfl (lv_at hl 1 rfl) ?_
      refine rd_Parser_9 hx hb hT hown hK hP d_Parser_parseTerm_93 ?_
      refine rd_Parser_144 hx hb hT hown hK hP d_Parser_parseTerm_96 ?_
      refine lv_iload_n hx hb d_Parser_parseTerm_99 rfl (lv_at hl 4 rfl) ?_
      refine lv_iload hx hb d_Parser_parseTerm_100 (lv_at hl 0 rfl) ?_
      replace hR := gd_e hR
      obtain ⟨b14, hR⟩ := hR
      refine saH_3 hx hb hK hP hD hS b14 d_Parser_parseTerm_102 (fun T14 eT H locs hP hD hS => ?_)
      replace hR := stK_e eT hR
      clear eT
      refine lv_iload hx hb d_Parser_parseTerm_103 (lv_at hl 0 rfl) ?_
      refine lv_istore_n (lv' := [(3, .int r12), (5, .int r12), (0, .ref (ad 4)), (1, .int x1), (2, .int x2), (4, .int x4)]) hx hb d_Parser_parseTerm_105 rfl hl (by decide) rfl (fun ls hl => ?_)
      obtain ⟨z15, e15⟩ : ∃ y : Int32, y = x4 + (1 : Int32) := ⟨_, rfl⟩
      replace hR := vK_e e15 hR
      refine lv_iinc (v := z15) (lv' := [(4, .int z15), (3, .int r12), (5, .int r12), (0, .ref (ad 4)), (1, .int x1), (2, .int x2)]) hx hb d_Parser_parseTerm_106 hl (k := 5) rfl (by rw [e15]; rfl) (by decide) rfl (fun ls hl => ?_)
      refine lv_goto (tgt := 23) hx hb d_Parser_parseTerm_109 (by decide) ?_
      have g := hrec_23 T14 x1 x2 r12 z15 hR
      rw [hG] at g
      exact g _ _ hP hD hS _ (lv_sub hl [3, 4, 5, 1, 0] rfl)
    · replace hR := if_p c13 hR
      refine lv_aload_n hx hb d_Parser_parseTerm_78 rfl (lv_at hl 1 rfl) ?_
      refine rd_Parser_9 hx hb hT hown hK hP d_Parser_parseTerm_79 ?_
      refine rd_Parser_178 hx hb hT hown hK hP d_Parser_parseTerm_82 ?_
      refine lv_iload_n hx hb d_Parser_parseTerm_85 rfl (lv_at hl 3 rfl) ?_
      refine lv_iload hx hb d_Parser_parseTerm_86 (lv_at hl 0 rfl) ?_
      replace hR := gd_e hR
      obtain ⟨b16, hR⟩ := hR
      refine saH_8 hx hb hK hP hD hS b16 d_Parser_parseTerm_88 (fun T16 eT H locs hP hD hS => ?_)
      replace hR := stK_e eT hR
      clear eT
      refine lv_goto (tgt := 103) hx hb d_Parser_parseTerm_89 (by decide) ?_
      refine lv_iload hx hb d_Parser_parseTerm_103 (lv_at hl 0 rfl) ?_
      refine lv_istore_n (lv' := [(3, .int r12), (5, .int r12), (0, .ref (ad 4)), (1, .int x1), (2, .int x2), (4, .int x4)]) hx hb d_Parser_parseTerm_105 rfl hl (by decide) rfl (fun ls hl => ?_)
      obtain ⟨z17, e17⟩ : ∃ y : Int32, y = x4 + (1 : Int32) := ⟨_, rfl⟩
      replace hR := vK_e e17 hR
      refine lv_iinc (v := z17) (lv' := [(4, .int z17), (3, .int r12), (5, .int r12), (0, .ref (ad 4)), (1, .int x1), (2, .int x2)]) hx hb d_Parser_parseTerm_106 hl (k := 5) rfl (by rw [e17]; rfl) (by decide) rfl (fun ls hl => ?_)
      refine lv_goto (tgt := 23) hx hb d_Parser_parseTerm_109 (by decide) ?_
      have g := hrec_23 T16 x1 x2 r12 z17 hR
      rw [hG] at g
      exact g _ _ hP hD hS _ (lv_sub hl [3, 4, 5, 1, 0] rfl)
  have lb_23 : ∀ (n : Nat) (T : gSt) (x1 : Int32) (x2 : Int32) (x3 : Int32) (x4 : Int32), rl_Parser_parseTerm_23 F nf n T x1 x2 x3 x4 = some (r0, rl0, T9) → G 23 [(0, .ref (ad 4)), (1, .int x1), (2, .int x2), (3, .int x3), (4, .int x4)] [] T := by
    intro n
    induction n with
    | zero => intro T x1 x2 x3 x4 hR; rw [rl_Parser_parseTerm_23] at hR; cases hR
    | succ n ih =>
      intro T x1 x2 x3 x4 hR; rw [rl_Parser_parseTerm_23] at hR; rw [hG]; intro H locs hP hD hS ls hl
      refine lv_iload hx hb d_Parser_parseTerm_23 (lv_at hl 4 rfl) ?_
      refine lv_sipush (v := 4000) hx hb d_Parser_parseTerm_25 (by decide) ?_
      refine lv_icmp_ge (tgt := 112) hx hb d_Parser_parseTerm_28 (by decide) (fun c5 => ?_) (fun c5 => ?_)
      · replace hR := if_p c5 hR
        refine lv_iload_n hx hb d_Parser_parseTerm_112 rfl (lv_at hl 2 rfl) ?_
        obtain ⟨e1, -, e3⟩ := re_e hR
        subst e1; subst e3
        exact W.iret (v := x2) hx hb hr (fun t ht hW => ⟨⟨x2, (), rfl, rfl, by rw [ht]; exact hP, va_K.moved hW.alike hK, hD⟩, hS.F ht⟩) hS.2.2 d_Parser_parseTerm_113
      · replace hR := if_n c5 hR
        refine lv_aload_n hx hb d_Parser_parseTerm_31 rfl (lv_at hl 0 rfl) ?_
        refine rd_Parser_33 hx hb hT hown hK hP d_Parser_parseTerm_32 ?_
        refine lv_bipush (v := 49) hx hb d_Parser_parseTerm_35 (by decide) ?_
        refine lv_icmp_eq (tgt := 67) hx hb d_Parser_parseTerm_37 (by decide) (fun c7 => ?_) (fun c7 => ?_)
        · replace hR := if_p c7 hR
          have g := lb_67 (rl_Parser_parseTerm_23 F nf n) ih T x1 x2 x3 x4 hR
          rw [hG] at g
          exact g _ _ hP hD hS _ (lv_sub hl [0, 1, 2, 3, 4] rfl)
        · replace hR := if_n c7 hR
          refine lv_aload_n hx hb d_Parser_parseTerm_40 rfl (lv_at hl 0 rfl) ?_
          refine rd_Parser_33 hx hb hT hown hK hP d_Parser_parseTerm_41 ?_
          refine lv_bipush (v := 44) hx hb d_Parser_parseTerm_44 (by decide) ?_
          refine lv_icmp_eq (tgt := 67) hx hb d_Parser_parseTerm_46 (by decide) (fun c8 => ?_) (fun c8 => ?_)
          · replace hR := if_p c8 hR
            have g := lb_67 (rl_Parser_parseTerm_23 F nf n) ih T x1 x2 x3 x4 hR
            rw [hG] at g
            exact g _ _ hP hD hS _ (lv_sub hl [0, 1, 2, 3, 4] rfl)
          · replace hR := if_n c8 hR
            refine lv_aload_n hx hb d_Parser_parseTerm_49 rfl (lv_at hl 0 rfl) ?_
            refine rd_Parser_33 hx hb hT hown hK hP d_Parser_parseTerm_50 ?_
            refine lv_bipush (v := 61) hx hb d_Parser_parseTerm_53 (by decide) ?_
            refine lv_icmp_eq (tgt := 67) hx hb d_Parser_parseTerm_55 (by decide) (fun c9 => ?_) (fun c9 => ?_)
            · replace hR := if_p c9 hR
              have g := lb_67 (rl_Parser_parseTerm_23 F nf n) ih T x1 x2 x3 x4 hR
              rw [hG] at g
              exact g _ _ hP hD hS _ (lv_sub hl [0, 1, 2, 3, 4] rfl)
            · replace hR := if_n c9 hR
              refine lv_aload_n hx hb d_Parser_parseTerm_58 rfl (lv_at hl 0 rfl) ?_
              refine rd_Parser_33 hx hb hT hown hK hP d_Parser_parseTerm_59 ?_
              refine lv_bipush (v := 33) hx hb d_Parser_parseTerm_62 (by decide) ?_
              refine lv_icmp_ne (tgt := 112) hx hb d_Parser_parseTerm_64 (by decide) (fun c10 => ?_) (fun c10 => ?_)
              · replace hR := if_n c10 hR
                refine lv_iload_n hx hb d_Parser_parseTerm_112 rfl (lv_at hl 2 rfl) ?_
                obtain ⟨e1, -, e3⟩ := re_e hR
                subst e1; subst e3
                exact W.iret (v := x2) hx hb hr (fun t ht hW => ⟨⟨x2, (), rfl, rfl, by rw [ht]; exact hP, va_K.moved hW.alike hK, hD⟩, hS.F ht⟩) hS.2.2 d_Parser_parseTerm_113
              · replace hR := if_p c10 hR
                have g := lb_67 (rl_Parser_parseTerm_23 F nf n) ih T x1 x2 x3 x4 hR
                rw [hG] at g
                exact g _ _ hP hD hS _ (lv_sub hl [0, 1, 2, 3, 4] rfl)
  unfold rb_Parser_parseTerm at hR
  refine lv_iload_n hx hb d_Parser_parseTerm_0 rfl (lv_at hl 1 rfl) ?_
  refine lv_bipush (v := 20) hx hb d_Parser_parseTerm_1 (by decide) ?_
  refine lv_icmp_le (tgt := 12) hx hb d_Parser_parseTerm_3 (by decide) (fun c1 => ?_) (fun c1 => ?_)
  · replace hR := if_p c1 hR
    refine lv_aload_n hx hb d_Parser_parseTerm_12 rfl (lv_at hl 0 rfl) ?_
    refine lv_iload_n hx hb d_Parser_parseTerm_13 rfl (lv_at hl 1 rfl) ?_
    replace hR := bi_e hR
    obtain ⟨r2, l2, T2, hc2, hR⟩ := hR
    refine gcV_i (rest := []) ⟨hx, hb, hml, hown, hT⟩ (h_Parser_parsePrimary _ _ _ _ _ hc2) (cwV 1 hT (gV ml_Parser_192 im_Parser_parsePrimary se_Parser_parsePrimary ini_Parser co_Parser_parsePrimary) rfl rfl rfl pd_Parser_parsePrimary ⟨rm_hi, rm_lo (Nat.le_of_ble_eq_true rfl)⟩) hK hP hD hS hA hnw henv (Nat.le_of_ble_eq_true rfl) rfl rfl hl.1 rfl (Nat.le_of_ble_eq_true rfl) d_Parser_parseTerm_14 ⟨Nat.le_refl _, Nat.le_refl _⟩ (fun H locs hP hD hS => ?_)
    clear hc2
    refine lv_istore_n (lv' := [(2, .int r2), (0, .ref (ad 4)), (1, .int p1)]) hx hb d_Parser_parseTerm_17 rfl hl (by decide) rfl (fun ls hl => ?_)
    refine lv_iconst (v := 0) hx hb d_Parser_parseTerm_18 (by decide) ?_
    refine lv_istore_n (lv' := [(3, .int (0 : Int32)), (2, .int r2), (0, .ref (ad 4)), (1, .int p1)]) hx hb d_Parser_parseTerm_19 rfl hl (by decide) rfl (fun ls hl => ?_)
    refine lv_iconst (v := 0) hx hb d_Parser_parseTerm_20 (by decide) ?_
    refine lv_istore (lv' := [(4, .int (0 : Int32)), (3, .int (0 : Int32)), (2, .int r2), (0, .ref (ad 4)), (1, .int p1)]) hx hb d_Parser_parseTerm_21 hl (by decide) rfl (fun ls hl => ?_)
    have g := lb_23 nf T2 p1 r2 (0 : Int32) (0 : Int32) hR
    rw [hG] at g
    exact g _ _ hP hD hS _ (lv_sub hl [3, 4, 2, 1, 0] rfl)
  · replace hR := if_n c1 hR
    refine lv_aload_n hx hb d_Parser_parseTerm_6 rfl (lv_at hl 0 rfl) ?_
    replace hR := bi_e hR
    obtain ⟨r3, l3, T3, hc3, hR⟩ := hR
    refine gcV_v (rest := []) ⟨hx, hb, hml, hown, hT⟩ (h_Parser_stop _ _ _ _ hc3) (cwV 0 hT (gV ml_Parser_62 im_Parser_stop se_Parser_stop ini_Parser co_Parser_stop) rfl rfl rfl pd_Parser_stop ⟨rm_hi, rm_lo (Nat.le_of_ble_eq_true rfl)⟩) hK hP hD hS hA hnw henv (Nat.le_of_ble_eq_true rfl) rfl rfl hl.1 rfl (Nat.le_of_ble_eq_true rfl) d_Parser_parseTerm_7 ⟨Nat.le_refl _, Nat.le_refl _⟩ (fun H locs hP hD hS => ?_)
    clear hc3
    refine lv_iconst (v := 0) hx hb d_Parser_parseTerm_10 (by decide) ?_
    obtain ⟨e1, -, e3⟩ := re_e hR
    subst e1; subst e3
    exact W.iret (v := (0 : Int32)) hx hb hr (fun t ht hW => ⟨⟨(0 : Int32), (), rfl, rfl, by rw [ht]; exact hP, va_K.moved hW.alike hK, hD⟩, hS.F ht⟩) hS.2.2 d_Parser_parseTerm_11
set_option maxHeartbeats 4000000 in
set_option maxRecDepth 100000 in
theorem sp_Parser_parseTail (l : Launch) (dC : Nat → ClassId) (dI : Nat → Nat → Nat) (ea ev ad : Nat → Nat) (km : Nat → ClassId) (F : gF) (nf d : Nat) (h_Source_addNode : mt_Source_addNode l dC dI ea ev ad km F d) (h_Parser_advance : mt_Parser_advance l dC dI ea ev ad km F d) (h_Parser_need : mt_Parser_need l dC dI ea ev ad km F d) (h_Parser_parseExpr : mt_Parser_parseExpr l dC dI ea ev ad km F d) (T0 : gSt) (p1 : Int32) (r0 : Int32) (rl0 : Int64) (T9 : gSt) (hR : rb_Parser_parseTail F nf T0 p1 = some (r0, rl0, T9)) : GMi l dC dI LH ad km ea ev y_Parser_parseTail w_Parser_parseTail (rmD (d + 1)) [.ref (ad 4), .int p1] T0 r0 T9 := by
  intro sz
  refine Met.ofW (cc := b_Parser_parseTail) (maxL := 4) (ret := (some .int)) (by decide) rfl ?_
  intro p e s m args below meth c s₁ B hml hv
  obtain ⟨rfl, hsz, hP, hK, hD0, hnw, henv⟩ := hv
  have hx := B.exec
  have hb := B.bytes
  have hr := B.returns
  have hT : ∀ w ∈ lw_good, w.before _ s = true := fun w h => atoms_spec (ws := w_Parser_parseTail) B.pre w (List.mem_cons_of_mem _ h)
  have hown : s.vm.findClass R_Parser = some m.cls := findClass_of_methodNamed B.named
  subst hsz
  have hD := hD0.self (sz := s.heap.size)
  clear hD0
  generalize hAe : va_A (gW LH ad km T0) s.heap.size = A at hD henv ⊢
  have hA : ∀ q : Nat, s.heap.size ≤ q → A q := fun q h => by rw [← hAe]; exact Or.inr h
  have hS : va_S A s.heap s.heap [] := va_S.rf
  have hl := lv_entry ([.ref (ad 4), .int p1]) (n := 4) (Nat.le_of_ble_eq_true rfl)
  rw [lg_entry_eq]
  generalize (lg_sl ([.ref (ad 4), .int p1]) ++ List.replicate (4 - (lg_sl ([.ref (ad 4), .int p1])).length) Slot.unset).toArray = ls at hl ⊢
  have hl : lv_has ls 4 [(0, .ref (ad 4)), (1, .int p1)] := hl
  unfold rb_Parser_parseTail at hR
  refine lv_aload_n hx hb d_Parser_parseTail_0 rfl (lv_at hl 0 rfl) ?_
  refine rd_Parser_33 hx hb hT hown hK hP d_Parser_parseTail_1 ?_
  refine lv_topi (fun z1 e1 => ?_)
  replace hR := vK_e e1 hR
  refine lv_istore_n (lv' := [(2, .int z1), (0, .ref (ad 4)), (1, .int p1)]) hx hb d_Parser_parseTail_4 rfl hl (by decide) rfl (fun ls hl => ?_)
  refine lv_aload_n hx hb d_Parser_parseTail_5 rfl (lv_at hl 1 rfl) ?_
  refine rd_Parser_9 hx hb hT hown hK hP d_Parser_parseTail_6 ?_
  refine lv_iload_n hx hb d_Parser_parseTail_9 rfl (lv_at hl 0 rfl) ?_
  refine lv_aload_n hx hb d_Parser_parseTail_10 rfl (lv_at hl 1 rfl) ?_
  refine rd_Parser_23 hx hb hT hown hK hP d_Parser_parseTail_11 ?_
  replace hR := bi_e hR
  obtain ⟨r2, l2, T2, hc2, hR⟩ := hR
  refine gcV_i (rest := []) ⟨hx, hb, hml, hown, hT⟩ (h_Source_addNode _ _ _ _ _ _ hc2) (cwV 2 hT (gV ml_Parser_166 im_Source_addNode se_Source_addNode ini_Source co_Source_addNode) rfl rfl rfl pd_Source_addNode ⟨rm_hi, rm_lo (Nat.le_of_ble_eq_true rfl)⟩) hK hP hD hS hA hnw henv (Nat.le_of_ble_eq_true rfl) rfl rfl hl.1 rfl (Nat.le_of_ble_eq_true rfl) d_Parser_parseTail_14 ⟨Nat.le_refl _, Nat.le_refl _⟩ (fun H locs hP hD hS => ?_)
  clear hc2
  refine lv_istore_n (lv' := [(3, .int r2), (2, .int z1), (0, .ref (ad 4)), (1, .int p1)]) hx hb d_Parser_parseTail_17 rfl hl (by decide) rfl (fun ls hl => ?_)
  refine lv_aload_n hx hb d_Parser_parseTail_18 rfl (lv_at hl 2 rfl) ?_
  replace hR := bi_e hR
  obtain ⟨r3, l3, T3, hc3, hR⟩ := hR
  refine gcV_v (rest := []) ⟨hx, hb, hml, hown, hT⟩ (h_Parser_advance _ _ _ _ hc3) (cwV 0 hT (gV ml_Parser_59 im_Parser_advance se_Parser_advance ini_Parser co_Parser_advance) rfl rfl rfl pd_Parser_advance ⟨rm_hi, rm_lo (Nat.le_of_ble_eq_true rfl)⟩) hK hP hD hS hA hnw henv (Nat.le_of_ble_eq_true rfl) rfl rfl hl.1 rfl (Nat.le_of_ble_eq_true rfl) d_Parser_parseTail_19 ⟨Nat.le_refl _, Nat.le_refl _⟩ (fun H locs hP hD hS => ?_)
  clear hc3
  refine lv_iload_n hx hb d_Parser_parseTail_22 rfl (lv_at hl 1 rfl) ?_
  refine lv_bipush (v := 44) hx hb d_Parser_parseTail_23 (by decide) ?_
  refine lv_icmp_ne (tgt := 53) hx hb d_Parser_parseTail_25 (by decide) (fun c4 => ?_) (fun c4 => ?_)
  · replace hR := if_n c4 hR
    refine lv_iload_n hx hb d_Parser_parseTail_53 rfl (lv_at hl 1 rfl) ?_
    refine lv_bipush (v := 61) hx hb d_Parser_parseTail_54 (by decide) ?_
    refine lv_icmp_eq (tgt := 64) hx hb d_Parser_parseTail_56 (by decide) (fun c5 => ?_) (fun c5 => ?_)
    · replace hR := if_p c5 hR
      refine lv_iload_n hx hb d_Parser_parseTail_64 rfl (lv_at hl 0 rfl) ?_
      obtain ⟨e1, -, e3⟩ := re_e hR
      subst e1; subst e3
      exact W.iret (v := r2) hx hb hr (fun t ht hW => ⟨⟨r2, (), rfl, rfl, by rw [ht]; exact hP, va_K.moved hW.alike hK, hD⟩, hS.F ht⟩) hS.2.2 d_Parser_parseTail_65
    · replace hR := if_n c5 hR
      refine lv_aload_n hx hb d_Parser_parseTail_59 rfl (lv_at hl 2 rfl) ?_
      refine lv_iconst (v := 2) hx hb d_Parser_parseTail_60 (by decide) ?_
      replace hR := bi_e hR
      obtain ⟨r7, l7, T7, hc7, hR⟩ := hR
      refine gcV_v (rest := []) ⟨hx, hb, hml, hown, hT⟩ (h_Parser_need _ _ _ _ _ hc7) (cwV 1 hT (gV ml_Parser_85 im_Parser_need se_Parser_need ini_Parser co_Parser_need) rfl rfl rfl pd_Parser_need ⟨rm_hi, rm_lo (Nat.le_of_ble_eq_true rfl)⟩) hK hP hD hS hA hnw henv (Nat.le_of_ble_eq_true rfl) rfl rfl hl.1 rfl (Nat.le_of_ble_eq_true rfl) d_Parser_parseTail_61 ⟨Nat.le_refl _, Nat.le_refl _⟩ (fun H locs hP hD hS => ?_)
      clear hc7
      refine lv_iload_n hx hb d_Parser_parseTail_64 rfl (lv_at hl 0 rfl) ?_
      obtain ⟨e1, -, e3⟩ := re_e hR
      subst e1; subst e3
      exact W.iret (v := r2) hx hb hr (fun t ht hW => ⟨⟨r2, (), rfl, rfl, by rw [ht]; exact hP, va_K.moved hW.alike hK, hD⟩, hS.F ht⟩) hS.2.2 d_Parser_parseTail_65
  · replace hR := if_p c4 hR
    refine lv_aload_n hx hb d_Parser_parseTail_28 rfl (lv_at hl 2 rfl) ?_
    refine rd_Parser_9 hx hb hT hown hK hP d_Parser_parseTail_29 ?_
    refine rd_Parser_169 hx hb hT hown hK hP d_Parser_parseTail_32 ?_
    refine lv_iload_n hx hb d_Parser_parseTail_35 rfl (lv_at hl 0 rfl) ?_
    refine lv_aload_n hx hb d_Parser_parseTail_36 rfl (lv_at hl 2 rfl) ?_
    refine lv_iload_n hx hb d_Parser_parseTail_37 rfl (lv_at hl 3 rfl) ?_
    refine lv_iconst (v := 1) hx hb d_Parser_parseTail_38 (by decide) ?_
    refine lv_iadd hx hb d_Parser_parseTail_39 ?_
    replace hR := bi_e hR
    obtain ⟨r9, l9, T9, hc9, hR⟩ := hR
    refine gcV_i (rest := [.int r2, .ref (ad 19)]) ⟨hx, hb, hml, hown, hT⟩ (h_Parser_parseExpr _ _ _ _ _ hc9) (cwV 1 hT (gV ml_Parser_172 im_Parser_parseExpr se_Parser_parseExpr ini_Parser co_Parser_parseExpr) rfl rfl rfl pd_Parser_parseExpr ⟨rm_hi, rm_lo (Nat.le_of_ble_eq_true rfl)⟩) hK hP hD hS hA hnw henv (Nat.le_of_ble_eq_true rfl) rfl rfl hl.1 rfl (Nat.le_of_ble_eq_true rfl) d_Parser_parseTail_40 ⟨Nat.le_refl _, Nat.le_refl _⟩ (fun H locs hP hD hS => ?_)
    clear hc9
    replace hR := gd_e hR
    obtain ⟨b10, hR⟩ := hR
    refine saH_7 hx hb hK hP hD hS b10 d_Parser_parseTail_43 (fun T10 eT H locs hP hD hS => ?_)
    replace hR := stK_e eT hR
    clear eT
    refine lv_aload_n hx hb d_Parser_parseTail_44 rfl (lv_at hl 2 rfl) ?_
    refine lv_bipush (v := 45) hx hb d_Parser_parseTail_45 (by decide) ?_
    replace hR := bi_e hR
    obtain ⟨r11, l11, T11, hc11, hR⟩ := hR
    refine gcV_v (rest := []) ⟨hx, hb, hml, hown, hT⟩ (h_Parser_need _ _ _ _ _ hc11) (cwV 1 hT (gV ml_Parser_85 im_Parser_need se_Parser_need ini_Parser co_Parser_need) rfl rfl rfl pd_Parser_need ⟨rm_hi, rm_lo (Nat.le_of_ble_eq_true rfl)⟩) hK hP hD hS hA hnw henv (Nat.le_of_ble_eq_true rfl) rfl rfl hl.1 rfl (Nat.le_of_ble_eq_true rfl) d_Parser_parseTail_47 ⟨Nat.le_refl _, Nat.le_refl _⟩ (fun H locs hP hD hS => ?_)
    clear hc11
    refine lv_goto (tgt := 64) hx hb d_Parser_parseTail_50 (by decide) ?_
    refine lv_iload_n hx hb d_Parser_parseTail_64 rfl (lv_at hl 0 rfl) ?_
    obtain ⟨e1, -, e3⟩ := re_e hR
    subst e1; subst e3
    exact W.iret (v := r2) hx hb hr (fun t ht hW => ⟨⟨r2, (), rfl, rfl, by rw [ht]; exact hP, va_K.moved hW.alike hK, hD⟩, hS.F ht⟩) hS.2.2 d_Parser_parseTail_65
set_option maxHeartbeats 4000000 in
set_option maxRecDepth 100000 in
theorem sp_Parser_parsePrimary (l : Launch) (dC : Nat → ClassId) (dI : Nat → Nat → Nat) (ea ev ad : Nat → Nat) (km : Nat → ClassId) (F : gF) (nf d : Nat) (h_Source_addNode : mt_Source_addNode l dC dI ea ev ad km F d) (h_Parser_advance : mt_Parser_advance l dC dI ea ev ad km F d) (h_Parser_parseNew : mt_Parser_parseNew l dC dI ea ev ad km F d) (h_Parser_need : mt_Parser_need l dC dI ea ev ad km F d) (h_Parser_parseMaking : mt_Parser_parseMaking l dC dI ea ev ad km F d) (h_Parser_parseTerm : mt_Parser_parseTerm l dC dI ea ev ad km F d) (h_Parser_stop : mt_Parser_stop l dC dI ea ev ad km F d) (h_Parser_parseRegions : mt_Parser_parseRegions l dC dI ea ev ad km F d) (h_Parser_parseArguments : mt_Parser_parseArguments l dC dI ea ev ad km F d) (T0 : gSt) (p1 : Int32) (r0 : Int32) (rl0 : Int64) (T9 : gSt) (hR : rb_Parser_parsePrimary F nf T0 p1 = some (r0, rl0, T9)) : GMi l dC dI LH ad km ea ev y_Parser_parsePrimary w_Parser_parsePrimary (rmD (d + 1)) [.ref (ad 4), .int p1] T0 r0 T9 := by
  intro sz
  refine Met.ofW (cc := b_Parser_parsePrimary) (maxL := 4) (ret := (some .int)) (by decide) rfl ?_
  intro p e s m args below meth c s₁ B hml hv
  obtain ⟨rfl, hsz, hP, hK, hD0, hnw, henv⟩ := hv
  have hx := B.exec
  have hb := B.bytes
  have hr := B.returns
  have hT : ∀ w ∈ lw_good, w.before _ s = true := fun w h => atoms_spec (ws := w_Parser_parsePrimary) B.pre w (List.mem_cons_of_mem _ h)
  have hown : s.vm.findClass R_Parser = some m.cls := findClass_of_methodNamed B.named
  subst hsz
  have hD := hD0.self (sz := s.heap.size)
  clear hD0
  generalize hAe : va_A (gW LH ad km T0) s.heap.size = A at hD henv ⊢
  have hA : ∀ q : Nat, s.heap.size ≤ q → A q := fun q h => by rw [← hAe]; exact Or.inr h
  have hS : va_S A s.heap s.heap [] := va_S.rf
  have hl := lv_entry ([.ref (ad 4), .int p1]) (n := 4) (Nat.le_of_ble_eq_true rfl)
  rw [lg_entry_eq]
  generalize (lg_sl ([.ref (ad 4), .int p1]) ++ List.replicate (4 - (lg_sl ([.ref (ad 4), .int p1])).length) Slot.unset).toArray = ls at hl ⊢
  have hl : lv_has ls 4 [(0, .ref (ad 4)), (1, .int p1)] := hl
  obtain ⟨G, hG⟩ : ∃ G : Nat → List (Nat × Value) → List Value → gSt → Prop, G = (fun pc lv stk T => ∀ (H : Heap) (locs : List Loc), va_P (dC, dI) cls_all (gW LH ad km T) H → va_D A (gW LH ad km T) → va_S A s.heap H locs → ∀ (ls : Array Slot), lv_has ls 4 lv → W p l e (headSpec w_Parser_parsePrimary (rmD (d + 1))).room s m ([.ref (ad 4), .int p1] : List Value).toArray below meth c H locs 0 0 (MQ below (va_Qi (fun (z : Int32) (_ : Unit) => z = r0) (fun _ t => gPost dC dI LH ad km T9 A t) A) ([.ref (ad 4), .int p1] : List Value).toArray s 0 0 A) (F0 m pc ls stk)) := ⟨_, rfl⟩
  have lb_164 : ∀ (T : gSt) (x1 : Int32) (x3 : Int32), rj_Parser_parsePrimary_164 F nf T x1 x3 = some (r0, rl0, T9) → G 164 [(0, .ref (ad 4)), (1, .int x1), (3, .int x3)] [] T := by
    intro T x1 x3 hR; unfold rj_Parser_parsePrimary_164 at hR; rw [hG]; intro H locs hP hD hS ls hl
    refine lv_aload_n hx hb d_Parser_parsePrimary_164 rfl (lv_at hl 0 rfl) ?_
    refine rd_Parser_9 hx hb hT hown hK hP d_Parser_parsePrimary_165 ?_
    refine rd_Parser_181 hx hb hT hown hK hP d_Parser_parsePrimary_168 ?_
    refine lv_iload_n hx hb d_Parser_parsePrimary_171 rfl (lv_at hl 2 rfl) ?_
    refine lv_bipush (v := 63) hx hb d_Parser_parsePrimary_172 (by decide) ?_
    replace hR := gd_e hR
    obtain ⟨b55, hR⟩ := hR
    refine saH_1 hx hb hK hP hD hS b55 d_Parser_parsePrimary_174 (fun T55 eT H locs hP hD hS => ?_)
    replace hR := stK_e eT hR
    clear eT
    refine lv_aload_n hx hb d_Parser_parsePrimary_175 rfl (lv_at hl 0 rfl) ?_
    refine rd_Parser_9 hx hb hT hown hK hP d_Parser_parsePrimary_176 ?_
    refine rd_Parser_175 hx hb hT hown hK hP d_Parser_parsePrimary_179 ?_
    refine lv_iload_n hx hb d_Parser_parsePrimary_182 rfl (lv_at hl 2 rfl) ?_
    refine lv_aload_n hx hb d_Parser_parsePrimary_183 rfl (lv_at hl 0 rfl) ?_
    refine lv_iconst (v := 3) hx hb d_Parser_parsePrimary_184 (by decide) ?_
    replace hR := bi_e hR
    obtain ⟨r56, l56, T56, hc56, hR⟩ := hR
    refine gcV_i (rest := [.int x3, .ref (ad 18)]) ⟨hx, hb, hml, hown, hT⟩ (h_Parser_parseRegions _ _ _ _ _ hc56) (cwV 1 hT (gV ml_Parser_91 im_Parser_parseRegions se_Parser_parseRegions ini_Parser co_Parser_parseRegions) rfl rfl rfl pd_Parser_parseRegions ⟨rm_hi, rm_lo (Nat.le_of_ble_eq_true rfl)⟩) hK hP hD hS hA hnw henv (Nat.le_of_ble_eq_true rfl) rfl rfl hl.1 rfl (Nat.le_of_ble_eq_true rfl) d_Parser_parsePrimary_185 ⟨Nat.le_refl _, Nat.le_refl _⟩ (fun H locs hP hD hS => ?_)
    clear hc56
    replace hR := gd_e hR
    obtain ⟨b57, hR⟩ := hR
    refine saH_6 hx hb hK hP hD hS b57 d_Parser_parsePrimary_188 (fun T57 eT H locs hP hD hS => ?_)
    replace hR := stK_e eT hR
    clear eT
    refine lv_aload_n hx hb d_Parser_parsePrimary_189 rfl (lv_at hl 0 rfl) ?_
    refine lv_bipush (v := 42) hx hb d_Parser_parsePrimary_190 (by decide) ?_
    replace hR := bi_e hR
    obtain ⟨r58, l58, T58, hc58, hR⟩ := hR
    refine gcV_v (rest := []) ⟨hx, hb, hml, hown, hT⟩ (h_Parser_need _ _ _ _ _ hc58) (cwV 1 hT (gV ml_Parser_85 im_Parser_need se_Parser_need ini_Parser co_Parser_need) rfl rfl rfl pd_Parser_need ⟨rm_hi, rm_lo (Nat.le_of_ble_eq_true rfl)⟩) hK hP hD hS hA hnw henv (Nat.le_of_ble_eq_true rfl) rfl rfl hl.1 rfl (Nat.le_of_ble_eq_true rfl) d_Parser_parsePrimary_192 ⟨Nat.le_refl _, Nat.le_refl _⟩ (fun H locs hP hD hS => ?_)
    clear hc58
    refine lv_aload_n hx hb d_Parser_parsePrimary_195 rfl (lv_at hl 0 rfl) ?_
    refine rd_Parser_9 hx hb hT hown hK hP d_Parser_parsePrimary_196 ?_
    refine rd_Parser_169 hx hb hT hown hK hP d_Parser_parsePrimary_199 ?_
    refine lv_iload_n hx hb d_Parser_parsePrimary_202 rfl (lv_at hl 2 rfl) ?_
    refine lv_aload_n hx hb d_Parser_parsePrimary_203 rfl (lv_at hl 0 rfl) ?_
    refine lv_iload_n hx hb d_Parser_parsePrimary_204 rfl (lv_at hl 1 rfl) ?_
    refine lv_iconst (v := 1) hx hb d_Parser_parsePrimary_205 (by decide) ?_
    refine lv_iadd hx hb d_Parser_parsePrimary_206 ?_
    refine lv_bipush (v := 43) hx hb d_Parser_parsePrimary_207 (by decide) ?_
    replace hR := bi_e hR
    obtain ⟨r59, l59, T59, hc59, hR⟩ := hR
    refine gcV_i (rest := [.int x3, .ref (ad 19)]) ⟨hx, hb, hml, hown, hT⟩ (h_Parser_parseArguments _ _ _ _ _ _ hc59) (cwV 2 hT (gV ml_Parser_198 im_Parser_parseArguments se_Parser_parseArguments ini_Parser co_Parser_parseArguments) rfl rfl rfl pd_Parser_parseArguments ⟨rm_hi, rm_lo (Nat.le_of_ble_eq_true rfl)⟩) hK hP hD hS hA hnw henv (Nat.le_of_ble_eq_true rfl) rfl rfl hl.1 rfl (Nat.le_of_ble_eq_true rfl) d_Parser_parsePrimary_209 ⟨Nat.le_refl _, Nat.le_refl _⟩ (fun H locs hP hD hS => ?_)
    clear hc59
    replace hR := gd_e hR
    obtain ⟨b60, hR⟩ := hR
    refine saH_7 hx hb hK hP hD hS b60 d_Parser_parsePrimary_212 (fun T60 eT H locs hP hD hS => ?_)
    replace hR := stK_e eT hR
    clear eT
    refine lv_goto (tgt := 299) hx hb d_Parser_parsePrimary_213 (by decide) ?_
    refine lv_iload_n hx hb d_Parser_parsePrimary_299 rfl (lv_at hl 2 rfl) ?_
    obtain ⟨e1, -, e3⟩ := re_e hR
    subst e1; subst e3
    exact W.iret (v := x3) hx hb hr (fun t ht hW => ⟨⟨x3, (), rfl, rfl, by rw [ht]; exact hP, va_K.moved hW.alike hK, hD⟩, hS.F ht⟩) hS.2.2 d_Parser_parsePrimary_300
  unfold rb_Parser_parsePrimary at hR
  refine lv_aload_n hx hb d_Parser_parsePrimary_0 rfl (lv_at hl 0 rfl) ?_
  refine rd_Parser_36 hx hb hT hown hK hP d_Parser_parsePrimary_1 ?_
  refine lv_if_eq (tgt := 9) hx hb d_Parser_parsePrimary_4 (by decide) (fun c1 => ?_) (fun c1 => ?_)
  · replace hR := if_p c1 hR
    refine lv_aload_n hx hb d_Parser_parsePrimary_9 rfl (lv_at hl 0 rfl) ?_
    refine rd_Parser_33 hx hb hT hown hK hP d_Parser_parsePrimary_10 ?_
    refine lv_topi (fun z2 e2 => ?_)
    replace hR := vK_e e2 hR
    refine lv_istore_n (lv' := [(2, .int z2), (0, .ref (ad 4)), (1, .int p1)]) hx hb d_Parser_parsePrimary_13 rfl hl (by decide) rfl (fun ls hl => ?_)
    refine lv_aload_n hx hb d_Parser_parsePrimary_14 rfl (lv_at hl 1 rfl) ?_
    refine rd_Parser_9 hx hb hT hown hK hP d_Parser_parsePrimary_15 ?_
    refine lv_iload_n hx hb d_Parser_parsePrimary_18 rfl (lv_at hl 0 rfl) ?_
    refine lv_aload_n hx hb d_Parser_parsePrimary_19 rfl (lv_at hl 1 rfl) ?_
    refine rd_Parser_23 hx hb hT hown hK hP d_Parser_parsePrimary_20 ?_
    replace hR := bi_e hR
    obtain ⟨r3, l3, T3, hc3, hR⟩ := hR
    refine gcV_i (rest := []) ⟨hx, hb, hml, hown, hT⟩ (h_Source_addNode _ _ _ _ _ _ hc3) (cwV 2 hT (gV ml_Parser_166 im_Source_addNode se_Source_addNode ini_Source co_Source_addNode) rfl rfl rfl pd_Source_addNode ⟨rm_hi, rm_lo (Nat.le_of_ble_eq_true rfl)⟩) hK hP hD hS hA hnw henv (Nat.le_of_ble_eq_true rfl) rfl rfl hl.1 rfl (Nat.le_of_ble_eq_true rfl) d_Parser_parsePrimary_23 ⟨Nat.le_refl _, Nat.le_refl _⟩ (fun H locs hP hD hS => ?_)
    clear hc3
    refine lv_istore_n (lv' := [(3, .int r3), (2, .int z2), (0, .ref (ad 4)), (1, .int p1)]) hx hb d_Parser_parsePrimary_26 rfl hl (by decide) rfl (fun ls hl => ?_)
    refine lv_iload_n hx hb d_Parser_parsePrimary_27 rfl (lv_at hl 1 rfl) ?_
    by_cases c4 : z2 = (2 : Int32)
    · replace hR := if_p c4 hR
      refine lv_lookup (off := 115) (tgt := 143) hx hb d_Parser_parsePrimary_28 (by decide) (by rw [c4]; decide) (by decide) ?_
      refine lv_aload_n hx hb d_Parser_parsePrimary_143 rfl (lv_at hl 2 rfl) ?_
      replace hR := bi_e hR
      obtain ⟨r5, l5, T5, hc5, hR⟩ := hR
      refine gcV_v (rest := []) ⟨hx, hb, hml, hown, hT⟩ (h_Parser_advance _ _ _ _ hc5) (cwV 0 hT (gV ml_Parser_59 im_Parser_advance se_Parser_advance ini_Parser co_Parser_advance) rfl rfl rfl pd_Parser_advance ⟨rm_hi, rm_lo (Nat.le_of_ble_eq_true rfl)⟩) hK hP hD hS hA hnw henv (Nat.le_of_ble_eq_true rfl) rfl rfl hl.1 rfl (Nat.le_of_ble_eq_true rfl) d_Parser_parsePrimary_144 ⟨Nat.le_refl _, Nat.le_refl _⟩ (fun H locs hP hD hS => ?_)
      clear hc5
      refine lv_aload_n hx hb d_Parser_parsePrimary_147 rfl (lv_at hl 2 rfl) ?_
      refine rd_Parser_33 hx hb hT hown hK hP d_Parser_parsePrimary_148 ?_
      refine lv_iconst (v := 4) hx hb d_Parser_parsePrimary_151 (by decide) ?_
      refine lv_icmp_eq (tgt := 164) hx hb d_Parser_parsePrimary_152 (by decide) (fun c6 => ?_) (fun c6 => ?_)
      · replace hR := if_p c6 hR
        have g := lb_164 T5 p1 r3 hR
        rw [hG] at g
        exact g _ _ hP hD hS _ (lv_sub hl [2, 3, 0] rfl)
      · replace hR := if_n c6 hR
        refine lv_aload_n hx hb d_Parser_parsePrimary_155 rfl (lv_at hl 2 rfl) ?_
        refine rd_Parser_33 hx hb hT hown hK hP d_Parser_parsePrimary_156 ?_
        refine lv_bipush (v := 42) hx hb d_Parser_parsePrimary_159 (by decide) ?_
        refine lv_icmp_ne (tgt := 299) hx hb d_Parser_parsePrimary_161 (by decide) (fun c7 => ?_) (fun c7 => ?_)
        · replace hR := if_n c7 hR
          refine lv_iload_n hx hb d_Parser_parsePrimary_299 rfl (lv_at hl 0 rfl) ?_
          obtain ⟨e1, -, e3⟩ := re_e hR
          subst e1; subst e3
          exact W.iret (v := r3) hx hb hr (fun t ht hW => ⟨⟨r3, (), rfl, rfl, by rw [ht]; exact hP, va_K.moved hW.alike hK, hD⟩, hS.F ht⟩) hS.2.2 d_Parser_parsePrimary_300
        · replace hR := if_p c7 hR
          have g := lb_164 T5 p1 r3 hR
          rw [hG] at g
          exact g _ _ hP hD hS _ (lv_sub hl [2, 3, 0] rfl)
    replace hR := if_n c4 hR
    by_cases c9 : z2 = (5 : Int32)
    · replace hR := if_p c9 hR
      refine lv_lookup (off := 108) (tgt := 136) hx hb d_Parser_parsePrimary_28 (by decide) (by rw [c9]; decide) (by decide) ?_
      refine lv_aload_n hx hb d_Parser_parsePrimary_136 rfl (lv_at hl 2 rfl) ?_
      replace hR := bi_e hR
      obtain ⟨r10, l10, T10, hc10, hR⟩ := hR
      refine gcV_v (rest := []) ⟨hx, hb, hml, hown, hT⟩ (h_Parser_advance _ _ _ _ hc10) (cwV 0 hT (gV ml_Parser_59 im_Parser_advance se_Parser_advance ini_Parser co_Parser_advance) rfl rfl rfl pd_Parser_advance ⟨rm_hi, rm_lo (Nat.le_of_ble_eq_true rfl)⟩) hK hP hD hS hA hnw henv (Nat.le_of_ble_eq_true rfl) rfl rfl hl.1 rfl (Nat.le_of_ble_eq_true rfl) d_Parser_parsePrimary_137 ⟨Nat.le_refl _, Nat.le_refl _⟩ (fun H locs hP hD hS => ?_)
      clear hc10
      refine lv_goto (tgt := 299) hx hb d_Parser_parsePrimary_140 (by decide) ?_
      refine lv_iload_n hx hb d_Parser_parsePrimary_299 rfl (lv_at hl 0 rfl) ?_
      obtain ⟨e1, -, e3⟩ := re_e hR
      subst e1; subst e3
      exact W.iret (v := r3) hx hb hr (fun t ht hW => ⟨⟨r3, (), rfl, rfl, by rw [ht]; exact hP, va_K.moved hW.alike hK, hD⟩, hS.F ht⟩) hS.2.2 d_Parser_parsePrimary_300
    replace hR := if_n c9 hR
    by_cases c12 : z2 = (27 : Int32)
    · replace hR := if_p c12 hR
      refine lv_lookup (off := 108) (tgt := 136) hx hb d_Parser_parsePrimary_28 (by decide) (by rw [c12]; decide) (by decide) ?_
      refine lv_aload_n hx hb d_Parser_parsePrimary_136 rfl (lv_at hl 2 rfl) ?_
      replace hR := bi_e hR
      obtain ⟨r13, l13, T13, hc13, hR⟩ := hR
      refine gcV_v (rest := []) ⟨hx, hb, hml, hown, hT⟩ (h_Parser_advance _ _ _ _ hc13) (cwV 0 hT (gV ml_Parser_59 im_Parser_advance se_Parser_advance ini_Parser co_Parser_advance) rfl rfl rfl pd_Parser_advance ⟨rm_hi, rm_lo (Nat.le_of_ble_eq_true rfl)⟩) hK hP hD hS hA hnw henv (Nat.le_of_ble_eq_true rfl) rfl rfl hl.1 rfl (Nat.le_of_ble_eq_true rfl) d_Parser_parsePrimary_137 ⟨Nat.le_refl _, Nat.le_refl _⟩ (fun H locs hP hD hS => ?_)
      clear hc13
      refine lv_goto (tgt := 299) hx hb d_Parser_parsePrimary_140 (by decide) ?_
      refine lv_iload_n hx hb d_Parser_parsePrimary_299 rfl (lv_at hl 0 rfl) ?_
      obtain ⟨e1, -, e3⟩ := re_e hR
      subst e1; subst e3
      exact W.iret (v := r3) hx hb hr (fun t ht hW => ⟨⟨r3, (), rfl, rfl, by rw [ht]; exact hP, va_K.moved hW.alike hK, hD⟩, hS.F ht⟩) hS.2.2 d_Parser_parsePrimary_300
    replace hR := if_n c12 hR
    by_cases c15 : z2 = (28 : Int32)
    · replace hR := if_p c15 hR
      refine lv_lookup (off := 188) (tgt := 216) hx hb d_Parser_parsePrimary_28 (by decide) (by rw [c15]; decide) (by decide) ?_
      refine lv_aload_n hx hb d_Parser_parsePrimary_216 rfl (lv_at hl 2 rfl) ?_
      replace hR := bi_e hR
      obtain ⟨r16, l16, T16, hc16, hR⟩ := hR
      refine gcV_v (rest := []) ⟨hx, hb, hml, hown, hT⟩ (h_Parser_advance _ _ _ _ hc16) (cwV 0 hT (gV ml_Parser_59 im_Parser_advance se_Parser_advance ini_Parser co_Parser_advance) rfl rfl rfl pd_Parser_advance ⟨rm_hi, rm_lo (Nat.le_of_ble_eq_true rfl)⟩) hK hP hD hS hA hnw henv (Nat.le_of_ble_eq_true rfl) rfl rfl hl.1 rfl (Nat.le_of_ble_eq_true rfl) d_Parser_parsePrimary_217 ⟨Nat.le_refl _, Nat.le_refl _⟩ (fun H locs hP hD hS => ?_)
      clear hc16
      refine lv_aload_n hx hb d_Parser_parsePrimary_220 rfl (lv_at hl 2 rfl) ?_
      refine lv_iload_n hx hb d_Parser_parsePrimary_221 rfl (lv_at hl 0 rfl) ?_
      refine lv_iload_n hx hb d_Parser_parsePrimary_222 rfl (lv_at hl 3 rfl) ?_
      replace hR := bi_e hR
      obtain ⟨r17, l17, T17, hc17, hR⟩ := hR
      refine gcV_v (rest := []) ⟨hx, hb, hml, hown, hT⟩ (h_Parser_parseNew _ _ _ _ _ _ hc17) (cwV 2 hT (gV ml_Parser_201 im_Parser_parseNew se_Parser_parseNew ini_Parser co_Parser_parseNew) rfl rfl rfl pd_Parser_parseNew ⟨rm_hi, rm_lo (Nat.le_of_ble_eq_true rfl)⟩) hK hP hD hS hA hnw henv (Nat.le_of_ble_eq_true rfl) rfl rfl hl.1 rfl (Nat.le_of_ble_eq_true rfl) d_Parser_parsePrimary_223 ⟨Nat.le_refl _, Nat.le_refl _⟩ (fun H locs hP hD hS => ?_)
      clear hc17
      refine lv_goto (tgt := 299) hx hb d_Parser_parsePrimary_226 (by decide) ?_
      refine lv_iload_n hx hb d_Parser_parsePrimary_299 rfl (lv_at hl 0 rfl) ?_
      obtain ⟨e1, -, e3⟩ := re_e hR
      subst e1; subst e3
      exact W.iret (v := r3) hx hb hr (fun t ht hW => ⟨⟨r3, (), rfl, rfl, by rw [ht]; exact hP, va_K.moved hW.alike hK, hD⟩, hS.F ht⟩) hS.2.2 d_Parser_parsePrimary_300
    replace hR := if_n c15 hR
    by_cases c19 : z2 = (29 : Int32)
    · replace hR := if_p c19 hR
      refine lv_lookup (off := 201) (tgt := 229) hx hb d_Parser_parsePrimary_28 (by decide) (by rw [c19]; decide) (by decide) ?_
      refine lv_aload_n hx hb d_Parser_parsePrimary_229 rfl (lv_at hl 2 rfl) ?_
      replace hR := bi_e hR
      obtain ⟨r20, l20, T20, hc20, hR⟩ := hR
      refine gcV_v (rest := []) ⟨hx, hb, hml, hown, hT⟩ (h_Parser_advance _ _ _ _ hc20) (cwV 0 hT (gV ml_Parser_59 im_Parser_advance se_Parser_advance ini_Parser co_Parser_advance) rfl rfl rfl pd_Parser_advance ⟨rm_hi, rm_lo (Nat.le_of_ble_eq_true rfl)⟩) hK hP hD hS hA hnw henv (Nat.le_of_ble_eq_true rfl) rfl rfl hl.1 rfl (Nat.le_of_ble_eq_true rfl) d_Parser_parsePrimary_230 ⟨Nat.le_refl _, Nat.le_refl _⟩ (fun H locs hP hD hS => ?_)
      clear hc20
      refine lv_aload_n hx hb d_Parser_parsePrimary_233 rfl (lv_at hl 2 rfl) ?_
      refine lv_iconst (v := 4) hx hb d_Parser_parsePrimary_234 (by decide) ?_
      replace hR := bi_e hR
      obtain ⟨r21, l21, T21, hc21, hR⟩ := hR
      refine gcV_v (rest := []) ⟨hx, hb, hml, hown, hT⟩ (h_Parser_need _ _ _ _ _ hc21) (cwV 1 hT (gV ml_Parser_85 im_Parser_need se_Parser_need ini_Parser co_Parser_need) rfl rfl rfl pd_Parser_need ⟨rm_hi, rm_lo (Nat.le_of_ble_eq_true rfl)⟩) hK hP hD hS hA hnw henv (Nat.le_of_ble_eq_true rfl) rfl rfl hl.1 rfl (Nat.le_of_ble_eq_true rfl) d_Parser_parsePrimary_235 ⟨Nat.le_refl _, Nat.le_refl _⟩ (fun H locs hP hD hS => ?_)
      clear hc21
      refine lv_aload_n hx hb d_Parser_parsePrimary_238 rfl (lv_at hl 2 rfl) ?_
      refine lv_iload_n hx hb d_Parser_parsePrimary_239 rfl (lv_at hl 0 rfl) ?_
      refine lv_iload_n hx hb d_Parser_parsePrimary_240 rfl (lv_at hl 1 rfl) ?_
      refine lv_iload_n hx hb d_Parser_parsePrimary_241 rfl (lv_at hl 3 rfl) ?_
      replace hR := bi_e hR
      obtain ⟨r22, l22, T22, hc22, hR⟩ := hR
      refine gcV_v (rest := []) ⟨hx, hb, hml, hown, hT⟩ (h_Parser_parseMaking _ _ _ _ _ _ _ hc22) (cwV 3 hT (gV ml_Parser_204 im_Parser_parseMaking se_Parser_parseMaking ini_Parser co_Parser_parseMaking) rfl rfl rfl pd_Parser_parseMaking ⟨rm_hi, rm_lo (Nat.le_of_ble_eq_true rfl)⟩) hK hP hD hS hA hnw henv (Nat.le_of_ble_eq_true rfl) rfl rfl hl.1 rfl (Nat.le_of_ble_eq_true rfl) d_Parser_parsePrimary_242 ⟨Nat.le_refl _, Nat.le_refl _⟩ (fun H locs hP hD hS => ?_)
      clear hc22
      refine lv_goto (tgt := 299) hx hb d_Parser_parsePrimary_245 (by decide) ?_
      refine lv_iload_n hx hb d_Parser_parsePrimary_299 rfl (lv_at hl 0 rfl) ?_
      obtain ⟨e1, -, e3⟩ := re_e hR
      subst e1; subst e3
      exact W.iret (v := r3) hx hb hr (fun t ht hW => ⟨⟨r3, (), rfl, rfl, by rw [ht]; exact hP, va_K.moved hW.alike hK, hD⟩, hS.F ht⟩) hS.2.2 d_Parser_parsePrimary_300
    replace hR := if_n c19 hR
    by_cases c24 : z2 = (30 : Int32)
    · replace hR := if_p c24 hR
      refine lv_lookup (off := 201) (tgt := 229) hx hb d_Parser_parsePrimary_28 (by decide) (by rw [c24]; decide) (by decide) ?_
      refine lv_aload_n hx hb d_Parser_parsePrimary_229 rfl (lv_at hl 2 rfl) ?_
      replace hR := bi_e hR
      obtain ⟨r25, l25, T25, hc25, hR⟩ := hR
      refine gcV_v (rest := []) ⟨hx, hb, hml, hown, hT⟩ (h_Parser_advance _ _ _ _ hc25) (cwV 0 hT (gV ml_Parser_59 im_Parser_advance se_Parser_advance ini_Parser co_Parser_advance) rfl rfl rfl pd_Parser_advance ⟨rm_hi, rm_lo (Nat.le_of_ble_eq_true rfl)⟩) hK hP hD hS hA hnw henv (Nat.le_of_ble_eq_true rfl) rfl rfl hl.1 rfl (Nat.le_of_ble_eq_true rfl) d_Parser_parsePrimary_230 ⟨Nat.le_refl _, Nat.le_refl _⟩ (fun H locs hP hD hS => ?_)
      clear hc25
      refine lv_aload_n hx hb d_Parser_parsePrimary_233 rfl (lv_at hl 2 rfl) ?_
      refine lv_iconst (v := 4) hx hb d_Parser_parsePrimary_234 (by decide) ?_
      replace hR := bi_e hR
      obtain ⟨r26, l26, T26, hc26, hR⟩ := hR
      refine gcV_v (rest := []) ⟨hx, hb, hml, hown, hT⟩ (h_Parser_need _ _ _ _ _ hc26) (cwV 1 hT (gV ml_Parser_85 im_Parser_need se_Parser_need ini_Parser co_Parser_need) rfl rfl rfl pd_Parser_need ⟨rm_hi, rm_lo (Nat.le_of_ble_eq_true rfl)⟩) hK hP hD hS hA hnw henv (Nat.le_of_ble_eq_true rfl) rfl rfl hl.1 rfl (Nat.le_of_ble_eq_true rfl) d_Parser_parsePrimary_235 ⟨Nat.le_refl _, Nat.le_refl _⟩ (fun H locs hP hD hS => ?_)
      clear hc26
      refine lv_aload_n hx hb d_Parser_parsePrimary_238 rfl (lv_at hl 2 rfl) ?_
      refine lv_iload_n hx hb d_Parser_parsePrimary_239 rfl (lv_at hl 0 rfl) ?_
      refine lv_iload_n hx hb d_Parser_parsePrimary_240 rfl (lv_at hl 1 rfl) ?_
      refine lv_iload_n hx hb d_Parser_parsePrimary_241 rfl (lv_at hl 3 rfl) ?_
      replace hR := bi_e hR
      obtain ⟨r27, l27, T27, hc27, hR⟩ := hR
      refine gcV_v (rest := []) ⟨hx, hb, hml, hown, hT⟩ (h_Parser_parseMaking _ _ _ _ _ _ _ hc27) (cwV 3 hT (gV ml_Parser_204 im_Parser_parseMaking se_Parser_parseMaking ini_Parser co_Parser_parseMaking) rfl rfl rfl pd_Parser_parseMaking ⟨rm_hi, rm_lo (Nat.le_of_ble_eq_true rfl)⟩) hK hP hD hS hA hnw henv (Nat.le_of_ble_eq_true rfl) rfl rfl hl.1 rfl (Nat.le_of_ble_eq_true rfl) d_Parser_parsePrimary_242 ⟨Nat.le_refl _, Nat.le_refl _⟩ (fun H locs hP hD hS => ?_)
      clear hc27
      refine lv_goto (tgt := 299) hx hb d_Parser_parsePrimary_245 (by decide) ?_
      refine lv_iload_n hx hb d_Parser_parsePrimary_299 rfl (lv_at hl 0 rfl) ?_
      obtain ⟨e1, -, e3⟩ := re_e hR
      subst e1; subst e3
      exact W.iret (v := r3) hx hb hr (fun t ht hW => ⟨⟨r3, (), rfl, rfl, by rw [ht]; exact hP, va_K.moved hW.alike hK, hD⟩, hS.F ht⟩) hS.2.2 d_Parser_parsePrimary_300
    replace hR := if_n c24 hR
    by_cases c29 : z2 = (31 : Int32)
    · replace hR := if_p c29 hR
      refine lv_lookup (off := 243) (tgt := 271) hx hb d_Parser_parsePrimary_28 (by decide) (by rw [c29]; decide) (by decide) ?_
      refine lv_aload_n hx hb d_Parser_parsePrimary_271 rfl (lv_at hl 2 rfl) ?_
      replace hR := bi_e hR
      obtain ⟨r30, l30, T30, hc30, hR⟩ := hR
      refine gcV_v (rest := []) ⟨hx, hb, hml, hown, hT⟩ (h_Parser_advance _ _ _ _ hc30) (cwV 0 hT (gV ml_Parser_59 im_Parser_advance se_Parser_advance ini_Parser co_Parser_advance) rfl rfl rfl pd_Parser_advance ⟨rm_hi, rm_lo (Nat.le_of_ble_eq_true rfl)⟩) hK hP hD hS hA hnw henv (Nat.le_of_ble_eq_true rfl) rfl rfl hl.1 rfl (Nat.le_of_ble_eq_true rfl) d_Parser_parsePrimary_272 ⟨Nat.le_refl _, Nat.le_refl _⟩ (fun H locs hP hD hS => ?_)
      clear hc30
      refine lv_aload_n hx hb d_Parser_parsePrimary_275 rfl (lv_at hl 2 rfl) ?_
      refine lv_iload_n hx hb d_Parser_parsePrimary_276 rfl (lv_at hl 0 rfl) ?_
      refine lv_iload_n hx hb d_Parser_parsePrimary_277 rfl (lv_at hl 1 rfl) ?_
      refine lv_iload_n hx hb d_Parser_parsePrimary_278 rfl (lv_at hl 3 rfl) ?_
      replace hR := bi_e hR
      obtain ⟨r31, l31, T31, hc31, hR⟩ := hR
      refine gcV_v (rest := []) ⟨hx, hb, hml, hown, hT⟩ (h_Parser_parseMaking _ _ _ _ _ _ _ hc31) (cwV 3 hT (gV ml_Parser_204 im_Parser_parseMaking se_Parser_parseMaking ini_Parser co_Parser_parseMaking) rfl rfl rfl pd_Parser_parseMaking ⟨rm_hi, rm_lo (Nat.le_of_ble_eq_true rfl)⟩) hK hP hD hS hA hnw henv (Nat.le_of_ble_eq_true rfl) rfl rfl hl.1 rfl (Nat.le_of_ble_eq_true rfl) d_Parser_parsePrimary_279 ⟨Nat.le_refl _, Nat.le_refl _⟩ (fun H locs hP hD hS => ?_)
      clear hc31
      refine lv_goto (tgt := 299) hx hb d_Parser_parsePrimary_282 (by decide) ?_
      refine lv_iload_n hx hb d_Parser_parsePrimary_299 rfl (lv_at hl 0 rfl) ?_
      obtain ⟨e1, -, e3⟩ := re_e hR
      subst e1; subst e3
      exact W.iret (v := r3) hx hb hr (fun t ht hW => ⟨⟨r3, (), rfl, rfl, by rw [ht]; exact hP, va_K.moved hW.alike hK, hD⟩, hS.F ht⟩) hS.2.2 d_Parser_parsePrimary_300
    replace hR := if_n c29 hR
    by_cases c33 : z2 = (32 : Int32)
    · replace hR := if_p c33 hR
      refine lv_lookup (off := 243) (tgt := 271) hx hb d_Parser_parsePrimary_28 (by decide) (by rw [c33]; decide) (by decide) ?_
      refine lv_aload_n hx hb d_Parser_parsePrimary_271 rfl (lv_at hl 2 rfl) ?_
      replace hR := bi_e hR
      obtain ⟨r34, l34, T34, hc34, hR⟩ := hR
      refine gcV_v (rest := []) ⟨hx, hb, hml, hown, hT⟩ (h_Parser_advance _ _ _ _ hc34) (cwV 0 hT (gV ml_Parser_59 im_Parser_advance se_Parser_advance ini_Parser co_Parser_advance) rfl rfl rfl pd_Parser_advance ⟨rm_hi, rm_lo (Nat.le_of_ble_eq_true rfl)⟩) hK hP hD hS hA hnw henv (Nat.le_of_ble_eq_true rfl) rfl rfl hl.1 rfl (Nat.le_of_ble_eq_true rfl) d_Parser_parsePrimary_272 ⟨Nat.le_refl _, Nat.le_refl _⟩ (fun H locs hP hD hS => ?_)
      clear hc34
      refine lv_aload_n hx hb d_Parser_parsePrimary_275 rfl (lv_at hl 2 rfl) ?_
      refine lv_iload_n hx hb d_Parser_parsePrimary_276 rfl (lv_at hl 0 rfl) ?_
      refine lv_iload_n hx hb d_Parser_parsePrimary_277 rfl (lv_at hl 1 rfl) ?_
      refine lv_iload_n hx hb d_Parser_parsePrimary_278 rfl (lv_at hl 3 rfl) ?_
      replace hR := bi_e hR
      obtain ⟨r35, l35, T35, hc35, hR⟩ := hR
      refine gcV_v (rest := []) ⟨hx, hb, hml, hown, hT⟩ (h_Parser_parseMaking _ _ _ _ _ _ _ hc35) (cwV 3 hT (gV ml_Parser_204 im_Parser_parseMaking se_Parser_parseMaking ini_Parser co_Parser_parseMaking) rfl rfl rfl pd_Parser_parseMaking ⟨rm_hi, rm_lo (Nat.le_of_ble_eq_true rfl)⟩) hK hP hD hS hA hnw henv (Nat.le_of_ble_eq_true rfl) rfl rfl hl.1 rfl (Nat.le_of_ble_eq_true rfl) d_Parser_parsePrimary_279 ⟨Nat.le_refl _, Nat.le_refl _⟩ (fun H locs hP hD hS => ?_)
      clear hc35
      refine lv_goto (tgt := 299) hx hb d_Parser_parsePrimary_282 (by decide) ?_
      refine lv_iload_n hx hb d_Parser_parsePrimary_299 rfl (lv_at hl 0 rfl) ?_
      obtain ⟨e1, -, e3⟩ := re_e hR
      subst e1; subst e3
      exact W.iret (v := r3) hx hb hr (fun t ht hW => ⟨⟨r3, (), rfl, rfl, by rw [ht]; exact hP, va_K.moved hW.alike hK, hD⟩, hS.F ht⟩) hS.2.2 d_Parser_parsePrimary_300
    replace hR := if_n c33 hR
    by_cases c37 : z2 = (34 : Int32)
    · replace hR := if_p c37 hR
      refine lv_lookup (off := 108) (tgt := 136) hx hb d_Parser_parsePrimary_28 (by decide) (by rw [c37]; decide) (by decide) ?_
      refine lv_aload_n hx hb d_Parser_parsePrimary_136 rfl (lv_at hl 2 rfl) ?_
      replace hR := bi_e hR
      obtain ⟨r38, l38, T38, hc38, hR⟩ := hR
      refine gcV_v (rest := []) ⟨hx, hb, hml, hown, hT⟩ (h_Parser_advance _ _ _ _ hc38) (cwV 0 hT (gV ml_Parser_59 im_Parser_advance se_Parser_advance ini_Parser co_Parser_advance) rfl rfl rfl pd_Parser_advance ⟨rm_hi, rm_lo (Nat.le_of_ble_eq_true rfl)⟩) hK hP hD hS hA hnw henv (Nat.le_of_ble_eq_true rfl) rfl rfl hl.1 rfl (Nat.le_of_ble_eq_true rfl) d_Parser_parsePrimary_137 ⟨Nat.le_refl _, Nat.le_refl _⟩ (fun H locs hP hD hS => ?_)
      clear hc38
      refine lv_goto (tgt := 299) hx hb d_Parser_parsePrimary_140 (by decide) ?_
      refine lv_iload_n hx hb d_Parser_parsePrimary_299 rfl (lv_at hl 0 rfl) ?_
      obtain ⟨e1, -, e3⟩ := re_e hR
      subst e1; subst e3
      exact W.iret (v := r3) hx hb hr (fun t ht hW => ⟨⟨r3, (), rfl, rfl, by rw [ht]; exact hP, va_K.moved hW.alike hK, hD⟩, hS.F ht⟩) hS.2.2 d_Parser_parsePrimary_300
    replace hR := if_n c37 hR
    by_cases c40 : z2 = (35 : Int32)
    · replace hR := if_p c40 hR
      refine lv_lookup (off := 108) (tgt := 136) hx hb d_Parser_parsePrimary_28 (by decide) (by rw [c40]; decide) (by decide) ?_
      refine lv_aload_n hx hb d_Parser_parsePrimary_136 rfl (lv_at hl 2 rfl) ?_
      replace hR := bi_e hR
      obtain ⟨r41, l41, T41, hc41, hR⟩ := hR
      refine gcV_v (rest := []) ⟨hx, hb, hml, hown, hT⟩ (h_Parser_advance _ _ _ _ hc41) (cwV 0 hT (gV ml_Parser_59 im_Parser_advance se_Parser_advance ini_Parser co_Parser_advance) rfl rfl rfl pd_Parser_advance ⟨rm_hi, rm_lo (Nat.le_of_ble_eq_true rfl)⟩) hK hP hD hS hA hnw henv (Nat.le_of_ble_eq_true rfl) rfl rfl hl.1 rfl (Nat.le_of_ble_eq_true rfl) d_Parser_parsePrimary_137 ⟨Nat.le_refl _, Nat.le_refl _⟩ (fun H locs hP hD hS => ?_)
      clear hc41
      refine lv_goto (tgt := 299) hx hb d_Parser_parsePrimary_140 (by decide) ?_
      refine lv_iload_n hx hb d_Parser_parsePrimary_299 rfl (lv_at hl 0 rfl) ?_
      obtain ⟨e1, -, e3⟩ := re_e hR
      subst e1; subst e3
      exact W.iret (v := r3) hx hb hr (fun t ht hW => ⟨⟨r3, (), rfl, rfl, by rw [ht]; exact hP, va_K.moved hW.alike hK, hD⟩, hS.F ht⟩) hS.2.2 d_Parser_parsePrimary_300
    replace hR := if_n c40 hR
    by_cases c43 : z2 = (42 : Int32)
    · replace hR := if_p c43 hR
      refine lv_lookup (off := 257) (tgt := 285) hx hb d_Parser_parsePrimary_28 (by decide) (by rw [c43]; decide) (by decide) ?_
      refine lv_aload_n hx hb d_Parser_parsePrimary_285 rfl (lv_at hl 2 rfl) ?_
      refine lv_iload_n hx hb d_Parser_parsePrimary_286 rfl (lv_at hl 0 rfl) ?_
      refine lv_iload_n hx hb d_Parser_parsePrimary_287 rfl (lv_at hl 1 rfl) ?_
      refine lv_iload_n hx hb d_Parser_parsePrimary_288 rfl (lv_at hl 3 rfl) ?_
      replace hR := bi_e hR
      obtain ⟨r44, l44, T44, hc44, hR⟩ := hR
      refine gcV_v (rest := []) ⟨hx, hb, hml, hown, hT⟩ (h_Parser_parseMaking _ _ _ _ _ _ _ hc44) (cwV 3 hT (gV ml_Parser_204 im_Parser_parseMaking se_Parser_parseMaking ini_Parser co_Parser_parseMaking) rfl rfl rfl pd_Parser_parseMaking ⟨rm_hi, rm_lo (Nat.le_of_ble_eq_true rfl)⟩) hK hP hD hS hA hnw henv (Nat.le_of_ble_eq_true rfl) rfl rfl hl.1 rfl (Nat.le_of_ble_eq_true rfl) d_Parser_parsePrimary_289 ⟨Nat.le_refl _, Nat.le_refl _⟩ (fun H locs hP hD hS => ?_)
      clear hc44
      refine lv_goto (tgt := 299) hx hb d_Parser_parsePrimary_292 (by decide) ?_
      refine lv_iload_n hx hb d_Parser_parsePrimary_299 rfl (lv_at hl 0 rfl) ?_
      obtain ⟨e1, -, e3⟩ := re_e hR
      subst e1; subst e3
      exact W.iret (v := r3) hx hb hr (fun t ht hW => ⟨⟨r3, (), rfl, rfl, by rw [ht]; exact hP, va_K.moved hW.alike hK, hD⟩, hS.F ht⟩) hS.2.2 d_Parser_parsePrimary_300
    replace hR := if_n c43 hR
    by_cases c46 : z2 = (58 : Int32)
    · replace hR := if_p c46 hR
      refine lv_lookup (off := 220) (tgt := 248) hx hb d_Parser_parsePrimary_28 (by decide) (by rw [c46]; decide) (by decide) ?_
      refine lv_aload_n hx hb d_Parser_parsePrimary_248 rfl (lv_at hl 2 rfl) ?_
      replace hR := bi_e hR
      obtain ⟨r47, l47, T47, hc47, hR⟩ := hR
      refine gcV_v (rest := []) ⟨hx, hb, hml, hown, hT⟩ (h_Parser_advance _ _ _ _ hc47) (cwV 0 hT (gV ml_Parser_59 im_Parser_advance se_Parser_advance ini_Parser co_Parser_advance) rfl rfl rfl pd_Parser_advance ⟨rm_hi, rm_lo (Nat.le_of_ble_eq_true rfl)⟩) hK hP hD hS hA hnw henv (Nat.le_of_ble_eq_true rfl) rfl rfl hl.1 rfl (Nat.le_of_ble_eq_true rfl) d_Parser_parsePrimary_249 ⟨Nat.le_refl _, Nat.le_refl _⟩ (fun H locs hP hD hS => ?_)
      clear hc47
      refine lv_aload_n hx hb d_Parser_parsePrimary_252 rfl (lv_at hl 2 rfl) ?_
      refine rd_Parser_9 hx hb hT hown hK hP d_Parser_parsePrimary_253 ?_
      refine rd_Parser_169 hx hb hT hown hK hP d_Parser_parsePrimary_256 ?_
      refine lv_iload_n hx hb d_Parser_parsePrimary_259 rfl (lv_at hl 0 rfl) ?_
      refine lv_aload_n hx hb d_Parser_parsePrimary_260 rfl (lv_at hl 2 rfl) ?_
      refine lv_iload_n hx hb d_Parser_parsePrimary_261 rfl (lv_at hl 3 rfl) ?_
      refine lv_iconst (v := 1) hx hb d_Parser_parsePrimary_262 (by decide) ?_
      refine lv_iadd hx hb d_Parser_parsePrimary_263 ?_
      replace hR := bi_e hR
      obtain ⟨r48, l48, T48, hc48, hR⟩ := hR
      refine gcV_i (rest := [.int r3, .ref (ad 19)]) ⟨hx, hb, hml, hown, hT⟩ (h_Parser_parseTerm _ _ _ _ _ hc48) (cwV 1 hT (gV ml_Parser_182 im_Parser_parseTerm se_Parser_parseTerm ini_Parser co_Parser_parseTerm) rfl rfl rfl pd_Parser_parseTerm ⟨rm_hi, rm_lo (Nat.le_of_ble_eq_true rfl)⟩) hK hP hD hS hA hnw henv (Nat.le_of_ble_eq_true rfl) rfl rfl hl.1 rfl (Nat.le_of_ble_eq_true rfl) d_Parser_parsePrimary_264 ⟨Nat.le_refl _, Nat.le_refl _⟩ (fun H locs hP hD hS => ?_)
      clear hc48
      replace hR := gd_e hR
      obtain ⟨b49, hR⟩ := hR
      refine saH_7 hx hb hK hP hD hS b49 d_Parser_parsePrimary_267 (fun T49 eT H locs hP hD hS => ?_)
      replace hR := stK_e eT hR
      clear eT
      refine lv_goto (tgt := 299) hx hb d_Parser_parsePrimary_268 (by decide) ?_
      refine lv_iload_n hx hb d_Parser_parsePrimary_299 rfl (lv_at hl 0 rfl) ?_
      obtain ⟨e1, -, e3⟩ := re_e hR
      subst e1; subst e3
      exact W.iret (v := r3) hx hb hr (fun t ht hW => ⟨⟨r3, (), rfl, rfl, by rw [ht]; exact hP, va_K.moved hW.alike hK, hD⟩, hS.F ht⟩) hS.2.2 d_Parser_parsePrimary_300
    replace hR := if_n c46 hR
    refine lv_lookup (off := 267) (tgt := 295) hx hb d_Parser_parsePrimary_28 (by decide) ((lv_osw c4 rfl).trans ((lv_osw c9 rfl).trans ((lv_osw c12 rfl).trans ((lv_osw c15 rfl).trans ((lv_osw c19 rfl).trans ((lv_osw c24 rfl).trans ((lv_osw c29 rfl).trans ((lv_osw c33 rfl).trans ((lv_osw c37 rfl).trans ((lv_osw c40 rfl).trans ((lv_osw c43 rfl).trans ((lv_osw c46 rfl).trans rfl)))))))))))) (by decide) ?_
    refine lv_aload_n hx hb d_Parser_parsePrimary_295 rfl (lv_at hl 2 rfl) ?_
    replace hR := bi_e hR
    obtain ⟨r52, l52, T52, hc52, hR⟩ := hR
    refine gcV_v (rest := []) ⟨hx, hb, hml, hown, hT⟩ (h_Parser_stop _ _ _ _ hc52) (cwV 0 hT (gV ml_Parser_62 im_Parser_stop se_Parser_stop ini_Parser co_Parser_stop) rfl rfl rfl pd_Parser_stop ⟨rm_hi, rm_lo (Nat.le_of_ble_eq_true rfl)⟩) hK hP hD hS hA hnw henv (Nat.le_of_ble_eq_true rfl) rfl rfl hl.1 rfl (Nat.le_of_ble_eq_true rfl) d_Parser_parsePrimary_296 ⟨Nat.le_refl _, Nat.le_refl _⟩ (fun H locs hP hD hS => ?_)
    clear hc52
    refine lv_iload_n hx hb d_Parser_parsePrimary_299 rfl (lv_at hl 0 rfl) ?_
    obtain ⟨e1, -, e3⟩ := re_e hR
    subst e1; subst e3
    exact W.iret (v := r3) hx hb hr (fun t ht hW => ⟨⟨r3, (), rfl, rfl, by rw [ht]; exact hP, va_K.moved hW.alike hK, hD⟩, hS.F ht⟩) hS.2.2 d_Parser_parsePrimary_300
  · replace hR := if_n c1 hR
    refine lv_iconst (v := 0) hx hb d_Parser_parsePrimary_7 (by decide) ?_
    obtain ⟨e1, -, e3⟩ := re_e hR
    subst e1; subst e3
    exact W.iret (v := (0 : Int32)) hx hb hr (fun t ht hW => ⟨⟨(0 : Int32), (), rfl, rfl, by rw [ht]; exact hP, va_K.moved hW.alike hK, hD⟩, hS.F ht⟩) hS.2.2 d_Parser_parsePrimary_8
set_option maxHeartbeats 4000000 in
set_option maxRecDepth 100000 in
theorem sp_Parser_parseNew (l : Launch) (dC : Nat → ClassId) (dI : Nat → Nat → Nat) (ea ev ad : Nat → Nat) (km : Nat → ClassId) (F : gF) (nf d : Nat) (h_Parser_need : mt_Parser_need l dC dI ea ev ad km F d) (h_Parser_parseRegions : mt_Parser_parseRegions l dC dI ea ev ad km F d) (h_Parser_accept : mt_Parser_accept l dC dI ea ev ad km F d) (h_Parser_parseArguments : mt_Parser_parseArguments l dC dI ea ev ad km F d) (h_Parser_parseMaking : mt_Parser_parseMaking l dC dI ea ev ad km F d) (T0 : gSt) (p1 : Int32) (p2 : Int32) (r0 : Int32) (rl0 : Int64) (T9 : gSt) (hR : rb_Parser_parseNew F nf T0 p1 p2 = some (r0, rl0, T9)) : GMv l dC dI LH ad km ea ev y_Parser_parseNew w_Parser_parseNew (rmD (d + 1)) [.ref (ad 4), .int p1, .int p2] T0 T9 := by
  intro sz
  refine Met.ofW (cc := b_Parser_parseNew) (maxL := 3) (ret := none) (by decide) rfl ?_
  intro p e s m args below meth c s₁ B hml hv
  obtain ⟨rfl, hsz, hP, hK, hD0, hnw, henv⟩ := hv
  have hx := B.exec
  have hb := B.bytes
  have hr := B.returns
  have hT : ∀ w ∈ lw_good, w.before _ s = true := fun w h => atoms_spec (ws := w_Parser_parseNew) B.pre w (List.mem_cons_of_mem _ h)
  have hown : s.vm.findClass R_Parser = some m.cls := findClass_of_methodNamed B.named
  subst hsz
  have hD := hD0.self (sz := s.heap.size)
  clear hD0
  generalize hAe : va_A (gW LH ad km T0) s.heap.size = A at hD henv ⊢
  have hA : ∀ q : Nat, s.heap.size ≤ q → A q := fun q h => by rw [← hAe]; exact Or.inr h
  have hS : va_S A s.heap s.heap [] := va_S.rf
  have hl := lv_entry ([.ref (ad 4), .int p1, .int p2]) (n := 3) (Nat.le_of_ble_eq_true rfl)
  rw [lg_entry_eq]
  generalize (lg_sl ([.ref (ad 4), .int p1, .int p2]) ++ List.replicate (3 - (lg_sl ([.ref (ad 4), .int p1, .int p2])).length) Slot.unset).toArray = ls at hl ⊢
  have hl : lv_has ls 3 [(0, .ref (ad 4)), (1, .int p1), (2, .int p2)] := hl
  unfold rb_Parser_parseNew at hR
  refine lv_aload_n hx hb d_Parser_parseNew_0 rfl (lv_at hl 0 rfl) ?_
  refine lv_iconst (v := 4) hx hb d_Parser_parseNew_1 (by decide) ?_
  replace hR := bi_e hR
  obtain ⟨r1, l1, T1, hc1, hR⟩ := hR
  refine gcV_v (rest := []) ⟨hx, hb, hml, hown, hT⟩ (h_Parser_need _ _ _ _ _ hc1) (cwV 1 hT (gV ml_Parser_85 im_Parser_need se_Parser_need ini_Parser co_Parser_need) rfl rfl rfl pd_Parser_need ⟨rm_hi, rm_lo (Nat.le_of_ble_eq_true rfl)⟩) hK hP hD hS hA hnw henv (Nat.le_of_ble_eq_true rfl) rfl rfl hl.1 rfl (Nat.le_of_ble_eq_true rfl) d_Parser_parseNew_2 ⟨Nat.le_refl _, Nat.le_refl _⟩ (fun H locs hP hD hS => ?_)
  clear hc1
  refine lv_aload_n hx hb d_Parser_parseNew_5 rfl (lv_at hl 0 rfl) ?_
  refine lv_iconst (v := 3) hx hb d_Parser_parseNew_6 (by decide) ?_
  replace hR := bi_e hR
  obtain ⟨r2, l2, T2, hc2, hR⟩ := hR
  refine gcV_v (rest := []) ⟨hx, hb, hml, hown, hT⟩ (h_Parser_need _ _ _ _ _ hc2) (cwV 1 hT (gV ml_Parser_85 im_Parser_need se_Parser_need ini_Parser co_Parser_need) rfl rfl rfl pd_Parser_need ⟨rm_hi, rm_lo (Nat.le_of_ble_eq_true rfl)⟩) hK hP hD hS hA hnw henv (Nat.le_of_ble_eq_true rfl) rfl rfl hl.1 rfl (Nat.le_of_ble_eq_true rfl) d_Parser_parseNew_7 ⟨Nat.le_refl _, Nat.le_refl _⟩ (fun H locs hP hD hS => ?_)
  clear hc2
  refine lv_aload_n hx hb d_Parser_parseNew_10 rfl (lv_at hl 0 rfl) ?_
  refine rd_Parser_9 hx hb hT hown hK hP d_Parser_parseNew_11 ?_
  refine rd_Parser_175 hx hb hT hown hK hP d_Parser_parseNew_14 ?_
  refine lv_iload_n hx hb d_Parser_parseNew_17 rfl (lv_at hl 1 rfl) ?_
  refine lv_aload_n hx hb d_Parser_parseNew_18 rfl (lv_at hl 0 rfl) ?_
  refine lv_iconst (v := 3) hx hb d_Parser_parseNew_19 (by decide) ?_
  replace hR := bi_e hR
  obtain ⟨r3, l3, T3, hc3, hR⟩ := hR
  refine gcV_i (rest := [.int p1, .ref (ad 18)]) ⟨hx, hb, hml, hown, hT⟩ (h_Parser_parseRegions _ _ _ _ _ hc3) (cwV 1 hT (gV ml_Parser_91 im_Parser_parseRegions se_Parser_parseRegions ini_Parser co_Parser_parseRegions) rfl rfl rfl pd_Parser_parseRegions ⟨rm_hi, rm_lo (Nat.le_of_ble_eq_true rfl)⟩) hK hP hD hS hA hnw henv (Nat.le_of_ble_eq_true rfl) rfl rfl hl.1 rfl (Nat.le_of_ble_eq_true rfl) d_Parser_parseNew_20 ⟨Nat.le_refl _, Nat.le_refl _⟩ (fun H locs hP hD hS => ?_)
  clear hc3
  replace hR := gd_e hR
  obtain ⟨b4, hR⟩ := hR
  refine saH_6 hx hb hK hP hD hS b4 d_Parser_parseNew_23 (fun T4 eT H locs hP hD hS => ?_)
  replace hR := stK_e eT hR
  clear eT
  refine lv_aload_n hx hb d_Parser_parseNew_24 rfl (lv_at hl 0 rfl) ?_
  refine lv_bipush (v := 49) hx hb d_Parser_parseNew_25 (by decide) ?_
  replace hR := bi_e hR
  obtain ⟨r5, l5, T5, hc5, hR⟩ := hR
  refine gcV_i (rest := []) ⟨hx, hb, hml, hown, hT⟩ (h_Parser_accept _ _ _ _ _ hc5) (cwV 1 hT (gV ml_Parser_125 im_Parser_accept se_Parser_accept ini_Parser co_Parser_accept) rfl rfl rfl pd_Parser_accept ⟨rm_hi, rm_lo (Nat.le_of_ble_eq_true rfl)⟩) hK hP hD hS hA hnw henv (Nat.le_of_ble_eq_true rfl) rfl rfl hl.1 rfl (Nat.le_of_ble_eq_true rfl) d_Parser_parseNew_27 ⟨Nat.le_refl _, Nat.le_refl _⟩ (fun H locs hP hD hS => ?_)
  clear hc5
  refine lv_if_eq (tgt := 49) hx hb d_Parser_parseNew_30 (by decide) (fun c6 => ?_) (fun c6 => ?_)
  · replace hR := if_p c6 hR
    refine lv_aload_n hx hb d_Parser_parseNew_49 rfl (lv_at hl 0 rfl) ?_
    refine lv_bipush (v := 40) hx hb d_Parser_parseNew_50 (by decide) ?_
    replace hR := bi_e hR
    obtain ⟨r7, l7, T7, hc7, hR⟩ := hR
    refine gcV_v (rest := []) ⟨hx, hb, hml, hown, hT⟩ (h_Parser_need _ _ _ _ _ hc7) (cwV 1 hT (gV ml_Parser_85 im_Parser_need se_Parser_need ini_Parser co_Parser_need) rfl rfl rfl pd_Parser_need ⟨rm_hi, rm_lo (Nat.le_of_ble_eq_true rfl)⟩) hK hP hD hS hA hnw henv (Nat.le_of_ble_eq_true rfl) rfl rfl hl.1 rfl (Nat.le_of_ble_eq_true rfl) d_Parser_parseNew_52 ⟨Nat.le_refl _, Nat.le_refl _⟩ (fun H locs hP hD hS => ?_)
    clear hc7
    refine lv_aload_n hx hb d_Parser_parseNew_55 rfl (lv_at hl 0 rfl) ?_
    refine rd_Parser_9 hx hb hT hown hK hP d_Parser_parseNew_56 ?_
    refine rd_Parser_169 hx hb hT hown hK hP d_Parser_parseNew_59 ?_
    refine lv_iload_n hx hb d_Parser_parseNew_62 rfl (lv_at hl 1 rfl) ?_
    refine lv_aload_n hx hb d_Parser_parseNew_63 rfl (lv_at hl 0 rfl) ?_
    refine lv_iload_n hx hb d_Parser_parseNew_64 rfl (lv_at hl 2 rfl) ?_
    refine lv_iconst (v := 1) hx hb d_Parser_parseNew_65 (by decide) ?_
    refine lv_iadd hx hb d_Parser_parseNew_66 ?_
    refine lv_bipush (v := 41) hx hb d_Parser_parseNew_67 (by decide) ?_
    replace hR := bi_e hR
    obtain ⟨r8, l8, T8, hc8, hR⟩ := hR
    refine gcV_i (rest := [.int p1, .ref (ad 19)]) ⟨hx, hb, hml, hown, hT⟩ (h_Parser_parseArguments _ _ _ _ _ _ hc8) (cwV 2 hT (gV ml_Parser_198 im_Parser_parseArguments se_Parser_parseArguments ini_Parser co_Parser_parseArguments) rfl rfl rfl pd_Parser_parseArguments ⟨rm_hi, rm_lo (Nat.le_of_ble_eq_true rfl)⟩) hK hP hD hS hA hnw henv (Nat.le_of_ble_eq_true rfl) rfl rfl hl.1 rfl (Nat.le_of_ble_eq_true rfl) d_Parser_parseNew_69 ⟨Nat.le_refl _, Nat.le_refl _⟩ (fun H locs hP hD hS => ?_)
    clear hc8
    replace hR := gd_e hR
    obtain ⟨b9, hR⟩ := hR
    refine saH_7 hx hb hK hP hD hS b9 d_Parser_parseNew_72 (fun T9 eT H locs hP hD hS => ?_)
    replace hR := stK_e eT hR
    clear eT
    obtain ⟨-, -, e3⟩ := re_e hR
    subst e3
    exact W.vret hx hb hr (fun t ht hW => ⟨⟨(), rfl, trivial, by rw [ht]; exact hP, va_K.moved hW.alike hK, hD⟩, hS.F ht⟩) hS.2.2 d_Parser_parseNew_73
  · replace hR := if_n c6 hR
    refine lv_aload_n hx hb d_Parser_parseNew_33 rfl (lv_at hl 0 rfl) ?_
    refine lv_iconst (v := 2) hx hb d_Parser_parseNew_34 (by decide) ?_
    replace hR := bi_e hR
    obtain ⟨r10, l10, T10, hc10, hR⟩ := hR
    refine gcV_v (rest := []) ⟨hx, hb, hml, hown, hT⟩ (h_Parser_need _ _ _ _ _ hc10) (cwV 1 hT (gV ml_Parser_85 im_Parser_need se_Parser_need ini_Parser co_Parser_need) rfl rfl rfl pd_Parser_need ⟨rm_hi, rm_lo (Nat.le_of_ble_eq_true rfl)⟩) hK hP hD hS hA hnw henv (Nat.le_of_ble_eq_true rfl) rfl rfl hl.1 rfl (Nat.le_of_ble_eq_true rfl) d_Parser_parseNew_35 ⟨Nat.le_refl _, Nat.le_refl _⟩ (fun H locs hP hD hS => ?_)
    clear hc10
    refine lv_aload_n hx hb d_Parser_parseNew_38 rfl (lv_at hl 0 rfl) ?_
    refine lv_iload_n hx hb d_Parser_parseNew_39 rfl (lv_at hl 1 rfl) ?_
    refine lv_bipush (v := 28) hx hb d_Parser_parseNew_40 (by decide) ?_
    refine lv_iload_n hx hb d_Parser_parseNew_42 rfl (lv_at hl 2 rfl) ?_
    replace hR := bi_e hR
    obtain ⟨r11, l11, T11, hc11, hR⟩ := hR
    refine gcV_v (rest := []) ⟨hx, hb, hml, hown, hT⟩ (h_Parser_parseMaking _ _ _ _ _ _ _ hc11) (cwV 3 hT (gV ml_Parser_204 im_Parser_parseMaking se_Parser_parseMaking ini_Parser co_Parser_parseMaking) rfl rfl rfl pd_Parser_parseMaking ⟨rm_hi, rm_lo (Nat.le_of_ble_eq_true rfl)⟩) hK hP hD hS hA hnw henv (Nat.le_of_ble_eq_true rfl) rfl rfl hl.1 rfl (Nat.le_of_ble_eq_true rfl) d_Parser_parseNew_43 ⟨Nat.le_refl _, Nat.le_refl _⟩ (fun H locs hP hD hS => ?_)
    clear hc11
    refine lv_goto (tgt := 73) hx hb d_Parser_parseNew_46 (by decide) ?_
    obtain ⟨-, -, e3⟩ := re_e hR
    subst e3
    exact W.vret hx hb hr (fun t ht hW => ⟨⟨(), rfl, trivial, by rw [ht]; exact hP, va_K.moved hW.alike hK, hD⟩, hS.F ht⟩) hS.2.2 d_Parser_parseNew_73
set_option maxHeartbeats 4000000 in
set_option maxRecDepth 100000 in
theorem sp_Parser_parseMaking (l : Launch) (dC : Nat → ClassId) (dI : Nat → Nat → Nat) (ea ev ad : Nat → Nat) (km : Nat → ClassId) (F : gF) (nf d : Nat) (h_Parser_need : mt_Parser_need l dC dI ea ev ad km F d) (h_Parser_parseExpr : mt_Parser_parseExpr l dC dI ea ev ad km F d) (T0 : gSt) (p1 : Int32) (p2 : Int32) (p3 : Int32) (r0 : Int32) (rl0 : Int64) (T9 : gSt) (hR : rb_Parser_parseMaking F nf T0 p1 p2 p3 = some (r0, rl0, T9)) : GMv l dC dI LH ad km ea ev y_Parser_parseMaking w_Parser_parseMaking (rmD (d + 1)) [.ref (ad 4), .int p1, .int p2, .int p3] T0 T9 := by
  intro sz
  refine Met.ofW (cc := b_Parser_parseMaking) (maxL := 5) (ret := none) (by decide) rfl ?_
  intro p e s m args below meth c s₁ B hml hv
  obtain ⟨rfl, hsz, hP, hK, hD0, hnw, henv⟩ := hv
  have hx := B.exec
  have hb := B.bytes
  have hr := B.returns
  have hT : ∀ w ∈ lw_good, w.before _ s = true := fun w h => atoms_spec (ws := w_Parser_parseMaking) B.pre w (List.mem_cons_of_mem _ h)
  have hown : s.vm.findClass R_Parser = some m.cls := findClass_of_methodNamed B.named
  subst hsz
  have hD := hD0.self (sz := s.heap.size)
  clear hD0
  generalize hAe : va_A (gW LH ad km T0) s.heap.size = A at hD henv ⊢
  have hA : ∀ q : Nat, s.heap.size ≤ q → A q := fun q h => by rw [← hAe]; exact Or.inr h
  have hS : va_S A s.heap s.heap [] := va_S.rf
  have hl := lv_entry ([.ref (ad 4), .int p1, .int p2, .int p3]) (n := 5) (Nat.le_of_ble_eq_true rfl)
  rw [lg_entry_eq]
  generalize (lg_sl ([.ref (ad 4), .int p1, .int p2, .int p3]) ++ List.replicate (5 - (lg_sl ([.ref (ad 4), .int p1, .int p2, .int p3])).length) Slot.unset).toArray = ls at hl ⊢
  have hl : lv_has ls 5 [(0, .ref (ad 4)), (1, .int p1), (2, .int p2), (3, .int p3)] := hl
  unfold rb_Parser_parseMaking at hR
  refine lv_aload_n hx hb d_Parser_parseMaking_0 rfl (lv_at hl 0 rfl) ?_
  refine lv_bipush (v := 42) hx hb d_Parser_parseMaking_1 (by decide) ?_
  replace hR := bi_e hR
  obtain ⟨r1, l1, T1, hc1, hR⟩ := hR
  refine gcV_v (rest := []) ⟨hx, hb, hml, hown, hT⟩ (h_Parser_need _ _ _ _ _ hc1) (cwV 1 hT (gV ml_Parser_85 im_Parser_need se_Parser_need ini_Parser co_Parser_need) rfl rfl rfl pd_Parser_need ⟨rm_hi, rm_lo (Nat.le_of_ble_eq_true rfl)⟩) hK hP hD hS hA hnw henv (Nat.le_of_ble_eq_true rfl) rfl rfl hl.1 rfl (Nat.le_of_ble_eq_true rfl) d_Parser_parseMaking_3 ⟨Nat.le_refl _, Nat.le_refl _⟩ (fun H locs hP hD hS => ?_)
  clear hc1
  refine lv_aload_n hx hb d_Parser_parseMaking_6 rfl (lv_at hl 0 rfl) ?_
  refine lv_iload_n hx hb d_Parser_parseMaking_7 rfl (lv_at hl 3 rfl) ?_
  refine lv_iconst (v := 1) hx hb d_Parser_parseMaking_8 (by decide) ?_
  refine lv_iadd hx hb d_Parser_parseMaking_9 ?_
  replace hR := bi_e hR
  obtain ⟨r2, l2, T2, hc2, hR⟩ := hR
  refine gcV_i (rest := []) ⟨hx, hb, hml, hown, hT⟩ (h_Parser_parseExpr _ _ _ _ _ hc2) (cwV 1 hT (gV ml_Parser_172 im_Parser_parseExpr se_Parser_parseExpr ini_Parser co_Parser_parseExpr) rfl rfl rfl pd_Parser_parseExpr ⟨rm_hi, rm_lo (Nat.le_of_ble_eq_true rfl)⟩) hK hP hD hS hA hnw henv (Nat.le_of_ble_eq_true rfl) rfl rfl hl.1 rfl (Nat.le_of_ble_eq_true rfl) d_Parser_parseMaking_10 ⟨Nat.le_refl _, Nat.le_refl _⟩ (fun H locs hP hD hS => ?_)
  clear hc2
  refine lv_istore (lv' := [(4, .int r2), (0, .ref (ad 4)), (1, .int p1), (2, .int p2), (3, .int p3)]) hx hb d_Parser_parseMaking_13 hl (by decide) rfl (fun ls hl => ?_)
  refine lv_aload_n hx hb d_Parser_parseMaking_15 rfl (lv_at hl 1 rfl) ?_
  refine rd_Parser_9 hx hb hT hown hK hP d_Parser_parseMaking_16 ?_
  refine rd_Parser_169 hx hb hT hown hK hP d_Parser_parseMaking_19 ?_
  refine lv_iload_n hx hb d_Parser_parseMaking_22 rfl (lv_at hl 2 rfl) ?_
  refine lv_iload hx hb d_Parser_parseMaking_23 (lv_at hl 0 rfl) ?_
  replace hR := gd_e hR
  obtain ⟨b3, hR⟩ := hR
  refine saH_7 hx hb hK hP hD hS b3 d_Parser_parseMaking_25 (fun T3 eT H locs hP hD hS => ?_)
  replace hR := stK_e eT hR
  clear eT
  refine lv_iload_n hx hb d_Parser_parseMaking_26 rfl (lv_at hl 3 rfl) ?_
  refine lv_bipush (v := 30) hx hb d_Parser_parseMaking_27 (by decide) ?_
  refine lv_icmp_ne (tgt := 55) hx hb d_Parser_parseMaking_29 (by decide) (fun c4 => ?_) (fun c4 => ?_)
  · replace hR := if_n c4 hR
    refine lv_aload_n hx hb d_Parser_parseMaking_55 rfl (lv_at hl 1 rfl) ?_
    refine lv_bipush (v := 43) hx hb d_Parser_parseMaking_56 (by decide) ?_
    replace hR := bi_e hR
    obtain ⟨r5, l5, T5, hc5, hR⟩ := hR
    refine gcV_v (rest := []) ⟨hx, hb, hml, hown, hT⟩ (h_Parser_need _ _ _ _ _ hc5) (cwV 1 hT (gV ml_Parser_85 im_Parser_need se_Parser_need ini_Parser co_Parser_need) rfl rfl rfl pd_Parser_need ⟨rm_hi, rm_lo (Nat.le_of_ble_eq_true rfl)⟩) hK hP hD hS hA hnw henv (Nat.le_of_ble_eq_true rfl) rfl rfl hl.1 rfl (Nat.le_of_ble_eq_true rfl) d_Parser_parseMaking_58 ⟨Nat.le_refl _, Nat.le_refl _⟩ (fun H locs hP hD hS => ?_)
    clear hc5
    obtain ⟨-, -, e3⟩ := re_e hR
    subst e3
    exact W.vret hx hb hr (fun t ht hW => ⟨⟨(), rfl, trivial, by rw [ht]; exact hP, va_K.moved hW.alike hK, hD⟩, hS.F ht⟩) hS.2.2 d_Parser_parseMaking_61
  · replace hR := if_p c4 hR
    refine lv_aload_n hx hb d_Parser_parseMaking_32 rfl (lv_at hl 1 rfl) ?_
    refine lv_bipush (v := 47) hx hb d_Parser_parseMaking_33 (by decide) ?_
    replace hR := bi_e hR
    obtain ⟨r6, l6, T6, hc6, hR⟩ := hR
    refine gcV_v (rest := []) ⟨hx, hb, hml, hown, hT⟩ (h_Parser_need _ _ _ _ _ hc6) (cwV 1 hT (gV ml_Parser_85 im_Parser_need se_Parser_need ini_Parser co_Parser_need) rfl rfl rfl pd_Parser_need ⟨rm_hi, rm_lo (Nat.le_of_ble_eq_true rfl)⟩) hK hP hD hS hA hnw henv (Nat.le_of_ble_eq_true rfl) rfl rfl hl.1 rfl (Nat.le_of_ble_eq_true rfl) d_Parser_parseMaking_35 ⟨Nat.le_refl _, Nat.le_refl _⟩ (fun H locs hP hD hS => ?_)
    clear hc6
    refine lv_aload_n hx hb d_Parser_parseMaking_38 rfl (lv_at hl 1 rfl) ?_
    refine rd_Parser_9 hx hb hT hown hK hP d_Parser_parseMaking_39 ?_
    refine rd_Parser_208 hx hb hT hown hK hP d_Parser_parseMaking_42 ?_
    refine lv_iload hx hb d_Parser_parseMaking_45 (lv_at hl 0 rfl) ?_
    refine lv_aload_n hx hb d_Parser_parseMaking_47 rfl (lv_at hl 1 rfl) ?_
    refine lv_iload_n hx hb d_Parser_parseMaking_48 rfl (lv_at hl 4 rfl) ?_
    refine lv_iconst (v := 1) hx hb d_Parser_parseMaking_49 (by decide) ?_
    refine lv_iadd hx hb d_Parser_parseMaking_50 ?_
    replace hR := bi_e hR
    obtain ⟨r7, l7, T7, hc7, hR⟩ := hR
    refine gcV_i (rest := [.int r2, .ref (ad 16)]) ⟨hx, hb, hml, hown, hT⟩ (h_Parser_parseExpr _ _ _ _ _ hc7) (cwV 1 hT (gV ml_Parser_172 im_Parser_parseExpr se_Parser_parseExpr ini_Parser co_Parser_parseExpr) rfl rfl rfl pd_Parser_parseExpr ⟨rm_hi, rm_lo (Nat.le_of_ble_eq_true rfl)⟩) hK hP hD hS hA hnw henv (Nat.le_of_ble_eq_true rfl) rfl rfl hl.1 rfl (Nat.le_of_ble_eq_true rfl) d_Parser_parseMaking_51 ⟨Nat.le_refl _, Nat.le_refl _⟩ (fun H locs hP hD hS => ?_)
    clear hc7
    replace hR := gd_e hR
    obtain ⟨b8, hR⟩ := hR
    refine saH_4 hx hb hK hP hD hS b8 d_Parser_parseMaking_54 (fun T8 eT H locs hP hD hS => ?_)
    replace hR := stK_e eT hR
    clear eT
    refine lv_aload_n hx hb d_Parser_parseMaking_55 rfl (lv_at hl 1 rfl) ?_
    refine lv_bipush (v := 43) hx hb d_Parser_parseMaking_56 (by decide) ?_
    replace hR := bi_e hR
    obtain ⟨r9, l9, T9, hc9, hR⟩ := hR
    refine gcV_v (rest := []) ⟨hx, hb, hml, hown, hT⟩ (h_Parser_need _ _ _ _ _ hc9) (cwV 1 hT (gV ml_Parser_85 im_Parser_need se_Parser_need ini_Parser co_Parser_need) rfl rfl rfl pd_Parser_need ⟨rm_hi, rm_lo (Nat.le_of_ble_eq_true rfl)⟩) hK hP hD hS hA hnw henv (Nat.le_of_ble_eq_true rfl) rfl rfl hl.1 rfl (Nat.le_of_ble_eq_true rfl) d_Parser_parseMaking_58 ⟨Nat.le_refl _, Nat.le_refl _⟩ (fun H locs hP hD hS => ?_)
    clear hc9
    obtain ⟨-, -, e3⟩ := re_e hR
    subst e3
    exact W.vret hx hb hr (fun t ht hW => ⟨⟨(), rfl, trivial, by rw [ht]; exact hP, va_K.moved hW.alike hK, hD⟩, hS.F ht⟩) hS.2.2 d_Parser_parseMaking_61
set_option maxHeartbeats 4000000 in
set_option maxRecDepth 100000 in
theorem sp_Parser_parseArguments (l : Launch) (dC : Nat → ClassId) (dI : Nat → Nat → Nat) (ea ev ad : Nat → Nat) (km : Nat → ClassId) (F : gF) (nf d : Nat) (h_Parser_accept : mt_Parser_accept l dC dI ea ev ad km F d) (h_Parser_parseExpr : mt_Parser_parseExpr l dC dI ea ev ad km F d) (h_Parser_need : mt_Parser_need l dC dI ea ev ad km F d) (h_Parser_stop : mt_Parser_stop l dC dI ea ev ad km F d) (T0 : gSt) (p1 : Int32) (p2 : Int32) (r0 : Int32) (rl0 : Int64) (T9 : gSt) (hR : rb_Parser_parseArguments F nf T0 p1 p2 = some (r0, rl0, T9)) : GMi l dC dI LH ad km ea ev y_Parser_parseArguments w_Parser_parseArguments (rmD (d + 1)) [.ref (ad 4), .int p1, .int p2] T0 r0 T9 := by
  intro sz
  refine Met.ofW (cc := b_Parser_parseArguments) (maxL := 7) (ret := (some .int)) (by decide) rfl ?_
  intro p e s m args below meth c s₁ B hml hv
  obtain ⟨rfl, hsz, hP, hK, hD0, hnw, henv⟩ := hv
  have hx := B.exec
  have hb := B.bytes
  have hr := B.returns
  have hT : ∀ w ∈ lw_good, w.before _ s = true := fun w h => atoms_spec (ws := w_Parser_parseArguments) B.pre w (List.mem_cons_of_mem _ h)
  have hown : s.vm.findClass R_Parser = some m.cls := findClass_of_methodNamed B.named
  subst hsz
  have hD := hD0.self (sz := s.heap.size)
  clear hD0
  generalize hAe : va_A (gW LH ad km T0) s.heap.size = A at hD henv ⊢
  have hA : ∀ q : Nat, s.heap.size ≤ q → A q := fun q h => by rw [← hAe]; exact Or.inr h
  have hS : va_S A s.heap s.heap [] := va_S.rf
  have hl := lv_entry ([.ref (ad 4), .int p1, .int p2]) (n := 7) (Nat.le_of_ble_eq_true rfl)
  rw [lg_entry_eq]
  generalize (lg_sl ([.ref (ad 4), .int p1, .int p2]) ++ List.replicate (7 - (lg_sl ([.ref (ad 4), .int p1, .int p2])).length) Slot.unset).toArray = ls at hl ⊢
  have hl : lv_has ls 7 [(0, .ref (ad 4)), (1, .int p1), (2, .int p2)] := hl
  obtain ⟨G, hG⟩ : ∃ G : Nat → List (Nat × Value) → List Value → gSt → Prop, G = (fun pc lv stk T => ∀ (H : Heap) (locs : List Loc), va_P (dC, dI) cls_all (gW LH ad km T) H → va_D A (gW LH ad km T) → va_S A s.heap H locs → ∀ (ls : Array Slot), lv_has ls 7 lv → W p l e (headSpec w_Parser_parseArguments (rmD (d + 1))).room s m ([.ref (ad 4), .int p1, .int p2] : List Value).toArray below meth c H locs 0 0 (MQ below (va_Qi (fun (z : Int32) (_ : Unit) => z = r0) (fun _ t => gPost dC dI LH ad km T9 A t) A) ([.ref (ad 4), .int p1, .int p2] : List Value).toArray s 0 0 A) (F0 m pc ls stk)) := ⟨_, rfl⟩
  have lb_49 : ∀ (rec_22 : gSt → Int32 → Int32 → Int32 → Int32 → Int32 → gR) (hrec_22 : ∀ (T : gSt) (x1 : Int32) (x2 : Int32) (x3 : Int32) (x4 : Int32) (x5 : Int32), rec_22 T x1 x2 x3 x4 x5 = some (r0, rl0, T9) → G 22 [(0, .ref (ad 4)), (1, .int x1), (2, .int x2), (3, .int x3), (4, .int x4), (5, .int x5)] [] T) (T : gSt) (x1 : Int32) (x2 : Int32) (x3 : Int32) (x4 : Int32) (x5 : Int32), rj_Parser_parseArguments_49 F nf rec_22 T x1 x2 x3 x4 x5 = some (r0, rl0, T9) → G 49 [(0, .ref (ad 4)), (1, .int x1), (2, .int x2), (3, .int x3), (4, .int x4), (5, .int x5)] [] T := by
    intro rec_22 hrec_22 T x1 x2 x3 x4 x5 hR; unfold rj_Parser_parseArguments_49 at hR; rw [hG]; intro H locs hP hD hS ls hl
    refine lv_aload_n hx hb d_Parser_parseArguments_49 rfl (lv_at hl 0 rfl) ?_
    refine lv_iload_n hx hb d_Parser_parseArguments_50 rfl (lv_at hl 1 rfl) ?_
    replace hR := bi_e hR
    obtain ⟨r14, l14, T14, hc14, hR⟩ := hR
    refine gcV_i (rest := []) ⟨hx, hb, hml, hown, hT⟩ (h_Parser_parseExpr _ _ _ _ _ hc14) (cwV 1 hT (gV ml_Parser_172 im_Parser_parseExpr se_Parser_parseExpr ini_Parser co_Parser_parseExpr) rfl rfl rfl pd_Parser_parseExpr ⟨rm_hi, rm_lo (Nat.le_of_ble_eq_true rfl)⟩) hK hP hD hS hA hnw henv (Nat.le_of_ble_eq_true rfl) rfl rfl hl.1 rfl (Nat.le_of_ble_eq_true rfl) d_Parser_parseArguments_51 ⟨Nat.le_refl _, Nat.le_refl _⟩ (fun H locs hP hD hS => ?_)
    clear hc14
    refine lv_istore (lv' := [(6, .int r14), (0, .ref (ad 4)), (1, .int x1), (2, .int x2), (3, .int x3), (4, .int x4), (5, .int x5)]) hx hb d_Parser_parseArguments_54 hl (by decide) rfl (fun ls hl => ?_)
    refine lv_aload_n hx hb d_Parser_parseArguments_56 rfl (lv_at hl 1 rfl) ?_
    refine rd_Parser_9 hx hb hT hown hK hP d_Parser_parseArguments_57 ?_
    refine rd_Parser_208 hx hb hT hown hK hP d_Parser_parseArguments_60 ?_
    refine lv_iload hx hb d_Parser_parseArguments_63 (lv_at hl 5 rfl) ?_
    refine lv_iload hx hb d_Parser_parseArguments_65 (lv_at hl 0 rfl) ?_
    replace hR := gd_e hR
    obtain ⟨b15, hR⟩ := hR
    refine saH_4 hx hb hK hP hD hS b15 d_Parser_parseArguments_67 (fun T15 eT H locs hP hD hS => ?_)
    replace hR := stK_e eT hR
    clear eT
    refine lv_iload hx hb d_Parser_parseArguments_68 (lv_at hl 0 rfl) ?_
    refine lv_istore (lv' := [(4, .int r14), (6, .int r14), (0, .ref (ad 4)), (1, .int x1), (2, .int x2), (3, .int x3), (5, .int x5)]) hx hb d_Parser_parseArguments_70 hl (by decide) rfl (fun ls hl => ?_)
    obtain ⟨z16, e16⟩ : ∃ y : Int32, y = x5 + (1 : Int32) := ⟨_, rfl⟩
    replace hR := vK_e e16 hR
    refine lv_iinc (v := z16) (lv' := [(5, .int z16), (4, .int r14), (6, .int r14), (0, .ref (ad 4)), (1, .int x1), (2, .int x2), (3, .int x3)]) hx hb d_Parser_parseArguments_72 hl (k := 6) rfl (by rw [e16]; rfl) (by decide) rfl (fun ls hl => ?_)
    refine lv_goto (tgt := 22) hx hb d_Parser_parseArguments_75 (by decide) ?_
    have g := hrec_22 T15 x1 x2 x3 r14 z16 hR
    rw [hG] at g
    exact g _ _ hP hD hS _ (lv_sub hl [3, 4, 5, 6, 1, 0] rfl)
  have lb_22 : ∀ (n : Nat) (T : gSt) (x1 : Int32) (x2 : Int32) (x3 : Int32) (x4 : Int32) (x5 : Int32), rl_Parser_parseArguments_22 F nf n T x1 x2 x3 x4 x5 = some (r0, rl0, T9) → G 22 [(0, .ref (ad 4)), (1, .int x1), (2, .int x2), (3, .int x3), (4, .int x4), (5, .int x5)] [] T := by
    intro n
    induction n with
    | zero => intro T x1 x2 x3 x4 x5 hR; rw [rl_Parser_parseArguments_22] at hR; cases hR
    | succ n ih =>
      intro T x1 x2 x3 x4 x5 hR; rw [rl_Parser_parseArguments_22] at hR; rw [hG]; intro H locs hP hD hS ls hl
      refine lv_iload hx hb d_Parser_parseArguments_22 (lv_at hl 5 rfl) ?_
      refine lv_bipush (v := 8) hx hb d_Parser_parseArguments_24 (by decide) ?_
      refine lv_icmp_gt (tgt := 78) hx hb d_Parser_parseArguments_26 (by decide) (fun c5 => ?_) (fun c5 => ?_)
      · replace hR := if_p c5 hR
        refine lv_aload_n hx hb d_Parser_parseArguments_78 rfl (lv_at hl 0 rfl) ?_
        refine lv_iload_n hx hb d_Parser_parseArguments_79 rfl (lv_at hl 2 rfl) ?_
        replace hR := bi_e hR
        obtain ⟨r6, l6, T6, hc6, hR⟩ := hR
        refine gcV_v (rest := []) ⟨hx, hb, hml, hown, hT⟩ (h_Parser_need _ _ _ _ _ hc6) (cwV 1 hT (gV ml_Parser_85 im_Parser_need se_Parser_need ini_Parser co_Parser_need) rfl rfl rfl pd_Parser_need ⟨rm_hi, rm_lo (Nat.le_of_ble_eq_true rfl)⟩) hK hP hD hS hA hnw henv (Nat.le_of_ble_eq_true rfl) rfl rfl hl.1 rfl (Nat.le_of_ble_eq_true rfl) d_Parser_parseArguments_80 ⟨Nat.le_refl _, Nat.le_refl _⟩ (fun H locs hP hD hS => ?_)
        clear hc6
        refine lv_iload_n hx hb d_Parser_parseArguments_83 rfl (lv_at hl 3 rfl) ?_
        obtain ⟨e1, -, e3⟩ := re_e hR
        subst e1; subst e3
        exact W.iret (v := x3) hx hb hr (fun t ht hW => ⟨⟨x3, (), rfl, rfl, by rw [ht]; exact hP, va_K.moved hW.alike hK, hD⟩, hS.F ht⟩) hS.2.2 d_Parser_parseArguments_84
      · replace hR := if_n c5 hR
        refine lv_aload_n hx hb d_Parser_parseArguments_29 rfl (lv_at hl 0 rfl) ?_
        refine lv_bipush (v := 47) hx hb d_Parser_parseArguments_30 (by decide) ?_
        replace hR := bi_e hR
        obtain ⟨r8, l8, T8, hc8, hR⟩ := hR
        refine gcV_i (rest := []) ⟨hx, hb, hml, hown, hT⟩ (h_Parser_accept _ _ _ _ _ hc8) (cwV 1 hT (gV ml_Parser_125 im_Parser_accept se_Parser_accept ini_Parser co_Parser_accept) rfl rfl rfl pd_Parser_accept ⟨rm_hi, rm_lo (Nat.le_of_ble_eq_true rfl)⟩) hK hP hD hS hA hnw henv (Nat.le_of_ble_eq_true rfl) rfl rfl hl.1 rfl (Nat.le_of_ble_eq_true rfl) d_Parser_parseArguments_32 ⟨Nat.le_refl _, Nat.le_refl _⟩ (fun H locs hP hD hS => ?_)
        clear hc8
        refine lv_if_eq (tgt := 78) hx hb d_Parser_parseArguments_35 (by decide) (fun c9 => ?_) (fun c9 => ?_)
        · replace hR := if_p c9 hR
          refine lv_aload_n hx hb d_Parser_parseArguments_78 rfl (lv_at hl 0 rfl) ?_
          refine lv_iload_n hx hb d_Parser_parseArguments_79 rfl (lv_at hl 2 rfl) ?_
          replace hR := bi_e hR
          obtain ⟨r10, l10, T10, hc10, hR⟩ := hR
          refine gcV_v (rest := []) ⟨hx, hb, hml, hown, hT⟩ (h_Parser_need _ _ _ _ _ hc10) (cwV 1 hT (gV ml_Parser_85 im_Parser_need se_Parser_need ini_Parser co_Parser_need) rfl rfl rfl pd_Parser_need ⟨rm_hi, rm_lo (Nat.le_of_ble_eq_true rfl)⟩) hK hP hD hS hA hnw henv (Nat.le_of_ble_eq_true rfl) rfl rfl hl.1 rfl (Nat.le_of_ble_eq_true rfl) d_Parser_parseArguments_80 ⟨Nat.le_refl _, Nat.le_refl _⟩ (fun H locs hP hD hS => ?_)
          clear hc10
          refine lv_iload_n hx hb d_Parser_parseArguments_83 rfl (lv_at hl 3 rfl) ?_
          obtain ⟨e1, -, e3⟩ := re_e hR
          subst e1; subst e3
          exact W.iret (v := x3) hx hb hr (fun t ht hW => ⟨⟨x3, (), rfl, rfl, by rw [ht]; exact hP, va_K.moved hW.alike hK, hD⟩, hS.F ht⟩) hS.2.2 d_Parser_parseArguments_84
        · replace hR := if_n c9 hR
          refine lv_iload hx hb d_Parser_parseArguments_38 (lv_at hl 5 rfl) ?_
          refine lv_bipush (v := 8) hx hb d_Parser_parseArguments_40 (by decide) ?_
          refine lv_icmp_ne (tgt := 49) hx hb d_Parser_parseArguments_42 (by decide) (fun c12 => ?_) (fun c12 => ?_)
          · replace hR := if_n c12 hR
            have g := lb_49 (rl_Parser_parseArguments_22 F nf n) ih T8 x1 x2 x3 x4 x5 hR
            rw [hG] at g
            exact g _ _ hP hD hS _ (lv_sub hl [0, 1, 2, 3, 4, 5] rfl)
          · replace hR := if_p c12 hR
            refine lv_aload_n hx hb d_Parser_parseArguments_45 rfl (lv_at hl 0 rfl) ?_
            replace hR := bi_e hR
            obtain ⟨r13, l13, T13, hc13, hR⟩ := hR
            refine gcV_v (rest := []) ⟨hx, hb, hml, hown, hT⟩ (h_Parser_stop _ _ _ _ hc13) (cwV 0 hT (gV ml_Parser_62 im_Parser_stop se_Parser_stop ini_Parser co_Parser_stop) rfl rfl rfl pd_Parser_stop ⟨rm_hi, rm_lo (Nat.le_of_ble_eq_true rfl)⟩) hK hP hD hS hA hnw henv (Nat.le_of_ble_eq_true rfl) rfl rfl hl.1 rfl (Nat.le_of_ble_eq_true rfl) d_Parser_parseArguments_46 ⟨Nat.le_refl _, Nat.le_refl _⟩ (fun H locs hP hD hS => ?_)
            clear hc13
            have g := lb_49 (rl_Parser_parseArguments_22 F nf n) ih T13 x1 x2 x3 x4 x5 hR
            rw [hG] at g
            exact g _ _ hP hD hS _ (lv_sub hl [0, 1, 2, 3, 4, 5] rfl)
  unfold rb_Parser_parseArguments at hR
  refine lv_aload_n hx hb d_Parser_parseArguments_0 rfl (lv_at hl 0 rfl) ?_
  refine lv_iload_n hx hb d_Parser_parseArguments_1 rfl (lv_at hl 2 rfl) ?_
  replace hR := bi_e hR
  obtain ⟨r1, l1, T1, hc1, hR⟩ := hR
  refine gcV_i (rest := []) ⟨hx, hb, hml, hown, hT⟩ (h_Parser_accept _ _ _ _ _ hc1) (cwV 1 hT (gV ml_Parser_125 im_Parser_accept se_Parser_accept ini_Parser co_Parser_accept) rfl rfl rfl pd_Parser_accept ⟨rm_hi, rm_lo (Nat.le_of_ble_eq_true rfl)⟩) hK hP hD hS hA hnw henv (Nat.le_of_ble_eq_true rfl) rfl rfl hl.1 rfl (Nat.le_of_ble_eq_true rfl) d_Parser_parseArguments_2 ⟨Nat.le_refl _, Nat.le_refl _⟩ (fun H locs hP hD hS => ?_)
  clear hc1
  refine lv_if_eq (tgt := 10) hx hb d_Parser_parseArguments_5 (by decide) (fun c2 => ?_) (fun c2 => ?_)
  · replace hR := if_p c2 hR
    refine lv_aload_n hx hb d_Parser_parseArguments_10 rfl (lv_at hl 0 rfl) ?_
    refine lv_iload_n hx hb d_Parser_parseArguments_11 rfl (lv_at hl 1 rfl) ?_
    replace hR := bi_e hR
    obtain ⟨r3, l3, T3, hc3, hR⟩ := hR
    refine gcV_i (rest := []) ⟨hx, hb, hml, hown, hT⟩ (h_Parser_parseExpr _ _ _ _ _ hc3) (cwV 1 hT (gV ml_Parser_172 im_Parser_parseExpr se_Parser_parseExpr ini_Parser co_Parser_parseExpr) rfl rfl rfl pd_Parser_parseExpr ⟨rm_hi, rm_lo (Nat.le_of_ble_eq_true rfl)⟩) hK hP hD hS hA hnw henv (Nat.le_of_ble_eq_true rfl) rfl rfl hl.1 rfl (Nat.le_of_ble_eq_true rfl) d_Parser_parseArguments_12 ⟨Nat.le_refl _, Nat.le_refl _⟩ (fun H locs hP hD hS => ?_)
    clear hc3
    refine lv_istore_n (lv' := [(3, .int r3), (0, .ref (ad 4)), (1, .int p1), (2, .int p2)]) hx hb d_Parser_parseArguments_15 rfl hl (by decide) rfl (fun ls hl => ?_)
    refine lv_iload_n hx hb d_Parser_parseArguments_16 rfl (lv_at hl 0 rfl) ?_
    refine lv_istore (lv' := [(4, .int r3), (3, .int r3), (0, .ref (ad 4)), (1, .int p1), (2, .int p2)]) hx hb d_Parser_parseArguments_17 hl (by decide) rfl (fun ls hl => ?_)
    refine lv_iconst (v := 1) hx hb d_Parser_parseArguments_19 (by decide) ?_
    refine lv_istore (lv' := [(5, .int (1 : Int32)), (4, .int r3), (3, .int r3), (0, .ref (ad 4)), (1, .int p1), (2, .int p2)]) hx hb d_Parser_parseArguments_20 hl (by decide) rfl (fun ls hl => ?_)
    have g := lb_22 nf T3 p1 p2 r3 r3 (1 : Int32) hR
    rw [hG] at g
    exact g _ _ hP hD hS _ (lv_sub hl [3, 4, 5, 2, 1, 0] rfl)
  · replace hR := if_n c2 hR
    refine lv_iconst (v := 0) hx hb d_Parser_parseArguments_8 (by decide) ?_
    obtain ⟨e1, -, e3⟩ := re_e hR
    subst e1; subst e3
    exact W.iret (v := (0 : Int32)) hx hb hr (fun t ht hW => ⟨⟨(0 : Int32), (), rfl, rfl, by rw [ht]; exact hP, va_K.moved hW.alike hK, hD⟩, hS.F ht⟩) hS.2.2 d_Parser_parseArguments_9
set_option maxHeartbeats 4000000 in
set_option maxRecDepth 100000 in
theorem sp_Types_clear (l : Launch) (dC : Nat → ClassId) (dI : Nat → Nat → Nat) (ea ev ad : Nat → Nat) (km : Nat → ClassId) (F : gF) (nf d : Nat) (T0 : gSt) (r0 : Int32) (rl0 : Int64) (T9 : gSt) (hR : rb_Types_clear F nf T0 = some (r0, rl0, T9)) : GMv l dC dI LH ad km ea ev y_Types_clear w_Types_clear (rmD (d + 1)) [.ref (ad 5)] T0 T9 := by
  intro sz
  refine Met.ofW (cc := b_Types_clear) (maxL := 1) (ret := none) (by decide) rfl ?_
  intro p e s m args below meth c s₁ B hml hv
  obtain ⟨rfl, hsz, hP, hK, hD0, hnw, henv⟩ := hv
  have hx := B.exec
  have hb := B.bytes
  have hr := B.returns
  have hT : ∀ w ∈ lw_good, w.before _ s = true := fun w h => atoms_spec (ws := w_Types_clear) B.pre w (List.mem_cons_of_mem _ h)
  have hown : s.vm.findClass R_Types = some m.cls := findClass_of_methodNamed B.named
  subst hsz
  have hD := hD0.self (sz := s.heap.size)
  clear hD0
  generalize hAe : va_A (gW LH ad km T0) s.heap.size = A at hD henv ⊢
  have hA : ∀ q : Nat, s.heap.size ≤ q → A q := fun q h => by rw [← hAe]; exact Or.inr h
  have hS : va_S A s.heap s.heap [] := va_S.rf
  have hl := lv_entry ([.ref (ad 5)]) (n := 1) (Nat.le_of_ble_eq_true rfl)
  rw [lg_entry_eq]
  generalize (lg_sl ([.ref (ad 5)]) ++ List.replicate (1 - (lg_sl ([.ref (ad 5)])).length) Slot.unset).toArray = ls at hl ⊢
  have hl : lv_has ls 1 [(0, .ref (ad 5))] := hl
  unfold rb_Types_clear at hR
  refine lv_aload_n hx hb d_Types_clear_0 rfl (lv_at hl 0 rfl) ?_
  refine lv_dup hx hb d_Types_clear_1 rfl ?_
  refine rd_Types_15 hx hb hT hown hK hP d_Types_clear_2 ?_
  refine lv_lconst (v := 1) hx hb d_Types_clear_5 (by decide) ?_
  refine lv_ladd hx hb d_Types_clear_6 ?_
  refine wr_Types_15 hx hb hT hown hK hP hD hS d_Types_clear_7 (fun T1 eT H locs hP hD hS => ?_)
  replace hR := stK_e eT hR
  clear eT
  obtain ⟨-, -, e3⟩ := re_e hR
  subst e3
  exact W.vret hx hb hr (fun t ht hW => ⟨⟨(), rfl, trivial, by rw [ht]; exact hP, va_K.moved hW.alike hK, hD⟩, hS.F ht⟩) hS.2.2 d_Types_clear_10
set_option maxHeartbeats 4000000 in
set_option maxRecDepth 100000 in
theorem sp_Types_keep (l : Launch) (dC : Nat → ClassId) (dI : Nat → Nat → Nat) (ea ev ad : Nat → Nat) (km : Nat → ClassId) (F : gF) (nf d : Nat) (T0 : gSt) (p1 : Int64) (r0 : Int32) (rl0 : Int64) (T9 : gSt) (hR : rb_Types_keep F nf T0 p1 = some (r0, rl0, T9)) : GMi l dC dI LH ad km ea ev y_Types_keep w_Types_keep (rmD (d + 1)) [.ref (ad 5), .long p1] T0 r0 T9 := by
  intro sz
  refine Met.ofW (cc := b_Types_keep) (maxL := 7) (ret := (some .int)) (by decide) rfl ?_
  intro p e s m args below meth c s₁ B hml hv
  obtain ⟨rfl, hsz, hP, hK, hD0, hnw, henv⟩ := hv
  have hx := B.exec
  have hb := B.bytes
  have hr := B.returns
  have hT : ∀ w ∈ lw_good, w.before _ s = true := fun w h => atoms_spec (ws := w_Types_keep) B.pre w (List.mem_cons_of_mem _ h)
  have hown : s.vm.findClass R_Types = some m.cls := findClass_of_methodNamed B.named
  subst hsz
  have hD := hD0.self (sz := s.heap.size)
  clear hD0
  generalize hAe : va_A (gW LH ad km T0) s.heap.size = A at hD henv ⊢
  have hA : ∀ q : Nat, s.heap.size ≤ q → A q := fun q h => by rw [← hAe]; exact Or.inr h
  have hS : va_S A s.heap s.heap [] := va_S.rf
  have hl := lv_entry ([.ref (ad 5), .long p1]) (n := 7) (Nat.le_of_ble_eq_true rfl)
  rw [lg_entry_eq]
  generalize (lg_sl ([.ref (ad 5), .long p1]) ++ List.replicate (7 - (lg_sl ([.ref (ad 5), .long p1])).length) Slot.unset).toArray = ls at hl ⊢
  have hl : lv_has ls 7 [(0, .ref (ad 5)), (1, .long p1)] := hl
  obtain ⟨G, hG⟩ : ∃ G : Nat → List (Nat × Value) → List Value → gSt → Prop, G = (fun pc lv stk T => ∀ (H : Heap) (locs : List Loc), va_P (dC, dI) cls_all (gW LH ad km T) H → va_D A (gW LH ad km T) → va_S A s.heap H locs → ∀ (ls : Array Slot), lv_has ls 7 lv → W p l e (headSpec w_Types_keep (rmD (d + 1))).room s m ([.ref (ad 5), .long p1] : List Value).toArray below meth c H locs 0 0 (MQ below (va_Qi (fun (z : Int32) (_ : Unit) => z = r0) (fun _ t => gPost dC dI LH ad km T9 A t) A) ([.ref (ad 5), .long p1] : List Value).toArray s 0 0 A) (F0 m pc ls stk)) := ⟨_, rfl⟩
  have lb_58 : ∀ (rec_24 : gSt → Int64 → Int32 → Int32 → gR) (hrec_24 : ∀ (T : gSt) (x3 : Int64) (x5 : Int32) (x6 : Int32), rec_24 T x3 x5 x6 = some (r0, rl0, T9) → G 24 [(0, .ref (ad 5)), (3, .long x3), (5, .int x5), (6, .int x6)] [] T) (T : gSt) (x3 : Int64) (x5 : Int32) (x6 : Int32), rj_Types_keep_58 F nf rec_24 T x3 x5 x6 = some (r0, rl0, T9) → G 58 [(0, .ref (ad 5)), (3, .long x3), (5, .int x5), (6, .int x6)] [] T := by
    intro rec_24 hrec_24 T x3 x5 x6 hR; unfold rj_Types_keep_58 at hR; rw [hG]; intro H locs hP hD hS ls hl
    refine lv_aload_n hx hb d_Types_keep_58 rfl (lv_at hl 0 rfl) ?_
    refine rd_Types_11 hx hb hT hown hK hP d_Types_keep_59 ?_
    refine lv_iload hx hb d_Types_keep_62 (lv_at hl 2 rfl) ?_
    replace hR := gd_e hR
    obtain ⟨b8, hR⟩ := hR
    refine laH_37 hx hb hK hP b8 d_Types_keep_64 ?_
    refine lv_lload_n hx hb d_Types_keep_65 rfl (lv_at hl 1 rfl) ?_
    refine W.lcmp hx hb d_Types_keep_66 ?_
    refine lv_if_ne (tgt := 75) hx hb d_Types_keep_67 (by decide) (fun c9 => ?_) (fun c9 => ?_)
    · replace hR := if_n c9 hR
      refine lv_iload hx hb d_Types_keep_75 (lv_at hl 2 rfl) ?_
      refine lv_iconst (v := 1) hx hb d_Types_keep_77 (by decide) ?_
      refine lv_iadd hx hb d_Types_keep_78 ?_
      refine lv_sipush (v := 16383) hx hb d_Types_keep_79 (by decide) ?_
      refine lv_iand hx hb d_Types_keep_82 ?_
      refine lv_topi (fun z10 e10 => ?_)
      replace hR := vK_e e10 hR
      refine lv_istore (lv' := [(5, .int z10), (0, .ref (ad 5)), (3, .long x3), (6, .int x6)]) hx hb d_Types_keep_83 hl (by decide) rfl (fun ls hl => ?_)
      obtain ⟨z11, e11⟩ : ∃ y : Int32, y = x6 + (1 : Int32) := ⟨_, rfl⟩
      replace hR := vK_e e11 hR
      refine lv_iinc (v := z11) (lv' := [(6, .int z11), (5, .int z10), (0, .ref (ad 5)), (3, .long x3)]) hx hb d_Types_keep_85 hl (k := 3) rfl (by rw [e11]; rfl) (by decide) rfl (fun ls hl => ?_)
      refine lv_goto (tgt := 24) hx hb d_Types_keep_88 (by decide) ?_
      have g := hrec_24 T x3 z10 z11 hR
      rw [hG] at g
      exact g _ _ hP hD hS _ (lv_sub hl [2, 3, 1, 0] rfl)
    · replace hR := if_p c9 hR
      refine lv_iload hx hb d_Types_keep_70 (lv_at hl 2 rfl) ?_
      refine lv_iconst (v := 3) hx hb d_Types_keep_72 (by decide) ?_
      refine lv_iadd hx hb d_Types_keep_73 ?_
      obtain ⟨e1, -, e3⟩ := re_e hR
      subst e1; subst e3
      exact W.iret (v := x5 + (3 : Int32)) hx hb hr (fun t ht hW => ⟨⟨x5 + (3 : Int32), (), rfl, rfl, by rw [ht]; exact hP, va_K.moved hW.alike hK, hD⟩, hS.F ht⟩) hS.2.2 d_Types_keep_74
  have lb_24 : ∀ (n : Nat) (T : gSt) (x3 : Int64) (x5 : Int32) (x6 : Int32), rl_Types_keep_24 F nf n T x3 x5 x6 = some (r0, rl0, T9) → G 24 [(0, .ref (ad 5)), (3, .long x3), (5, .int x5), (6, .int x6)] [] T := by
    intro n
    induction n with
    | zero => intro T x3 x5 x6 hR; rw [rl_Types_keep_24] at hR; cases hR
    | succ n ih =>
      intro T x3 x5 x6 hR; rw [rl_Types_keep_24] at hR; rw [hG]; intro H locs hP hD hS ls hl
      refine lv_iload hx hb d_Types_keep_24 (lv_at hl 3 rfl) ?_
      refine lv_sipush (v := 16384) hx hb d_Types_keep_26 (by decide) ?_
      refine lv_icmp_ge (tgt := 91) hx hb d_Types_keep_29 (by decide) (fun c3 => ?_) (fun c3 => ?_)
      · replace hR := if_p c3 hR
        refine lv_iconst (v := 1) hx hb d_Types_keep_91 (by decide) ?_
        obtain ⟨e1, -, e3⟩ := re_e hR
        subst e1; subst e3
        exact W.iret (v := (1 : Int32)) hx hb hr (fun t ht hW => ⟨⟨(1 : Int32), (), rfl, rfl, by rw [ht]; exact hP, va_K.moved hW.alike hK, hD⟩, hS.F ht⟩) hS.2.2 d_Types_keep_92
      · replace hR := if_n c3 hR
        refine lv_aload_n hx hb d_Types_keep_32 rfl (lv_at hl 0 rfl) ?_
        refine rd_Types_11 hx hb hT hown hK hP d_Types_keep_33 ?_
        refine lv_iload hx hb d_Types_keep_36 (lv_at hl 2 rfl) ?_
        replace hR := gd_e hR
        obtain ⟨b5, hR⟩ := hR
        refine laH_37 hx hb hK hP b5 d_Types_keep_38 ?_
        refine lv_bipush (v := 24) hx hb d_Types_keep_39 (by decide) ?_
        refine lv_lushr (v := ((T.2 62 x5.toNatClampNeg).toUInt64 >>> (((24 : Int32) : Int32).toInt64.toUInt64 &&& Int64.toUInt64 63)).toInt64) hx hb d_Types_keep_41 rfl ?_
        refine lv_aload_n hx hb d_Types_keep_42 rfl (lv_at hl 0 rfl) ?_
        refine rd_Types_15 hx hb hT hown hK hP d_Types_keep_43 ?_
        refine W.lcmp hx hb d_Types_keep_46 ?_
        refine lv_if_eq (tgt := 58) hx hb d_Types_keep_47 (by decide) (fun c6 => ?_) (fun c6 => ?_)
        · replace hR := if_p c6 hR
          have g := lb_58 (rl_Types_keep_24 F nf n) ih T x3 x5 x6 hR
          rw [hG] at g
          exact g _ _ hP hD hS _ (lv_sub hl [0, 1, 2, 3] rfl)
        · replace hR := if_n c6 hR
          refine lv_aload_n hx hb d_Types_keep_50 rfl (lv_at hl 0 rfl) ?_
          refine rd_Types_11 hx hb hT hown hK hP d_Types_keep_51 ?_
          refine lv_iload hx hb d_Types_keep_54 (lv_at hl 2 rfl) ?_
          refine lv_lload_n hx hb d_Types_keep_56 rfl (lv_at hl 1 rfl) ?_
          replace hR := gd_e hR
          obtain ⟨b7, hR⟩ := hR
          refine saH_37 hx hb hK hP hD hS b7 d_Types_keep_57 (fun T7 eT H locs hP hD hS => ?_)
          replace hR := stK_e eT hR
          clear eT
          have g := lb_58 (rl_Types_keep_24 F nf n) ih T7 x3 x5 x6 hR
          rw [hG] at g
          exact g _ _ hP hD hS _ (lv_sub hl [0, 1, 2, 3] rfl)
  unfold rb_Types_keep at hR
  refine lv_lload_n hx hb d_Types_keep_0 rfl (lv_at hl 1 rfl) ?_
  refine lv_aload_n hx hb d_Types_keep_1 rfl (lv_at hl 0 rfl) ?_
  refine rd_Types_15 hx hb hT hown hK hP d_Types_keep_2 ?_
  refine lv_bipush (v := 24) hx hb d_Types_keep_5 (by decide) ?_
  refine lv_lshl (v := (T0.2 63 0) <<< (((24 : Int32) : Int32).toInt64 &&& 63)) hx hb d_Types_keep_7 rfl ?_
  refine lv_lor hx hb d_Types_keep_8 ?_
  refine lv_topl (fun z1 e1 => ?_)
  replace hR := lK_e e1 hR
  refine lv_lstore_n (lv' := [(3, .long z1), (0, .ref (ad 5)), (1, .long p1)]) hx hb d_Types_keep_9 rfl hl (by decide) rfl (fun ls hl => ?_)
  refine lv_lload_n hx hb d_Types_keep_10 rfl (lv_at hl 2 rfl) ?_
  refine lv_ldc2 hx hb hown (hT _ k_Types_19) d_Types_keep_11 ?_
  refine lv_lmul hx hb d_Types_keep_14 ?_
  refine lv_bipush (v := 50) hx hb d_Types_keep_15 (by decide) ?_
  refine lv_lushr (v := ((p1 * (-7046029254386353131 : Int64)).toUInt64 >>> (((50 : Int32) : Int32).toInt64.toUInt64 &&& Int64.toUInt64 63)).toInt64) hx hb d_Types_keep_17 rfl ?_
  refine lv_l2i (v := (((p1 * (-7046029254386353131 : Int64)).toUInt64 >>> (((50 : Int32) : Int32).toInt64.toUInt64 &&& Int64.toUInt64 63)).toInt64 : Int64).toInt32) hx hb d_Types_keep_18 rfl ?_
  refine lv_topi (fun z2 e2 => ?_)
  replace hR := vK_e e2 hR
  refine lv_istore (lv' := [(5, .int z2), (3, .long z1), (0, .ref (ad 5)), (1, .long p1)]) hx hb d_Types_keep_19 hl (by decide) rfl (fun ls hl => ?_)
  refine lv_iconst (v := 0) hx hb d_Types_keep_21 (by decide) ?_
  refine lv_istore (lv' := [(6, .int (0 : Int32)), (5, .int z2), (3, .long z1), (0, .ref (ad 5)), (1, .long p1)]) hx hb d_Types_keep_22 hl (by decide) rfl (fun ls hl => ?_)
  have g := lb_24 nf T0 z1 z2 (0 : Int32) hR
  rw [hG] at g
  exact g _ _ hP hD hS _ (lv_sub hl [3, 2, 1, 0] rfl)
set_option maxHeartbeats 4000000 in
set_option maxRecDepth 100000 in
theorem sp_Types_pointer (l : Launch) (dC : Nat → ClassId) (dI : Nat → Nat → Nat) (ea ev ad : Nat → Nat) (km : Nat → ClassId) (F : gF) (nf d : Nat) (h_Types_keep : mt_Types_keep l dC dI ea ev ad km F d) (T0 : gSt) (p1 : Int32) (p2 : Int32) (p3 : Int32) (r0 : Int32) (rl0 : Int64) (T9 : gSt) (hR : rb_Types_pointer F nf T0 p1 p2 p3 = some (r0, rl0, T9)) : GMi l dC dI LH ad km ea ev y_Types_pointer w_Types_pointer (rmD (d + 1)) [.ref (ad 5), .int p1, .int p2, .int p3] T0 r0 T9 := by
  intro sz
  refine Met.ofW (cc := b_Types_pointer) (maxL := 4) (ret := (some .int)) (by decide) rfl ?_
  intro p e s m args below meth c s₁ B hml hv
  obtain ⟨rfl, hsz, hP, hK, hD0, hnw, henv⟩ := hv
  have hx := B.exec
  have hb := B.bytes
  have hr := B.returns
  have hT : ∀ w ∈ lw_good, w.before _ s = true := fun w h => atoms_spec (ws := w_Types_pointer) B.pre w (List.mem_cons_of_mem _ h)
  have hown : s.vm.findClass R_Types = some m.cls := findClass_of_methodNamed B.named
  subst hsz
  have hD := hD0.self (sz := s.heap.size)
  clear hD0
  generalize hAe : va_A (gW LH ad km T0) s.heap.size = A at hD henv ⊢
  have hA : ∀ q : Nat, s.heap.size ≤ q → A q := fun q h => by rw [← hAe]; exact Or.inr h
  have hS : va_S A s.heap s.heap [] := va_S.rf
  have hl := lv_entry ([.ref (ad 5), .int p1, .int p2, .int p3]) (n := 4) (Nat.le_of_ble_eq_true rfl)
  rw [lg_entry_eq]
  generalize (lg_sl ([.ref (ad 5), .int p1, .int p2, .int p3]) ++ List.replicate (4 - (lg_sl ([.ref (ad 5), .int p1, .int p2, .int p3])).length) Slot.unset).toArray = ls at hl ⊢
  have hl : lv_has ls 4 [(0, .ref (ad 5)), (1, .int p1), (2, .int p2), (3, .int p3)] := hl
  unfold rb_Types_pointer at hR
  refine lv_aload_n hx hb d_Types_pointer_0 rfl (lv_at hl 0 rfl) ?_
  refine lv_iload_n hx hb d_Types_pointer_1 rfl (lv_at hl 1 rfl) ?_
  refine lv_iload_n hx hb d_Types_pointer_2 rfl (lv_at hl 2 rfl) ?_
  refine lv_iconst (v := 3) hx hb d_Types_pointer_3 (by decide) ?_
  refine lv_ishl hx hb d_Types_pointer_4 ?_
  refine lv_ior hx hb d_Types_pointer_5 ?_
  refine lv_iload_n hx hb d_Types_pointer_6 rfl (lv_at hl 3 rfl) ?_
  refine lv_bipush (v := 7) hx hb d_Types_pointer_7 (by decide) ?_
  refine lv_ishl hx hb d_Types_pointer_9 ?_
  refine lv_ior hx hb d_Types_pointer_10 ?_
  refine lv_i2l (v := ((p1 ||| (p2 <<< ((3 : Int32) &&& 31))) ||| (p3 <<< ((7 : Int32) &&& 31)) : Int32).toInt64) hx hb d_Types_pointer_11 rfl ?_
  replace hR := bi_e hR
  obtain ⟨r1, l1, T1, hc1, hR⟩ := hR
  refine gcV_i (rest := []) ⟨hx, hb, hml, hown, hT⟩ (h_Types_keep _ _ _ _ _ hc1) (cwV 1 hT (gV ml_Types_21 im_Types_keep se_Types_keep ini_Types co_Types_keep) rfl rfl rfl pd_Types_keep ⟨rm_hi, rm_lo (Nat.le_of_ble_eq_true rfl)⟩) hK hP hD hS hA hnw henv (Nat.le_of_ble_eq_true rfl) rfl rfl hl.1 rfl (Nat.le_of_ble_eq_true rfl) d_Types_pointer_12 ⟨Nat.le_refl _, Nat.le_refl _⟩ (fun H locs hP hD hS => ?_)
  clear hc1
  obtain ⟨e1, -, e3⟩ := re_e hR
  subst e1; subst e3
  exact W.iret (v := r1) hx hb hr (fun t ht hW => ⟨⟨r1, (), rfl, rfl, by rw [ht]; exact hP, va_K.moved hW.alike hK, hD⟩, hS.F ht⟩) hS.2.2 d_Types_pointer_15
set_option maxHeartbeats 4000000 in
set_option maxRecDepth 100000 in
theorem sp_Types_thing (l : Launch) (dC : Nat → ClassId) (dI : Nat → Nat → Nat) (ea ev ad : Nat → Nat) (km : Nat → ClassId) (F : gF) (nf d : Nat) (h_Types_keep : mt_Types_keep l dC dI ea ev ad km F d) (T0 : gSt) (p1 : Int32) (p2 : Int32) (r0 : Int32) (rl0 : Int64) (T9 : gSt) (hR : rb_Types_thing F nf T0 p1 p2 = some (r0, rl0, T9)) : GMi l dC dI LH ad km ea ev y_Types_thing w_Types_thing (rmD (d + 1)) [.ref (ad 5), .int p1, .int p2] T0 r0 T9 := by
  intro sz
  refine Met.ofW (cc := b_Types_thing) (maxL := 3) (ret := (some .int)) (by decide) rfl ?_
  intro p e s m args below meth c s₁ B hml hv
  obtain ⟨rfl, hsz, hP, hK, hD0, hnw, henv⟩ := hv
  have hx := B.exec
  have hb := B.bytes
  have hr := B.returns
  have hT : ∀ w ∈ lw_good, w.before _ s = true := fun w h => atoms_spec (ws := w_Types_thing) B.pre w (List.mem_cons_of_mem _ h)
  have hown : s.vm.findClass R_Types = some m.cls := findClass_of_methodNamed B.named
  subst hsz
  have hD := hD0.self (sz := s.heap.size)
  clear hD0
  generalize hAe : va_A (gW LH ad km T0) s.heap.size = A at hD henv ⊢
  have hA : ∀ q : Nat, s.heap.size ≤ q → A q := fun q h => by rw [← hAe]; exact Or.inr h
  have hS : va_S A s.heap s.heap [] := va_S.rf
  have hl := lv_entry ([.ref (ad 5), .int p1, .int p2]) (n := 3) (Nat.le_of_ble_eq_true rfl)
  rw [lg_entry_eq]
  generalize (lg_sl ([.ref (ad 5), .int p1, .int p2]) ++ List.replicate (3 - (lg_sl ([.ref (ad 5), .int p1, .int p2])).length) Slot.unset).toArray = ls at hl ⊢
  have hl : lv_has ls 3 [(0, .ref (ad 5)), (1, .int p1), (2, .int p2)] := hl
  unfold rb_Types_thing at hR
  refine lv_aload_n hx hb d_Types_thing_0 rfl (lv_at hl 0 rfl) ?_
  refine lv_bipush (v := 6) hx hb d_Types_thing_1 (by decide) ?_
  refine lv_iload_n hx hb d_Types_thing_3 rfl (lv_at hl 1 rfl) ?_
  refine lv_iconst (v := 3) hx hb d_Types_thing_4 (by decide) ?_
  refine lv_ishl hx hb d_Types_thing_5 ?_
  refine lv_ior hx hb d_Types_thing_6 ?_
  refine lv_iload_n hx hb d_Types_thing_7 rfl (lv_at hl 2 rfl) ?_
  refine lv_bipush (v := 8) hx hb d_Types_thing_8 (by decide) ?_
  refine lv_ishl hx hb d_Types_thing_10 ?_
  refine lv_ior hx hb d_Types_thing_11 ?_
  refine lv_i2l (v := (((6 : Int32) ||| (p1 <<< ((3 : Int32) &&& 31))) ||| (p2 <<< ((8 : Int32) &&& 31)) : Int32).toInt64) hx hb d_Types_thing_12 rfl ?_
  replace hR := bi_e hR
  obtain ⟨r1, l1, T1, hc1, hR⟩ := hR
  refine gcV_i (rest := []) ⟨hx, hb, hml, hown, hT⟩ (h_Types_keep _ _ _ _ _ hc1) (cwV 1 hT (gV ml_Types_21 im_Types_keep se_Types_keep ini_Types co_Types_keep) rfl rfl rfl pd_Types_keep ⟨rm_hi, rm_lo (Nat.le_of_ble_eq_true rfl)⟩) hK hP hD hS hA hnw henv (Nat.le_of_ble_eq_true rfl) rfl rfl hl.1 rfl (Nat.le_of_ble_eq_true rfl) d_Types_thing_13 ⟨Nat.le_refl _, Nat.le_refl _⟩ (fun H locs hP hD hS => ?_)
  clear hc1
  obtain ⟨e1, -, e3⟩ := re_e hR
  subst e1; subst e3
  exact W.iret (v := r1) hx hb hr (fun t ht hW => ⟨⟨r1, (), rfl, rfl, by rw [ht]; exact hP, va_K.moved hW.alike hK, hD⟩, hS.F ht⟩) hS.2.2 d_Types_thing_16
set_option maxHeartbeats 4000000 in
set_option maxRecDepth 100000 in
theorem sp_Types_keyOf (l : Launch) (dC : Nat → ClassId) (dI : Nat → Nat → Nat) (ea ev ad : Nat → Nat) (km : Nat → ClassId) (F : gF) (nf d : Nat) (T0 : gSt) (p1 : Int32) (r0 : Int32) (rl0 : Int64) (T9 : gSt) (hR : rb_Types_keyOf F nf T0 p1 = some (r0, rl0, T9)) : GMi l dC dI LH ad km ea ev y_Types_keyOf w_Types_keyOf (rmD (d + 1)) [.ref (ad 5), .int p1] T0 r0 T9 := by
  intro sz
  refine Met.ofW (cc := b_Types_keyOf) (maxL := 2) (ret := (some .int)) (by decide) rfl ?_
  intro p e s m args below meth c s₁ B hml hv
  obtain ⟨rfl, hsz, hP, hK, hD0, hnw, henv⟩ := hv
  have hx := B.exec
  have hb := B.bytes
  have hr := B.returns
  have hT : ∀ w ∈ lw_good, w.before _ s = true := fun w h => atoms_spec (ws := w_Types_keyOf) B.pre w (List.mem_cons_of_mem _ h)
  have hown : s.vm.findClass R_Types = some m.cls := findClass_of_methodNamed B.named
  subst hsz
  have hD := hD0.self (sz := s.heap.size)
  clear hD0
  generalize hAe : va_A (gW LH ad km T0) s.heap.size = A at hD henv ⊢
  have hA : ∀ q : Nat, s.heap.size ≤ q → A q := fun q h => by rw [← hAe]; exact Or.inr h
  have hS : va_S A s.heap s.heap [] := va_S.rf
  have hl := lv_entry ([.ref (ad 5), .int p1]) (n := 2) (Nat.le_of_ble_eq_true rfl)
  rw [lg_entry_eq]
  generalize (lg_sl ([.ref (ad 5), .int p1]) ++ List.replicate (2 - (lg_sl ([.ref (ad 5), .int p1])).length) Slot.unset).toArray = ls at hl ⊢
  have hl : lv_has ls 2 [(0, .ref (ad 5)), (1, .int p1)] := hl
  unfold rb_Types_keyOf at hR
  refine lv_iload_n hx hb d_Types_keyOf_0 rfl (lv_at hl 1 rfl) ?_
  refine lv_iconst (v := 3) hx hb d_Types_keyOf_1 (by decide) ?_
  refine lv_icmp_lt (tgt := 12) hx hb d_Types_keyOf_2 (by decide) (fun c1 => ?_) (fun c1 => ?_)
  · replace hR := if_p c1 hR
    refine lv_iconst (v := 0) hx hb d_Types_keyOf_12 (by decide) ?_
    refine lv_goto (tgt := 28) hx hb d_Types_keyOf_13 (by decide) ?_
    obtain ⟨e1, -, e3⟩ := re_e hR
    subst e1; subst e3
    exact W.iret (v := (0 : Int32)) hx hb hr (fun t ht hW => ⟨⟨(0 : Int32), (), rfl, rfl, by rw [ht]; exact hP, va_K.moved hW.alike hK, hD⟩, hS.F ht⟩) hS.2.2 d_Types_keyOf_28
  · replace hR := if_n c1 hR
    refine lv_iload_n hx hb d_Types_keyOf_5 rfl (lv_at hl 1 rfl) ?_
    refine lv_sipush (v := 16387) hx hb d_Types_keyOf_6 (by decide) ?_
    refine lv_icmp_lt (tgt := 16) hx hb d_Types_keyOf_9 (by decide) (fun c3 => ?_) (fun c3 => ?_)
    · replace hR := if_p c3 hR
      refine lv_aload_n hx hb d_Types_keyOf_16 rfl (lv_at hl 0 rfl) ?_
      refine rd_Types_11 hx hb hT hown hK hP d_Types_keyOf_17 ?_
      refine lv_iload_n hx hb d_Types_keyOf_20 rfl (lv_at hl 1 rfl) ?_
      refine lv_iconst (v := 3) hx hb d_Types_keyOf_21 (by decide) ?_
      refine lv_isub hx hb d_Types_keyOf_22 ?_
      replace hR := gd_e hR
      obtain ⟨b4, hR⟩ := hR
      refine laH_37 hx hb hK hP b4 d_Types_keyOf_23 ?_
      refine lv_l2i (v := (T0.2 62 (p1 - (3 : Int32)).toNatClampNeg : Int64).toInt32) hx hb d_Types_keyOf_24 rfl ?_
      refine lv_ldc hx hb hown (hT _ k_Types_25) d_Types_keyOf_25 ?_
      refine lv_iand hx hb d_Types_keyOf_27 ?_
      obtain ⟨e1, -, e3⟩ := re_e hR
      subst e1; subst e3
      exact W.iret (v := ((T0.2 62 (p1 - (3 : Int32)).toNatClampNeg : Int64).toInt32) &&& (16777215 : Int32)) hx hb hr (fun t ht hW => ⟨⟨((T0.2 62 (p1 - (3 : Int32)).toNatClampNeg : Int64).toInt32) &&& (16777215 : Int32), (), rfl, rfl, by rw [ht]; exact hP, va_K.moved hW.alike hK, hD⟩, hS.F ht⟩) hS.2.2 d_Types_keyOf_28
    · replace hR := if_n c3 hR
      refine lv_iconst (v := 0) hx hb d_Types_keyOf_12 (by decide) ?_
      refine lv_goto (tgt := 28) hx hb d_Types_keyOf_13 (by decide) ?_
      obtain ⟨e1, -, e3⟩ := re_e hR
      subst e1; subst e3
      exact W.iret (v := (0 : Int32)) hx hb hr (fun t ht hW => ⟨⟨(0 : Int32), (), rfl, rfl, by rw [ht]; exact hP, va_K.moved hW.alike hK, hD⟩, hS.F ht⟩) hS.2.2 d_Types_keyOf_28
set_option maxHeartbeats 4000000 in
set_option maxRecDepth 100000 in
theorem sp_Types_kindOf (l : Launch) (dC : Nat → ClassId) (dI : Nat → Nat → Nat) (ea ev ad : Nat → Nat) (km : Nat → ClassId) (F : gF) (nf d : Nat) (h_Types_keyOf : mt_Types_keyOf l dC dI ea ev ad km F d) (T0 : gSt) (p1 : Int32) (r0 : Int32) (rl0 : Int64) (T9 : gSt) (hR : rb_Types_kindOf F nf T0 p1 = some (r0, rl0, T9)) : GMi l dC dI LH ad km ea ev y_Types_kindOf w_Types_kindOf (rmD (d + 1)) [.ref (ad 5), .int p1] T0 r0 T9 := by
  intro sz
  refine Met.ofW (cc := b_Types_kindOf) (maxL := 2) (ret := (some .int)) (by decide) rfl ?_
  intro p e s m args below meth c s₁ B hml hv
  obtain ⟨rfl, hsz, hP, hK, hD0, hnw, henv⟩ := hv
  have hx := B.exec
  have hb := B.bytes
  have hr := B.returns
  have hT : ∀ w ∈ lw_good, w.before _ s = true := fun w h => atoms_spec (ws := w_Types_kindOf) B.pre w (List.mem_cons_of_mem _ h)
  have hown : s.vm.findClass R_Types = some m.cls := findClass_of_methodNamed B.named
  subst hsz
  have hD := hD0.self (sz := s.heap.size)
  clear hD0
  generalize hAe : va_A (gW LH ad km T0) s.heap.size = A at hD henv ⊢
  have hA : ∀ q : Nat, s.heap.size ≤ q → A q := fun q h => by rw [← hAe]; exact Or.inr h
  have hS : va_S A s.heap s.heap [] := va_S.rf
  have hl := lv_entry ([.ref (ad 5), .int p1]) (n := 2) (Nat.le_of_ble_eq_true rfl)
  rw [lg_entry_eq]
  generalize (lg_sl ([.ref (ad 5), .int p1]) ++ List.replicate (2 - (lg_sl ([.ref (ad 5), .int p1])).length) Slot.unset).toArray = ls at hl ⊢
  have hl : lv_has ls 2 [(0, .ref (ad 5)), (1, .int p1)] := hl
  unfold rb_Types_kindOf at hR
  refine lv_iload_n hx hb d_Types_kindOf_0 rfl (lv_at hl 1 rfl) ?_
  refine lv_iconst (v := 3) hx hb d_Types_kindOf_1 (by decide) ?_
  refine lv_icmp_ge (tgt := 9) hx hb d_Types_kindOf_2 (by decide) (fun c1 => ?_) (fun c1 => ?_)
  · replace hR := if_p c1 hR
    refine lv_aload_n hx hb d_Types_kindOf_9 rfl (lv_at hl 0 rfl) ?_
    refine lv_iload_n hx hb d_Types_kindOf_10 rfl (lv_at hl 1 rfl) ?_
    replace hR := bi_e hR
    obtain ⟨r2, l2, T2, hc2, hR⟩ := hR
    refine gcV_i (rest := []) ⟨hx, hb, hml, hown, hT⟩ (h_Types_keyOf _ _ _ _ _ hc2) (cwV 1 hT (gV ml_Types_26 im_Types_keyOf se_Types_keyOf ini_Types co_Types_keyOf) rfl rfl rfl pd_Types_keyOf ⟨rm_hi, rm_lo (Nat.le_of_ble_eq_true rfl)⟩) hK hP hD hS hA hnw henv (Nat.le_of_ble_eq_true rfl) rfl rfl hl.1 rfl (Nat.le_of_ble_eq_true rfl) d_Types_kindOf_11 ⟨Nat.le_refl _, Nat.le_refl _⟩ (fun H locs hP hD hS => ?_)
    clear hc2
    refine lv_bipush (v := 7) hx hb d_Types_kindOf_14 (by decide) ?_
    refine lv_iand hx hb d_Types_kindOf_16 ?_
    obtain ⟨e1, -, e3⟩ := re_e hR
    subst e1; subst e3
    exact W.iret (v := r2 &&& (7 : Int32)) hx hb hr (fun t ht hW => ⟨⟨r2 &&& (7 : Int32), (), rfl, rfl, by rw [ht]; exact hP, va_K.moved hW.alike hK, hD⟩, hS.F ht⟩) hS.2.2 d_Types_kindOf_17
  · replace hR := if_n c1 hR
    refine lv_iload_n hx hb d_Types_kindOf_5 rfl (lv_at hl 1 rfl) ?_
    refine lv_goto (tgt := 17) hx hb d_Types_kindOf_6 (by decide) ?_
    obtain ⟨e1, -, e3⟩ := re_e hR
    subst e1; subst e3
    exact W.iret (v := p1) hx hb hr (fun t ht hW => ⟨⟨p1, (), rfl, rfl, by rw [ht]; exact hP, va_K.moved hW.alike hK, hD⟩, hS.F ht⟩) hS.2.2 d_Types_kindOf_17
set_option maxHeartbeats 4000000 in
set_option maxRecDepth 100000 in
theorem sp_Types_regionOf (l : Launch) (dC : Nat → ClassId) (dI : Nat → Nat → Nat) (ea ev ad : Nat → Nat) (km : Nat → ClassId) (F : gF) (nf d : Nat) (h_Types_keyOf : mt_Types_keyOf l dC dI ea ev ad km F d) (T0 : gSt) (p1 : Int32) (r0 : Int32) (rl0 : Int64) (T9 : gSt) (hR : rb_Types_regionOf F nf T0 p1 = some (r0, rl0, T9)) : GMi l dC dI LH ad km ea ev y_Types_regionOf w_Types_regionOf (rmD (d + 1)) [.ref (ad 5), .int p1] T0 r0 T9 := by
  intro sz
  refine Met.ofW (cc := b_Types_regionOf) (maxL := 2) (ret := (some .int)) (by decide) rfl ?_
  intro p e s m args below meth c s₁ B hml hv
  obtain ⟨rfl, hsz, hP, hK, hD0, hnw, henv⟩ := hv
  have hx := B.exec
  have hb := B.bytes
  have hr := B.returns
  have hT : ∀ w ∈ lw_good, w.before _ s = true := fun w h => atoms_spec (ws := w_Types_regionOf) B.pre w (List.mem_cons_of_mem _ h)
  have hown : s.vm.findClass R_Types = some m.cls := findClass_of_methodNamed B.named
  subst hsz
  have hD := hD0.self (sz := s.heap.size)
  clear hD0
  generalize hAe : va_A (gW LH ad km T0) s.heap.size = A at hD henv ⊢
  have hA : ∀ q : Nat, s.heap.size ≤ q → A q := fun q h => by rw [← hAe]; exact Or.inr h
  have hS : va_S A s.heap s.heap [] := va_S.rf
  have hl := lv_entry ([.ref (ad 5), .int p1]) (n := 2) (Nat.le_of_ble_eq_true rfl)
  rw [lg_entry_eq]
  generalize (lg_sl ([.ref (ad 5), .int p1]) ++ List.replicate (2 - (lg_sl ([.ref (ad 5), .int p1])).length) Slot.unset).toArray = ls at hl ⊢
  have hl : lv_has ls 2 [(0, .ref (ad 5)), (1, .int p1)] := hl
  unfold rb_Types_regionOf at hR
  refine lv_aload_n hx hb d_Types_regionOf_0 rfl (lv_at hl 0 rfl) ?_
  refine lv_iload_n hx hb d_Types_regionOf_1 rfl (lv_at hl 1 rfl) ?_
  replace hR := bi_e hR
  obtain ⟨r1, l1, T1, hc1, hR⟩ := hR
  refine gcV_i (rest := []) ⟨hx, hb, hml, hown, hT⟩ (h_Types_keyOf _ _ _ _ _ hc1) (cwV 1 hT (gV ml_Types_26 im_Types_keyOf se_Types_keyOf ini_Types co_Types_keyOf) rfl rfl rfl pd_Types_keyOf ⟨rm_hi, rm_lo (Nat.le_of_ble_eq_true rfl)⟩) hK hP hD hS hA hnw henv (Nat.le_of_ble_eq_true rfl) rfl rfl hl.1 rfl (Nat.le_of_ble_eq_true rfl) d_Types_regionOf_2 ⟨Nat.le_refl _, Nat.le_refl _⟩ (fun H locs hP hD hS => ?_)
  clear hc1
  refine lv_iconst (v := 3) hx hb d_Types_regionOf_5 (by decide) ?_
  refine lv_ishr hx hb d_Types_regionOf_6 ?_
  refine lv_bipush (v := 15) hx hb d_Types_regionOf_7 (by decide) ?_
  refine lv_iand hx hb d_Types_regionOf_9 ?_
  obtain ⟨e1, -, e3⟩ := re_e hR
  subst e1; subst e3
  exact W.iret (v := (r1 >>> ((3 : Int32) &&& 31)) &&& (15 : Int32)) hx hb hr (fun t ht hW => ⟨⟨(r1 >>> ((3 : Int32) &&& 31)) &&& (15 : Int32), (), rfl, rfl, by rw [ht]; exact hP, va_K.moved hW.alike hK, hD⟩, hS.F ht⟩) hS.2.2 d_Types_regionOf_10
set_option maxHeartbeats 4000000 in
set_option maxRecDepth 100000 in
theorem sp_Types_behind (l : Launch) (dC : Nat → ClassId) (dI : Nat → Nat → Nat) (ea ev ad : Nat → Nat) (km : Nat → ClassId) (F : gF) (nf d : Nat) (h_Types_keyOf : mt_Types_keyOf l dC dI ea ev ad km F d) (T0 : gSt) (p1 : Int32) (r0 : Int32) (rl0 : Int64) (T9 : gSt) (hR : rb_Types_behind F nf T0 p1 = some (r0, rl0, T9)) : GMi l dC dI LH ad km ea ev y_Types_behind w_Types_behind (rmD (d + 1)) [.ref (ad 5), .int p1] T0 r0 T9 := by
  intro sz
  refine Met.ofW (cc := b_Types_behind) (maxL := 2) (ret := (some .int)) (by decide) rfl ?_
  intro p e s m args below meth c s₁ B hml hv
  obtain ⟨rfl, hsz, hP, hK, hD0, hnw, henv⟩ := hv
  have hx := B.exec
  have hb := B.bytes
  have hr := B.returns
  have hT : ∀ w ∈ lw_good, w.before _ s = true := fun w h => atoms_spec (ws := w_Types_behind) B.pre w (List.mem_cons_of_mem _ h)
  have hown : s.vm.findClass R_Types = some m.cls := findClass_of_methodNamed B.named
  subst hsz
  have hD := hD0.self (sz := s.heap.size)
  clear hD0
  generalize hAe : va_A (gW LH ad km T0) s.heap.size = A at hD henv ⊢
  have hA : ∀ q : Nat, s.heap.size ≤ q → A q := fun q h => by rw [← hAe]; exact Or.inr h
  have hS : va_S A s.heap s.heap [] := va_S.rf
  have hl := lv_entry ([.ref (ad 5), .int p1]) (n := 2) (Nat.le_of_ble_eq_true rfl)
  rw [lg_entry_eq]
  generalize (lg_sl ([.ref (ad 5), .int p1]) ++ List.replicate (2 - (lg_sl ([.ref (ad 5), .int p1])).length) Slot.unset).toArray = ls at hl ⊢
  have hl : lv_has ls 2 [(0, .ref (ad 5)), (1, .int p1)] := hl
  unfold rb_Types_behind at hR
  refine lv_aload_n hx hb d_Types_behind_0 rfl (lv_at hl 0 rfl) ?_
  refine lv_iload_n hx hb d_Types_behind_1 rfl (lv_at hl 1 rfl) ?_
  replace hR := bi_e hR
  obtain ⟨r1, l1, T1, hc1, hR⟩ := hR
  refine gcV_i (rest := []) ⟨hx, hb, hml, hown, hT⟩ (h_Types_keyOf _ _ _ _ _ hc1) (cwV 1 hT (gV ml_Types_26 im_Types_keyOf se_Types_keyOf ini_Types co_Types_keyOf) rfl rfl rfl pd_Types_keyOf ⟨rm_hi, rm_lo (Nat.le_of_ble_eq_true rfl)⟩) hK hP hD hS hA hnw henv (Nat.le_of_ble_eq_true rfl) rfl rfl hl.1 rfl (Nat.le_of_ble_eq_true rfl) d_Types_behind_2 ⟨Nat.le_refl _, Nat.le_refl _⟩ (fun H locs hP hD hS => ?_)
  clear hc1
  refine lv_bipush (v := 7) hx hb d_Types_behind_5 (by decide) ?_
  refine lv_ishr hx hb d_Types_behind_7 ?_
  obtain ⟨e1, -, e3⟩ := re_e hR
  subst e1; subst e3
  exact W.iret (v := r1 >>> ((7 : Int32) &&& 31)) hx hb hr (fun t ht hW => ⟨⟨r1 >>> ((7 : Int32) &&& 31), (), rfl, rfl, by rw [ht]; exact hP, va_K.moved hW.alike hK, hD⟩, hS.F ht⟩) hS.2.2 d_Types_behind_8
set_option maxHeartbeats 4000000 in
set_option maxRecDepth 100000 in
theorem sp_Types_titleBehind (l : Launch) (dC : Nat → ClassId) (dI : Nat → Nat → Nat) (ea ev ad : Nat → Nat) (km : Nat → ClassId) (F : gF) (nf d : Nat) (h_Types_isPointed : mt_Types_isPointed l dC dI ea ev ad km F d) (h_Types_behind : mt_Types_behind l dC dI ea ev ad km F d) (h_Types_keyOf : mt_Types_keyOf l dC dI ea ev ad km F d) (T0 : gSt) (p1 : Int32) (r0 : Int32) (rl0 : Int64) (T9 : gSt) (hR : rb_Types_titleBehind F nf T0 p1 = some (r0, rl0, T9)) : GMi l dC dI LH ad km ea ev y_Types_titleBehind w_Types_titleBehind (rmD (d + 1)) [.ref (ad 5), .int p1] T0 r0 T9 := by
  intro sz
  refine Met.ofW (cc := b_Types_titleBehind) (maxL := 3) (ret := (some .int)) (by decide) rfl ?_
  intro p e s m args below meth c s₁ B hml hv
  obtain ⟨rfl, hsz, hP, hK, hD0, hnw, henv⟩ := hv
  have hx := B.exec
  have hb := B.bytes
  have hr := B.returns
  have hT : ∀ w ∈ lw_good, w.before _ s = true := fun w h => atoms_spec (ws := w_Types_titleBehind) B.pre w (List.mem_cons_of_mem _ h)
  have hown : s.vm.findClass R_Types = some m.cls := findClass_of_methodNamed B.named
  subst hsz
  have hD := hD0.self (sz := s.heap.size)
  clear hD0
  generalize hAe : va_A (gW LH ad km T0) s.heap.size = A at hD henv ⊢
  have hA : ∀ q : Nat, s.heap.size ≤ q → A q := fun q h => by rw [← hAe]; exact Or.inr h
  have hS : va_S A s.heap s.heap [] := va_S.rf
  have hl := lv_entry ([.ref (ad 5), .int p1]) (n := 3) (Nat.le_of_ble_eq_true rfl)
  rw [lg_entry_eq]
  generalize (lg_sl ([.ref (ad 5), .int p1]) ++ List.replicate (3 - (lg_sl ([.ref (ad 5), .int p1])).length) Slot.unset).toArray = ls at hl ⊢
  have hl : lv_has ls 3 [(0, .ref (ad 5)), (1, .int p1)] := hl
  obtain ⟨G, hG⟩ : ∃ G : Nat → List (Nat × Value) → List Value → gSt → Prop, G = (fun pc lv stk T => ∀ (H : Heap) (locs : List Loc), va_P (dC, dI) cls_all (gW LH ad km T) H → va_D A (gW LH ad km T) → va_S A s.heap H locs → ∀ (ls : Array Slot), lv_has ls 3 lv → W p l e (headSpec w_Types_titleBehind (rmD (d + 1))).room s m ([.ref (ad 5), .int p1] : List Value).toArray below meth c H locs 0 0 (MQ below (va_Qi (fun (z : Int32) (_ : Unit) => z = r0) (fun _ t => gPost dC dI LH ad km T9 A t) A) ([.ref (ad 5), .int p1] : List Value).toArray s 0 0 A) (F0 m pc ls stk)) := ⟨_, rfl⟩
  have lb_21 : ∀ (T : gSt) (y0 : Int32), rj_Types_titleBehind_21 F nf T y0 = some (r0, rl0, T9) → G 21 [] [.int y0] T := by
    intro T y0 hR; unfold rj_Types_titleBehind_21 at hR; rw [hG]; intro H locs hP hD hS ls hl
    refine lv_istore_n (lv' := [(2, .int y0)]) hx hb d_Types_titleBehind_21 rfl hl (by decide) rfl (fun ls hl => ?_)
    refine lv_iload_n hx hb d_Types_titleBehind_22 rfl (lv_at hl 0 rfl) ?_
    refine lv_bipush (v := 7) hx hb d_Types_titleBehind_23 (by decide) ?_
    refine lv_iand hx hb d_Types_titleBehind_25 ?_
    refine lv_bipush (v := 6) hx hb d_Types_titleBehind_26 (by decide) ?_
    refine lv_icmp_ne (tgt := 40) hx hb d_Types_titleBehind_28 (by decide) (fun c5 => ?_) (fun c5 => ?_)
    · replace hR := if_n c5 hR
      refine lv_iconst (v := (-1)) hx hb d_Types_titleBehind_40 (by decide) ?_
      obtain ⟨e1, -, e3⟩ := re_e hR
      subst e1; subst e3
      exact W.iret (v := (-1 : Int32)) hx hb hr (fun t ht hW => ⟨⟨(-1 : Int32), (), rfl, rfl, by rw [ht]; exact hP, va_K.moved hW.alike hK, hD⟩, hS.F ht⟩) hS.2.2 d_Types_titleBehind_41
    · replace hR := if_p c5 hR
      refine lv_iload_n hx hb d_Types_titleBehind_31 rfl (lv_at hl 0 rfl) ?_
      refine lv_iconst (v := 3) hx hb d_Types_titleBehind_32 (by decide) ?_
      refine lv_ishr hx hb d_Types_titleBehind_33 ?_
      refine lv_bipush (v := 31) hx hb d_Types_titleBehind_34 (by decide) ?_
      refine lv_iand hx hb d_Types_titleBehind_36 ?_
      refine lv_goto (tgt := 41) hx hb d_Types_titleBehind_37 (by decide) ?_
      obtain ⟨e1, -, e3⟩ := re_e hR
      subst e1; subst e3
      exact W.iret (v := (y0 >>> ((3 : Int32) &&& 31)) &&& (31 : Int32)) hx hb hr (fun t ht hW => ⟨⟨(y0 >>> ((3 : Int32) &&& 31)) &&& (31 : Int32), (), rfl, rfl, by rw [ht]; exact hP, va_K.moved hW.alike hK, hD⟩, hS.F ht⟩) hS.2.2 d_Types_titleBehind_41
  unfold rb_Types_titleBehind at hR
  refine lv_aload_n hx hb d_Types_titleBehind_0 rfl (lv_at hl 0 rfl) ?_
  refine lv_iload_n hx hb d_Types_titleBehind_1 rfl (lv_at hl 1 rfl) ?_
  replace hR := bi_e hR
  obtain ⟨r1, l1, T1, hc1, hR⟩ := hR
  refine gcV_i (rest := []) ⟨hx, hb, hml, hown, hT⟩ (h_Types_isPointed _ _ _ _ _ hc1) (cwV 1 hT (gV ml_Types_30 im_Types_isPointed se_Types_isPointed ini_Types co_Types_isPointed) rfl rfl rfl pd_Types_isPointed ⟨rm_hi, rm_lo (Nat.le_of_ble_eq_true rfl)⟩) hK hP hD hS hA hnw henv (Nat.le_of_ble_eq_true rfl) rfl rfl hl.1 rfl (Nat.le_of_ble_eq_true rfl) d_Types_titleBehind_2 ⟨Nat.le_refl _, Nat.le_refl _⟩ (fun H locs hP hD hS => ?_)
  clear hc1
  refine lv_if_eq (tgt := 20) hx hb d_Types_titleBehind_5 (by decide) (fun c2 => ?_) (fun c2 => ?_)
  · replace hR := if_p c2 hR
    refine lv_iconst (v := 0) hx hb d_Types_titleBehind_20 (by decide) ?_
    have g := lb_21 T1 (0 : Int32) hR
    rw [hG] at g
    exact g _ _ hP hD hS _ (lv_sub hl [] rfl)
  · replace hR := if_n c2 hR
    refine lv_aload_n hx hb d_Types_titleBehind_8 rfl (lv_at hl 0 rfl) ?_
    refine lv_aload_n hx hb d_Types_titleBehind_9 rfl (lv_at hl 0 rfl) ?_
    refine lv_iload_n hx hb d_Types_titleBehind_10 rfl (lv_at hl 1 rfl) ?_
    replace hR := bi_e hR
    obtain ⟨r3, l3, T3, hc3, hR⟩ := hR
    refine gcV_i (rest := [.ref (ad 5)]) ⟨hx, hb, hml, hown, hT⟩ (h_Types_behind _ _ _ _ _ hc3) (cwV 1 hT (gV ml_Types_34 im_Types_behind se_Types_behind ini_Types co_Types_behind) rfl rfl rfl pd_Types_behind ⟨rm_hi, rm_lo (Nat.le_of_ble_eq_true rfl)⟩) hK hP hD hS hA hnw henv (Nat.le_of_ble_eq_true rfl) rfl rfl hl.1 rfl (Nat.le_of_ble_eq_true rfl) d_Types_titleBehind_11 ⟨Nat.le_refl _, Nat.le_refl _⟩ (fun H locs hP hD hS => ?_)
    clear hc3
    replace hR := bi_e hR
    obtain ⟨r4, l4, T4, hc4, hR⟩ := hR
    refine gcV_i (rest := []) ⟨hx, hb, hml, hown, hT⟩ (h_Types_keyOf _ _ _ _ _ hc4) (cwV 1 hT (gV ml_Types_26 im_Types_keyOf se_Types_keyOf ini_Types co_Types_keyOf) rfl rfl rfl pd_Types_keyOf ⟨rm_hi, rm_lo (Nat.le_of_ble_eq_true rfl)⟩) hK hP hD hS hA hnw henv (Nat.le_of_ble_eq_true rfl) rfl rfl hl.1 rfl (Nat.le_of_ble_eq_true rfl) d_Types_titleBehind_14 ⟨Nat.le_refl _, Nat.le_refl _⟩ (fun H locs hP hD hS => ?_)
    clear hc4
    refine lv_goto (tgt := 21) hx hb d_Types_titleBehind_17 (by decide) ?_
    have g := lb_21 T4 r4 hR
    rw [hG] at g
    exact g _ _ hP hD hS _ (lv_sub hl [] rfl)
set_option maxHeartbeats 4000000 in
set_option maxRecDepth 100000 in
theorem sp_Types_regionsBehind (l : Launch) (dC : Nat → ClassId) (dI : Nat → Nat → Nat) (ea ev ad : Nat → Nat) (km : Nat → ClassId) (F : gF) (nf d : Nat) (h_Types_behind : mt_Types_behind l dC dI ea ev ad km F d) (h_Types_keyOf : mt_Types_keyOf l dC dI ea ev ad km F d) (T0 : gSt) (p1 : Int32) (r0 : Int32) (rl0 : Int64) (T9 : gSt) (hR : rb_Types_regionsBehind F nf T0 p1 = some (r0, rl0, T9)) : GMi l dC dI LH ad km ea ev y_Types_regionsBehind w_Types_regionsBehind (rmD (d + 1)) [.ref (ad 5), .int p1] T0 r0 T9 := by
  intro sz
  refine Met.ofW (cc := b_Types_regionsBehind) (maxL := 2) (ret := (some .int)) (by decide) rfl ?_
  intro p e s m args below meth c s₁ B hml hv
  obtain ⟨rfl, hsz, hP, hK, hD0, hnw, henv⟩ := hv
  have hx := B.exec
  have hb := B.bytes
  have hr := B.returns
  have hT : ∀ w ∈ lw_good, w.before _ s = true := fun w h => atoms_spec (ws := w_Types_regionsBehind) B.pre w (List.mem_cons_of_mem _ h)
  have hown : s.vm.findClass R_Types = some m.cls := findClass_of_methodNamed B.named
  subst hsz
  have hD := hD0.self (sz := s.heap.size)
  clear hD0
  generalize hAe : va_A (gW LH ad km T0) s.heap.size = A at hD henv ⊢
  have hA : ∀ q : Nat, s.heap.size ≤ q → A q := fun q h => by rw [← hAe]; exact Or.inr h
  have hS : va_S A s.heap s.heap [] := va_S.rf
  have hl := lv_entry ([.ref (ad 5), .int p1]) (n := 2) (Nat.le_of_ble_eq_true rfl)
  rw [lg_entry_eq]
  generalize (lg_sl ([.ref (ad 5), .int p1]) ++ List.replicate (2 - (lg_sl ([.ref (ad 5), .int p1])).length) Slot.unset).toArray = ls at hl ⊢
  have hl : lv_has ls 2 [(0, .ref (ad 5)), (1, .int p1)] := hl
  unfold rb_Types_regionsBehind at hR
  refine lv_aload_n hx hb d_Types_regionsBehind_0 rfl (lv_at hl 0 rfl) ?_
  refine lv_aload_n hx hb d_Types_regionsBehind_1 rfl (lv_at hl 0 rfl) ?_
  refine lv_iload_n hx hb d_Types_regionsBehind_2 rfl (lv_at hl 1 rfl) ?_
  replace hR := bi_e hR
  obtain ⟨r1, l1, T1, hc1, hR⟩ := hR
  refine gcV_i (rest := [.ref (ad 5)]) ⟨hx, hb, hml, hown, hT⟩ (h_Types_behind _ _ _ _ _ hc1) (cwV 1 hT (gV ml_Types_34 im_Types_behind se_Types_behind ini_Types co_Types_behind) rfl rfl rfl pd_Types_behind ⟨rm_hi, rm_lo (Nat.le_of_ble_eq_true rfl)⟩) hK hP hD hS hA hnw henv (Nat.le_of_ble_eq_true rfl) rfl rfl hl.1 rfl (Nat.le_of_ble_eq_true rfl) d_Types_regionsBehind_3 ⟨Nat.le_refl _, Nat.le_refl _⟩ (fun H locs hP hD hS => ?_)
  clear hc1
  replace hR := bi_e hR
  obtain ⟨r2, l2, T2, hc2, hR⟩ := hR
  refine gcV_i (rest := []) ⟨hx, hb, hml, hown, hT⟩ (h_Types_keyOf _ _ _ _ _ hc2) (cwV 1 hT (gV ml_Types_26 im_Types_keyOf se_Types_keyOf ini_Types co_Types_keyOf) rfl rfl rfl pd_Types_keyOf ⟨rm_hi, rm_lo (Nat.le_of_ble_eq_true rfl)⟩) hK hP hD hS hA hnw henv (Nat.le_of_ble_eq_true rfl) rfl rfl hl.1 rfl (Nat.le_of_ble_eq_true rfl) d_Types_regionsBehind_6 ⟨Nat.le_refl _, Nat.le_refl _⟩ (fun H locs hP hD hS => ?_)
  clear hc2
  refine lv_bipush (v := 8) hx hb d_Types_regionsBehind_9 (by decide) ?_
  refine lv_ishr hx hb d_Types_regionsBehind_11 ?_
  refine lv_sipush (v := 4095) hx hb d_Types_regionsBehind_12 (by decide) ?_
  refine lv_iand hx hb d_Types_regionsBehind_15 ?_
  obtain ⟨e1, -, e3⟩ := re_e hR
  subst e1; subst e3
  exact W.iret (v := (r2 >>> ((8 : Int32) &&& 31)) &&& (4095 : Int32)) hx hb hr (fun t ht hW => ⟨⟨(r2 >>> ((8 : Int32) &&& 31)) &&& (4095 : Int32), (), rfl, rfl, by rw [ht]; exact hP, va_K.moved hW.alike hK, hD⟩, hS.F ht⟩) hS.2.2 d_Types_regionsBehind_16
