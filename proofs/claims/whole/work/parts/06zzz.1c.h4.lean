abbrev b_Exprs_checkName : ByteArray := prog_3_method_20_code
abbrev y_Exprs_checkName : MethodName := ⟨R_Exprs, "checkName", "(I)I"⟩
theorem co_Exprs_checkName : Cond.code y_Exprs_checkName b_Exprs_checkName 5 (some .int) ∈ lw_good := lg_in (tin_6 _ (List.mem_of_getElem? (i := 18) rfl)) rfl
abbrev w_Exprs_checkName : List Cond := Cond.code y_Exprs_checkName b_Exprs_checkName 5 (some .int) :: lw_good
theorem im_Exprs_checkName : Cond.instanceMethod y_Exprs_checkName ∈ lw_good := lg_right (i := 1217) (by decide +kernel) rfl
theorem se_Exprs_checkName : Cond.selects R_Exprs y_Exprs_checkName y_Exprs_checkName ∈ lw_good := lg_left (i := 50) (by decide +kernel) rfl
theorem d_Exprs_checkName_0 : decode b_Exprs_checkName 0 = .ok (.aload_n 0, 1) := by decide +kernel
theorem d_Exprs_checkName_1 : decode b_Exprs_checkName 1 = .ok (.getfield 34, 3) := by decide +kernel
theorem d_Exprs_checkName_4 : decode b_Exprs_checkName 4 = .ok (.aload_n 0, 1) := by decide +kernel
theorem d_Exprs_checkName_5 : decode b_Exprs_checkName 5 = .ok (.getfield 9, 3) := by decide +kernel
theorem d_Exprs_checkName_8 : decode b_Exprs_checkName 8 = .ok (.iload_n 1, 1) := by decide +kernel
theorem d_Exprs_checkName_9 : decode b_Exprs_checkName 9 = .ok (.invokevirtual 149, 3) := by decide +kernel
theorem d_Exprs_checkName_12 : decode b_Exprs_checkName 12 = .ok (.invokevirtual 219, 3) := by decide +kernel
theorem ml_Exprs_219 : Cond.methodLink R_Exprs 219 ⟨"PointerHouse$Scope", "findVar", "(J)I"⟩ ∈ lw_good := lg_right (i := 1219) (by decide +kernel) rfl
theorem d_Exprs_checkName_15 : decode b_Exprs_checkName 15 = .ok (.istore_n 2, 1) := by decide +kernel
theorem d_Exprs_checkName_16 : decode b_Exprs_checkName 16 = .ok (.iload_n 2, 1) := by decide +kernel
theorem d_Exprs_checkName_17 : decode b_Exprs_checkName 17 = .ok (.iconst (-1), 1) := by decide +kernel
theorem d_Exprs_checkName_18 : decode b_Exprs_checkName 18 = .ok (.if_icmp .ne 21, 3) := by decide +kernel
theorem d_Exprs_checkName_21 : decode b_Exprs_checkName 21 = .ok (.aload_n 0, 1) := by decide +kernel
theorem d_Exprs_checkName_22 : decode b_Exprs_checkName 22 = .ok (.getfield 35, 3) := by decide +kernel
theorem d_Exprs_checkName_25 : decode b_Exprs_checkName 25 = .ok (.iconst 3, 1) := by decide +kernel
theorem d_Exprs_checkName_26 : decode b_Exprs_checkName 26 = .ok (.aload_n 0, 1) := by decide +kernel
theorem d_Exprs_checkName_27 : decode b_Exprs_checkName 27 = .ok (.getfield 9, 3) := by decide +kernel
theorem d_Exprs_checkName_30 : decode b_Exprs_checkName 30 = .ok (.iload_n 1, 1) := by decide +kernel
theorem d_Exprs_checkName_31 : decode b_Exprs_checkName 31 = .ok (.invokevirtual 157, 3) := by decide +kernel
theorem d_Exprs_checkName_34 : decode b_Exprs_checkName 34 = .ok (.invokevirtual 68, 3) := by decide +kernel
theorem d_Exprs_checkName_37 : decode b_Exprs_checkName 37 = .ok (.iconst 1, 1) := by decide +kernel
theorem d_Exprs_checkName_38 : decode b_Exprs_checkName 38 = .ok (.ireturn, 1) := by decide +kernel
theorem d_Exprs_checkName_39 : decode b_Exprs_checkName 39 = .ok (.aload_n 0, 1) := by decide +kernel
theorem d_Exprs_checkName_40 : decode b_Exprs_checkName 40 = .ok (.aload_n 0, 1) := by decide +kernel
theorem d_Exprs_checkName_41 : decode b_Exprs_checkName 41 = .ok (.getfield 34, 3) := by decide +kernel
theorem d_Exprs_checkName_44 : decode b_Exprs_checkName 44 = .ok (.iload_n 2, 1) := by decide +kernel
theorem d_Exprs_checkName_45 : decode b_Exprs_checkName 45 = .ok (.invokevirtual 223, 3) := by decide +kernel
theorem ml_Exprs_223 : Cond.methodLink R_Exprs 223 ⟨"PointerHouse$Scope", "isSet", "(I)Z"⟩ ∈ lw_good := lg_right (i := 1223) (by decide +kernel) rfl
theorem d_Exprs_checkName_48 : decode b_Exprs_checkName 48 = .ok (.bipush 6, 2) := by decide +kernel
theorem d_Exprs_checkName_50 : decode b_Exprs_checkName 50 = .ok (.aload_n 0, 1) := by decide +kernel
theorem d_Exprs_checkName_51 : decode b_Exprs_checkName 51 = .ok (.getfield 9, 3) := by decide +kernel
theorem d_Exprs_checkName_54 : decode b_Exprs_checkName 54 = .ok (.iload_n 1, 1) := by decide +kernel
theorem d_Exprs_checkName_55 : decode b_Exprs_checkName 55 = .ok (.invokevirtual 157, 3) := by decide +kernel
theorem d_Exprs_checkName_58 : decode b_Exprs_checkName 58 = .ok (.invokevirtual 111, 3) := by decide +kernel
theorem d_Exprs_checkName_61 : decode b_Exprs_checkName 61 = .ok (.aload_n 0, 1) := by decide +kernel
theorem d_Exprs_checkName_62 : decode b_Exprs_checkName 62 = .ok (.getfield 34, 3) := by decide +kernel
theorem d_Exprs_checkName_65 : decode b_Exprs_checkName 65 = .ok (.iload_n 2, 1) := by decide +kernel
theorem d_Exprs_checkName_66 : decode b_Exprs_checkName 66 = .ok (.invokevirtual 226, 3) := by decide +kernel
theorem ml_Exprs_226 : Cond.methodLink R_Exprs 226 ⟨"PointerHouse$Scope", "typeOf", "(I)I"⟩ ∈ lw_good := lg_right (i := 1232) (by decide +kernel) rfl
theorem d_Exprs_checkName_69 : decode b_Exprs_checkName 69 = .ok (.istore_n 3, 1) := by decide +kernel
theorem d_Exprs_checkName_70 : decode b_Exprs_checkName 70 = .ok (.aload_n 0, 1) := by decide +kernel
theorem d_Exprs_checkName_71 : decode b_Exprs_checkName 71 = .ok (.getfield 35, 3) := by decide +kernel
theorem d_Exprs_checkName_74 : decode b_Exprs_checkName 74 = .ok (.iconst 3, 1) := by decide +kernel
theorem d_Exprs_checkName_75 : decode b_Exprs_checkName 75 = .ok (.aload_n 0, 1) := by decide +kernel
theorem d_Exprs_checkName_76 : decode b_Exprs_checkName 76 = .ok (.getfield 34, 3) := by decide +kernel
theorem d_Exprs_checkName_79 : decode b_Exprs_checkName 79 = .ok (.iload_n 2, 1) := by decide +kernel
theorem d_Exprs_checkName_80 : decode b_Exprs_checkName 80 = .ok (.invokevirtual 229, 3) := by decide +kernel
theorem ml_Exprs_229 : Cond.methodLink R_Exprs 229 ⟨"PointerHouse$Scope", "slotOf", "(I)I"⟩ ∈ lw_good := lg_right (i := 1236) (by decide +kernel) rfl
theorem d_Exprs_checkName_83 : decode b_Exprs_checkName 83 = .ok (.aload_n 0, 1) := by decide +kernel
theorem d_Exprs_checkName_84 : decode b_Exprs_checkName 84 = .ok (.getfield 29, 3) := by decide +kernel
theorem d_Exprs_checkName_87 : decode b_Exprs_checkName 87 = .ok (.iload_n 3, 1) := by decide +kernel
theorem d_Exprs_checkName_88 : decode b_Exprs_checkName 88 = .ok (.invokevirtual 179, 3) := by decide +kernel
theorem d_Exprs_checkName_91 : decode b_Exprs_checkName 91 = .ok (.invokevirtual 94, 3) := by decide +kernel
theorem d_Exprs_checkName_94 : decode b_Exprs_checkName 94 = .ok (.pop, 1) := by decide +kernel
theorem d_Exprs_checkName_95 : decode b_Exprs_checkName 95 = .ok (.aload_n 0, 1) := by decide +kernel
theorem d_Exprs_checkName_96 : decode b_Exprs_checkName 96 = .ok (.getfield 29, 3) := by decide +kernel
theorem d_Exprs_checkName_99 : decode b_Exprs_checkName 99 = .ok (.iload_n 3, 1) := by decide +kernel
theorem d_Exprs_checkName_100 : decode b_Exprs_checkName 100 = .ok (.invokevirtual 74, 3) := by decide +kernel
theorem d_Exprs_checkName_103 : decode b_Exprs_checkName 103 = .ok (.iconst 4, 1) := by decide +kernel
theorem d_Exprs_checkName_104 : decode b_Exprs_checkName 104 = .ok (.if_icmp .ne 18, 3) := by decide +kernel
theorem d_Exprs_checkName_107 : decode b_Exprs_checkName 107 = .ok (.aload_n 0, 1) := by decide +kernel
theorem d_Exprs_checkName_108 : decode b_Exprs_checkName 108 = .ok (.getfield 34, 3) := by decide +kernel
theorem d_Exprs_checkName_111 : decode b_Exprs_checkName 111 = .ok (.iload_n 2, 1) := by decide +kernel
theorem d_Exprs_checkName_112 : decode b_Exprs_checkName 112 = .ok (.invokevirtual 232, 3) := by decide +kernel
theorem ml_Exprs_232 : Cond.methodLink R_Exprs 232 ⟨"PointerHouse$Scope", "isKnown", "(I)Z"⟩ ∈ lw_good := lg_right (i := 1245) (by decide +kernel) rfl
theorem d_Exprs_checkName_115 : decode b_Exprs_checkName 115 = .ok (.ifCond .eq 7, 3) := by decide +kernel
theorem d_Exprs_checkName_118 : decode b_Exprs_checkName 118 = .ok (.iconst 1, 1) := by decide +kernel
theorem d_Exprs_checkName_119 : decode b_Exprs_checkName 119 = .ok (.goto 4, 3) := by decide +kernel
theorem d_Exprs_checkName_122 : decode b_Exprs_checkName 122 = .ok (.iconst 0, 1) := by decide +kernel
theorem d_Exprs_checkName_123 : decode b_Exprs_checkName 123 = .ok (.istore 4, 2) := by decide +kernel
theorem d_Exprs_checkName_125 : decode b_Exprs_checkName 125 = .ok (.iload 4, 2) := by decide +kernel
theorem d_Exprs_checkName_127 : decode b_Exprs_checkName 127 = .ok (.ifCond .eq 11, 3) := by decide +kernel
theorem d_Exprs_checkName_130 : decode b_Exprs_checkName 130 = .ok (.aload_n 0, 1) := by decide +kernel
theorem d_Exprs_checkName_131 : decode b_Exprs_checkName 131 = .ok (.iload_n 3, 1) := by decide +kernel
theorem d_Exprs_checkName_132 : decode b_Exprs_checkName 132 = .ok (.invokevirtual 235, 3) := by decide +kernel
theorem ml_Exprs_235 : Cond.methodLink R_Exprs 235 ⟨"PointerHouse$Exprs", "solidOf", "(I)I"⟩ ∈ lw_good := lg_right (i := 1249) (by decide +kernel) rfl
theorem d_Exprs_checkName_135 : decode b_Exprs_checkName 135 = .ok (.goto 4, 3) := by decide +kernel
theorem d_Exprs_checkName_138 : decode b_Exprs_checkName 138 = .ok (.iload_n 3, 1) := by decide +kernel
theorem d_Exprs_checkName_139 : decode b_Exprs_checkName 139 = .ok (.ireturn, 1) := by decide +kernel
abbrev b_Exprs_checkNew : ByteArray := prog_3_method_26_code
abbrev y_Exprs_checkNew : MethodName := ⟨R_Exprs, "checkNew", "(II)I"⟩
theorem co_Exprs_checkNew : Cond.code y_Exprs_checkNew b_Exprs_checkNew 10 (some .int) ∈ lw_good := lg_in (tin_6 _ (List.mem_of_getElem? (i := 137) rfl)) rfl
abbrev w_Exprs_checkNew : List Cond := Cond.code y_Exprs_checkNew b_Exprs_checkNew 10 (some .int) :: lw_good
theorem im_Exprs_checkNew : Cond.instanceMethod y_Exprs_checkNew ∈ lw_good := lg_right (i := 1336) (by decide +kernel) rfl
theorem se_Exprs_checkNew : Cond.selects R_Exprs y_Exprs_checkNew y_Exprs_checkNew ∈ lw_good := lg_left (i := 56) (by decide +kernel) rfl
theorem d_Exprs_checkNew_0 : decode b_Exprs_checkNew 0 = .ok (.aload_n 0, 1) := by decide +kernel
theorem d_Exprs_checkNew_1 : decode b_Exprs_checkNew 1 = .ok (.getfield 9, 3) := by decide +kernel
theorem d_Exprs_checkNew_4 : decode b_Exprs_checkNew 4 = .ok (.getfield 146, 3) := by decide +kernel
theorem d_Exprs_checkNew_7 : decode b_Exprs_checkNew 7 = .ok (.iload_n 1, 1) := by decide +kernel
theorem d_Exprs_checkNew_8 : decode b_Exprs_checkNew 8 = .ok (.iaload, 1) := by decide +kernel
theorem d_Exprs_checkNew_9 : decode b_Exprs_checkNew 9 = .ok (.istore_n 3, 1) := by decide +kernel
theorem d_Exprs_checkNew_10 : decode b_Exprs_checkNew 10 = .ok (.aload_n 0, 1) := by decide +kernel
theorem d_Exprs_checkNew_11 : decode b_Exprs_checkNew 11 = .ok (.iload_n 3, 1) := by decide +kernel
theorem d_Exprs_checkNew_12 : decode b_Exprs_checkNew 12 = .ok (.iconst 1, 1) := by decide +kernel
theorem d_Exprs_checkNew_13 : decode b_Exprs_checkNew 13 = .ok (.iadd, 1) := by decide +kernel
theorem d_Exprs_checkNew_14 : decode b_Exprs_checkNew 14 = .ok (.invokevirtual 290, 3) := by decide +kernel
theorem ml_Exprs_290 : Cond.methodLink R_Exprs 290 ⟨"PointerHouse$Exprs", "readLiveRegion", "(I)I"⟩ ∈ lw_good := lg_right (i := 1338) (by decide +kernel) rfl
theorem d_Exprs_checkNew_17 : decode b_Exprs_checkNew 17 = .ok (.istore 4, 2) := by decide +kernel
theorem d_Exprs_checkNew_19 : decode b_Exprs_checkNew 19 = .ok (.aload_n 0, 1) := by decide +kernel
theorem d_Exprs_checkNew_20 : decode b_Exprs_checkNew 20 = .ok (.getfield 19, 3) := by decide +kernel
theorem d_Exprs_checkNew_23 : decode b_Exprs_checkNew 23 = .ok (.iload_n 3, 1) := by decide +kernel
theorem d_Exprs_checkNew_24 : decode b_Exprs_checkNew 24 = .ok (.iconst 2, 1) := by decide +kernel
theorem d_Exprs_checkNew_25 : decode b_Exprs_checkNew 25 = .ok (.iadd, 1) := by decide +kernel
theorem d_Exprs_checkNew_26 : decode b_Exprs_checkNew 26 = .ok (.invokevirtual 293, 3) := by decide +kernel
theorem ml_Exprs_293 : Cond.methodLink R_Exprs 293 ⟨"PointerHouse$Heads", "readTitle", "(I)I"⟩ ∈ lw_good := lg_right (i := 1343) (by decide +kernel) rfl
theorem d_Exprs_checkNew_29 : decode b_Exprs_checkNew 29 = .ok (.istore 5, 2) := by decide +kernel
theorem d_Exprs_checkNew_31 : decode b_Exprs_checkNew 31 = .ok (.aload_n 0, 1) := by decide +kernel
theorem d_Exprs_checkNew_32 : decode b_Exprs_checkNew 32 = .ok (.getfield 29, 3) := by decide +kernel
theorem d_Exprs_checkNew_35 : decode b_Exprs_checkNew 35 = .ok (.iconst 3, 1) := by decide +kernel
theorem d_Exprs_checkNew_36 : decode b_Exprs_checkNew 36 = .ok (.iload 4, 2) := by decide +kernel
theorem d_Exprs_checkNew_38 : decode b_Exprs_checkNew 38 = .ok (.iload 5, 2) := by decide +kernel
theorem d_Exprs_checkNew_40 : decode b_Exprs_checkNew 40 = .ok (.invokevirtual 238, 3) := by decide +kernel
theorem ml_Exprs_238 : Cond.methodLink R_Exprs 238 ⟨"PointerHouse$Types", "pointer", "(III)I"⟩ ∈ lw_good := lg_right (i := 1261) (by decide +kernel) rfl
theorem d_Exprs_checkNew_43 : decode b_Exprs_checkNew 43 = .ok (.istore 6, 2) := by decide +kernel
theorem d_Exprs_checkNew_45 : decode b_Exprs_checkNew 45 = .ok (.aload_n 0, 1) := by decide +kernel
theorem d_Exprs_checkNew_46 : decode b_Exprs_checkNew 46 = .ok (.getfield 29, 3) := by decide +kernel
theorem d_Exprs_checkNew_49 : decode b_Exprs_checkNew 49 = .ok (.iload 6, 2) := by decide +kernel
theorem d_Exprs_checkNew_51 : decode b_Exprs_checkNew 51 = .ok (.invokevirtual 143, 3) := by decide +kernel
theorem d_Exprs_checkNew_54 : decode b_Exprs_checkNew 54 = .ok (.istore 7, 2) := by decide +kernel
theorem d_Exprs_checkNew_56 : decode b_Exprs_checkNew 56 = .ok (.iload 7, 2) := by decide +kernel
theorem d_Exprs_checkNew_58 : decode b_Exprs_checkNew 58 = .ok (.iconst (-1), 1) := by decide +kernel
theorem d_Exprs_checkNew_59 : decode b_Exprs_checkNew 59 = .ok (.if_icmp .ne 5, 3) := by decide +kernel
theorem d_Exprs_checkNew_62 : decode b_Exprs_checkNew 62 = .ok (.iconst 1, 1) := by decide +kernel
theorem d_Exprs_checkNew_63 : decode b_Exprs_checkNew 63 = .ok (.ireturn, 1) := by decide +kernel
theorem d_Exprs_checkNew_64 : decode b_Exprs_checkNew 64 = .ok (.iload_n 3, 1) := by decide +kernel
theorem d_Exprs_checkNew_65 : decode b_Exprs_checkNew 65 = .ok (.iconst 3, 1) := by decide +kernel
theorem d_Exprs_checkNew_66 : decode b_Exprs_checkNew 66 = .ok (.iadd, 1) := by decide +kernel
theorem d_Exprs_checkNew_67 : decode b_Exprs_checkNew 67 = .ok (.aload_n 0, 1) := by decide +kernel
theorem d_Exprs_checkNew_68 : decode b_Exprs_checkNew 68 = .ok (.getfield 9, 3) := by decide +kernel
theorem d_Exprs_checkNew_71 : decode b_Exprs_checkNew 71 = .ok (.getfield 241, 3) := by decide +kernel
theorem fl_Exprs_241 : Cond.fieldLink R_Exprs 241 "PointerHouse$Source" "left" "[I" ∈ lw_good := lg_right (i := 212) (by decide +kernel) rfl
theorem d_Exprs_checkNew_74 : decode b_Exprs_checkNew 74 = .ok (.iload_n 1, 1) := by decide +kernel
theorem d_Exprs_checkNew_75 : decode b_Exprs_checkNew 75 = .ok (.iaload, 1) := by decide +kernel
theorem d_Exprs_checkNew_76 : decode b_Exprs_checkNew 76 = .ok (.iadd, 1) := by decide +kernel
theorem d_Exprs_checkNew_77 : decode b_Exprs_checkNew 77 = .ok (.istore 8, 2) := by decide +kernel
theorem d_Exprs_checkNew_79 : decode b_Exprs_checkNew 79 = .ok (.aload_n 0, 1) := by decide +kernel
theorem d_Exprs_checkNew_80 : decode b_Exprs_checkNew 80 = .ok (.getfield 15, 3) := by decide +kernel
theorem d_Exprs_checkNew_83 : decode b_Exprs_checkNew 83 = .ok (.getfield 175, 3) := by decide +kernel
theorem d_Exprs_checkNew_86 : decode b_Exprs_checkNew 86 = .ok (.iload 7, 2) := by decide +kernel
theorem d_Exprs_checkNew_88 : decode b_Exprs_checkNew 88 = .ok (.iaload, 1) := by decide +kernel
theorem d_Exprs_checkNew_89 : decode b_Exprs_checkNew 89 = .ok (.bipush 11, 2) := by decide +kernel
theorem d_Exprs_checkNew_91 : decode b_Exprs_checkNew 91 = .ok (.if_icmp .ne 7, 3) := by decide +kernel
theorem d_Exprs_checkNew_94 : decode b_Exprs_checkNew 94 = .ok (.iconst 1, 1) := by decide +kernel
theorem d_Exprs_checkNew_95 : decode b_Exprs_checkNew 95 = .ok (.goto 4, 3) := by decide +kernel
theorem d_Exprs_checkNew_98 : decode b_Exprs_checkNew 98 = .ok (.iconst 0, 1) := by decide +kernel
theorem d_Exprs_checkNew_99 : decode b_Exprs_checkNew 99 = .ok (.istore 9, 2) := by decide +kernel
theorem d_Exprs_checkNew_101 : decode b_Exprs_checkNew 101 = .ok (.aload_n 0, 1) := by decide +kernel
theorem d_Exprs_checkNew_102 : decode b_Exprs_checkNew 102 = .ok (.aload_n 0, 1) := by decide +kernel
theorem d_Exprs_checkNew_103 : decode b_Exprs_checkNew 103 = .ok (.getfield 9, 3) := by decide +kernel
theorem d_Exprs_checkNew_106 : decode b_Exprs_checkNew 106 = .ok (.iload 8, 2) := by decide +kernel
theorem d_Exprs_checkNew_108 : decode b_Exprs_checkNew 108 = .ok (.invokevirtual 296, 3) := by decide +kernel
theorem ml_Exprs_296 : Cond.methodLink R_Exprs 296 ⟨"PointerHouse$Source", "kindAt", "(I)I"⟩ ∈ lw_good := lg_right (i := 1352) (by decide +kernel) rfl
theorem d_Exprs_checkNew_111 : decode b_Exprs_checkNew 111 = .ok (.iload 9, 2) := by decide +kernel
theorem d_Exprs_checkNew_113 : decode b_Exprs_checkNew 113 = .ok (.ifCond .eq 8, 3) := by decide +kernel
theorem d_Exprs_checkNew_116 : decode b_Exprs_checkNew 116 = .ok (.bipush 49, 2) := by decide +kernel
theorem d_Exprs_checkNew_118 : decode b_Exprs_checkNew 118 = .ok (.goto 5, 3) := by decide +kernel
theorem d_Exprs_checkNew_121 : decode b_Exprs_checkNew 121 = .ok (.bipush 40, 2) := by decide +kernel
theorem d_Exprs_checkNew_123 : decode b_Exprs_checkNew 123 = .ok (.if_icmp .ne 7, 3) := by decide +kernel
theorem d_Exprs_checkNew_126 : decode b_Exprs_checkNew 126 = .ok (.iconst 1, 1) := by decide +kernel
theorem d_Exprs_checkNew_127 : decode b_Exprs_checkNew 127 = .ok (.goto 4, 3) := by decide +kernel
theorem d_Exprs_checkNew_130 : decode b_Exprs_checkNew 130 = .ok (.iconst 0, 1) := by decide +kernel
theorem d_Exprs_checkNew_131 : decode b_Exprs_checkNew 131 = .ok (.bipush 7, 2) := by decide +kernel
theorem d_Exprs_checkNew_133 : decode b_Exprs_checkNew 133 = .ok (.aload_n 0, 1) := by decide +kernel
theorem d_Exprs_checkNew_134 : decode b_Exprs_checkNew 134 = .ok (.getfield 9, 3) := by decide +kernel
theorem d_Exprs_checkNew_137 : decode b_Exprs_checkNew 137 = .ok (.iload 8, 2) := by decide +kernel
theorem d_Exprs_checkNew_139 : decode b_Exprs_checkNew 139 = .ok (.invokevirtual 157, 3) := by decide +kernel
theorem d_Exprs_checkNew_142 : decode b_Exprs_checkNew 142 = .ok (.invokevirtual 111, 3) := by decide +kernel
theorem d_Exprs_checkNew_145 : decode b_Exprs_checkNew 145 = .ok (.aload_n 0, 1) := by decide +kernel
theorem d_Exprs_checkNew_146 : decode b_Exprs_checkNew 146 = .ok (.getfield 35, 3) := by decide +kernel
theorem d_Exprs_checkNew_149 : decode b_Exprs_checkNew 149 = .ok (.bipush 6, 2) := by decide +kernel
theorem d_Exprs_checkNew_151 : decode b_Exprs_checkNew 151 = .ok (.invokevirtual 176, 3) := by decide +kernel
theorem d_Exprs_checkNew_154 : decode b_Exprs_checkNew 154 = .ok (.iload 9, 2) := by decide +kernel
theorem d_Exprs_checkNew_156 : decode b_Exprs_checkNew 156 = .ok (.ifCond .eq 18, 3) := by decide +kernel
theorem d_Exprs_checkNew_159 : decode b_Exprs_checkNew 159 = .ok (.aload_n 0, 1) := by decide +kernel
theorem d_Exprs_checkNew_160 : decode b_Exprs_checkNew 160 = .ok (.iload_n 1, 1) := by decide +kernel
theorem d_Exprs_checkNew_161 : decode b_Exprs_checkNew 161 = .ok (.iload 6, 2) := by decide +kernel
theorem d_Exprs_checkNew_163 : decode b_Exprs_checkNew 163 = .ok (.iload 8, 2) := by decide +kernel
theorem d_Exprs_checkNew_165 : decode b_Exprs_checkNew 165 = .ok (.iconst 1, 1) := by decide +kernel
theorem d_Exprs_checkNew_166 : decode b_Exprs_checkNew 166 = .ok (.iadd, 1) := by decide +kernel
theorem d_Exprs_checkNew_167 : decode b_Exprs_checkNew 167 = .ok (.iload_n 2, 1) := by decide +kernel
theorem d_Exprs_checkNew_168 : decode b_Exprs_checkNew 168 = .ok (.invokevirtual 299, 3) := by decide +kernel
theorem ml_Exprs_299 : Cond.methodLink R_Exprs 299 ⟨"PointerHouse$Exprs", "makeUnion", "(IIII)V"⟩ ∈ lw_good := lg_right (i := 1354) (by decide +kernel) rfl
theorem d_Exprs_checkNew_171 : decode b_Exprs_checkNew 171 = .ok (.goto 14, 3) := by decide +kernel
theorem d_Exprs_checkNew_174 : decode b_Exprs_checkNew 174 = .ok (.aload_n 0, 1) := by decide +kernel
theorem d_Exprs_checkNew_175 : decode b_Exprs_checkNew 175 = .ok (.iload_n 1, 1) := by decide +kernel
theorem d_Exprs_checkNew_176 : decode b_Exprs_checkNew 176 = .ok (.iload 6, 2) := by decide +kernel
theorem d_Exprs_checkNew_178 : decode b_Exprs_checkNew 178 = .ok (.iload_n 3, 1) := by decide +kernel
theorem d_Exprs_checkNew_179 : decode b_Exprs_checkNew 179 = .ok (.iconst 2, 1) := by decide +kernel
theorem d_Exprs_checkNew_180 : decode b_Exprs_checkNew 180 = .ok (.iadd, 1) := by decide +kernel
theorem d_Exprs_checkNew_181 : decode b_Exprs_checkNew 181 = .ok (.iload_n 2, 1) := by decide +kernel
theorem d_Exprs_checkNew_182 : decode b_Exprs_checkNew 182 = .ok (.invokevirtual 302, 3) := by decide +kernel
theorem ml_Exprs_302 : Cond.methodLink R_Exprs 302 ⟨"PointerHouse$Exprs", "makeStruct", "(IIII)V"⟩ ∈ lw_good := lg_right (i := 1363) (by decide +kernel) rfl
theorem d_Exprs_checkNew_185 : decode b_Exprs_checkNew 185 = .ok (.iload 6, 2) := by decide +kernel
theorem d_Exprs_checkNew_187 : decode b_Exprs_checkNew 187 = .ok (.ireturn, 1) := by decide +kernel
abbrev b_Exprs_checkNewCell : ByteArray := prog_3_method_29_code
abbrev y_Exprs_checkNewCell : MethodName := ⟨R_Exprs, "checkNewCell", "(II)I"⟩
theorem co_Exprs_checkNewCell : Cond.code y_Exprs_checkNewCell b_Exprs_checkNewCell 5 (some .int) ∈ lw_good := lg_in (tin_6 _ (List.mem_of_getElem? (i := 170) rfl)) rfl
abbrev w_Exprs_checkNewCell : List Cond := Cond.code y_Exprs_checkNewCell b_Exprs_checkNewCell 5 (some .int) :: lw_good
theorem im_Exprs_checkNewCell : Cond.instanceMethod y_Exprs_checkNewCell ∈ lw_good := lg_right (i := 1369) (by decide +kernel) rfl
theorem se_Exprs_checkNewCell : Cond.selects R_Exprs y_Exprs_checkNewCell y_Exprs_checkNewCell ∈ lw_good := lg_left (i := 60) (by decide +kernel) rfl
theorem d_Exprs_checkNewCell_0 : decode b_Exprs_checkNewCell 0 = .ok (.aload_n 0, 1) := by decide +kernel
theorem d_Exprs_checkNewCell_1 : decode b_Exprs_checkNewCell 1 = .ok (.aload_n 0, 1) := by decide +kernel
theorem d_Exprs_checkNewCell_2 : decode b_Exprs_checkNewCell 2 = .ok (.getfield 9, 3) := by decide +kernel
theorem d_Exprs_checkNewCell_5 : decode b_Exprs_checkNewCell 5 = .ok (.getfield 146, 3) := by decide +kernel
theorem d_Exprs_checkNewCell_8 : decode b_Exprs_checkNewCell 8 = .ok (.iload_n 1, 1) := by decide +kernel
theorem d_Exprs_checkNewCell_9 : decode b_Exprs_checkNewCell 9 = .ok (.iaload, 1) := by decide +kernel
theorem d_Exprs_checkNewCell_10 : decode b_Exprs_checkNewCell 10 = .ok (.iconst 1, 1) := by decide +kernel
theorem d_Exprs_checkNewCell_11 : decode b_Exprs_checkNewCell 11 = .ok (.iadd, 1) := by decide +kernel
theorem d_Exprs_checkNewCell_12 : decode b_Exprs_checkNewCell 12 = .ok (.invokevirtual 290, 3) := by decide +kernel
theorem d_Exprs_checkNewCell_15 : decode b_Exprs_checkNewCell 15 = .ok (.istore_n 3, 1) := by decide +kernel
theorem d_Exprs_checkNewCell_16 : decode b_Exprs_checkNewCell 16 = .ok (.aload_n 0, 1) := by decide +kernel
theorem d_Exprs_checkNewCell_17 : decode b_Exprs_checkNewCell 17 = .ok (.aload_n 0, 1) := by decide +kernel
theorem d_Exprs_checkNewCell_18 : decode b_Exprs_checkNewCell 18 = .ok (.getfield 9, 3) := by decide +kernel
theorem d_Exprs_checkNewCell_21 : decode b_Exprs_checkNewCell 21 = .ok (.getfield 188, 3) := by decide +kernel
theorem d_Exprs_checkNewCell_24 : decode b_Exprs_checkNewCell 24 = .ok (.iload_n 1, 1) := by decide +kernel
theorem d_Exprs_checkNewCell_25 : decode b_Exprs_checkNewCell 25 = .ok (.iaload, 1) := by decide +kernel
theorem d_Exprs_checkNewCell_26 : decode b_Exprs_checkNewCell 26 = .ok (.iload_n 2, 1) := by decide +kernel
theorem d_Exprs_checkNewCell_27 : decode b_Exprs_checkNewCell 27 = .ok (.iconst 1, 1) := by decide +kernel
theorem d_Exprs_checkNewCell_28 : decode b_Exprs_checkNewCell 28 = .ok (.iadd, 1) := by decide +kernel
theorem d_Exprs_checkNewCell_29 : decode b_Exprs_checkNewCell 29 = .ok (.invokevirtual 308, 3) := by decide +kernel
theorem ml_Exprs_308 : Cond.methodLink R_Exprs 308 ⟨"PointerHouse$Exprs", "checkValue", "(II)I"⟩ ∈ lw_good := lg_right (i := 1371) (by decide +kernel) rfl
theorem d_Exprs_checkNewCell_32 : decode b_Exprs_checkNewCell 32 = .ok (.istore 4, 2) := by decide +kernel
theorem d_Exprs_checkNewCell_34 : decode b_Exprs_checkNewCell 34 = .ok (.aload_n 0, 1) := by decide +kernel
theorem d_Exprs_checkNewCell_35 : decode b_Exprs_checkNewCell 35 = .ok (.getfield 35, 3) := by decide +kernel
theorem d_Exprs_checkNewCell_38 : decode b_Exprs_checkNewCell 38 = .ok (.bipush 6, 2) := by decide +kernel
theorem d_Exprs_checkNewCell_40 : decode b_Exprs_checkNewCell 40 = .ok (.invokevirtual 176, 3) := by decide +kernel
theorem d_Exprs_checkNewCell_43 : decode b_Exprs_checkNewCell 43 = .ok (.aload_n 0, 1) := by decide +kernel
theorem d_Exprs_checkNewCell_44 : decode b_Exprs_checkNewCell 44 = .ok (.getfield 35, 3) := by decide +kernel
theorem d_Exprs_checkNewCell_47 : decode b_Exprs_checkNewCell 47 = .ok (.bipush 40, 2) := by decide +kernel
theorem d_Exprs_checkNewCell_49 : decode b_Exprs_checkNewCell 49 = .ok (.iload_n 3, 1) := by decide +kernel
theorem d_Exprs_checkNewCell_50 : decode b_Exprs_checkNewCell 50 = .ok (.aload_n 0, 1) := by decide +kernel
theorem d_Exprs_checkNewCell_51 : decode b_Exprs_checkNewCell 51 = .ok (.getfield 29, 3) := by decide +kernel
theorem d_Exprs_checkNewCell_54 : decode b_Exprs_checkNewCell 54 = .ok (.iload 4, 2) := by decide +kernel
theorem d_Exprs_checkNewCell_56 : decode b_Exprs_checkNewCell 56 = .ok (.invokevirtual 179, 3) := by decide +kernel
theorem d_Exprs_checkNewCell_59 : decode b_Exprs_checkNewCell 59 = .ok (.invokevirtual 94, 3) := by decide +kernel
theorem d_Exprs_checkNewCell_62 : decode b_Exprs_checkNewCell 62 = .ok (.pop, 1) := by decide +kernel
theorem d_Exprs_checkNewCell_63 : decode b_Exprs_checkNewCell 63 = .ok (.aload_n 0, 1) := by decide +kernel
theorem d_Exprs_checkNewCell_64 : decode b_Exprs_checkNewCell 64 = .ok (.getfield 29, 3) := by decide +kernel
theorem d_Exprs_checkNewCell_67 : decode b_Exprs_checkNewCell 67 = .ok (.iconst 3, 1) := by decide +kernel
theorem d_Exprs_checkNewCell_68 : decode b_Exprs_checkNewCell 68 = .ok (.iload_n 3, 1) := by decide +kernel
theorem d_Exprs_checkNewCell_69 : decode b_Exprs_checkNewCell 69 = .ok (.iload 4, 2) := by decide +kernel
theorem d_Exprs_checkNewCell_71 : decode b_Exprs_checkNewCell 71 = .ok (.invokevirtual 238, 3) := by decide +kernel
theorem d_Exprs_checkNewCell_74 : decode b_Exprs_checkNewCell 74 = .ok (.ireturn, 1) := by decide +kernel
abbrev b_Exprs_checkNewRow : ByteArray := prog_3_method_30_code
abbrev y_Exprs_checkNewRow : MethodName := ⟨R_Exprs, "checkNewRow", "(II)I"⟩
theorem co_Exprs_checkNewRow : Cond.code y_Exprs_checkNewRow b_Exprs_checkNewRow 6 (some .int) ∈ lw_good := lg_in (tin_6 _ (List.mem_of_getElem? (i := 178) rfl)) rfl
abbrev w_Exprs_checkNewRow : List Cond := Cond.code y_Exprs_checkNewRow b_Exprs_checkNewRow 6 (some .int) :: lw_good
theorem im_Exprs_checkNewRow : Cond.instanceMethod y_Exprs_checkNewRow ∈ lw_good := lg_right (i := 1377) (by decide +kernel) rfl
theorem se_Exprs_checkNewRow : Cond.selects R_Exprs y_Exprs_checkNewRow y_Exprs_checkNewRow ∈ lw_good := lg_left (i := 62) (by decide +kernel) rfl
theorem d_Exprs_checkNewRow_0 : decode b_Exprs_checkNewRow 0 = .ok (.aload_n 0, 1) := by decide +kernel
theorem d_Exprs_checkNewRow_1 : decode b_Exprs_checkNewRow 1 = .ok (.aload_n 0, 1) := by decide +kernel
theorem d_Exprs_checkNewRow_2 : decode b_Exprs_checkNewRow 2 = .ok (.getfield 9, 3) := by decide +kernel
theorem d_Exprs_checkNewRow_5 : decode b_Exprs_checkNewRow 5 = .ok (.getfield 146, 3) := by decide +kernel
theorem d_Exprs_checkNewRow_8 : decode b_Exprs_checkNewRow 8 = .ok (.iload_n 1, 1) := by decide +kernel
theorem d_Exprs_checkNewRow_9 : decode b_Exprs_checkNewRow 9 = .ok (.iaload, 1) := by decide +kernel
theorem d_Exprs_checkNewRow_10 : decode b_Exprs_checkNewRow 10 = .ok (.iconst 1, 1) := by decide +kernel
theorem d_Exprs_checkNewRow_11 : decode b_Exprs_checkNewRow 11 = .ok (.iadd, 1) := by decide +kernel
theorem d_Exprs_checkNewRow_12 : decode b_Exprs_checkNewRow 12 = .ok (.invokevirtual 290, 3) := by decide +kernel
theorem d_Exprs_checkNewRow_15 : decode b_Exprs_checkNewRow 15 = .ok (.istore_n 3, 1) := by decide +kernel
theorem d_Exprs_checkNewRow_16 : decode b_Exprs_checkNewRow 16 = .ok (.aload_n 0, 1) := by decide +kernel
theorem d_Exprs_checkNewRow_17 : decode b_Exprs_checkNewRow 17 = .ok (.getfield 9, 3) := by decide +kernel
theorem d_Exprs_checkNewRow_20 : decode b_Exprs_checkNewRow 20 = .ok (.getfield 188, 3) := by decide +kernel
theorem d_Exprs_checkNewRow_23 : decode b_Exprs_checkNewRow 23 = .ok (.iload_n 1, 1) := by decide +kernel
theorem d_Exprs_checkNewRow_24 : decode b_Exprs_checkNewRow 24 = .ok (.iaload, 1) := by decide +kernel
theorem d_Exprs_checkNewRow_25 : decode b_Exprs_checkNewRow 25 = .ok (.istore 4, 2) := by decide +kernel
theorem d_Exprs_checkNewRow_27 : decode b_Exprs_checkNewRow 27 = .ok (.aload_n 0, 1) := by decide +kernel
theorem d_Exprs_checkNewRow_28 : decode b_Exprs_checkNewRow 28 = .ok (.aload_n 0, 1) := by decide +kernel
theorem d_Exprs_checkNewRow_29 : decode b_Exprs_checkNewRow 29 = .ok (.iload 4, 2) := by decide +kernel
theorem d_Exprs_checkNewRow_31 : decode b_Exprs_checkNewRow 31 = .ok (.iload_n 2, 1) := by decide +kernel
theorem d_Exprs_checkNewRow_32 : decode b_Exprs_checkNewRow 32 = .ok (.iconst 1, 1) := by decide +kernel
theorem d_Exprs_checkNewRow_33 : decode b_Exprs_checkNewRow 33 = .ok (.iadd, 1) := by decide +kernel
theorem d_Exprs_checkNewRow_34 : decode b_Exprs_checkNewRow 34 = .ok (.invokevirtual 53, 3) := by decide +kernel
theorem d_Exprs_checkNewRow_37 : decode b_Exprs_checkNewRow 37 = .ok (.iconst 1, 1) := by decide +kernel
theorem d_Exprs_checkNewRow_38 : decode b_Exprs_checkNewRow 38 = .ok (.if_icmp .ne 7, 3) := by decide +kernel
theorem d_Exprs_checkNewRow_41 : decode b_Exprs_checkNewRow 41 = .ok (.iconst 1, 1) := by decide +kernel
theorem d_Exprs_checkNewRow_42 : decode b_Exprs_checkNewRow 42 = .ok (.goto 4, 3) := by decide +kernel
theorem d_Exprs_checkNewRow_45 : decode b_Exprs_checkNewRow 45 = .ok (.iconst 0, 1) := by decide +kernel
theorem d_Exprs_checkNewRow_46 : decode b_Exprs_checkNewRow 46 = .ok (.iconst 4, 1) := by decide +kernel
theorem d_Exprs_checkNewRow_47 : decode b_Exprs_checkNewRow 47 = .ok (.aload_n 0, 1) := by decide +kernel
theorem d_Exprs_checkNewRow_48 : decode b_Exprs_checkNewRow 48 = .ok (.getfield 9, 3) := by decide +kernel
theorem d_Exprs_checkNewRow_51 : decode b_Exprs_checkNewRow 51 = .ok (.iload 4, 2) := by decide +kernel
theorem d_Exprs_checkNewRow_53 : decode b_Exprs_checkNewRow 53 = .ok (.invokevirtual 64, 3) := by decide +kernel
theorem d_Exprs_checkNewRow_56 : decode b_Exprs_checkNewRow 56 = .ok (.invokevirtual 111, 3) := by decide +kernel
theorem d_Exprs_checkNewRow_59 : decode b_Exprs_checkNewRow 59 = .ok (.aload_n 0, 1) := by decide +kernel
theorem d_Exprs_checkNewRow_60 : decode b_Exprs_checkNewRow 60 = .ok (.aload_n 0, 1) := by decide +kernel
theorem d_Exprs_checkNewRow_61 : decode b_Exprs_checkNewRow 61 = .ok (.getfield 9, 3) := by decide +kernel
theorem d_Exprs_checkNewRow_64 : decode b_Exprs_checkNewRow 64 = .ok (.getfield 278, 3) := by decide +kernel
theorem fl_Exprs_278 : Cond.fieldLink R_Exprs 278 "PointerHouse$Source" "peer" "[I" ∈ lw_good := lg_right (i := 204) (by decide +kernel) rfl
theorem d_Exprs_checkNewRow_67 : decode b_Exprs_checkNewRow 67 = .ok (.iload 4, 2) := by decide +kernel
theorem d_Exprs_checkNewRow_69 : decode b_Exprs_checkNewRow 69 = .ok (.iaload, 1) := by decide +kernel
theorem d_Exprs_checkNewRow_70 : decode b_Exprs_checkNewRow 70 = .ok (.iload_n 2, 1) := by decide +kernel
theorem d_Exprs_checkNewRow_71 : decode b_Exprs_checkNewRow 71 = .ok (.iconst 1, 1) := by decide +kernel
theorem d_Exprs_checkNewRow_72 : decode b_Exprs_checkNewRow 72 = .ok (.iadd, 1) := by decide +kernel
theorem d_Exprs_checkNewRow_73 : decode b_Exprs_checkNewRow 73 = .ok (.invokevirtual 308, 3) := by decide +kernel
theorem d_Exprs_checkNewRow_76 : decode b_Exprs_checkNewRow 76 = .ok (.istore 5, 2) := by decide +kernel
theorem d_Exprs_checkNewRow_78 : decode b_Exprs_checkNewRow 78 = .ok (.aload_n 0, 1) := by decide +kernel
theorem d_Exprs_checkNewRow_79 : decode b_Exprs_checkNewRow 79 = .ok (.getfield 35, 3) := by decide +kernel
theorem d_Exprs_checkNewRow_82 : decode b_Exprs_checkNewRow 82 = .ok (.bipush 6, 2) := by decide +kernel
theorem d_Exprs_checkNewRow_84 : decode b_Exprs_checkNewRow 84 = .ok (.invokevirtual 176, 3) := by decide +kernel
theorem d_Exprs_checkNewRow_87 : decode b_Exprs_checkNewRow 87 = .ok (.aload_n 0, 1) := by decide +kernel
theorem d_Exprs_checkNewRow_88 : decode b_Exprs_checkNewRow 88 = .ok (.getfield 35, 3) := by decide +kernel
theorem d_Exprs_checkNewRow_91 : decode b_Exprs_checkNewRow 91 = .ok (.bipush 42, 2) := by decide +kernel
theorem d_Exprs_checkNewRow_93 : decode b_Exprs_checkNewRow 93 = .ok (.iload_n 3, 1) := by decide +kernel
theorem d_Exprs_checkNewRow_94 : decode b_Exprs_checkNewRow 94 = .ok (.aload_n 0, 1) := by decide +kernel
theorem d_Exprs_checkNewRow_95 : decode b_Exprs_checkNewRow 95 = .ok (.getfield 29, 3) := by decide +kernel
theorem d_Exprs_checkNewRow_98 : decode b_Exprs_checkNewRow 98 = .ok (.iload 5, 2) := by decide +kernel
theorem d_Exprs_checkNewRow_100 : decode b_Exprs_checkNewRow 100 = .ok (.invokevirtual 179, 3) := by decide +kernel
theorem d_Exprs_checkNewRow_103 : decode b_Exprs_checkNewRow 103 = .ok (.invokevirtual 94, 3) := by decide +kernel
theorem d_Exprs_checkNewRow_106 : decode b_Exprs_checkNewRow 106 = .ok (.pop, 1) := by decide +kernel
theorem d_Exprs_checkNewRow_107 : decode b_Exprs_checkNewRow 107 = .ok (.aload_n 0, 1) := by decide +kernel
theorem d_Exprs_checkNewRow_108 : decode b_Exprs_checkNewRow 108 = .ok (.getfield 29, 3) := by decide +kernel
theorem d_Exprs_checkNewRow_111 : decode b_Exprs_checkNewRow 111 = .ok (.iconst 5, 1) := by decide +kernel
theorem d_Exprs_checkNewRow_112 : decode b_Exprs_checkNewRow 112 = .ok (.iload_n 3, 1) := by decide +kernel
theorem d_Exprs_checkNewRow_113 : decode b_Exprs_checkNewRow 113 = .ok (.iload 5, 2) := by decide +kernel
theorem d_Exprs_checkNewRow_115 : decode b_Exprs_checkNewRow 115 = .ok (.invokevirtual 238, 3) := by decide +kernel
theorem d_Exprs_checkNewRow_118 : decode b_Exprs_checkNewRow 118 = .ok (.ireturn, 1) := by decide +kernel
abbrev b_Exprs_checkSolid : ByteArray := prog_3_method_33_code
abbrev y_Exprs_checkSolid : MethodName := ⟨R_Exprs, "checkSolid", "(II)I"⟩
theorem co_Exprs_checkSolid : Cond.code y_Exprs_checkSolid b_Exprs_checkSolid 5 (some .int) ∈ lw_good := lg_in (tin_6 _ (List.mem_of_getElem? (i := 227) rfl)) rfl
abbrev w_Exprs_checkSolid : List Cond := Cond.code y_Exprs_checkSolid b_Exprs_checkSolid 5 (some .int) :: lw_good
theorem im_Exprs_checkSolid : Cond.instanceMethod y_Exprs_checkSolid ∈ lw_good := lg_right (i := 1426) (by decide +kernel) rfl
theorem se_Exprs_checkSolid : Cond.selects R_Exprs y_Exprs_checkSolid y_Exprs_checkSolid ∈ lw_good := lg_left (i := 71) (by decide +kernel) rfl
theorem d_Exprs_checkSolid_0 : decode b_Exprs_checkSolid 0 = .ok (.aload_n 0, 1) := by decide +kernel
theorem d_Exprs_checkSolid_1 : decode b_Exprs_checkSolid 1 = .ok (.getfield 9, 3) := by decide +kernel
theorem d_Exprs_checkSolid_4 : decode b_Exprs_checkSolid 4 = .ok (.getfield 188, 3) := by decide +kernel
theorem d_Exprs_checkSolid_7 : decode b_Exprs_checkSolid 7 = .ok (.iload_n 1, 1) := by decide +kernel
theorem d_Exprs_checkSolid_8 : decode b_Exprs_checkSolid 8 = .ok (.iaload, 1) := by decide +kernel
theorem d_Exprs_checkSolid_9 : decode b_Exprs_checkSolid 9 = .ok (.istore_n 3, 1) := by decide +kernel
theorem d_Exprs_checkSolid_10 : decode b_Exprs_checkSolid 10 = .ok (.aload_n 0, 1) := by decide +kernel
theorem d_Exprs_checkSolid_11 : decode b_Exprs_checkSolid 11 = .ok (.iload_n 3, 1) := by decide +kernel
theorem d_Exprs_checkSolid_12 : decode b_Exprs_checkSolid 12 = .ok (.iload_n 2, 1) := by decide +kernel
theorem d_Exprs_checkSolid_13 : decode b_Exprs_checkSolid 13 = .ok (.iconst 1, 1) := by decide +kernel
theorem d_Exprs_checkSolid_14 : decode b_Exprs_checkSolid 14 = .ok (.iadd, 1) := by decide +kernel
theorem d_Exprs_checkSolid_15 : decode b_Exprs_checkSolid 15 = .ok (.invokevirtual 53, 3) := by decide +kernel
theorem d_Exprs_checkSolid_18 : decode b_Exprs_checkSolid 18 = .ok (.istore 4, 2) := by decide +kernel
theorem d_Exprs_checkSolid_20 : decode b_Exprs_checkSolid 20 = .ok (.aload_n 0, 1) := by decide +kernel
theorem d_Exprs_checkSolid_21 : decode b_Exprs_checkSolid 21 = .ok (.getfield 29, 3) := by decide +kernel
theorem d_Exprs_checkSolid_24 : decode b_Exprs_checkSolid 24 = .ok (.iload 4, 2) := by decide +kernel
theorem d_Exprs_checkSolid_26 : decode b_Exprs_checkSolid 26 = .ok (.invokevirtual 108, 3) := by decide +kernel
theorem d_Exprs_checkSolid_29 : decode b_Exprs_checkSolid 29 = .ok (.ifCond .ne 21, 3) := by decide +kernel
theorem d_Exprs_checkSolid_32 : decode b_Exprs_checkSolid 32 = .ok (.aload_n 0, 1) := by decide +kernel
theorem d_Exprs_checkSolid_33 : decode b_Exprs_checkSolid 33 = .ok (.getfield 35, 3) := by decide +kernel
theorem d_Exprs_checkSolid_36 : decode b_Exprs_checkSolid 36 = .ok (.iconst 4, 1) := by decide +kernel
theorem d_Exprs_checkSolid_37 : decode b_Exprs_checkSolid 37 = .ok (.aload_n 0, 1) := by decide +kernel
theorem d_Exprs_checkSolid_38 : decode b_Exprs_checkSolid 38 = .ok (.getfield 9, 3) := by decide +kernel
theorem d_Exprs_checkSolid_41 : decode b_Exprs_checkSolid 41 = .ok (.iload_n 3, 1) := by decide +kernel
theorem d_Exprs_checkSolid_42 : decode b_Exprs_checkSolid 42 = .ok (.invokevirtual 64, 3) := by decide +kernel
theorem d_Exprs_checkSolid_45 : decode b_Exprs_checkSolid 45 = .ok (.invokevirtual 68, 3) := by decide +kernel
theorem d_Exprs_checkSolid_48 : decode b_Exprs_checkSolid 48 = .ok (.iconst 1, 1) := by decide +kernel
theorem d_Exprs_checkSolid_49 : decode b_Exprs_checkSolid 49 = .ok (.ireturn, 1) := by decide +kernel
theorem d_Exprs_checkSolid_50 : decode b_Exprs_checkSolid 50 = .ok (.aload_n 0, 1) := by decide +kernel
theorem d_Exprs_checkSolid_51 : decode b_Exprs_checkSolid 51 = .ok (.iload 4, 2) := by decide +kernel
theorem d_Exprs_checkSolid_53 : decode b_Exprs_checkSolid 53 = .ok (.invokevirtual 160, 3) := by decide +kernel
theorem d_Exprs_checkSolid_56 : decode b_Exprs_checkSolid 56 = .ok (.aload_n 0, 1) := by decide +kernel
theorem d_Exprs_checkSolid_57 : decode b_Exprs_checkSolid 57 = .ok (.getfield 35, 3) := by decide +kernel
theorem d_Exprs_checkSolid_60 : decode b_Exprs_checkSolid 60 = .ok (.bipush 23, 2) := by decide +kernel
theorem d_Exprs_checkSolid_62 : decode b_Exprs_checkSolid 62 = .ok (.iconst 0, 1) := by decide +kernel
theorem d_Exprs_checkSolid_63 : decode b_Exprs_checkSolid 63 = .ok (.iconst 0, 1) := by decide +kernel
theorem d_Exprs_checkSolid_64 : decode b_Exprs_checkSolid 64 = .ok (.invokevirtual 94, 3) := by decide +kernel
theorem d_Exprs_checkSolid_67 : decode b_Exprs_checkSolid 67 = .ok (.pop, 1) := by decide +kernel
theorem d_Exprs_checkSolid_68 : decode b_Exprs_checkSolid 68 = .ok (.aload_n 0, 1) := by decide +kernel
theorem d_Exprs_checkSolid_69 : decode b_Exprs_checkSolid 69 = .ok (.iload 4, 2) := by decide +kernel
theorem d_Exprs_checkSolid_71 : decode b_Exprs_checkSolid 71 = .ok (.invokevirtual 235, 3) := by decide +kernel
theorem d_Exprs_checkSolid_74 : decode b_Exprs_checkSolid 74 = .ok (.ireturn, 1) := by decide +kernel
abbrev b_Exprs_checkSize : ByteArray := prog_3_method_34_code
abbrev y_Exprs_checkSize : MethodName := ⟨R_Exprs, "checkSize", "(II)I"⟩
theorem co_Exprs_checkSize : Cond.code y_Exprs_checkSize b_Exprs_checkSize 5 (some .int) ∈ lw_good := lg_in (tin_6 _ (List.mem_of_getElem? (i := 231) rfl)) rfl
abbrev w_Exprs_checkSize : List Cond := Cond.code y_Exprs_checkSize b_Exprs_checkSize 5 (some .int) :: lw_good
theorem im_Exprs_checkSize : Cond.instanceMethod y_Exprs_checkSize ∈ lw_good := lg_right (i := 1430) (by decide +kernel) rfl
theorem se_Exprs_checkSize : Cond.selects R_Exprs y_Exprs_checkSize y_Exprs_checkSize ∈ lw_good := lg_left (i := 72) (by decide +kernel) rfl
theorem d_Exprs_checkSize_0 : decode b_Exprs_checkSize 0 = .ok (.aload_n 0, 1) := by decide +kernel
theorem d_Exprs_checkSize_1 : decode b_Exprs_checkSize 1 = .ok (.getfield 9, 3) := by decide +kernel
theorem d_Exprs_checkSize_4 : decode b_Exprs_checkSize 4 = .ok (.getfield 188, 3) := by decide +kernel
theorem d_Exprs_checkSize_7 : decode b_Exprs_checkSize 7 = .ok (.iload_n 1, 1) := by decide +kernel
theorem d_Exprs_checkSize_8 : decode b_Exprs_checkSize 8 = .ok (.iaload, 1) := by decide +kernel
theorem d_Exprs_checkSize_9 : decode b_Exprs_checkSize 9 = .ok (.istore_n 3, 1) := by decide +kernel
theorem d_Exprs_checkSize_10 : decode b_Exprs_checkSize 10 = .ok (.aload_n 0, 1) := by decide +kernel
theorem d_Exprs_checkSize_11 : decode b_Exprs_checkSize 11 = .ok (.iload_n 3, 1) := by decide +kernel
theorem d_Exprs_checkSize_12 : decode b_Exprs_checkSize 12 = .ok (.iload_n 2, 1) := by decide +kernel
theorem d_Exprs_checkSize_13 : decode b_Exprs_checkSize 13 = .ok (.iconst 1, 1) := by decide +kernel
theorem d_Exprs_checkSize_14 : decode b_Exprs_checkSize 14 = .ok (.iadd, 1) := by decide +kernel
theorem d_Exprs_checkSize_15 : decode b_Exprs_checkSize 15 = .ok (.invokevirtual 53, 3) := by decide +kernel
theorem d_Exprs_checkSize_18 : decode b_Exprs_checkSize 18 = .ok (.istore 4, 2) := by decide +kernel
theorem d_Exprs_checkSize_20 : decode b_Exprs_checkSize 20 = .ok (.aload_n 0, 1) := by decide +kernel
theorem d_Exprs_checkSize_21 : decode b_Exprs_checkSize 21 = .ok (.aload_n 0, 1) := by decide +kernel
theorem d_Exprs_checkSize_22 : decode b_Exprs_checkSize 22 = .ok (.getfield 29, 3) := by decide +kernel
theorem d_Exprs_checkSize_25 : decode b_Exprs_checkSize 25 = .ok (.iload 4, 2) := by decide +kernel
theorem d_Exprs_checkSize_27 : decode b_Exprs_checkSize 27 = .ok (.invokevirtual 74, 3) := by decide +kernel
theorem d_Exprs_checkSize_30 : decode b_Exprs_checkSize 30 = .ok (.iconst 5, 1) := by decide +kernel
theorem d_Exprs_checkSize_31 : decode b_Exprs_checkSize 31 = .ok (.if_icmp .ne 7, 3) := by decide +kernel
theorem d_Exprs_checkSize_34 : decode b_Exprs_checkSize 34 = .ok (.iconst 1, 1) := by decide +kernel
theorem d_Exprs_checkSize_35 : decode b_Exprs_checkSize 35 = .ok (.goto 4, 3) := by decide +kernel
theorem d_Exprs_checkSize_38 : decode b_Exprs_checkSize 38 = .ok (.iconst 0, 1) := by decide +kernel
theorem d_Exprs_checkSize_39 : decode b_Exprs_checkSize 39 = .ok (.iconst 4, 1) := by decide +kernel
theorem d_Exprs_checkSize_40 : decode b_Exprs_checkSize 40 = .ok (.aload_n 0, 1) := by decide +kernel
theorem d_Exprs_checkSize_41 : decode b_Exprs_checkSize 41 = .ok (.getfield 9, 3) := by decide +kernel
theorem d_Exprs_checkSize_44 : decode b_Exprs_checkSize 44 = .ok (.iload_n 3, 1) := by decide +kernel
theorem d_Exprs_checkSize_45 : decode b_Exprs_checkSize 45 = .ok (.invokevirtual 64, 3) := by decide +kernel
theorem d_Exprs_checkSize_48 : decode b_Exprs_checkSize 48 = .ok (.invokevirtual 111, 3) := by decide +kernel
theorem d_Exprs_checkSize_51 : decode b_Exprs_checkSize 51 = .ok (.aload_n 0, 1) := by decide +kernel
theorem d_Exprs_checkSize_52 : decode b_Exprs_checkSize 52 = .ok (.getfield 35, 3) := by decide +kernel
theorem d_Exprs_checkSize_55 : decode b_Exprs_checkSize 55 = .ok (.bipush 8, 2) := by decide +kernel
theorem d_Exprs_checkSize_57 : decode b_Exprs_checkSize 57 = .ok (.iconst 0, 1) := by decide +kernel
theorem d_Exprs_checkSize_58 : decode b_Exprs_checkSize 58 = .ok (.iconst 0, 1) := by decide +kernel
theorem d_Exprs_checkSize_59 : decode b_Exprs_checkSize 59 = .ok (.invokevirtual 94, 3) := by decide +kernel
theorem d_Exprs_checkSize_62 : decode b_Exprs_checkSize 62 = .ok (.pop, 1) := by decide +kernel
theorem d_Exprs_checkSize_63 : decode b_Exprs_checkSize 63 = .ok (.iconst 1, 1) := by decide +kernel
theorem d_Exprs_checkSize_64 : decode b_Exprs_checkSize 64 = .ok (.ireturn, 1) := by decide +kernel
abbrev b_Exprs_checkAddress : ByteArray := prog_3_method_32_code
abbrev y_Exprs_checkAddress : MethodName := ⟨R_Exprs, "checkAddress", "(II)I"⟩
theorem co_Exprs_checkAddress : Cond.code y_Exprs_checkAddress b_Exprs_checkAddress 8 (some .int) ∈ lw_good := lg_in (tin_6 _ (List.mem_of_getElem? (i := 182) rfl)) rfl
abbrev w_Exprs_checkAddress : List Cond := Cond.code y_Exprs_checkAddress b_Exprs_checkAddress 8 (some .int) :: lw_good
theorem im_Exprs_checkAddress : Cond.instanceMethod y_Exprs_checkAddress ∈ lw_good := lg_right (i := 1381) (by decide +kernel) rfl
theorem se_Exprs_checkAddress : Cond.selects R_Exprs y_Exprs_checkAddress y_Exprs_checkAddress ∈ lw_good := lg_left (i := 63) (by decide +kernel) rfl
theorem d_Exprs_checkAddress_0 : decode b_Exprs_checkAddress 0 = .ok (.aload_n 0, 1) := by decide +kernel
theorem d_Exprs_checkAddress_1 : decode b_Exprs_checkAddress 1 = .ok (.getfield 9, 3) := by decide +kernel
theorem d_Exprs_checkAddress_4 : decode b_Exprs_checkAddress 4 = .ok (.aload_n 0, 1) := by decide +kernel
theorem d_Exprs_checkAddress_5 : decode b_Exprs_checkAddress 5 = .ok (.getfield 9, 3) := by decide +kernel
theorem d_Exprs_checkAddress_8 : decode b_Exprs_checkAddress 8 = .ok (.getfield 188, 3) := by decide +kernel
theorem d_Exprs_checkAddress_11 : decode b_Exprs_checkAddress 11 = .ok (.iload_n 1, 1) := by decide +kernel
theorem d_Exprs_checkAddress_12 : decode b_Exprs_checkAddress 12 = .ok (.iaload, 1) := by decide +kernel
theorem d_Exprs_checkAddress_13 : decode b_Exprs_checkAddress 13 = .ok (.invokevirtual 311, 3) := by decide +kernel
theorem ml_Exprs_311 : Cond.methodLink R_Exprs 311 ⟨"PointerHouse$Source", "bare", "(I)I"⟩ ∈ lw_good := lg_right (i := 1383) (by decide +kernel) rfl
theorem d_Exprs_checkAddress_16 : decode b_Exprs_checkAddress 16 = .ok (.istore_n 3, 1) := by decide +kernel
theorem d_Exprs_checkAddress_17 : decode b_Exprs_checkAddress 17 = .ok (.aload_n 0, 1) := by decide +kernel
theorem d_Exprs_checkAddress_18 : decode b_Exprs_checkAddress 18 = .ok (.getfield 9, 3) := by decide +kernel
theorem d_Exprs_checkAddress_21 : decode b_Exprs_checkAddress 21 = .ok (.iload_n 3, 1) := by decide +kernel
theorem d_Exprs_checkAddress_22 : decode b_Exprs_checkAddress 22 = .ok (.invokevirtual 64, 3) := by decide +kernel
theorem d_Exprs_checkAddress_25 : decode b_Exprs_checkAddress 25 = .ok (.istore 4, 2) := by decide +kernel
theorem d_Exprs_checkAddress_27 : decode b_Exprs_checkAddress 27 = .ok (.aload_n 0, 1) := by decide +kernel
theorem d_Exprs_checkAddress_28 : decode b_Exprs_checkAddress 28 = .ok (.getfield 9, 3) := by decide +kernel
theorem d_Exprs_checkAddress_31 : decode b_Exprs_checkAddress 31 = .ok (.iload_n 3, 1) := by decide +kernel
theorem d_Exprs_checkAddress_32 : decode b_Exprs_checkAddress 32 = .ok (.invokevirtual 314, 3) := by decide +kernel
theorem ml_Exprs_314 : Cond.methodLink R_Exprs 314 ⟨"PointerHouse$Source", "lastTail", "(I)I"⟩ ∈ lw_good := lg_right (i := 1391) (by decide +kernel) rfl
theorem d_Exprs_checkAddress_35 : decode b_Exprs_checkAddress 35 = .ok (.istore 5, 2) := by decide +kernel
theorem d_Exprs_checkAddress_37 : decode b_Exprs_checkAddress 37 = .ok (.aload_n 0, 1) := by decide +kernel
theorem d_Exprs_checkAddress_38 : decode b_Exprs_checkAddress 38 = .ok (.getfield 9, 3) := by decide +kernel
theorem d_Exprs_checkAddress_41 : decode b_Exprs_checkAddress 41 = .ok (.getfield 43, 3) := by decide +kernel
theorem d_Exprs_checkAddress_44 : decode b_Exprs_checkAddress 44 = .ok (.iload_n 3, 1) := by decide +kernel
theorem d_Exprs_checkAddress_45 : decode b_Exprs_checkAddress 45 = .ok (.iaload, 1) := by decide +kernel
theorem d_Exprs_checkAddress_46 : decode b_Exprs_checkAddress 46 = .ok (.ifCond .ne 33, 3) := by decide +kernel
theorem d_Exprs_checkAddress_49 : decode b_Exprs_checkAddress 49 = .ok (.aload_n 0, 1) := by decide +kernel
theorem d_Exprs_checkAddress_50 : decode b_Exprs_checkAddress 50 = .ok (.getfield 9, 3) := by decide +kernel
theorem d_Exprs_checkAddress_53 : decode b_Exprs_checkAddress 53 = .ok (.getfield 124, 3) := by decide +kernel
theorem d_Exprs_checkAddress_56 : decode b_Exprs_checkAddress 56 = .ok (.iload 5, 2) := by decide +kernel
theorem d_Exprs_checkAddress_58 : decode b_Exprs_checkAddress 58 = .ok (.iaload, 1) := by decide +kernel
theorem d_Exprs_checkAddress_59 : decode b_Exprs_checkAddress 59 = .ok (.bipush 49, 2) := by decide +kernel
theorem d_Exprs_checkAddress_61 : decode b_Exprs_checkAddress 61 = .ok (.if_icmp .eq 30, 3) := by decide +kernel
theorem d_Exprs_checkAddress_64 : decode b_Exprs_checkAddress 64 = .ok (.aload_n 0, 1) := by decide +kernel
theorem d_Exprs_checkAddress_65 : decode b_Exprs_checkAddress 65 = .ok (.getfield 9, 3) := by decide +kernel
theorem d_Exprs_checkAddress_68 : decode b_Exprs_checkAddress 68 = .ok (.getfield 124, 3) := by decide +kernel
theorem d_Exprs_checkAddress_71 : decode b_Exprs_checkAddress 71 = .ok (.iload 5, 2) := by decide +kernel
theorem d_Exprs_checkAddress_73 : decode b_Exprs_checkAddress 73 = .ok (.iaload, 1) := by decide +kernel
theorem d_Exprs_checkAddress_74 : decode b_Exprs_checkAddress 74 = .ok (.bipush 44, 2) := by decide +kernel
theorem d_Exprs_checkAddress_76 : decode b_Exprs_checkAddress 76 = .ok (.if_icmp .eq 15, 3) := by decide +kernel
theorem d_Exprs_checkAddress_79 : decode b_Exprs_checkAddress 79 = .ok (.aload_n 0, 1) := by decide +kernel
theorem d_Exprs_checkAddress_80 : decode b_Exprs_checkAddress 80 = .ok (.getfield 35, 3) := by decide +kernel
theorem d_Exprs_checkAddress_83 : decode b_Exprs_checkAddress 83 = .ok (.iconst 4, 1) := by decide +kernel
theorem d_Exprs_checkAddress_84 : decode b_Exprs_checkAddress 84 = .ok (.iload 4, 2) := by decide +kernel
theorem d_Exprs_checkAddress_86 : decode b_Exprs_checkAddress 86 = .ok (.invokevirtual 68, 3) := by decide +kernel
theorem d_Exprs_checkAddress_89 : decode b_Exprs_checkAddress 89 = .ok (.iconst 1, 1) := by decide +kernel
theorem d_Exprs_checkAddress_90 : decode b_Exprs_checkAddress 90 = .ok (.ireturn, 1) := by decide +kernel
theorem d_Exprs_checkAddress_91 : decode b_Exprs_checkAddress 91 = .ok (.aload_n 0, 1) := by decide +kernel
theorem d_Exprs_checkAddress_92 : decode b_Exprs_checkAddress 92 = .ok (.iload_n 3, 1) := by decide +kernel
theorem d_Exprs_checkAddress_93 : decode b_Exprs_checkAddress 93 = .ok (.iload 5, 2) := by decide +kernel
theorem d_Exprs_checkAddress_95 : decode b_Exprs_checkAddress 95 = .ok (.iload_n 2, 1) := by decide +kernel
theorem d_Exprs_checkAddress_96 : decode b_Exprs_checkAddress 96 = .ok (.iconst 1, 1) := by decide +kernel
theorem d_Exprs_checkAddress_97 : decode b_Exprs_checkAddress 97 = .ok (.iadd, 1) := by decide +kernel
theorem d_Exprs_checkAddress_98 : decode b_Exprs_checkAddress 98 = .ok (.invokevirtual 39, 3) := by decide +kernel
theorem d_Exprs_checkAddress_101 : decode b_Exprs_checkAddress 101 = .ok (.istore 6, 2) := by decide +kernel
theorem d_Exprs_checkAddress_103 : decode b_Exprs_checkAddress 103 = .ok (.aload_n 0, 1) := by decide +kernel
theorem d_Exprs_checkAddress_104 : decode b_Exprs_checkAddress 104 = .ok (.iload 5, 2) := by decide +kernel
theorem d_Exprs_checkAddress_106 : decode b_Exprs_checkAddress 106 = .ok (.iload 6, 2) := by decide +kernel
theorem d_Exprs_checkAddress_108 : decode b_Exprs_checkAddress 108 = .ok (.iload 4, 2) := by decide +kernel
theorem d_Exprs_checkAddress_110 : decode b_Exprs_checkAddress 110 = .ok (.iconst 1, 1) := by decide +kernel
theorem d_Exprs_checkAddress_111 : decode b_Exprs_checkAddress 111 = .ok (.iload_n 2, 1) := by decide +kernel
theorem d_Exprs_checkAddress_112 : decode b_Exprs_checkAddress 112 = .ok (.iconst 1, 1) := by decide +kernel
theorem d_Exprs_checkAddress_113 : decode b_Exprs_checkAddress 113 = .ok (.iadd, 1) := by decide +kernel
theorem d_Exprs_checkAddress_114 : decode b_Exprs_checkAddress 114 = .ok (.invokevirtual 130, 3) := by decide +kernel
theorem d_Exprs_checkAddress_117 : decode b_Exprs_checkAddress 117 = .ok (.istore 7, 2) := by decide +kernel
theorem d_Exprs_checkAddress_119 : decode b_Exprs_checkAddress 119 = .ok (.aload_n 0, 1) := by decide +kernel
theorem d_Exprs_checkAddress_120 : decode b_Exprs_checkAddress 120 = .ok (.getfield 29, 3) := by decide +kernel
theorem d_Exprs_checkAddress_123 : decode b_Exprs_checkAddress 123 = .ok (.iconst 3, 1) := by decide +kernel
theorem d_Exprs_checkAddress_124 : decode b_Exprs_checkAddress 124 = .ok (.aload_n 0, 1) := by decide +kernel
theorem d_Exprs_checkAddress_125 : decode b_Exprs_checkAddress 125 = .ok (.getfield 29, 3) := by decide +kernel
theorem d_Exprs_checkAddress_128 : decode b_Exprs_checkAddress 128 = .ok (.iload 6, 2) := by decide +kernel
theorem d_Exprs_checkAddress_130 : decode b_Exprs_checkAddress 130 = .ok (.invokevirtual 82, 3) := by decide +kernel
theorem d_Exprs_checkAddress_133 : decode b_Exprs_checkAddress 133 = .ok (.iload 7, 2) := by decide +kernel
theorem d_Exprs_checkAddress_135 : decode b_Exprs_checkAddress 135 = .ok (.invokevirtual 238, 3) := by decide +kernel
theorem d_Exprs_checkAddress_138 : decode b_Exprs_checkAddress 138 = .ok (.ireturn, 1) := by decide +kernel
abbrev b_Exprs_checkCall : ByteArray := prog_3_method_22_code
abbrev y_Exprs_checkCall : MethodName := ⟨R_Exprs, "checkCall", "(II)I"⟩
theorem co_Exprs_checkCall : Cond.code y_Exprs_checkCall b_Exprs_checkCall 10 (some .int) ∈ lw_good := lg_in (tin_6 _ (List.mem_of_getElem? (i := 65) rfl)) rfl
abbrev w_Exprs_checkCall : List Cond := Cond.code y_Exprs_checkCall b_Exprs_checkCall 10 (some .int) :: lw_good
theorem im_Exprs_checkCall : Cond.instanceMethod y_Exprs_checkCall ∈ lw_good := lg_right (i := 1264) (by decide +kernel) rfl
theorem se_Exprs_checkCall : Cond.selects R_Exprs y_Exprs_checkCall y_Exprs_checkCall ∈ lw_good := lg_left (i := 52) (by decide +kernel) rfl
theorem d_Exprs_checkCall_0 : decode b_Exprs_checkCall 0 = .ok (.aload_n 0, 1) := by decide +kernel
theorem d_Exprs_checkCall_1 : decode b_Exprs_checkCall 1 = .ok (.getfield 9, 3) := by decide +kernel
theorem d_Exprs_checkCall_4 : decode b_Exprs_checkCall 4 = .ok (.getfield 146, 3) := by decide +kernel
theorem d_Exprs_checkCall_7 : decode b_Exprs_checkCall 7 = .ok (.iload_n 1, 1) := by decide +kernel
theorem d_Exprs_checkCall_8 : decode b_Exprs_checkCall 8 = .ok (.iaload, 1) := by decide +kernel
theorem d_Exprs_checkCall_9 : decode b_Exprs_checkCall 9 = .ok (.istore_n 3, 1) := by decide +kernel
theorem d_Exprs_checkCall_10 : decode b_Exprs_checkCall 10 = .ok (.aload_n 0, 1) := by decide +kernel
theorem d_Exprs_checkCall_11 : decode b_Exprs_checkCall 11 = .ok (.getfield 9, 3) := by decide +kernel
theorem d_Exprs_checkCall_14 : decode b_Exprs_checkCall 14 = .ok (.iload_n 3, 1) := by decide +kernel
theorem d_Exprs_checkCall_15 : decode b_Exprs_checkCall 15 = .ok (.invokevirtual 157, 3) := by decide +kernel
theorem d_Exprs_checkCall_18 : decode b_Exprs_checkCall 18 = .ok (.istore 4, 2) := by decide +kernel
theorem d_Exprs_checkCall_20 : decode b_Exprs_checkCall 20 = .ok (.aload_n 0, 1) := by decide +kernel
theorem d_Exprs_checkCall_21 : decode b_Exprs_checkCall 21 = .ok (.getfield 9, 3) := by decide +kernel
theorem d_Exprs_checkCall_24 : decode b_Exprs_checkCall 24 = .ok (.getfield 241, 3) := by decide +kernel
theorem d_Exprs_checkCall_27 : decode b_Exprs_checkCall 27 = .ok (.iload_n 1, 1) := by decide +kernel
theorem d_Exprs_checkCall_28 : decode b_Exprs_checkCall 28 = .ok (.iaload, 1) := by decide +kernel
theorem d_Exprs_checkCall_29 : decode b_Exprs_checkCall 29 = .ok (.istore 5, 2) := by decide +kernel
theorem d_Exprs_checkCall_31 : decode b_Exprs_checkCall 31 = .ok (.aload_n 0, 1) := by decide +kernel
theorem d_Exprs_checkCall_32 : decode b_Exprs_checkCall 32 = .ok (.getfield 15, 3) := by decide +kernel
theorem d_Exprs_checkCall_35 : decode b_Exprs_checkCall 35 = .ok (.aload_n 0, 1) := by decide +kernel
theorem d_Exprs_checkCall_36 : decode b_Exprs_checkCall 36 = .ok (.getfield 9, 3) := by decide +kernel
theorem d_Exprs_checkCall_39 : decode b_Exprs_checkCall 39 = .ok (.iload_n 3, 1) := by decide +kernel
theorem d_Exprs_checkCall_40 : decode b_Exprs_checkCall 40 = .ok (.invokevirtual 149, 3) := by decide +kernel
theorem d_Exprs_checkCall_43 : decode b_Exprs_checkCall 43 = .ok (.iconst 1, 1) := by decide +kernel
theorem d_Exprs_checkCall_44 : decode b_Exprs_checkCall 44 = .ok (.invokevirtual 244, 3) := by decide +kernel
theorem ml_Exprs_244 : Cond.methodLink R_Exprs 244 ⟨"PointerHouse$Items", "find", "(JZ)I"⟩ ∈ lw_good := lg_right (i := 1266) (by decide +kernel) rfl
theorem d_Exprs_checkCall_47 : decode b_Exprs_checkCall 47 = .ok (.istore 6, 2) := by decide +kernel
theorem d_Exprs_checkCall_49 : decode b_Exprs_checkCall 49 = .ok (.iload 6, 2) := by decide +kernel
theorem d_Exprs_checkCall_51 : decode b_Exprs_checkCall 51 = .ok (.iconst (-1), 1) := by decide +kernel
theorem d_Exprs_checkCall_52 : decode b_Exprs_checkCall 52 = .ok (.if_icmp .ne 15, 3) := by decide +kernel
theorem d_Exprs_checkCall_55 : decode b_Exprs_checkCall 55 = .ok (.aload_n 0, 1) := by decide +kernel
theorem d_Exprs_checkCall_56 : decode b_Exprs_checkCall 56 = .ok (.getfield 35, 3) := by decide +kernel
theorem d_Exprs_checkCall_59 : decode b_Exprs_checkCall 59 = .ok (.iconst 3, 1) := by decide +kernel
theorem d_Exprs_checkCall_60 : decode b_Exprs_checkCall 60 = .ok (.iload 4, 2) := by decide +kernel
theorem d_Exprs_checkCall_62 : decode b_Exprs_checkCall 62 = .ok (.invokevirtual 68, 3) := by decide +kernel
theorem d_Exprs_checkCall_65 : decode b_Exprs_checkCall 65 = .ok (.iconst 1, 1) := by decide +kernel
theorem d_Exprs_checkCall_66 : decode b_Exprs_checkCall 66 = .ok (.ireturn, 1) := by decide +kernel
theorem d_Exprs_checkCall_67 : decode b_Exprs_checkCall 67 = .ok (.aload_n 0, 1) := by decide +kernel
theorem d_Exprs_checkCall_68 : decode b_Exprs_checkCall 68 = .ok (.getfield 15, 3) := by decide +kernel
theorem d_Exprs_checkCall_71 : decode b_Exprs_checkCall 71 = .ok (.getfield 248, 3) := by decide +kernel
theorem fl_Exprs_248 : Cond.fieldLink R_Exprs 248 "PointerHouse$Items" "rsCount" "[I" ∈ lw_good := lg_right (i := 291) (by decide +kernel) rfl
theorem d_Exprs_checkCall_74 : decode b_Exprs_checkCall 74 = .ok (.iload 6, 2) := by decide +kernel
theorem d_Exprs_checkCall_76 : decode b_Exprs_checkCall 76 = .ok (.iaload, 1) := by decide +kernel
theorem d_Exprs_checkCall_77 : decode b_Exprs_checkCall 77 = .ok (.iload 5, 2) := by decide +kernel
theorem d_Exprs_checkCall_79 : decode b_Exprs_checkCall 79 = .ok (.if_icmp .eq 16, 3) := by decide +kernel
theorem d_Exprs_checkCall_82 : decode b_Exprs_checkCall 82 = .ok (.aload_n 0, 1) := by decide +kernel
theorem d_Exprs_checkCall_83 : decode b_Exprs_checkCall 83 = .ok (.getfield 35, 3) := by decide +kernel
theorem d_Exprs_checkCall_86 : decode b_Exprs_checkCall 86 = .ok (.bipush 7, 2) := by decide +kernel
theorem d_Exprs_checkCall_88 : decode b_Exprs_checkCall 88 = .ok (.iload 4, 2) := by decide +kernel
theorem d_Exprs_checkCall_90 : decode b_Exprs_checkCall 90 = .ok (.invokevirtual 68, 3) := by decide +kernel
theorem d_Exprs_checkCall_93 : decode b_Exprs_checkCall 93 = .ok (.iconst 1, 1) := by decide +kernel
theorem d_Exprs_checkCall_94 : decode b_Exprs_checkCall 94 = .ok (.ireturn, 1) := by decide +kernel
theorem d_Exprs_checkCall_95 : decode b_Exprs_checkCall 95 = .ok (.aload_n 0, 1) := by decide +kernel
theorem d_Exprs_checkCall_96 : decode b_Exprs_checkCall 96 = .ok (.getfield 19, 3) := by decide +kernel
theorem d_Exprs_checkCall_99 : decode b_Exprs_checkCall 99 = .ok (.iload_n 3, 1) := by decide +kernel
theorem d_Exprs_checkCall_100 : decode b_Exprs_checkCall 100 = .ok (.iconst 1, 1) := by decide +kernel
theorem d_Exprs_checkCall_101 : decode b_Exprs_checkCall 101 = .ok (.iadd, 1) := by decide +kernel
theorem d_Exprs_checkCall_102 : decode b_Exprs_checkCall 102 = .ok (.iload 5, 2) := by decide +kernel
theorem d_Exprs_checkCall_104 : decode b_Exprs_checkCall 104 = .ok (.invokevirtual 251, 3) := by decide +kernel
theorem ml_Exprs_251 : Cond.methodLink R_Exprs 251 ⟨"PointerHouse$Heads", "readRegions", "(II)I"⟩ ∈ lw_good := lg_right (i := 1267) (by decide +kernel) rfl
theorem d_Exprs_checkCall_107 : decode b_Exprs_checkCall 107 = .ok (.istore 7, 2) := by decide +kernel
theorem d_Exprs_checkCall_109 : decode b_Exprs_checkCall 109 = .ok (.aload_n 0, 1) := by decide +kernel
theorem d_Exprs_checkCall_110 : decode b_Exprs_checkCall 110 = .ok (.getfield 9, 3) := by decide +kernel
theorem d_Exprs_checkCall_113 : decode b_Exprs_checkCall 113 = .ok (.aload_n 0, 1) := by decide +kernel
theorem d_Exprs_checkCall_114 : decode b_Exprs_checkCall 114 = .ok (.getfield 9, 3) := by decide +kernel
theorem d_Exprs_checkCall_117 : decode b_Exprs_checkCall 117 = .ok (.getfield 188, 3) := by decide +kernel
theorem d_Exprs_checkCall_120 : decode b_Exprs_checkCall 120 = .ok (.iload_n 1, 1) := by decide +kernel
theorem d_Exprs_checkCall_121 : decode b_Exprs_checkCall 121 = .ok (.iaload, 1) := by decide +kernel
theorem d_Exprs_checkCall_122 : decode b_Exprs_checkCall 122 = .ok (.invokevirtual 254, 3) := by decide +kernel
theorem ml_Exprs_254 : Cond.methodLink R_Exprs 254 ⟨"PointerHouse$Source", "countPeers", "(I)I"⟩ ∈ lw_good := lg_right (i := 1268) (by decide +kernel) rfl
theorem d_Exprs_checkCall_125 : decode b_Exprs_checkCall 125 = .ok (.aload_n 0, 1) := by decide +kernel
theorem d_Exprs_checkCall_126 : decode b_Exprs_checkCall 126 = .ok (.getfield 15, 3) := by decide +kernel
theorem d_Exprs_checkCall_129 : decode b_Exprs_checkCall 129 = .ok (.getfield 257, 3) := by decide +kernel
theorem fl_Exprs_257 : Cond.fieldLink R_Exprs 257 "PointerHouse$Items" "partCount" "[I" ∈ lw_good := lg_right (i := 296) (by decide +kernel) rfl
theorem d_Exprs_checkCall_132 : decode b_Exprs_checkCall 132 = .ok (.iload 6, 2) := by decide +kernel
theorem d_Exprs_checkCall_134 : decode b_Exprs_checkCall 134 = .ok (.iaload, 1) := by decide +kernel
theorem d_Exprs_checkCall_135 : decode b_Exprs_checkCall 135 = .ok (.if_icmp .eq 16, 3) := by decide +kernel
theorem d_Exprs_checkCall_138 : decode b_Exprs_checkCall 138 = .ok (.aload_n 0, 1) := by decide +kernel
theorem d_Exprs_checkCall_139 : decode b_Exprs_checkCall 139 = .ok (.getfield 35, 3) := by decide +kernel
theorem d_Exprs_checkCall_142 : decode b_Exprs_checkCall 142 = .ok (.bipush 7, 2) := by decide +kernel
theorem d_Exprs_checkCall_144 : decode b_Exprs_checkCall 144 = .ok (.iload 4, 2) := by decide +kernel
theorem d_Exprs_checkCall_146 : decode b_Exprs_checkCall 146 = .ok (.invokevirtual 68, 3) := by decide +kernel
theorem d_Exprs_checkCall_149 : decode b_Exprs_checkCall 149 = .ok (.iconst 1, 1) := by decide +kernel
theorem d_Exprs_checkCall_150 : decode b_Exprs_checkCall 150 = .ok (.ireturn, 1) := by decide +kernel
theorem d_Exprs_checkCall_151 : decode b_Exprs_checkCall 151 = .ok (.aload_n 0, 1) := by decide +kernel
theorem d_Exprs_checkCall_152 : decode b_Exprs_checkCall 152 = .ok (.iload 6, 2) := by decide +kernel
theorem d_Exprs_checkCall_154 : decode b_Exprs_checkCall 154 = .ok (.aload_n 0, 1) := by decide +kernel
theorem d_Exprs_checkCall_155 : decode b_Exprs_checkCall 155 = .ok (.getfield 9, 3) := by decide +kernel
theorem d_Exprs_checkCall_158 : decode b_Exprs_checkCall 158 = .ok (.getfield 188, 3) := by decide +kernel
theorem d_Exprs_checkCall_161 : decode b_Exprs_checkCall 161 = .ok (.iload_n 1, 1) := by decide +kernel
theorem d_Exprs_checkCall_162 : decode b_Exprs_checkCall 162 = .ok (.iaload, 1) := by decide +kernel
theorem d_Exprs_checkCall_163 : decode b_Exprs_checkCall 163 = .ok (.iload 7, 2) := by decide +kernel
theorem d_Exprs_checkCall_165 : decode b_Exprs_checkCall 165 = .ok (.iload_n 2, 1) := by decide +kernel
theorem d_Exprs_checkCall_166 : decode b_Exprs_checkCall 166 = .ok (.invokevirtual 260, 3) := by decide +kernel
theorem ml_Exprs_260 : Cond.methodLink R_Exprs 260 ⟨"PointerHouse$Exprs", "checkParts", "(IIII)V"⟩ ∈ lw_good := lg_right (i := 1272) (by decide +kernel) rfl
theorem d_Exprs_checkCall_169 : decode b_Exprs_checkCall 169 = .ok (.iconst 1, 1) := by decide +kernel
theorem d_Exprs_checkCall_170 : decode b_Exprs_checkCall 170 = .ok (.istore 8, 2) := by decide +kernel
theorem d_Exprs_checkCall_172 : decode b_Exprs_checkCall 172 = .ok (.iload 8, 2) := by decide +kernel
theorem d_Exprs_checkCall_174 : decode b_Exprs_checkCall 174 = .ok (.iload 5, 2) := by decide +kernel
theorem d_Exprs_checkCall_176 : decode b_Exprs_checkCall 176 = .ok (.if_icmp .gt 77, 3) := by decide +kernel
theorem d_Exprs_checkCall_179 : decode b_Exprs_checkCall 179 = .ok (.aload_n 0, 1) := by decide +kernel
theorem d_Exprs_checkCall_180 : decode b_Exprs_checkCall 180 = .ok (.getfield 15, 3) := by decide +kernel
theorem d_Exprs_checkCall_183 : decode b_Exprs_checkCall 183 = .ok (.getfield 263, 3) := by decide +kernel
theorem fl_Exprs_263 : Cond.fieldLink R_Exprs 263 "PointerHouse$Items" "dead" "[I" ∈ lw_good := lg_right (i := 319) (by decide +kernel) rfl
theorem d_Exprs_checkCall_186 : decode b_Exprs_checkCall 186 = .ok (.iload 6, 2) := by decide +kernel
theorem d_Exprs_checkCall_188 : decode b_Exprs_checkCall 188 = .ok (.iaload, 1) := by decide +kernel
theorem d_Exprs_checkCall_189 : decode b_Exprs_checkCall 189 = .ok (.iload 8, 2) := by decide +kernel
theorem d_Exprs_checkCall_191 : decode b_Exprs_checkCall 191 = .ok (.ishr, 1) := by decide +kernel
theorem d_Exprs_checkCall_192 : decode b_Exprs_checkCall 192 = .ok (.iconst 1, 1) := by decide +kernel
theorem d_Exprs_checkCall_193 : decode b_Exprs_checkCall 193 = .ok (.iand, 1) := by decide +kernel
theorem d_Exprs_checkCall_194 : decode b_Exprs_checkCall 194 = .ok (.ifCond .eq 7, 3) := by decide +kernel
theorem d_Exprs_checkCall_197 : decode b_Exprs_checkCall 197 = .ok (.iconst 1, 1) := by decide +kernel
theorem d_Exprs_checkCall_198 : decode b_Exprs_checkCall 198 = .ok (.goto 4, 3) := by decide +kernel
theorem d_Exprs_checkCall_201 : decode b_Exprs_checkCall 201 = .ok (.iconst 0, 1) := by decide +kernel
theorem d_Exprs_checkCall_202 : decode b_Exprs_checkCall 202 = .ok (.istore 9, 2) := by decide +kernel
theorem d_Exprs_checkCall_204 : decode b_Exprs_checkCall 204 = .ok (.aload_n 0, 1) := by decide +kernel
theorem d_Exprs_checkCall_205 : decode b_Exprs_checkCall 205 = .ok (.iload 9, 2) := by decide +kernel
theorem d_Exprs_checkCall_207 : decode b_Exprs_checkCall 207 = .ok (.ifCond .ne 20, 3) := by decide +kernel
theorem d_Exprs_checkCall_210 : decode b_Exprs_checkCall 210 = .ok (.aload_n 0, 1) := by decide +kernel
theorem d_Exprs_checkCall_211 : decode b_Exprs_checkCall 211 = .ok (.getfield 34, 3) := by decide +kernel
theorem d_Exprs_checkCall_214 : decode b_Exprs_checkCall 214 = .ok (.iload 8, 2) := by decide +kernel
theorem d_Exprs_checkCall_216 : decode b_Exprs_checkCall 216 = .ok (.iload 7, 2) := by decide +kernel
theorem d_Exprs_checkCall_218 : decode b_Exprs_checkCall 218 = .ok (.invokestatic 266, 3) := by decide +kernel
theorem ml_Exprs_266 : Cond.methodLink R_Exprs 266 ⟨"PointerHouse$Types", "toldOne", "(II)I"⟩ ∈ lw_good := lg_right (i := 1320) (by decide +kernel) rfl
theorem d_Exprs_checkCall_221 : decode b_Exprs_checkCall 221 = .ok (.invokevirtual 115, 3) := by decide +kernel
theorem d_Exprs_checkCall_224 : decode b_Exprs_checkCall 224 = .ok (.ifCond .eq 7, 3) := by decide +kernel
theorem d_Exprs_checkCall_227 : decode b_Exprs_checkCall 227 = .ok (.iconst 1, 1) := by decide +kernel
theorem d_Exprs_checkCall_228 : decode b_Exprs_checkCall 228 = .ok (.goto 4, 3) := by decide +kernel
theorem d_Exprs_checkCall_231 : decode b_Exprs_checkCall 231 = .ok (.iconst 0, 1) := by decide +kernel
theorem d_Exprs_checkCall_232 : decode b_Exprs_checkCall 232 = .ok (.iconst 5, 1) := by decide +kernel
theorem d_Exprs_checkCall_233 : decode b_Exprs_checkCall 233 = .ok (.aload_n 0, 1) := by decide +kernel
theorem d_Exprs_checkCall_234 : decode b_Exprs_checkCall 234 = .ok (.getfield 9, 3) := by decide +kernel
theorem d_Exprs_checkCall_237 : decode b_Exprs_checkCall 237 = .ok (.iload_n 3, 1) := by decide +kernel
theorem d_Exprs_checkCall_238 : decode b_Exprs_checkCall 238 = .ok (.iload 8, 2) := by decide +kernel
theorem d_Exprs_checkCall_240 : decode b_Exprs_checkCall 240 = .ok (.iadd, 1) := by decide +kernel
theorem d_Exprs_checkCall_241 : decode b_Exprs_checkCall 241 = .ok (.invokevirtual 157, 3) := by decide +kernel
theorem d_Exprs_checkCall_244 : decode b_Exprs_checkCall 244 = .ok (.invokevirtual 111, 3) := by decide +kernel
theorem d_Exprs_checkCall_247 : decode b_Exprs_checkCall 247 = .ok (.iinc 8 1, 3) := by decide +kernel
theorem d_Exprs_checkCall_250 : decode b_Exprs_checkCall 250 = .ok (.goto (-78), 3) := by decide +kernel
theorem d_Exprs_checkCall_253 : decode b_Exprs_checkCall 253 = .ok (.aload_n 0, 1) := by decide +kernel
theorem d_Exprs_checkCall_254 : decode b_Exprs_checkCall 254 = .ok (.iload 6, 2) := by decide +kernel
theorem d_Exprs_checkCall_256 : decode b_Exprs_checkCall 256 = .ok (.iload 7, 2) := by decide +kernel
theorem d_Exprs_checkCall_258 : decode b_Exprs_checkCall 258 = .ok (.iload_n 3, 1) := by decide +kernel
theorem d_Exprs_checkCall_259 : decode b_Exprs_checkCall 259 = .ok (.invokevirtual 269, 3) := by decide +kernel
theorem ml_Exprs_269 : Cond.methodLink R_Exprs 269 ⟨"PointerHouse$Exprs", "checkWhere", "(III)V"⟩ ∈ lw_good := lg_right (i := 1322) (by decide +kernel) rfl
theorem d_Exprs_checkCall_262 : decode b_Exprs_checkCall 262 = .ok (.aload_n 0, 1) := by decide +kernel
theorem d_Exprs_checkCall_263 : decode b_Exprs_checkCall 263 = .ok (.getfield 35, 3) := by decide +kernel
theorem d_Exprs_checkCall_266 : decode b_Exprs_checkCall 266 = .ok (.bipush 57, 2) := by decide +kernel
theorem d_Exprs_checkCall_268 : decode b_Exprs_checkCall 268 = .ok (.iload 6, 2) := by decide +kernel
theorem d_Exprs_checkCall_270 : decode b_Exprs_checkCall 270 = .ok (.iload 7, 2) := by decide +kernel
theorem d_Exprs_checkCall_272 : decode b_Exprs_checkCall 272 = .ok (.invokevirtual 94, 3) := by decide +kernel
theorem d_Exprs_checkCall_275 : decode b_Exprs_checkCall 275 = .ok (.pop, 1) := by decide +kernel
theorem d_Exprs_checkCall_276 : decode b_Exprs_checkCall 276 = .ok (.aload_n 0, 1) := by decide +kernel
theorem d_Exprs_checkCall_277 : decode b_Exprs_checkCall 277 = .ok (.getfield 29, 3) := by decide +kernel
theorem d_Exprs_checkCall_280 : decode b_Exprs_checkCall 280 = .ok (.aload_n 0, 1) := by decide +kernel
theorem d_Exprs_checkCall_281 : decode b_Exprs_checkCall 281 = .ok (.getfield 15, 3) := by decide +kernel
theorem d_Exprs_checkCall_284 : decode b_Exprs_checkCall 284 = .ok (.getfield 272, 3) := by decide +kernel
theorem fl_Exprs_272 : Cond.fieldLink R_Exprs 272 "PointerHouse$Items" "gives" "[I" ∈ lw_good := lg_right (i := 315) (by decide +kernel) rfl
theorem d_Exprs_checkCall_287 : decode b_Exprs_checkCall 287 = .ok (.iload 6, 2) := by decide +kernel
theorem d_Exprs_checkCall_289 : decode b_Exprs_checkCall 289 = .ok (.iaload, 1) := by decide +kernel
theorem d_Exprs_checkCall_290 : decode b_Exprs_checkCall 290 = .ok (.iload 7, 2) := by decide +kernel
theorem d_Exprs_checkCall_292 : decode b_Exprs_checkCall 292 = .ok (.iconst 1, 1) := by decide +kernel
theorem d_Exprs_checkCall_293 : decode b_Exprs_checkCall 293 = .ok (.invokevirtual 172, 3) := by decide +kernel
theorem d_Exprs_checkCall_296 : decode b_Exprs_checkCall 296 = .ok (.ireturn, 1) := by decide +kernel
abbrev b_Exprs_solidOf : ByteArray := prog_3_method_21_code
abbrev y_Exprs_solidOf : MethodName := ⟨R_Exprs, "solidOf", "(I)I"⟩
theorem co_Exprs_solidOf : Cond.code y_Exprs_solidOf b_Exprs_solidOf 2 (some .int) ∈ lw_good := lg_in (tin_6 _ (List.mem_of_getElem? (i := 52) rfl)) rfl
abbrev w_Exprs_solidOf : List Cond := Cond.code y_Exprs_solidOf b_Exprs_solidOf 2 (some .int) :: lw_good
theorem im_Exprs_solidOf : Cond.instanceMethod y_Exprs_solidOf ∈ lw_good := lg_right (i := 1251) (by decide +kernel) rfl
theorem se_Exprs_solidOf : Cond.selects R_Exprs y_Exprs_solidOf y_Exprs_solidOf ∈ lw_good := lg_left (i := 51) (by decide +kernel) rfl
theorem d_Exprs_solidOf_0 : decode b_Exprs_solidOf 0 = .ok (.aload_n 0, 1) := by decide +kernel
theorem d_Exprs_solidOf_1 : decode b_Exprs_solidOf 1 = .ok (.getfield 29, 3) := by decide +kernel
theorem d_Exprs_solidOf_4 : decode b_Exprs_solidOf 4 = .ok (.iconst 3, 1) := by decide +kernel
theorem d_Exprs_solidOf_5 : decode b_Exprs_solidOf 5 = .ok (.aload_n 0, 1) := by decide +kernel
theorem d_Exprs_solidOf_6 : decode b_Exprs_solidOf 6 = .ok (.getfield 29, 3) := by decide +kernel
theorem d_Exprs_solidOf_9 : decode b_Exprs_solidOf 9 = .ok (.iload_n 1, 1) := by decide +kernel
theorem d_Exprs_solidOf_10 : decode b_Exprs_solidOf 10 = .ok (.invokevirtual 82, 3) := by decide +kernel
theorem d_Exprs_solidOf_13 : decode b_Exprs_solidOf 13 = .ok (.aload_n 0, 1) := by decide +kernel
theorem d_Exprs_solidOf_14 : decode b_Exprs_solidOf 14 = .ok (.getfield 29, 3) := by decide +kernel
theorem d_Exprs_solidOf_17 : decode b_Exprs_solidOf 17 = .ok (.iload_n 1, 1) := by decide +kernel
theorem d_Exprs_solidOf_18 : decode b_Exprs_solidOf 18 = .ok (.invokevirtual 79, 3) := by decide +kernel
theorem d_Exprs_solidOf_21 : decode b_Exprs_solidOf 21 = .ok (.invokevirtual 238, 3) := by decide +kernel
theorem d_Exprs_solidOf_24 : decode b_Exprs_solidOf 24 = .ok (.ireturn, 1) := by decide +kernel
abbrev b_Exprs_checkParts : ByteArray := prog_3_method_23_code
abbrev y_Exprs_checkParts : MethodName := ⟨R_Exprs, "checkParts", "(IIII)V"⟩
theorem co_Exprs_checkParts : Cond.code y_Exprs_checkParts b_Exprs_checkParts 7 none ∈ lw_good := lg_in (tin_6 _ (List.mem_of_getElem? (i := 75) rfl)) rfl
abbrev w_Exprs_checkParts : List Cond := Cond.code y_Exprs_checkParts b_Exprs_checkParts 7 none :: lw_good
theorem im_Exprs_checkParts : Cond.instanceMethod y_Exprs_checkParts ∈ lw_good := lg_right (i := 1274) (by decide +kernel) rfl
theorem se_Exprs_checkParts : Cond.selects R_Exprs y_Exprs_checkParts y_Exprs_checkParts ∈ lw_good := lg_left (i := 53) (by decide +kernel) rfl
theorem d_Exprs_checkParts_0 : decode b_Exprs_checkParts 0 = .ok (.iload_n 2, 1) := by decide +kernel
theorem d_Exprs_checkParts_1 : decode b_Exprs_checkParts 1 = .ok (.istore 5, 2) := by decide +kernel
theorem d_Exprs_checkParts_3 : decode b_Exprs_checkParts 3 = .ok (.iconst 0, 1) := by decide +kernel
theorem d_Exprs_checkParts_4 : decode b_Exprs_checkParts 4 = .ok (.istore 6, 2) := by decide +kernel
theorem d_Exprs_checkParts_6 : decode b_Exprs_checkParts 6 = .ok (.iload 6, 2) := by decide +kernel
theorem d_Exprs_checkParts_8 : decode b_Exprs_checkParts 8 = .ok (.aload_n 0, 1) := by decide +kernel
theorem d_Exprs_checkParts_9 : decode b_Exprs_checkParts 9 = .ok (.getfield 15, 3) := by decide +kernel
theorem d_Exprs_checkParts_12 : decode b_Exprs_checkParts 12 = .ok (.getfield 257, 3) := by decide +kernel
theorem d_Exprs_checkParts_15 : decode b_Exprs_checkParts 15 = .ok (.iload_n 1, 1) := by decide +kernel
theorem d_Exprs_checkParts_16 : decode b_Exprs_checkParts 16 = .ok (.iaload, 1) := by decide +kernel
theorem d_Exprs_checkParts_17 : decode b_Exprs_checkParts 17 = .ok (.if_icmp .ge 55, 3) := by decide +kernel
theorem d_Exprs_checkParts_20 : decode b_Exprs_checkParts 20 = .ok (.iload 5, 2) := by decide +kernel
theorem d_Exprs_checkParts_22 : decode b_Exprs_checkParts 22 = .ok (.ifCond .eq 50, 3) := by decide +kernel
theorem d_Exprs_checkParts_25 : decode b_Exprs_checkParts 25 = .ok (.aload_n 0, 1) := by decide +kernel
theorem d_Exprs_checkParts_26 : decode b_Exprs_checkParts 26 = .ok (.iload 5, 2) := by decide +kernel
theorem d_Exprs_checkParts_28 : decode b_Exprs_checkParts 28 = .ok (.aload_n 0, 1) := by decide +kernel
theorem d_Exprs_checkParts_29 : decode b_Exprs_checkParts 29 = .ok (.getfield 29, 3) := by decide +kernel
theorem d_Exprs_checkParts_32 : decode b_Exprs_checkParts 32 = .ok (.aload_n 0, 1) := by decide +kernel
theorem d_Exprs_checkParts_33 : decode b_Exprs_checkParts 33 = .ok (.getfield 15, 3) := by decide +kernel
theorem d_Exprs_checkParts_36 : decode b_Exprs_checkParts 36 = .ok (.iload_n 1, 1) := by decide +kernel
theorem d_Exprs_checkParts_37 : decode b_Exprs_checkParts 37 = .ok (.iload 6, 2) := by decide +kernel
theorem d_Exprs_checkParts_39 : decode b_Exprs_checkParts 39 = .ok (.invokevirtual 164, 3) := by decide +kernel
theorem d_Exprs_checkParts_42 : decode b_Exprs_checkParts 42 = .ok (.iload_n 3, 1) := by decide +kernel
theorem d_Exprs_checkParts_43 : decode b_Exprs_checkParts 43 = .ok (.iconst 1, 1) := by decide +kernel
theorem d_Exprs_checkParts_44 : decode b_Exprs_checkParts 44 = .ok (.invokevirtual 172, 3) := by decide +kernel
theorem d_Exprs_checkParts_47 : decode b_Exprs_checkParts 47 = .ok (.iload 4, 2) := by decide +kernel
theorem d_Exprs_checkParts_49 : decode b_Exprs_checkParts 49 = .ok (.iconst 1, 1) := by decide +kernel
theorem d_Exprs_checkParts_50 : decode b_Exprs_checkParts 50 = .ok (.iadd, 1) := by decide +kernel
theorem d_Exprs_checkParts_51 : decode b_Exprs_checkParts 51 = .ok (.invokevirtual 275, 3) := by decide +kernel
theorem ml_Exprs_275 : Cond.methodLink R_Exprs 275 ⟨"PointerHouse$Exprs", "checkFits", "(III)V"⟩ ∈ lw_good := lg_right (i := 1293) (by decide +kernel) rfl
theorem d_Exprs_checkParts_54 : decode b_Exprs_checkParts 54 = .ok (.aload_n 0, 1) := by decide +kernel
theorem d_Exprs_checkParts_55 : decode b_Exprs_checkParts 55 = .ok (.getfield 9, 3) := by decide +kernel
theorem d_Exprs_checkParts_58 : decode b_Exprs_checkParts 58 = .ok (.getfield 278, 3) := by decide +kernel
theorem d_Exprs_checkParts_61 : decode b_Exprs_checkParts 61 = .ok (.iload 5, 2) := by decide +kernel
theorem d_Exprs_checkParts_63 : decode b_Exprs_checkParts 63 = .ok (.iaload, 1) := by decide +kernel
theorem d_Exprs_checkParts_64 : decode b_Exprs_checkParts 64 = .ok (.istore 5, 2) := by decide +kernel
theorem d_Exprs_checkParts_66 : decode b_Exprs_checkParts 66 = .ok (.iinc 6 1, 3) := by decide +kernel
theorem d_Exprs_checkParts_69 : decode b_Exprs_checkParts 69 = .ok (.goto (-63), 3) := by decide +kernel
theorem d_Exprs_checkParts_72 : decode b_Exprs_checkParts 72 = .ok (.return_, 1) := by decide +kernel
abbrev b_Exprs_checkWhere : ByteArray := prog_3_method_24_code
abbrev y_Exprs_checkWhere : MethodName := ⟨R_Exprs, "checkWhere", "(III)V"⟩
theorem co_Exprs_checkWhere : Cond.code y_Exprs_checkWhere b_Exprs_checkWhere 8 none ∈ lw_good := lg_in (tin_6 _ (List.mem_of_getElem? (i := 125) rfl)) rfl
abbrev w_Exprs_checkWhere : List Cond := Cond.code y_Exprs_checkWhere b_Exprs_checkWhere 8 none :: lw_good
theorem im_Exprs_checkWhere : Cond.instanceMethod y_Exprs_checkWhere ∈ lw_good := lg_right (i := 1324) (by decide +kernel) rfl
theorem se_Exprs_checkWhere : Cond.selects R_Exprs y_Exprs_checkWhere y_Exprs_checkWhere ∈ lw_good := lg_left (i := 55) (by decide +kernel) rfl
theorem d_Exprs_checkWhere_0 : decode b_Exprs_checkWhere 0 = .ok (.iconst 0, 1) := by decide +kernel
theorem d_Exprs_checkWhere_1 : decode b_Exprs_checkWhere 1 = .ok (.istore 4, 2) := by decide +kernel
theorem d_Exprs_checkWhere_3 : decode b_Exprs_checkWhere 3 = .ok (.iload 4, 2) := by decide +kernel
theorem d_Exprs_checkWhere_5 : decode b_Exprs_checkWhere 5 = .ok (.iconst 3, 1) := by decide +kernel
theorem d_Exprs_checkWhere_6 : decode b_Exprs_checkWhere 6 = .ok (.if_icmp .ge 85, 3) := by decide +kernel
theorem d_Exprs_checkWhere_9 : decode b_Exprs_checkWhere 9 = .ok (.aload_n 0, 1) := by decide +kernel
theorem d_Exprs_checkWhere_10 : decode b_Exprs_checkWhere 10 = .ok (.getfield 15, 3) := by decide +kernel
theorem d_Exprs_checkWhere_13 : decode b_Exprs_checkWhere 13 = .ok (.iload_n 1, 1) := by decide +kernel
theorem d_Exprs_checkWhere_14 : decode b_Exprs_checkWhere 14 = .ok (.iload 4, 2) := by decide +kernel
theorem d_Exprs_checkWhere_16 : decode b_Exprs_checkWhere 16 = .ok (.invokevirtual 281, 3) := by decide +kernel
theorem ml_Exprs_281 : Cond.methodLink R_Exprs 281 ⟨"PointerHouse$Items", "upperOf", "(II)I"⟩ ∈ lw_good := lg_right (i := 1326) (by decide +kernel) rfl
theorem d_Exprs_checkWhere_19 : decode b_Exprs_checkWhere 19 = .ok (.ifCond .eq 72, 3) := by decide +kernel
theorem d_Exprs_checkWhere_22 : decode b_Exprs_checkWhere 22 = .ok (.aload_n 0, 1) := by decide +kernel
theorem d_Exprs_checkWhere_23 : decode b_Exprs_checkWhere 23 = .ok (.getfield 15, 3) := by decide +kernel
theorem d_Exprs_checkWhere_26 : decode b_Exprs_checkWhere 26 = .ok (.iload_n 1, 1) := by decide +kernel
theorem d_Exprs_checkWhere_27 : decode b_Exprs_checkWhere 27 = .ok (.iload 4, 2) := by decide +kernel
theorem d_Exprs_checkWhere_29 : decode b_Exprs_checkWhere 29 = .ok (.invokevirtual 281, 3) := by decide +kernel
theorem d_Exprs_checkWhere_32 : decode b_Exprs_checkWhere 32 = .ok (.istore 5, 2) := by decide +kernel
theorem d_Exprs_checkWhere_34 : decode b_Exprs_checkWhere 34 = .ok (.aload_n 0, 1) := by decide +kernel
theorem d_Exprs_checkWhere_35 : decode b_Exprs_checkWhere 35 = .ok (.getfield 15, 3) := by decide +kernel
theorem d_Exprs_checkWhere_38 : decode b_Exprs_checkWhere 38 = .ok (.iload_n 1, 1) := by decide +kernel
theorem d_Exprs_checkWhere_39 : decode b_Exprs_checkWhere 39 = .ok (.iload 4, 2) := by decide +kernel
theorem d_Exprs_checkWhere_41 : decode b_Exprs_checkWhere 41 = .ok (.invokevirtual 284, 3) := by decide +kernel
theorem ml_Exprs_284 : Cond.methodLink R_Exprs 284 ⟨"PointerHouse$Items", "lowerOf", "(II)I"⟩ ∈ lw_good := lg_right (i := 1330) (by decide +kernel) rfl
theorem d_Exprs_checkWhere_44 : decode b_Exprs_checkWhere 44 = .ok (.istore 6, 2) := by decide +kernel
theorem d_Exprs_checkWhere_46 : decode b_Exprs_checkWhere 46 = .ok (.aload_n 0, 1) := by decide +kernel
theorem d_Exprs_checkWhere_47 : decode b_Exprs_checkWhere 47 = .ok (.getfield 34, 3) := by decide +kernel
theorem d_Exprs_checkWhere_50 : decode b_Exprs_checkWhere 50 = .ok (.iload 5, 2) := by decide +kernel
theorem d_Exprs_checkWhere_52 : decode b_Exprs_checkWhere 52 = .ok (.iload_n 2, 1) := by decide +kernel
theorem d_Exprs_checkWhere_53 : decode b_Exprs_checkWhere 53 = .ok (.invokestatic 266, 3) := by decide +kernel
theorem d_Exprs_checkWhere_56 : decode b_Exprs_checkWhere 56 = .ok (.iload 6, 2) := by decide +kernel
theorem d_Exprs_checkWhere_58 : decode b_Exprs_checkWhere 58 = .ok (.iload_n 2, 1) := by decide +kernel
theorem d_Exprs_checkWhere_59 : decode b_Exprs_checkWhere 59 = .ok (.invokestatic 266, 3) := by decide +kernel
theorem d_Exprs_checkWhere_62 : decode b_Exprs_checkWhere 62 = .ok (.invokevirtual 85, 3) := by decide +kernel
theorem d_Exprs_checkWhere_65 : decode b_Exprs_checkWhere 65 = .ok (.istore 7, 2) := by decide +kernel
theorem d_Exprs_checkWhere_67 : decode b_Exprs_checkWhere 67 = .ok (.aload_n 0, 1) := by decide +kernel
theorem d_Exprs_checkWhere_68 : decode b_Exprs_checkWhere 68 = .ok (.iload 7, 2) := by decide +kernel
theorem d_Exprs_checkWhere_70 : decode b_Exprs_checkWhere 70 = .ok (.iconst 5, 1) := by decide +kernel
theorem d_Exprs_checkWhere_71 : decode b_Exprs_checkWhere 71 = .ok (.aload_n 0, 1) := by decide +kernel
theorem d_Exprs_checkWhere_72 : decode b_Exprs_checkWhere 72 = .ok (.getfield 9, 3) := by decide +kernel
theorem d_Exprs_checkWhere_75 : decode b_Exprs_checkWhere 75 = .ok (.iload_n 3, 1) := by decide +kernel
theorem d_Exprs_checkWhere_76 : decode b_Exprs_checkWhere 76 = .ok (.iload 5, 2) := by decide +kernel
theorem d_Exprs_checkWhere_78 : decode b_Exprs_checkWhere 78 = .ok (.iadd, 1) := by decide +kernel
theorem d_Exprs_checkWhere_79 : decode b_Exprs_checkWhere 79 = .ok (.invokevirtual 157, 3) := by decide +kernel
theorem d_Exprs_checkWhere_82 : decode b_Exprs_checkWhere 82 = .ok (.invokevirtual 111, 3) := by decide +kernel
theorem d_Exprs_checkWhere_85 : decode b_Exprs_checkWhere 85 = .ok (.iinc 4 1, 3) := by decide +kernel
theorem d_Exprs_checkWhere_88 : decode b_Exprs_checkWhere 88 = .ok (.goto (-85), 3) := by decide +kernel
theorem d_Exprs_checkWhere_91 : decode b_Exprs_checkWhere 91 = .ok (.return_, 1) := by decide +kernel
abbrev b_Exprs_readLiveRegion : ByteArray := prog_3_method_25_code
abbrev y_Exprs_readLiveRegion : MethodName := ⟨R_Exprs, "readLiveRegion", "(I)I"⟩
theorem co_Exprs_readLiveRegion : Cond.code y_Exprs_readLiveRegion b_Exprs_readLiveRegion 3 (some .int) ∈ lw_good := lg_in (tin_6 _ (List.mem_of_getElem? (i := 141) rfl)) rfl
abbrev w_Exprs_readLiveRegion : List Cond := Cond.code y_Exprs_readLiveRegion b_Exprs_readLiveRegion 3 (some .int) :: lw_good
theorem im_Exprs_readLiveRegion : Cond.instanceMethod y_Exprs_readLiveRegion ∈ lw_good := lg_right (i := 1340) (by decide +kernel) rfl
theorem se_Exprs_readLiveRegion : Cond.selects R_Exprs y_Exprs_readLiveRegion y_Exprs_readLiveRegion ∈ lw_good := lg_left (i := 57) (by decide +kernel) rfl
theorem d_Exprs_readLiveRegion_0 : decode b_Exprs_readLiveRegion 0 = .ok (.aload_n 0, 1) := by decide +kernel
theorem d_Exprs_readLiveRegion_1 : decode b_Exprs_readLiveRegion 1 = .ok (.getfield 19, 3) := by decide +kernel
theorem d_Exprs_readLiveRegion_4 : decode b_Exprs_readLiveRegion 4 = .ok (.iload_n 1, 1) := by decide +kernel
theorem d_Exprs_readLiveRegion_5 : decode b_Exprs_readLiveRegion 5 = .ok (.invokevirtual 287, 3) := by decide +kernel
theorem ml_Exprs_287 : Cond.methodLink R_Exprs 287 ⟨"PointerHouse$Heads", "readRegion", "(I)I"⟩ ∈ lw_good := lg_right (i := 1342) (by decide +kernel) rfl
theorem d_Exprs_readLiveRegion_8 : decode b_Exprs_readLiveRegion 8 = .ok (.istore_n 2, 1) := by decide +kernel
theorem d_Exprs_readLiveRegion_9 : decode b_Exprs_readLiveRegion 9 = .ok (.aload_n 0, 1) := by decide +kernel
theorem d_Exprs_readLiveRegion_10 : decode b_Exprs_readLiveRegion 10 = .ok (.aload_n 0, 1) := by decide +kernel
theorem d_Exprs_readLiveRegion_11 : decode b_Exprs_readLiveRegion 11 = .ok (.getfield 34, 3) := by decide +kernel
theorem d_Exprs_readLiveRegion_14 : decode b_Exprs_readLiveRegion 14 = .ok (.iload_n 2, 1) := by decide +kernel
theorem d_Exprs_readLiveRegion_15 : decode b_Exprs_readLiveRegion 15 = .ok (.invokevirtual 115, 3) := by decide +kernel
theorem d_Exprs_readLiveRegion_18 : decode b_Exprs_readLiveRegion 18 = .ok (.iconst 5, 1) := by decide +kernel
theorem d_Exprs_readLiveRegion_19 : decode b_Exprs_readLiveRegion 19 = .ok (.aload_n 0, 1) := by decide +kernel
theorem d_Exprs_readLiveRegion_20 : decode b_Exprs_readLiveRegion 20 = .ok (.getfield 9, 3) := by decide +kernel
theorem d_Exprs_readLiveRegion_23 : decode b_Exprs_readLiveRegion 23 = .ok (.iload_n 1, 1) := by decide +kernel
theorem d_Exprs_readLiveRegion_24 : decode b_Exprs_readLiveRegion 24 = .ok (.invokevirtual 157, 3) := by decide +kernel
theorem d_Exprs_readLiveRegion_27 : decode b_Exprs_readLiveRegion 27 = .ok (.invokevirtual 111, 3) := by decide +kernel
theorem d_Exprs_readLiveRegion_30 : decode b_Exprs_readLiveRegion 30 = .ok (.iload_n 2, 1) := by decide +kernel
theorem d_Exprs_readLiveRegion_31 : decode b_Exprs_readLiveRegion 31 = .ok (.ireturn, 1) := by decide +kernel
abbrev b_Exprs_makeStruct : ByteArray := prog_3_method_28_code
abbrev y_Exprs_makeStruct : MethodName := ⟨R_Exprs, "makeStruct", "(IIII)V"⟩
theorem co_Exprs_makeStruct : Cond.code y_Exprs_makeStruct b_Exprs_makeStruct 6 none ∈ lw_good := lg_in (tin_6 _ (List.mem_of_getElem? (i := 166) rfl)) rfl
abbrev w_Exprs_makeStruct : List Cond := Cond.code y_Exprs_makeStruct b_Exprs_makeStruct 6 none :: lw_good
theorem im_Exprs_makeStruct : Cond.instanceMethod y_Exprs_makeStruct ∈ lw_good := lg_right (i := 1365) (by decide +kernel) rfl
theorem se_Exprs_makeStruct : Cond.selects R_Exprs y_Exprs_makeStruct y_Exprs_makeStruct ∈ lw_good := lg_left (i := 59) (by decide +kernel) rfl
theorem d_Exprs_makeStruct_0 : decode b_Exprs_makeStruct 0 = .ok (.aload_n 0, 1) := by decide +kernel
theorem d_Exprs_makeStruct_1 : decode b_Exprs_makeStruct 1 = .ok (.getfield 29, 3) := by decide +kernel
theorem d_Exprs_makeStruct_4 : decode b_Exprs_makeStruct 4 = .ok (.iload_n 2, 1) := by decide +kernel
theorem d_Exprs_makeStruct_5 : decode b_Exprs_makeStruct 5 = .ok (.invokevirtual 143, 3) := by decide +kernel
theorem d_Exprs_makeStruct_8 : decode b_Exprs_makeStruct 8 = .ok (.istore 5, 2) := by decide +kernel
theorem d_Exprs_makeStruct_10 : decode b_Exprs_makeStruct 10 = .ok (.aload_n 0, 1) := by decide +kernel
theorem d_Exprs_makeStruct_11 : decode b_Exprs_makeStruct 11 = .ok (.getfield 9, 3) := by decide +kernel
theorem d_Exprs_makeStruct_14 : decode b_Exprs_makeStruct 14 = .ok (.aload_n 0, 1) := by decide +kernel
theorem d_Exprs_makeStruct_15 : decode b_Exprs_makeStruct 15 = .ok (.getfield 9, 3) := by decide +kernel
theorem d_Exprs_makeStruct_18 : decode b_Exprs_makeStruct 18 = .ok (.getfield 188, 3) := by decide +kernel
theorem d_Exprs_makeStruct_21 : decode b_Exprs_makeStruct 21 = .ok (.iload_n 1, 1) := by decide +kernel
theorem d_Exprs_makeStruct_22 : decode b_Exprs_makeStruct 22 = .ok (.iaload, 1) := by decide +kernel
theorem d_Exprs_makeStruct_23 : decode b_Exprs_makeStruct 23 = .ok (.invokevirtual 254, 3) := by decide +kernel
theorem d_Exprs_makeStruct_26 : decode b_Exprs_makeStruct 26 = .ok (.aload_n 0, 1) := by decide +kernel
theorem d_Exprs_makeStruct_27 : decode b_Exprs_makeStruct 27 = .ok (.getfield 15, 3) := by decide +kernel
theorem d_Exprs_makeStruct_30 : decode b_Exprs_makeStruct 30 = .ok (.getfield 257, 3) := by decide +kernel
theorem d_Exprs_makeStruct_33 : decode b_Exprs_makeStruct 33 = .ok (.iload 5, 2) := by decide +kernel
theorem d_Exprs_makeStruct_35 : decode b_Exprs_makeStruct 35 = .ok (.iaload, 1) := by decide +kernel
theorem d_Exprs_makeStruct_36 : decode b_Exprs_makeStruct 36 = .ok (.if_icmp .eq 21, 3) := by decide +kernel
theorem d_Exprs_makeStruct_39 : decode b_Exprs_makeStruct 39 = .ok (.aload_n 0, 1) := by decide +kernel
theorem d_Exprs_makeStruct_40 : decode b_Exprs_makeStruct 40 = .ok (.getfield 35, 3) := by decide +kernel
theorem d_Exprs_makeStruct_43 : decode b_Exprs_makeStruct 43 = .ok (.bipush 7, 2) := by decide +kernel
theorem d_Exprs_makeStruct_45 : decode b_Exprs_makeStruct 45 = .ok (.aload_n 0, 1) := by decide +kernel
theorem d_Exprs_makeStruct_46 : decode b_Exprs_makeStruct 46 = .ok (.getfield 9, 3) := by decide +kernel
theorem d_Exprs_makeStruct_49 : decode b_Exprs_makeStruct 49 = .ok (.iload_n 3, 1) := by decide +kernel
theorem d_Exprs_makeStruct_50 : decode b_Exprs_makeStruct 50 = .ok (.invokevirtual 157, 3) := by decide +kernel
theorem d_Exprs_makeStruct_53 : decode b_Exprs_makeStruct 53 = .ok (.invokevirtual 68, 3) := by decide +kernel
theorem d_Exprs_makeStruct_56 : decode b_Exprs_makeStruct 56 = .ok (.return_, 1) := by decide +kernel
theorem d_Exprs_makeStruct_57 : decode b_Exprs_makeStruct 57 = .ok (.aload_n 0, 1) := by decide +kernel
theorem d_Exprs_makeStruct_58 : decode b_Exprs_makeStruct 58 = .ok (.iload 5, 2) := by decide +kernel
theorem d_Exprs_makeStruct_60 : decode b_Exprs_makeStruct 60 = .ok (.aload_n 0, 1) := by decide +kernel
theorem d_Exprs_makeStruct_61 : decode b_Exprs_makeStruct 61 = .ok (.getfield 9, 3) := by decide +kernel
theorem d_Exprs_makeStruct_64 : decode b_Exprs_makeStruct 64 = .ok (.getfield 188, 3) := by decide +kernel
theorem d_Exprs_makeStruct_67 : decode b_Exprs_makeStruct 67 = .ok (.iload_n 1, 1) := by decide +kernel
theorem d_Exprs_makeStruct_68 : decode b_Exprs_makeStruct 68 = .ok (.iaload, 1) := by decide +kernel
theorem d_Exprs_makeStruct_69 : decode b_Exprs_makeStruct 69 = .ok (.aload_n 0, 1) := by decide +kernel
theorem d_Exprs_makeStruct_70 : decode b_Exprs_makeStruct 70 = .ok (.getfield 29, 3) := by decide +kernel
theorem d_Exprs_makeStruct_73 : decode b_Exprs_makeStruct 73 = .ok (.iload_n 2, 1) := by decide +kernel
theorem d_Exprs_makeStruct_74 : decode b_Exprs_makeStruct 74 = .ok (.invokevirtual 169, 3) := by decide +kernel
theorem d_Exprs_makeStruct_77 : decode b_Exprs_makeStruct 77 = .ok (.iload 4, 2) := by decide +kernel
theorem d_Exprs_makeStruct_79 : decode b_Exprs_makeStruct 79 = .ok (.invokevirtual 260, 3) := by decide +kernel
theorem d_Exprs_makeStruct_82 : decode b_Exprs_makeStruct 82 = .ok (.aload_n 0, 1) := by decide +kernel
theorem d_Exprs_makeStruct_83 : decode b_Exprs_makeStruct 83 = .ok (.getfield 35, 3) := by decide +kernel
theorem d_Exprs_makeStruct_86 : decode b_Exprs_makeStruct 86 = .ok (.bipush 40, 2) := by decide +kernel
theorem d_Exprs_makeStruct_88 : decode b_Exprs_makeStruct 88 = .ok (.aload_n 0, 1) := by decide +kernel
theorem d_Exprs_makeStruct_89 : decode b_Exprs_makeStruct 89 = .ok (.getfield 29, 3) := by decide +kernel
theorem d_Exprs_makeStruct_92 : decode b_Exprs_makeStruct 92 = .ok (.iload_n 2, 1) := by decide +kernel
theorem d_Exprs_makeStruct_93 : decode b_Exprs_makeStruct 93 = .ok (.invokevirtual 82, 3) := by decide +kernel
theorem d_Exprs_makeStruct_96 : decode b_Exprs_makeStruct 96 = .ok (.aload_n 0, 1) := by decide +kernel
theorem d_Exprs_makeStruct_97 : decode b_Exprs_makeStruct 97 = .ok (.getfield 15, 3) := by decide +kernel
theorem d_Exprs_makeStruct_100 : decode b_Exprs_makeStruct 100 = .ok (.getfield 305, 3) := by decide +kernel
theorem fl_Exprs_305 : Cond.fieldLink R_Exprs 305 "PointerHouse$Items" "words" "[I" ∈ lw_good := lg_right (i := 326) (by decide +kernel) rfl
theorem d_Exprs_makeStruct_103 : decode b_Exprs_makeStruct 103 = .ok (.iload 5, 2) := by decide +kernel
theorem d_Exprs_makeStruct_105 : decode b_Exprs_makeStruct 105 = .ok (.iaload, 1) := by decide +kernel
theorem d_Exprs_makeStruct_106 : decode b_Exprs_makeStruct 106 = .ok (.invokevirtual 94, 3) := by decide +kernel
theorem d_Exprs_makeStruct_109 : decode b_Exprs_makeStruct 109 = .ok (.pop, 1) := by decide +kernel
theorem d_Exprs_makeStruct_110 : decode b_Exprs_makeStruct 110 = .ok (.return_, 1) := by decide +kernel
abbrev b_Exprs_makeUnion : ByteArray := prog_3_method_27_code
abbrev y_Exprs_makeUnion : MethodName := ⟨R_Exprs, "makeUnion", "(IIII)V"⟩
theorem co_Exprs_makeUnion : Cond.code y_Exprs_makeUnion b_Exprs_makeUnion 8 none ∈ lw_good := lg_in (tin_6 _ (List.mem_of_getElem? (i := 157) rfl)) rfl
abbrev w_Exprs_makeUnion : List Cond := Cond.code y_Exprs_makeUnion b_Exprs_makeUnion 8 none :: lw_good
theorem im_Exprs_makeUnion : Cond.instanceMethod y_Exprs_makeUnion ∈ lw_good := lg_right (i := 1356) (by decide +kernel) rfl
theorem se_Exprs_makeUnion : Cond.selects R_Exprs y_Exprs_makeUnion y_Exprs_makeUnion ∈ lw_good := lg_left (i := 58) (by decide +kernel) rfl
theorem d_Exprs_makeUnion_0 : decode b_Exprs_makeUnion 0 = .ok (.aload_n 0, 1) := by decide +kernel
theorem d_Exprs_makeUnion_1 : decode b_Exprs_makeUnion 1 = .ok (.getfield 29, 3) := by decide +kernel
theorem d_Exprs_makeUnion_4 : decode b_Exprs_makeUnion 4 = .ok (.iload_n 2, 1) := by decide +kernel
theorem d_Exprs_makeUnion_5 : decode b_Exprs_makeUnion 5 = .ok (.invokevirtual 143, 3) := by decide +kernel
theorem d_Exprs_makeUnion_8 : decode b_Exprs_makeUnion 8 = .ok (.istore 5, 2) := by decide +kernel
theorem d_Exprs_makeUnion_10 : decode b_Exprs_makeUnion 10 = .ok (.aload_n 0, 1) := by decide +kernel
theorem d_Exprs_makeUnion_11 : decode b_Exprs_makeUnion 11 = .ok (.getfield 19, 3) := by decide +kernel
theorem d_Exprs_makeUnion_14 : decode b_Exprs_makeUnion 14 = .ok (.iload 5, 2) := by decide +kernel
theorem d_Exprs_makeUnion_16 : decode b_Exprs_makeUnion 16 = .ok (.aload_n 0, 1) := by decide +kernel
theorem d_Exprs_makeUnion_17 : decode b_Exprs_makeUnion 17 = .ok (.getfield 9, 3) := by decide +kernel
theorem d_Exprs_makeUnion_20 : decode b_Exprs_makeUnion 20 = .ok (.iload_n 3, 1) := by decide +kernel
theorem d_Exprs_makeUnion_21 : decode b_Exprs_makeUnion 21 = .ok (.invokevirtual 149, 3) := by decide +kernel
theorem d_Exprs_makeUnion_24 : decode b_Exprs_makeUnion 24 = .ok (.invokevirtual 153, 3) := by decide +kernel
theorem d_Exprs_makeUnion_27 : decode b_Exprs_makeUnion 27 = .ok (.istore 6, 2) := by decide +kernel
theorem d_Exprs_makeUnion_29 : decode b_Exprs_makeUnion 29 = .ok (.iload 6, 2) := by decide +kernel
theorem d_Exprs_makeUnion_31 : decode b_Exprs_makeUnion 31 = .ok (.iconst (-1), 1) := by decide +kernel
theorem d_Exprs_makeUnion_32 : decode b_Exprs_makeUnion 32 = .ok (.if_icmp .ne 20, 3) := by decide +kernel
theorem d_Exprs_makeUnion_35 : decode b_Exprs_makeUnion 35 = .ok (.aload_n 0, 1) := by decide +kernel
theorem d_Exprs_makeUnion_36 : decode b_Exprs_makeUnion 36 = .ok (.getfield 35, 3) := by decide +kernel
theorem d_Exprs_makeUnion_39 : decode b_Exprs_makeUnion 39 = .ok (.iconst 3, 1) := by decide +kernel
theorem d_Exprs_makeUnion_40 : decode b_Exprs_makeUnion 40 = .ok (.aload_n 0, 1) := by decide +kernel
theorem d_Exprs_makeUnion_41 : decode b_Exprs_makeUnion 41 = .ok (.getfield 9, 3) := by decide +kernel
theorem d_Exprs_makeUnion_44 : decode b_Exprs_makeUnion 44 = .ok (.iload_n 3, 1) := by decide +kernel
theorem d_Exprs_makeUnion_45 : decode b_Exprs_makeUnion 45 = .ok (.invokevirtual 157, 3) := by decide +kernel
theorem d_Exprs_makeUnion_48 : decode b_Exprs_makeUnion 48 = .ok (.invokevirtual 68, 3) := by decide +kernel
theorem d_Exprs_makeUnion_51 : decode b_Exprs_makeUnion 51 = .ok (.return_, 1) := by decide +kernel
theorem d_Exprs_makeUnion_52 : decode b_Exprs_makeUnion 52 = .ok (.aload_n 0, 1) := by decide +kernel
theorem d_Exprs_makeUnion_53 : decode b_Exprs_makeUnion 53 = .ok (.getfield 29, 3) := by decide +kernel
theorem d_Exprs_makeUnion_56 : decode b_Exprs_makeUnion 56 = .ok (.aload_n 0, 1) := by decide +kernel
theorem d_Exprs_makeUnion_57 : decode b_Exprs_makeUnion 57 = .ok (.getfield 15, 3) := by decide +kernel
theorem d_Exprs_makeUnion_60 : decode b_Exprs_makeUnion 60 = .ok (.iload 5, 2) := by decide +kernel
theorem d_Exprs_makeUnion_62 : decode b_Exprs_makeUnion 62 = .ok (.iload 6, 2) := by decide +kernel
theorem d_Exprs_makeUnion_64 : decode b_Exprs_makeUnion 64 = .ok (.invokevirtual 164, 3) := by decide +kernel
theorem d_Exprs_makeUnion_67 : decode b_Exprs_makeUnion 67 = .ok (.aload_n 0, 1) := by decide +kernel
theorem d_Exprs_makeUnion_68 : decode b_Exprs_makeUnion 68 = .ok (.getfield 29, 3) := by decide +kernel
theorem d_Exprs_makeUnion_71 : decode b_Exprs_makeUnion 71 = .ok (.iload_n 2, 1) := by decide +kernel
theorem d_Exprs_makeUnion_72 : decode b_Exprs_makeUnion 72 = .ok (.invokevirtual 169, 3) := by decide +kernel
theorem d_Exprs_makeUnion_75 : decode b_Exprs_makeUnion 75 = .ok (.iconst 1, 1) := by decide +kernel
theorem d_Exprs_makeUnion_76 : decode b_Exprs_makeUnion 76 = .ok (.invokevirtual 172, 3) := by decide +kernel
theorem d_Exprs_makeUnion_79 : decode b_Exprs_makeUnion 79 = .ok (.istore 7, 2) := by decide +kernel
theorem d_Exprs_makeUnion_81 : decode b_Exprs_makeUnion 81 = .ok (.aload_n 0, 1) := by decide +kernel
theorem d_Exprs_makeUnion_82 : decode b_Exprs_makeUnion 82 = .ok (.aload_n 0, 1) := by decide +kernel
theorem d_Exprs_makeUnion_83 : decode b_Exprs_makeUnion 83 = .ok (.getfield 9, 3) := by decide +kernel
theorem d_Exprs_makeUnion_86 : decode b_Exprs_makeUnion 86 = .ok (.getfield 188, 3) := by decide +kernel
theorem d_Exprs_makeUnion_89 : decode b_Exprs_makeUnion 89 = .ok (.iload_n 1, 1) := by decide +kernel
theorem d_Exprs_makeUnion_90 : decode b_Exprs_makeUnion 90 = .ok (.iaload, 1) := by decide +kernel
theorem d_Exprs_makeUnion_91 : decode b_Exprs_makeUnion 91 = .ok (.iload 7, 2) := by decide +kernel
theorem d_Exprs_makeUnion_93 : decode b_Exprs_makeUnion 93 = .ok (.iload 4, 2) := by decide +kernel
theorem d_Exprs_makeUnion_95 : decode b_Exprs_makeUnion 95 = .ok (.iconst 1, 1) := by decide +kernel
theorem d_Exprs_makeUnion_96 : decode b_Exprs_makeUnion 96 = .ok (.iadd, 1) := by decide +kernel
theorem d_Exprs_makeUnion_97 : decode b_Exprs_makeUnion 97 = .ok (.invokevirtual 275, 3) := by decide +kernel
theorem d_Exprs_makeUnion_100 : decode b_Exprs_makeUnion 100 = .ok (.aload_n 0, 1) := by decide +kernel
theorem d_Exprs_makeUnion_101 : decode b_Exprs_makeUnion 101 = .ok (.getfield 35, 3) := by decide +kernel
theorem d_Exprs_makeUnion_104 : decode b_Exprs_makeUnion 104 = .ok (.bipush 41, 2) := by decide +kernel
theorem d_Exprs_makeUnion_106 : decode b_Exprs_makeUnion 106 = .ok (.aload_n 0, 1) := by decide +kernel
theorem d_Exprs_makeUnion_107 : decode b_Exprs_makeUnion 107 = .ok (.getfield 29, 3) := by decide +kernel
theorem d_Exprs_makeUnion_110 : decode b_Exprs_makeUnion 110 = .ok (.iload_n 2, 1) := by decide +kernel
theorem d_Exprs_makeUnion_111 : decode b_Exprs_makeUnion 111 = .ok (.invokevirtual 82, 3) := by decide +kernel
theorem d_Exprs_makeUnion_114 : decode b_Exprs_makeUnion 114 = .ok (.iload 6, 2) := by decide +kernel
theorem d_Exprs_makeUnion_116 : decode b_Exprs_makeUnion 116 = .ok (.iconst 1, 1) := by decide +kernel
theorem d_Exprs_makeUnion_117 : decode b_Exprs_makeUnion 117 = .ok (.iadd, 1) := by decide +kernel
theorem d_Exprs_makeUnion_118 : decode b_Exprs_makeUnion 118 = .ok (.iconst 4, 1) := by decide +kernel
theorem d_Exprs_makeUnion_119 : decode b_Exprs_makeUnion 119 = .ok (.ishl, 1) := by decide +kernel
theorem d_Exprs_makeUnion_120 : decode b_Exprs_makeUnion 120 = .ok (.ior, 1) := by decide +kernel
theorem d_Exprs_makeUnion_121 : decode b_Exprs_makeUnion 121 = .ok (.aload_n 0, 1) := by decide +kernel
theorem d_Exprs_makeUnion_122 : decode b_Exprs_makeUnion 122 = .ok (.getfield 29, 3) := by decide +kernel
theorem d_Exprs_makeUnion_125 : decode b_Exprs_makeUnion 125 = .ok (.iload 7, 2) := by decide +kernel
theorem d_Exprs_makeUnion_127 : decode b_Exprs_makeUnion 127 = .ok (.invokevirtual 179, 3) := by decide +kernel
theorem d_Exprs_makeUnion_130 : decode b_Exprs_makeUnion 130 = .ok (.aload_n 0, 1) := by decide +kernel
theorem d_Exprs_makeUnion_131 : decode b_Exprs_makeUnion 131 = .ok (.getfield 15, 3) := by decide +kernel
theorem d_Exprs_makeUnion_134 : decode b_Exprs_makeUnion 134 = .ok (.getfield 305, 3) := by decide +kernel
theorem d_Exprs_makeUnion_137 : decode b_Exprs_makeUnion 137 = .ok (.iload 5, 2) := by decide +kernel
theorem d_Exprs_makeUnion_139 : decode b_Exprs_makeUnion 139 = .ok (.iaload, 1) := by decide +kernel
theorem d_Exprs_makeUnion_140 : decode b_Exprs_makeUnion 140 = .ok (.bipush 8, 2) := by decide +kernel
theorem d_Exprs_makeUnion_142 : decode b_Exprs_makeUnion 142 = .ok (.ishl, 1) := by decide +kernel
theorem d_Exprs_makeUnion_143 : decode b_Exprs_makeUnion 143 = .ok (.ior, 1) := by decide +kernel
theorem d_Exprs_makeUnion_144 : decode b_Exprs_makeUnion 144 = .ok (.invokevirtual 94, 3) := by decide +kernel
theorem d_Exprs_makeUnion_147 : decode b_Exprs_makeUnion 147 = .ok (.pop, 1) := by decide +kernel
theorem d_Exprs_makeUnion_148 : decode b_Exprs_makeUnion 148 = .ok (.return_, 1) := by decide +kernel
abbrev b_Exprs_checkValue : ByteArray := prog_3_method_31_code
abbrev y_Exprs_checkValue : MethodName := ⟨R_Exprs, "checkValue", "(II)I"⟩
theorem co_Exprs_checkValue : Cond.code y_Exprs_checkValue b_Exprs_checkValue 4 (some .int) ∈ lw_good := lg_in (tin_6 _ (List.mem_of_getElem? (i := 174) rfl)) rfl
abbrev w_Exprs_checkValue : List Cond := Cond.code y_Exprs_checkValue b_Exprs_checkValue 4 (some .int) :: lw_good
theorem im_Exprs_checkValue : Cond.instanceMethod y_Exprs_checkValue ∈ lw_good := lg_right (i := 1373) (by decide +kernel) rfl
theorem se_Exprs_checkValue : Cond.selects R_Exprs y_Exprs_checkValue y_Exprs_checkValue ∈ lw_good := lg_left (i := 61) (by decide +kernel) rfl
theorem d_Exprs_checkValue_0 : decode b_Exprs_checkValue 0 = .ok (.aload_n 0, 1) := by decide +kernel
theorem d_Exprs_checkValue_1 : decode b_Exprs_checkValue 1 = .ok (.iload_n 1, 1) := by decide +kernel
theorem d_Exprs_checkValue_2 : decode b_Exprs_checkValue 2 = .ok (.iload_n 2, 1) := by decide +kernel
theorem d_Exprs_checkValue_3 : decode b_Exprs_checkValue 3 = .ok (.invokevirtual 53, 3) := by decide +kernel
theorem d_Exprs_checkValue_6 : decode b_Exprs_checkValue 6 = .ok (.istore_n 3, 1) := by decide +kernel
theorem d_Exprs_checkValue_7 : decode b_Exprs_checkValue 7 = .ok (.iload_n 3, 1) := by decide +kernel
theorem d_Exprs_checkValue_8 : decode b_Exprs_checkValue 8 = .ok (.ifCond .eq 8, 3) := by decide +kernel
theorem d_Exprs_checkValue_11 : decode b_Exprs_checkValue 11 = .ok (.iload_n 3, 1) := by decide +kernel
theorem d_Exprs_checkValue_12 : decode b_Exprs_checkValue 12 = .ok (.iconst 2, 1) := by decide +kernel
theorem d_Exprs_checkValue_13 : decode b_Exprs_checkValue 13 = .ok (.if_icmp .ne 21, 3) := by decide +kernel
theorem d_Exprs_checkValue_16 : decode b_Exprs_checkValue 16 = .ok (.aload_n 0, 1) := by decide +kernel
theorem d_Exprs_checkValue_17 : decode b_Exprs_checkValue 17 = .ok (.getfield 35, 3) := by decide +kernel
theorem d_Exprs_checkValue_20 : decode b_Exprs_checkValue 20 = .ok (.iconst 4, 1) := by decide +kernel
theorem d_Exprs_checkValue_21 : decode b_Exprs_checkValue 21 = .ok (.aload_n 0, 1) := by decide +kernel
theorem d_Exprs_checkValue_22 : decode b_Exprs_checkValue 22 = .ok (.getfield 9, 3) := by decide +kernel
theorem d_Exprs_checkValue_25 : decode b_Exprs_checkValue 25 = .ok (.iload_n 1, 1) := by decide +kernel
theorem d_Exprs_checkValue_26 : decode b_Exprs_checkValue 26 = .ok (.invokevirtual 64, 3) := by decide +kernel
theorem d_Exprs_checkValue_29 : decode b_Exprs_checkValue 29 = .ok (.invokevirtual 68, 3) := by decide +kernel
theorem d_Exprs_checkValue_32 : decode b_Exprs_checkValue 32 = .ok (.iconst 1, 1) := by decide +kernel
theorem d_Exprs_checkValue_33 : decode b_Exprs_checkValue 33 = .ok (.ireturn, 1) := by decide +kernel
theorem d_Exprs_checkValue_34 : decode b_Exprs_checkValue 34 = .ok (.iload_n 3, 1) := by decide +kernel
theorem d_Exprs_checkValue_35 : decode b_Exprs_checkValue 35 = .ok (.ireturn, 1) := by decide +kernel
section GV
variable {p : Program} {l : Launch} {e : Env} {R : Room} {s : State} {m : MethodId} {args : Array Value} {below : List Frame} {meth : Method} {c : Code} {H : Heap} {locs : List Loc} {cells slots : Nat} {Q : State → Prop}
variable {cc : ByteArray} {pc : Nat} {ls : Array Slot} {rest st0 : List Value} {dC : Nat → ClassId} {dI : Nat → Nat → Nat} {A : Nat → Prop} {ad ea ev : Nat → Nat} {km : Nat → ClassId} {T T' : gSt} {H0 : Heap}
theorem rd_Exprs_191 (hx : p.tables.exec = Jvm.exec) (hb : c.code = cc) (hT : ∀ w ∈ lw_good, w.before args s = true) (hown : s.vm.findClass R_Exprs = some m.cls) (hK : va_K (dC, dI) cls_all (gT LH km) s) (hP : va_P (dC, dI) cls_all (gW LH ad km T) H) (hdg : decode cc pc = .ok (.getfield 191, 3)) (kk : W p l e R s m args below meth c H locs cells slots Q (F0 m (pc + 3) ls (.int (T.1 76 0) :: rest))) : W p l e R s m args below meth c H locs cells slots Q (F0 m pc ls (.ref (ad 6) :: rest)) := gw_get hx hb hT i_Scope hown hK hP 6 12 76 (Nat.le_of_ble_eq_true rfl) rfl rfl (Nat.le_of_ble_eq_true rfl) rfl (gv_i rfl) (hT _ fl_Exprs_191) (fun _ h9 => h9) hdg kk
theorem rd_Exprs_241 (hx : p.tables.exec = Jvm.exec) (hb : c.code = cc) (hT : ∀ w ∈ lw_good, w.before args s = true) (hown : s.vm.findClass R_Exprs = some m.cls) (hK : va_K (dC, dI) cls_all (gT LH km) s) (hP : va_P (dC, dI) cls_all (gW LH ad km T) H) (hdg : decode cc pc = .ok (.getfield 241, 3)) (kk : W p l e R s m args below meth c H locs cells slots Q (F0 m (pc + 3) ls (.ref (ad 18) :: rest))) : W p l e R s m args below meth c H locs cells slots Q (F0 m pc ls (.ref (ad 1) :: rest)) := gw_get hx hb hT i_Source hown hK hP 1 5 16 (Nat.le_of_ble_eq_true rfl) rfl rfl (Nat.le_of_ble_eq_true rfl) rfl (gv_a rfl) (hT _ fl_Exprs_241) (fun _ h9 => h9) hdg kk
theorem rd_Exprs_248 (hx : p.tables.exec = Jvm.exec) (hb : c.code = cc) (hT : ∀ w ∈ lw_good, w.before args s = true) (hown : s.vm.findClass R_Exprs = some m.cls) (hK : va_K (dC, dI) cls_all (gT LH km) s) (hP : va_P (dC, dI) cls_all (gW LH ad km T) H) (hdg : decode cc pc = .ok (.getfield 248, 3)) (kk : W p l e R s m args below meth c H locs cells slots Q (F0 m (pc + 3) ls (.ref (ad 28) :: rest))) : W p l e R s m args below meth c H locs cells slots Q (F0 m pc ls (.ref (ad 2) :: rest)) := gw_get hx hb hT i_Items hown hK hP 2 4 31 (Nat.le_of_ble_eq_true rfl) rfl rfl (Nat.le_of_ble_eq_true rfl) rfl (gv_a rfl) (hT _ fl_Exprs_248) (fun _ h9 => h9) hdg kk
theorem rd_Exprs_257 (hx : p.tables.exec = Jvm.exec) (hb : c.code = cc) (hT : ∀ w ∈ lw_good, w.before args s = true) (hown : s.vm.findClass R_Exprs = some m.cls) (hK : va_K (dC, dI) cls_all (gT LH km) s) (hP : va_P (dC, dI) cls_all (gW LH ad km T) H) (hdg : decode cc pc = .ok (.getfield 257, 3)) (kk : W p l e R s m args below meth c H locs cells slots Q (F0 m (pc + 3) ls (.ref (ad 29) :: rest))) : W p l e R s m args below meth c H locs cells slots Q (F0 m pc ls (.ref (ad 2) :: rest)) := gw_get hx hb hT i_Items hown hK hP 2 5 32 (Nat.le_of_ble_eq_true rfl) rfl rfl (Nat.le_of_ble_eq_true rfl) rfl (gv_a rfl) (hT _ fl_Exprs_257) (fun _ h9 => h9) hdg kk
theorem rd_Exprs_272 (hx : p.tables.exec = Jvm.exec) (hb : c.code = cc) (hT : ∀ w ∈ lw_good, w.before args s = true) (hown : s.vm.findClass R_Exprs = some m.cls) (hK : va_K (dC, dI) cls_all (gT LH km) s) (hP : va_P (dC, dI) cls_all (gW LH ad km T) H) (hdg : decode cc pc = .ok (.getfield 272, 3)) (kk : W p l e R s m args below meth c H locs cells slots Q (F0 m (pc + 3) ls (.ref (ad 35) :: rest))) : W p l e R s m args below meth c H locs cells slots Q (F0 m pc ls (.ref (ad 2) :: rest)) := gw_get hx hb hT i_Items hown hK hP 2 11 38 (Nat.le_of_ble_eq_true rfl) rfl rfl (Nat.le_of_ble_eq_true rfl) rfl (gv_a rfl) (hT _ fl_Exprs_272) (fun _ h9 => h9) hdg kk
theorem rd_Exprs_263 (hx : p.tables.exec = Jvm.exec) (hb : c.code = cc) (hT : ∀ w ∈ lw_good, w.before args s = true) (hown : s.vm.findClass R_Exprs = some m.cls) (hK : va_K (dC, dI) cls_all (gT LH km) s) (hP : va_P (dC, dI) cls_all (gW LH ad km T) H) (hdg : decode cc pc = .ok (.getfield 263, 3)) (kk : W p l e R s m args below meth c H locs cells slots Q (F0 m (pc + 3) ls (.ref (ad 36) :: rest))) : W p l e R s m args below meth c H locs cells slots Q (F0 m pc ls (.ref (ad 2) :: rest)) := gw_get hx hb hT i_Items hown hK hP 2 12 39 (Nat.le_of_ble_eq_true rfl) rfl rfl (Nat.le_of_ble_eq_true rfl) rfl (gv_a rfl) (hT _ fl_Exprs_263) (fun _ h9 => h9) hdg kk
theorem rd_Exprs_278 (hx : p.tables.exec = Jvm.exec) (hb : c.code = cc) (hT : ∀ w ∈ lw_good, w.before args s = true) (hown : s.vm.findClass R_Exprs = some m.cls) (hK : va_K (dC, dI) cls_all (gT LH km) s) (hP : va_P (dC, dI) cls_all (gW LH ad km T) H) (hdg : decode cc pc = .ok (.getfield 278, 3)) (kk : W p l e R s m args below meth c H locs cells slots Q (F0 m (pc + 3) ls (.ref (ad 16) :: rest))) : W p l e R s m args below meth c H locs cells slots Q (F0 m pc ls (.ref (ad 1) :: rest)) := gw_get hx hb hT i_Source hown hK hP 1 3 14 (Nat.le_of_ble_eq_true rfl) rfl rfl (Nat.le_of_ble_eq_true rfl) rfl (gv_a rfl) (hT _ fl_Exprs_278) (fun _ h9 => h9) hdg kk
theorem rd_Exprs_305 (hx : p.tables.exec = Jvm.exec) (hb : c.code = cc) (hT : ∀ w ∈ lw_good, w.before args s = true) (hown : s.vm.findClass R_Exprs = some m.cls) (hK : va_K (dC, dI) cls_all (gT LH km) s) (hP : va_P (dC, dI) cls_all (gW LH ad km T) H) (hdg : decode cc pc = .ok (.getfield 305, 3)) (kk : W p l e R s m args below meth c H locs cells slots Q (F0 m (pc + 3) ls (.ref (ad 38) :: rest))) : W p l e R s m args below meth c H locs cells slots Q (F0 m pc ls (.ref (ad 2) :: rest)) := gw_get hx hb hT i_Items hown hK hP 2 14 41 (Nat.le_of_ble_eq_true rfl) rfl rfl (Nat.le_of_ble_eq_true rfl) rfl (gv_a rfl) (hT _ fl_Exprs_305) (fun _ h9 => h9) hdg kk
end GV
def mt_Exprs_checkName (l : Launch) (dC : Nat → ClassId) (dI : Nat → Nat → Nat) (ea ev ad : Nat → Nat) (km : Nat → ClassId) (F : gF) (d : Nat) : Prop := ∀ (T : gSt) (p1 : Int32) (r : Int32) (rl : Int64) (T' : gSt), F 157 T [p1] [] = some (r, rl, T') → GMi l dC dI LH ad km ea ev y_Exprs_checkName w_Exprs_checkName (rmD d) [.ref (ad 8), .int p1] T r T'
theorem pd_Exprs_checkName : (y_Exprs_checkName).cls = R_Exprs ∧ (y_Exprs_checkName).cls ≠ "java/lang/invoke/MethodHandle" ∧ (y_Exprs_checkName).cls ≠ "java/lang/invoke/VarHandle" ∧ (parseMethodDescriptor (y_Exprs_checkName).desc).map (fun d => d.parameters.length) = some 1 := by decide +kernel
def mt_Exprs_checkNew (l : Launch) (dC : Nat → ClassId) (dI : Nat → Nat → Nat) (ea ev ad : Nat → Nat) (km : Nat → ClassId) (F : gF) (d : Nat) : Prop := ∀ (T : gSt) (p1 : Int32) (p2 : Int32) (r : Int32) (rl : Int64) (T' : gSt), F 163 T [p1, p2] [] = some (r, rl, T') → GMi l dC dI LH ad km ea ev y_Exprs_checkNew w_Exprs_checkNew (rmD d) [.ref (ad 8), .int p1, .int p2] T r T'
theorem pd_Exprs_checkNew : (y_Exprs_checkNew).cls = R_Exprs ∧ (y_Exprs_checkNew).cls ≠ "java/lang/invoke/MethodHandle" ∧ (y_Exprs_checkNew).cls ≠ "java/lang/invoke/VarHandle" ∧ (parseMethodDescriptor (y_Exprs_checkNew).desc).map (fun d => d.parameters.length) = some 2 := by decide +kernel
def mt_Exprs_checkNewCell (l : Launch) (dC : Nat → ClassId) (dI : Nat → Nat → Nat) (ea ev ad : Nat → Nat) (km : Nat → ClassId) (F : gF) (d : Nat) : Prop := ∀ (T : gSt) (p1 : Int32) (p2 : Int32) (r : Int32) (rl : Int64) (T' : gSt), F 166 T [p1, p2] [] = some (r, rl, T') → GMi l dC dI LH ad km ea ev y_Exprs_checkNewCell w_Exprs_checkNewCell (rmD d) [.ref (ad 8), .int p1, .int p2] T r T'
theorem pd_Exprs_checkNewCell : (y_Exprs_checkNewCell).cls = R_Exprs ∧ (y_Exprs_checkNewCell).cls ≠ "java/lang/invoke/MethodHandle" ∧ (y_Exprs_checkNewCell).cls ≠ "java/lang/invoke/VarHandle" ∧ (parseMethodDescriptor (y_Exprs_checkNewCell).desc).map (fun d => d.parameters.length) = some 2 := by decide +kernel
def mt_Exprs_checkNewRow (l : Launch) (dC : Nat → ClassId) (dI : Nat → Nat → Nat) (ea ev ad : Nat → Nat) (km : Nat → ClassId) (F : gF) (d : Nat) : Prop := ∀ (T : gSt) (p1 : Int32) (p2 : Int32) (r : Int32) (rl : Int64) (T' : gSt), F 167 T [p1, p2] [] = some (r, rl, T') → GMi l dC dI LH ad km ea ev y_Exprs_checkNewRow w_Exprs_checkNewRow (rmD d) [.ref (ad 8), .int p1, .int p2] T r T'
theorem pd_Exprs_checkNewRow : (y_Exprs_checkNewRow).cls = R_Exprs ∧ (y_Exprs_checkNewRow).cls ≠ "java/lang/invoke/MethodHandle" ∧ (y_Exprs_checkNewRow).cls ≠ "java/lang/invoke/VarHandle" ∧ (parseMethodDescriptor (y_Exprs_checkNewRow).desc).map (fun d => d.parameters.length) = some 2 := by decide +kernel
def mt_Exprs_checkSolid (l : Launch) (dC : Nat → ClassId) (dI : Nat → Nat → Nat) (ea ev ad : Nat → Nat) (km : Nat → ClassId) (F : gF) (d : Nat) : Prop := ∀ (T : gSt) (p1 : Int32) (p2 : Int32) (r : Int32) (rl : Int64) (T' : gSt), F 170 T [p1, p2] [] = some (r, rl, T') → GMi l dC dI LH ad km ea ev y_Exprs_checkSolid w_Exprs_checkSolid (rmD d) [.ref (ad 8), .int p1, .int p2] T r T'
theorem pd_Exprs_checkSolid : (y_Exprs_checkSolid).cls = R_Exprs ∧ (y_Exprs_checkSolid).cls ≠ "java/lang/invoke/MethodHandle" ∧ (y_Exprs_checkSolid).cls ≠ "java/lang/invoke/VarHandle" ∧ (parseMethodDescriptor (y_Exprs_checkSolid).desc).map (fun d => d.parameters.length) = some 2 := by decide +kernel
def mt_Exprs_checkSize (l : Launch) (dC : Nat → ClassId) (dI : Nat → Nat → Nat) (ea ev ad : Nat → Nat) (km : Nat → ClassId) (F : gF) (d : Nat) : Prop := ∀ (T : gSt) (p1 : Int32) (p2 : Int32) (r : Int32) (rl : Int64) (T' : gSt), F 171 T [p1, p2] [] = some (r, rl, T') → GMi l dC dI LH ad km ea ev y_Exprs_checkSize w_Exprs_checkSize (rmD d) [.ref (ad 8), .int p1, .int p2] T r T'
theorem pd_Exprs_checkSize : (y_Exprs_checkSize).cls = R_Exprs ∧ (y_Exprs_checkSize).cls ≠ "java/lang/invoke/MethodHandle" ∧ (y_Exprs_checkSize).cls ≠ "java/lang/invoke/VarHandle" ∧ (parseMethodDescriptor (y_Exprs_checkSize).desc).map (fun d => d.parameters.length) = some 2 := by decide +kernel
def mt_Exprs_checkAddress (l : Launch) (dC : Nat → ClassId) (dI : Nat → Nat → Nat) (ea ev ad : Nat → Nat) (km : Nat → ClassId) (F : gF) (d : Nat) : Prop := ∀ (T : gSt) (p1 : Int32) (p2 : Int32) (r : Int32) (rl : Int64) (T' : gSt), F 169 T [p1, p2] [] = some (r, rl, T') → GMi l dC dI LH ad km ea ev y_Exprs_checkAddress w_Exprs_checkAddress (rmD d) [.ref (ad 8), .int p1, .int p2] T r T'
theorem pd_Exprs_checkAddress : (y_Exprs_checkAddress).cls = R_Exprs ∧ (y_Exprs_checkAddress).cls ≠ "java/lang/invoke/MethodHandle" ∧ (y_Exprs_checkAddress).cls ≠ "java/lang/invoke/VarHandle" ∧ (parseMethodDescriptor (y_Exprs_checkAddress).desc).map (fun d => d.parameters.length) = some 2 := by decide +kernel
def mt_Exprs_checkCall (l : Launch) (dC : Nat → ClassId) (dI : Nat → Nat → Nat) (ea ev ad : Nat → Nat) (km : Nat → ClassId) (F : gF) (d : Nat) : Prop := ∀ (T : gSt) (p1 : Int32) (p2 : Int32) (r : Int32) (rl : Int64) (T' : gSt), F 159 T [p1, p2] [] = some (r, rl, T') → GMi l dC dI LH ad km ea ev y_Exprs_checkCall w_Exprs_checkCall (rmD d) [.ref (ad 8), .int p1, .int p2] T r T'
theorem pd_Exprs_checkCall : (y_Exprs_checkCall).cls = R_Exprs ∧ (y_Exprs_checkCall).cls ≠ "java/lang/invoke/MethodHandle" ∧ (y_Exprs_checkCall).cls ≠ "java/lang/invoke/VarHandle" ∧ (parseMethodDescriptor (y_Exprs_checkCall).desc).map (fun d => d.parameters.length) = some 2 := by decide +kernel
def mt_Exprs_solidOf (l : Launch) (dC : Nat → ClassId) (dI : Nat → Nat → Nat) (ea ev ad : Nat → Nat) (km : Nat → ClassId) (F : gF) (d : Nat) : Prop := ∀ (T : gSt) (p1 : Int32) (r : Int32) (rl : Int64) (T' : gSt), F 158 T [p1] [] = some (r, rl, T') → GMi l dC dI LH ad km ea ev y_Exprs_solidOf w_Exprs_solidOf (rmD d) [.ref (ad 8), .int p1] T r T'
theorem pd_Exprs_solidOf : (y_Exprs_solidOf).cls = R_Exprs ∧ (y_Exprs_solidOf).cls ≠ "java/lang/invoke/MethodHandle" ∧ (y_Exprs_solidOf).cls ≠ "java/lang/invoke/VarHandle" ∧ (parseMethodDescriptor (y_Exprs_solidOf).desc).map (fun d => d.parameters.length) = some 1 := by decide +kernel
def mt_Exprs_checkParts (l : Launch) (dC : Nat → ClassId) (dI : Nat → Nat → Nat) (ea ev ad : Nat → Nat) (km : Nat → ClassId) (F : gF) (d : Nat) : Prop := ∀ (T : gSt) (p1 : Int32) (p2 : Int32) (p3 : Int32) (p4 : Int32) (r : Int32) (rl : Int64) (T' : gSt), F 160 T [p1, p2, p3, p4] [] = some (r, rl, T') → GMv l dC dI LH ad km ea ev y_Exprs_checkParts w_Exprs_checkParts (rmD d) [.ref (ad 8), .int p1, .int p2, .int p3, .int p4] T T'
theorem pd_Exprs_checkParts : (y_Exprs_checkParts).cls = R_Exprs ∧ (y_Exprs_checkParts).cls ≠ "java/lang/invoke/MethodHandle" ∧ (y_Exprs_checkParts).cls ≠ "java/lang/invoke/VarHandle" ∧ (parseMethodDescriptor (y_Exprs_checkParts).desc).map (fun d => d.parameters.length) = some 4 := by decide +kernel
def mt_Exprs_checkWhere (l : Launch) (dC : Nat → ClassId) (dI : Nat → Nat → Nat) (ea ev ad : Nat → Nat) (km : Nat → ClassId) (F : gF) (d : Nat) : Prop := ∀ (T : gSt) (p1 : Int32) (p2 : Int32) (p3 : Int32) (r : Int32) (rl : Int64) (T' : gSt), F 161 T [p1, p2, p3] [] = some (r, rl, T') → GMv l dC dI LH ad km ea ev y_Exprs_checkWhere w_Exprs_checkWhere (rmD d) [.ref (ad 8), .int p1, .int p2, .int p3] T T'
theorem pd_Exprs_checkWhere : (y_Exprs_checkWhere).cls = R_Exprs ∧ (y_Exprs_checkWhere).cls ≠ "java/lang/invoke/MethodHandle" ∧ (y_Exprs_checkWhere).cls ≠ "java/lang/invoke/VarHandle" ∧ (parseMethodDescriptor (y_Exprs_checkWhere).desc).map (fun d => d.parameters.length) = some 3 := by decide +kernel
def mt_Exprs_readLiveRegion (l : Launch) (dC : Nat → ClassId) (dI : Nat → Nat → Nat) (ea ev ad : Nat → Nat) (km : Nat → ClassId) (F : gF) (d : Nat) : Prop := ∀ (T : gSt) (p1 : Int32) (r : Int32) (rl : Int64) (T' : gSt), F 162 T [p1] [] = some (r, rl, T') → GMi l dC dI LH ad km ea ev y_Exprs_readLiveRegion w_Exprs_readLiveRegion (rmD d) [.ref (ad 8), .int p1] T r T'
theorem pd_Exprs_readLiveRegion : (y_Exprs_readLiveRegion).cls = R_Exprs ∧ (y_Exprs_readLiveRegion).cls ≠ "java/lang/invoke/MethodHandle" ∧ (y_Exprs_readLiveRegion).cls ≠ "java/lang/invoke/VarHandle" ∧ (parseMethodDescriptor (y_Exprs_readLiveRegion).desc).map (fun d => d.parameters.length) = some 1 := by decide +kernel
def mt_Exprs_makeStruct (l : Launch) (dC : Nat → ClassId) (dI : Nat → Nat → Nat) (ea ev ad : Nat → Nat) (km : Nat → ClassId) (F : gF) (d : Nat) : Prop := ∀ (T : gSt) (p1 : Int32) (p2 : Int32) (p3 : Int32) (p4 : Int32) (r : Int32) (rl : Int64) (T' : gSt), F 165 T [p1, p2, p3, p4] [] = some (r, rl, T') → GMv l dC dI LH ad km ea ev y_Exprs_makeStruct w_Exprs_makeStruct (rmD d) [.ref (ad 8), .int p1, .int p2, .int p3, .int p4] T T'
theorem pd_Exprs_makeStruct : (y_Exprs_makeStruct).cls = R_Exprs ∧ (y_Exprs_makeStruct).cls ≠ "java/lang/invoke/MethodHandle" ∧ (y_Exprs_makeStruct).cls ≠ "java/lang/invoke/VarHandle" ∧ (parseMethodDescriptor (y_Exprs_makeStruct).desc).map (fun d => d.parameters.length) = some 4 := by decide +kernel
def mt_Exprs_makeUnion (l : Launch) (dC : Nat → ClassId) (dI : Nat → Nat → Nat) (ea ev ad : Nat → Nat) (km : Nat → ClassId) (F : gF) (d : Nat) : Prop := ∀ (T : gSt) (p1 : Int32) (p2 : Int32) (p3 : Int32) (p4 : Int32) (r : Int32) (rl : Int64) (T' : gSt), F 164 T [p1, p2, p3, p4] [] = some (r, rl, T') → GMv l dC dI LH ad km ea ev y_Exprs_makeUnion w_Exprs_makeUnion (rmD d) [.ref (ad 8), .int p1, .int p2, .int p3, .int p4] T T'
theorem pd_Exprs_makeUnion : (y_Exprs_makeUnion).cls = R_Exprs ∧ (y_Exprs_makeUnion).cls ≠ "java/lang/invoke/MethodHandle" ∧ (y_Exprs_makeUnion).cls ≠ "java/lang/invoke/VarHandle" ∧ (parseMethodDescriptor (y_Exprs_makeUnion).desc).map (fun d => d.parameters.length) = some 4 := by decide +kernel
def mt_Exprs_checkValue (l : Launch) (dC : Nat → ClassId) (dI : Nat → Nat → Nat) (ea ev ad : Nat → Nat) (km : Nat → ClassId) (F : gF) (d : Nat) : Prop := ∀ (T : gSt) (p1 : Int32) (p2 : Int32) (r : Int32) (rl : Int64) (T' : gSt), F 168 T [p1, p2] [] = some (r, rl, T') → GMi l dC dI LH ad km ea ev y_Exprs_checkValue w_Exprs_checkValue (rmD d) [.ref (ad 8), .int p1, .int p2] T r T'
theorem pd_Exprs_checkValue : (y_Exprs_checkValue).cls = R_Exprs ∧ (y_Exprs_checkValue).cls ≠ "java/lang/invoke/MethodHandle" ∧ (y_Exprs_checkValue).cls ≠ "java/lang/invoke/VarHandle" ∧ (parseMethodDescriptor (y_Exprs_checkValue).desc).map (fun d => d.parameters.length) = some 2 := by decide +kernel
set_option maxHeartbeats 4000000 in
set_option maxRecDepth 100000 in
theorem sp_Exprs_checkIs (l : Launch) (dC : Nat → ClassId) (dI : Nat → Nat → Nat) (ea ev ad : Nat → Nat) (km : Nat → ClassId) (F : gF) (nf d : Nat) (h_Types_titleBehind : mt_Types_titleBehind l dC dI ea ev ad km F d) (h_Code_note : mt_Code_note l dC dI ea ev ad km F d) (h_Types_regionOf : mt_Types_regionOf l dC dI ea ev ad km F d) (h_Scope_isLive : mt_Scope_isLive l dC dI ea ev ad km F d) (h_Exprs_demand : mt_Exprs_demand l dC dI ea ev ad km F d) (h_Source_nameAt : mt_Source_nameAt l dC dI ea ev ad km F d) (h_Heads_findPart : mt_Heads_findPart l dC dI ea ev ad km F d) (h_Source_startOf : mt_Source_startOf l dC dI ea ev ad km F d) (h_Exprs_countNull : mt_Exprs_countNull l dC dI ea ev ad km F d) (h_Code_emit : mt_Code_emit l dC dI ea ev ad km F d) (T0 : gSt) (p1 : Int32) (p2 : Int32) (p3 : Int32) (r0 : Int32) (rl0 : Int64) (T9 : gSt) (hR : rb_Exprs_checkIs F nf T0 p1 p2 p3 = some (r0, rl0, T9)) : GMi l dC dI LH ad km ea ev y_Exprs_checkIs w_Exprs_checkIs (rmD (d + 1)) [.ref (ad 8), .int p1, .int p2, .int p3] T0 r0 T9 := by
  intro sz
  refine Met.ofW (cc := b_Exprs_checkIs) (maxL := 6) (ret := (some .int)) (by decide) rfl ?_
  intro p e s m args below meth c s₁ B hml hv
  obtain ⟨rfl, hsz, hP, hK, hD0, hnw, henv⟩ := hv
  have hx := B.exec
  have hb := B.bytes
  have hr := B.returns
  have hT : ∀ w ∈ lw_good, w.before _ s = true := fun w h => atoms_spec (ws := w_Exprs_checkIs) B.pre w (List.mem_cons_of_mem _ h)
  have hown : s.vm.findClass R_Exprs = some m.cls := findClass_of_methodNamed B.named
  subst hsz
  have hD := hD0.self (sz := s.heap.size)
  clear hD0
  generalize hAe : va_A (gW LH ad km T0) s.heap.size = A at hD henv ⊢
  have hA : ∀ q : Nat, s.heap.size ≤ q → A q := fun q h => by rw [← hAe]; exact Or.inr h
  have hS : va_S A s.heap s.heap [] := va_S.rf
  have hl := lv_entry ([.ref (ad 8), .int p1, .int p2, .int p3]) (n := 6) (Nat.le_of_ble_eq_true rfl)
  rw [lg_entry_eq]
  generalize (lg_sl ([.ref (ad 8), .int p1, .int p2, .int p3]) ++ List.replicate (6 - (lg_sl ([.ref (ad 8), .int p1, .int p2, .int p3])).length) Slot.unset).toArray = ls at hl ⊢
  have hl : lv_has ls 6 [(0, .ref (ad 8)), (1, .int p1), (2, .int p2), (3, .int p3)] := hl
  obtain ⟨G, hG⟩ : ∃ G : Nat → List (Nat × Value) → List Value → gSt → Prop, G = (fun pc lv stk T => ∀ (H : Heap) (locs : List Loc), va_P (dC, dI) cls_all (gW LH ad km T) H → va_D A (gW LH ad km T) → va_S A s.heap H locs → ∀ (ls : Array Slot), lv_has ls 6 lv → W p l e (headSpec w_Exprs_checkIs (rmD (d + 1))).room s m ([.ref (ad 8), .int p1, .int p2, .int p3] : List Value).toArray below meth c H locs 0 0 (MQ below (va_Qi (fun (z : Int32) (_ : Unit) => z = r0) (fun _ t => gPost dC dI LH ad km T9 A t) A) ([.ref (ad 8), .int p1, .int p2, .int p3] : List Value).toArray s 0 0 A) (F0 m pc ls stk)) := ⟨_, rfl⟩
  have lb_104 : ∀ (T : gSt) (x1 : Int32) (x2 : Int32) (x5 : Int32) (y0 : Int32), rj_Exprs_checkIs_104 F nf T x1 x2 x5 y0 = some (r0, rl0, T9) → G 104 [(0, .ref (ad 8)), (1, .int x1), (2, .int x2), (5, .int x5)] [.int y0, .ref (ad 8)] T := by
    intro T x1 x2 x5 y0 hR; unfold rj_Exprs_checkIs_104 at hR; rw [hG]; intro H locs hP hD hS ls hl
    refine lv_iconst (v := 3) hx hb d_Exprs_checkIs_104 (by decide) ?_
    refine lv_aload_n hx hb d_Exprs_checkIs_105 rfl (lv_at hl 0 rfl) ?_
    refine rd_Exprs_9 hx hb hT hown hK hP d_Exprs_checkIs_106 ?_
    refine lv_aload_n hx hb d_Exprs_checkIs_109 rfl (lv_at hl 0 rfl) ?_
    refine rd_Exprs_9 hx hb hT hown hK hP d_Exprs_checkIs_110 ?_
    refine rd_Exprs_146 hx hb hT hown hK hP d_Exprs_checkIs_113 ?_
    refine lv_iload_n hx hb d_Exprs_checkIs_116 rfl (lv_at hl 1 rfl) ?_
    replace hR := gd_e hR
    obtain ⟨b16, hR⟩ := hR
    refine laH_2 hx hb hK hP b16 d_Exprs_checkIs_117 ?_
    refine lv_iconst (v := 1) hx hb d_Exprs_checkIs_118 (by decide) ?_
    refine lv_iadd hx hb d_Exprs_checkIs_119 ?_
    replace hR := bi_e hR
    obtain ⟨r17, l17, T17, hc17, hR⟩ := hR
    refine gcV_i (rest := [.int (3 : Int32), .int y0, .ref (ad 8)]) ⟨hx, hb, hml, hown, hT⟩ (h_Source_startOf _ _ _ _ _ hc17) (cwV 1 hT (gV ml_Exprs_157 im_Source_startOf se_Source_startOf ini_Source co_Source_startOf) rfl rfl rfl pd_Source_startOf ⟨rm_hi, rm_lo (Nat.le_of_ble_eq_true rfl)⟩) hK hP hD hS hA hnw henv (Nat.le_of_ble_eq_true rfl) rfl rfl hl.1 rfl (Nat.le_of_ble_eq_true rfl) d_Exprs_checkIs_120 ⟨Nat.le_refl _, Nat.le_refl _⟩ (fun H locs hP hD hS => ?_)
    clear hc17
    replace hR := bi_e hR
    obtain ⟨r18, l18, T18, hc18, hR⟩ := hR
    refine gcV_v (rest := []) ⟨hx, hb, hml, hown, hT⟩ (h_Exprs_demand _ _ _ _ _ _ _ hc18) (cwV 3 hT (gV ml_Exprs_111 im_Exprs_demand se_Exprs_demand ini_Exprs co_Exprs_demand) rfl rfl rfl pd_Exprs_demand ⟨rm_hi, rm_lo (Nat.le_of_ble_eq_true rfl)⟩) hK hP hD hS hA hnw henv (Nat.le_of_ble_eq_true rfl) rfl rfl hl.1 rfl (Nat.le_of_ble_eq_true rfl) d_Exprs_checkIs_123 ⟨Nat.le_refl _, Nat.le_refl _⟩ (fun H locs hP hD hS => ?_)
    clear hc18
    refine lv_aload_n hx hb d_Exprs_checkIs_126 rfl (lv_at hl 0 rfl) ?_
    refine lv_iload_n hx hb d_Exprs_checkIs_127 rfl (lv_at hl 2 rfl) ?_
    replace hR := bi_e hR
    obtain ⟨r19, l19, T19, hc19, hR⟩ := hR
    refine gcV_v (rest := []) ⟨hx, hb, hml, hown, hT⟩ (h_Exprs_countNull _ _ _ _ _ hc19) (cwV 1 hT (gV ml_Exprs_160 im_Exprs_countNull se_Exprs_countNull ini_Exprs co_Exprs_countNull) rfl rfl rfl pd_Exprs_countNull ⟨rm_hi, rm_lo (Nat.le_of_ble_eq_true rfl)⟩) hK hP hD hS hA hnw henv (Nat.le_of_ble_eq_true rfl) rfl rfl hl.1 rfl (Nat.le_of_ble_eq_true rfl) d_Exprs_checkIs_128 ⟨Nat.le_refl _, Nat.le_refl _⟩ (fun H locs hP hD hS => ?_)
    clear hc19
    refine lv_aload_n hx hb d_Exprs_checkIs_131 rfl (lv_at hl 0 rfl) ?_
    refine rd_Exprs_35 hx hb hT hown hK hP d_Exprs_checkIs_132 ?_
    refine lv_bipush (v := 22) hx hb d_Exprs_checkIs_135 (by decide) ?_
    refine lv_iload hx hb d_Exprs_checkIs_137 (lv_at hl 3 rfl) ?_
    refine lv_iconst (v := 1) hx hb d_Exprs_checkIs_139 (by decide) ?_
    refine lv_iadd hx hb d_Exprs_checkIs_140 ?_
    refine lv_iconst (v := 0) hx hb d_Exprs_checkIs_141 (by decide) ?_
    replace hR := bi_e hR
    obtain ⟨r20, l20, T20, hc20, hR⟩ := hR
    refine gcV_i (rest := []) ⟨hx, hb, hml, hown, hT⟩ (h_Code_emit _ _ _ _ _ _ _ hc20) (cwV 3 hT (gV ml_Exprs_94 im_Code_emit se_Code_emit ini_Code co_Code_emit) rfl rfl rfl pd_Code_emit ⟨rm_hi, rm_lo (Nat.le_of_ble_eq_true rfl)⟩) hK hP hD hS hA hnw henv (Nat.le_of_ble_eq_true rfl) rfl rfl hl.1 rfl (Nat.le_of_ble_eq_true rfl) d_Exprs_checkIs_142 ⟨Nat.le_refl _, Nat.le_refl _⟩ (fun H locs hP hD hS => ?_)
    clear hc20
    refine lv_pop hx hb d_Exprs_checkIs_145 rfl ?_
    refine lv_iconst (v := 1) hx hb d_Exprs_checkIs_146 (by decide) ?_
    obtain ⟨e1, -, e3⟩ := re_e hR
    subst e1; subst e3
    exact W.iret (v := (1 : Int32)) hx hb hr (fun t ht hW => ⟨⟨(1 : Int32), (), rfl, rfl, by rw [ht]; exact hP, va_K.moved hW.alike hK, hD⟩, hS.F ht⟩) hS.2.2 d_Exprs_checkIs_147
  unfold rb_Exprs_checkIs at hR
  refine lv_aload_n hx hb d_Exprs_checkIs_0 rfl (lv_at hl 0 rfl) ?_
  refine rd_Exprs_29 hx hb hT hown hK hP d_Exprs_checkIs_1 ?_
  refine lv_iload_n hx hb d_Exprs_checkIs_4 rfl (lv_at hl 2 rfl) ?_
  replace hR := bi_e hR
  obtain ⟨r1, l1, T1, hc1, hR⟩ := hR
  refine gcV_i (rest := []) ⟨hx, hb, hml, hown, hT⟩ (h_Types_titleBehind _ _ _ _ _ hc1) (cwV 1 hT (gV ml_Exprs_143 im_Types_titleBehind se_Types_titleBehind ini_Types co_Types_titleBehind) rfl rfl rfl pd_Types_titleBehind ⟨rm_hi, rm_lo (Nat.le_of_ble_eq_true rfl)⟩) hK hP hD hS hA hnw henv (Nat.le_of_ble_eq_true rfl) rfl rfl hl.1 rfl (Nat.le_of_ble_eq_true rfl) d_Exprs_checkIs_5 ⟨Nat.le_refl _, Nat.le_refl _⟩ (fun H locs hP hD hS => ?_)
  clear hc1
  refine lv_istore (lv' := [(4, .int r1), (0, .ref (ad 8)), (1, .int p1), (2, .int p2), (3, .int p3)]) hx hb d_Exprs_checkIs_8 hl (by decide) rfl (fun ls hl => ?_)
  refine lv_iload hx hb d_Exprs_checkIs_10 (lv_at hl 0 rfl) ?_
  refine lv_iconst (v := (-1)) hx hb d_Exprs_checkIs_12 (by decide) ?_
  refine lv_icmp_eq (tgt := 31) hx hb d_Exprs_checkIs_13 (by decide) (fun c2 => ?_) (fun c2 => ?_)
  · replace hR := if_p c2 hR
    refine lv_aload_n hx hb d_Exprs_checkIs_31 rfl (lv_at hl 1 rfl) ?_
    refine rd_Exprs_35 hx hb hT hown hK hP d_Exprs_checkIs_32 ?_
    refine lv_iconst (v := 4) hx hb d_Exprs_checkIs_35 (by decide) ?_
    refine lv_iload_n hx hb d_Exprs_checkIs_36 rfl (lv_at hl 4 rfl) ?_
    replace hR := bi_e hR
    obtain ⟨r3, l3, T3, hc3, hR⟩ := hR
    refine gcV_v (rest := []) ⟨hx, hb, hml, hown, hT⟩ (h_Code_note _ _ _ _ _ _ hc3) (cwV 2 hT (gV ml_Exprs_68 im_Code_note se_Code_note ini_Code co_Code_note) rfl rfl rfl pd_Code_note ⟨rm_hi, rm_lo (Nat.le_of_ble_eq_true rfl)⟩) hK hP hD hS hA hnw henv (Nat.le_of_ble_eq_true rfl) rfl rfl hl.1 rfl (Nat.le_of_ble_eq_true rfl) d_Exprs_checkIs_37 ⟨Nat.le_refl _, Nat.le_refl _⟩ (fun H locs hP hD hS => ?_)
    clear hc3
    refine lv_iconst (v := 1) hx hb d_Exprs_checkIs_40 (by decide) ?_
    obtain ⟨e1, -, e3⟩ := re_e hR
    subst e1; subst e3
    exact W.iret (v := (1 : Int32)) hx hb hr (fun t ht hW => ⟨⟨(1 : Int32), (), rfl, rfl, by rw [ht]; exact hP, va_K.moved hW.alike hK, hD⟩, hS.F ht⟩) hS.2.2 d_Exprs_checkIs_41
  · replace hR := if_n c2 hR
    refine lv_aload_n hx hb d_Exprs_checkIs_16 rfl (lv_at hl 1 rfl) ?_
    refine rd_Exprs_15 hx hb hT hown hK hP d_Exprs_checkIs_17 ?_
    refine rd_Exprs_175 hx hb hT hown hK hP d_Exprs_checkIs_20 ?_
    refine lv_iload hx hb d_Exprs_checkIs_23 (lv_at hl 0 rfl) ?_
    replace hR := gd_e hR
    obtain ⟨b5, hR⟩ := hR
    refine laH_13 hx hb hK hP b5 d_Exprs_checkIs_25 ?_
    refine lv_bipush (v := 11) hx hb d_Exprs_checkIs_26 (by decide) ?_
    refine lv_icmp_eq (tgt := 42) hx hb d_Exprs_checkIs_28 (by decide) (fun c6 => ?_) (fun c6 => ?_)
    · replace hR := if_p c6 hR
      refine lv_aload_n hx hb d_Exprs_checkIs_42 rfl (lv_at hl 1 rfl) ?_
      refine lv_aload_n hx hb d_Exprs_checkIs_43 rfl (lv_at hl 1 rfl) ?_
      refine rd_Exprs_34 hx hb hT hown hK hP d_Exprs_checkIs_44 ?_
      refine lv_aload_n hx hb d_Exprs_checkIs_47 rfl (lv_at hl 1 rfl) ?_
      refine rd_Exprs_29 hx hb hT hown hK hP d_Exprs_checkIs_48 ?_
      refine lv_iload_n hx hb d_Exprs_checkIs_51 rfl (lv_at hl 3 rfl) ?_
      replace hR := bi_e hR
      obtain ⟨r7, l7, T7, hc7, hR⟩ := hR
      refine gcV_i (rest := [.ref (ad 6), .ref (ad 8)]) ⟨hx, hb, hml, hown, hT⟩ (h_Types_regionOf _ _ _ _ _ hc7) (cwV 1 hT (gV ml_Exprs_82 im_Types_regionOf se_Types_regionOf ini_Types co_Types_regionOf) rfl rfl rfl pd_Types_regionOf ⟨rm_hi, rm_lo (Nat.le_of_ble_eq_true rfl)⟩) hK hP hD hS hA hnw henv (Nat.le_of_ble_eq_true rfl) rfl rfl hl.1 rfl (Nat.le_of_ble_eq_true rfl) d_Exprs_checkIs_52 ⟨Nat.le_refl _, Nat.le_refl _⟩ (fun H locs hP hD hS => ?_)
      clear hc7
      replace hR := bi_e hR
      obtain ⟨r8, l8, T8, hc8, hR⟩ := hR
      refine gcV_i (rest := [.ref (ad 8)]) ⟨hx, hb, hml, hown, hT⟩ (h_Scope_isLive _ _ _ _ _ hc8) (cwV 1 hT (gV ml_Exprs_115 im_Scope_isLive se_Scope_isLive ini_Scope co_Scope_isLive) rfl rfl rfl pd_Scope_isLive ⟨rm_hi, rm_lo (Nat.le_of_ble_eq_true rfl)⟩) hK hP hD hS hA hnw henv (Nat.le_of_ble_eq_true rfl) rfl rfl hl.1 rfl (Nat.le_of_ble_eq_true rfl) d_Exprs_checkIs_55 ⟨Nat.le_refl _, Nat.le_refl _⟩ (fun H locs hP hD hS => ?_)
      clear hc8
      refine lv_iconst (v := 5) hx hb d_Exprs_checkIs_58 (by decide) ?_
      refine lv_iload_n hx hb d_Exprs_checkIs_59 rfl (lv_at hl 4 rfl) ?_
      replace hR := bi_e hR
      obtain ⟨r9, l9, T9, hc9, hR⟩ := hR
      refine gcV_v (rest := []) ⟨hx, hb, hml, hown, hT⟩ (h_Exprs_demand _ _ _ _ _ _ _ hc9) (cwV 3 hT (gV ml_Exprs_111 im_Exprs_demand se_Exprs_demand ini_Exprs co_Exprs_demand) rfl rfl rfl pd_Exprs_demand ⟨rm_hi, rm_lo (Nat.le_of_ble_eq_true rfl)⟩) hK hP hD hS hA hnw henv (Nat.le_of_ble_eq_true rfl) rfl rfl hl.1 rfl (Nat.le_of_ble_eq_true rfl) d_Exprs_checkIs_60 ⟨Nat.le_refl _, Nat.le_refl _⟩ (fun H locs hP hD hS => ?_)
      clear hc9
      refine lv_aload_n hx hb d_Exprs_checkIs_63 rfl (lv_at hl 1 rfl) ?_
      refine rd_Exprs_19 hx hb hT hown hK hP d_Exprs_checkIs_64 ?_
      refine lv_iload hx hb d_Exprs_checkIs_67 (lv_at hl 0 rfl) ?_
      refine lv_aload_n hx hb d_Exprs_checkIs_69 rfl (lv_at hl 1 rfl) ?_
      refine rd_Exprs_9 hx hb hT hown hK hP d_Exprs_checkIs_70 ?_
      refine lv_aload_n hx hb d_Exprs_checkIs_73 rfl (lv_at hl 1 rfl) ?_
      refine rd_Exprs_9 hx hb hT hown hK hP d_Exprs_checkIs_74 ?_
      refine rd_Exprs_146 hx hb hT hown hK hP d_Exprs_checkIs_77 ?_
      refine lv_iload_n hx hb d_Exprs_checkIs_80 rfl (lv_at hl 2 rfl) ?_
      replace hR := gd_e hR
      obtain ⟨b10, hR⟩ := hR
      refine laH_2 hx hb hK hP b10 d_Exprs_checkIs_81 ?_
      refine lv_iconst (v := 1) hx hb d_Exprs_checkIs_82 (by decide) ?_
      refine lv_iadd hx hb d_Exprs_checkIs_83 ?_
      replace hR := bi_e hR
      obtain ⟨r11, l11, T11, hc11, hR⟩ := hR
      refine gcV_l (rest := [.int r1, .ref (ad 7)]) ⟨hx, hb, hml, hown, hT⟩ (h_Source_nameAt _ _ _ _ _ hc11) (cwV 1 hT (gV ml_Exprs_149 im_Source_nameAt se_Source_nameAt ini_Source co_Source_nameAt) rfl rfl rfl pd_Source_nameAt ⟨rm_hi, rm_lo (Nat.le_of_ble_eq_true rfl)⟩) hK hP hD hS hA hnw henv (Nat.le_of_ble_eq_true rfl) rfl rfl hl.1 rfl (Nat.le_of_ble_eq_true rfl) d_Exprs_checkIs_84 ⟨Nat.le_refl _, Nat.le_refl _⟩ (fun H locs hP hD hS => ?_)
      clear hc11
      replace hR := bi_e hR
      obtain ⟨r12, l12, T12, hc12, hR⟩ := hR
      refine gcV_i (rest := []) ⟨hx, hb, hml, hown, hT⟩ (h_Heads_findPart _ _ _ _ _ _ hc12) (cwV 2 hT (gV ml_Exprs_153 im_Heads_findPart se_Heads_findPart ini_Heads co_Heads_findPart) rfl rfl rfl pd_Heads_findPart ⟨rm_hi, rm_lo (Nat.le_of_ble_eq_true rfl)⟩) hK hP hD hS hA hnw henv (Nat.le_of_ble_eq_true rfl) rfl rfl hl.1 rfl (Nat.le_of_ble_eq_true rfl) d_Exprs_checkIs_87 ⟨Nat.le_refl _, Nat.le_refl _⟩ (fun H locs hP hD hS => ?_)
      clear hc12
      refine lv_istore (lv' := [(5, .int r12), (4, .int r1), (0, .ref (ad 8)), (1, .int p1), (2, .int p2), (3, .int p3)]) hx hb d_Exprs_checkIs_90 hl (by decide) rfl (fun ls hl => ?_)
      refine lv_aload_n hx hb d_Exprs_checkIs_92 rfl (lv_at hl 2 rfl) ?_
      refine lv_iload hx hb d_Exprs_checkIs_93 (lv_at hl 0 rfl) ?_
      refine lv_iconst (v := (-1)) hx hb d_Exprs_checkIs_95 (by decide) ?_
      refine lv_icmp_eq (tgt := 103) hx hb d_Exprs_checkIs_96 (by decide) (fun c13 => ?_) (fun c13 => ?_)
      · replace hR := if_p c13 hR
        refine lv_iconst (v := 0) hx hb d_Exprs_checkIs_103 (by decide) ?_
        have g := lb_104 T12 p1 p2 r12 (0 : Int32) hR
        rw [hG] at g
        exact g _ _ hP hD hS _ (lv_sub hl [2, 3, 4, 0] rfl)
      · replace hR := if_n c13 hR
        refine lv_iconst (v := 1) hx hb d_Exprs_checkIs_99 (by decide) ?_
        refine lv_goto (tgt := 104) hx hb d_Exprs_checkIs_100 (by decide) ?_
        have g := lb_104 T12 p1 p2 r12 (1 : Int32) hR
        rw [hG] at g
        exact g _ _ hP hD hS _ (lv_sub hl [2, 3, 4, 0] rfl)
    · replace hR := if_n c6 hR
      refine lv_aload_n hx hb d_Exprs_checkIs_31 rfl (lv_at hl 1 rfl) ?_
      refine rd_Exprs_35 hx hb hT hown hK hP d_Exprs_checkIs_32 ?_
      refine lv_iconst (v := 4) hx hb d_Exprs_checkIs_35 (by decide) ?_
      refine lv_iload_n hx hb d_Exprs_checkIs_36 rfl (lv_at hl 4 rfl) ?_
      replace hR := bi_e hR
      obtain ⟨r14, l14, T14, hc14, hR⟩ := hR
      refine gcV_v (rest := []) ⟨hx, hb, hml, hown, hT⟩ (h_Code_note _ _ _ _ _ _ hc14) (cwV 2 hT (gV ml_Exprs_68 im_Code_note se_Code_note ini_Code co_Code_note) rfl rfl rfl pd_Code_note ⟨rm_hi, rm_lo (Nat.le_of_ble_eq_true rfl)⟩) hK hP hD hS hA hnw henv (Nat.le_of_ble_eq_true rfl) rfl rfl hl.1 rfl (Nat.le_of_ble_eq_true rfl) d_Exprs_checkIs_37 ⟨Nat.le_refl _, Nat.le_refl _⟩ (fun H locs hP hD hS => ?_)
      clear hc14
      refine lv_iconst (v := 1) hx hb d_Exprs_checkIs_40 (by decide) ?_
      obtain ⟨e1, -, e3⟩ := re_e hR
      subst e1; subst e3
      exact W.iret (v := (1 : Int32)) hx hb hr (fun t ht hW => ⟨⟨(1 : Int32), (), rfl, rfl, by rw [ht]; exact hP, va_K.moved hW.alike hK, hD⟩, hS.F ht⟩) hS.2.2 d_Exprs_checkIs_41
set_option maxHeartbeats 4000000 in
set_option maxRecDepth 100000 in
theorem sp_Exprs_checkPrimary (l : Launch) (dC : Nat → ClassId) (dI : Nat → Nat → Nat) (ea ev ad : Nat → Nat) (km : Nat → ClassId) (F : gF) (nf d : Nat) (h_Exprs_checkName : mt_Exprs_checkName l dC dI ea ev ad km F d) (h_Source_nameAt : mt_Source_nameAt l dC dI ea ev ad km F d) (h_Code_emit : mt_Code_emit l dC dI ea ev ad km F d) (h_Exprs_checkNew : mt_Exprs_checkNew l dC dI ea ev ad km F d) (h_Exprs_checkNewCell : mt_Exprs_checkNewCell l dC dI ea ev ad km F d) (h_Exprs_checkNewRow : mt_Exprs_checkNewRow l dC dI ea ev ad km F d) (h_Exprs_checkSolid : mt_Exprs_checkSolid l dC dI ea ev ad km F d) (h_Exprs_checkSize : mt_Exprs_checkSize l dC dI ea ev ad km F d) (h_Exprs_checkAddress : mt_Exprs_checkAddress l dC dI ea ev ad km F d) (h_Exprs_checkCall : mt_Exprs_checkCall l dC dI ea ev ad km F d) (h_Exprs_check : mt_Exprs_check l dC dI ea ev ad km F d) (h_Source_startOf : mt_Source_startOf l dC dI ea ev ad km F d) (h_Exprs_demand : mt_Exprs_demand l dC dI ea ev ad km F d) (T0 : gSt) (p1 : Int32) (p2 : Int32) (r0 : Int32) (rl0 : Int64) (T9 : gSt) (hR : rb_Exprs_checkPrimary F nf T0 p1 p2 = some (r0, rl0, T9)) : GMi l dC dI LH ad km ea ev y_Exprs_checkPrimary w_Exprs_checkPrimary (rmD (d + 1)) [.ref (ad 8), .int p1, .int p2] T0 r0 T9 := by
  intro sz
  refine Met.ofW (cc := b_Exprs_checkPrimary) (maxL := 4) (ret := (some .int)) (by decide) rfl ?_
  intro p e s m args below meth c s₁ B hml hv
  obtain ⟨rfl, hsz, hP, hK, hD0, hnw, henv⟩ := hv
  have hx := B.exec
  have hb := B.bytes
  have hr := B.returns
  have hT : ∀ w ∈ lw_good, w.before _ s = true := fun w h => atoms_spec (ws := w_Exprs_checkPrimary) B.pre w (List.mem_cons_of_mem _ h)
  have hown : s.vm.findClass R_Exprs = some m.cls := findClass_of_methodNamed B.named
  subst hsz
  have hD := hD0.self (sz := s.heap.size)
  clear hD0
  generalize hAe : va_A (gW LH ad km T0) s.heap.size = A at hD henv ⊢
  have hA : ∀ q : Nat, s.heap.size ≤ q → A q := fun q h => by rw [← hAe]; exact Or.inr h
  have hS : va_S A s.heap s.heap [] := va_S.rf
  have hl := lv_entry ([.ref (ad 8), .int p1, .int p2]) (n := 4) (Nat.le_of_ble_eq_true rfl)
  rw [lg_entry_eq]
  generalize (lg_sl ([.ref (ad 8), .int p1, .int p2]) ++ List.replicate (4 - (lg_sl ([.ref (ad 8), .int p1, .int p2])).length) Slot.unset).toArray = ls at hl ⊢
  have hl : lv_has ls 4 [(0, .ref (ad 8)), (1, .int p1), (2, .int p2)] := hl
  obtain ⟨G, hG⟩ : ∃ G : Nat → List (Nat × Value) → List Value → gSt → Prop, G = (fun pc lv stk T => ∀ (H : Heap) (locs : List Loc), va_P (dC, dI) cls_all (gW LH ad km T) H → va_D A (gW LH ad km T) → va_S A s.heap H locs → ∀ (ls : Array Slot), lv_has ls 4 lv → W p l e (headSpec w_Exprs_checkPrimary (rmD (d + 1))).room s m ([.ref (ad 8), .int p1, .int p2] : List Value).toArray below meth c H locs 0 0 (MQ below (va_Qi (fun (z : Int32) (_ : Unit) => z = r0) (fun _ t => gPost dC dI LH ad km T9 A t) A) ([.ref (ad 8), .int p1, .int p2] : List Value).toArray s 0 0 A) (F0 m pc ls stk)) := ⟨_, rfl⟩
  have lb_188 : ∀ (T : gSt) (x3 : Int32) (y0 : Int32), rj_Exprs_checkPrimary_188 F nf T x3 y0 = some (r0, rl0, T9) → G 188 [(0, .ref (ad 8)), (3, .int x3)] [.int y0, .ref (ad 8)] T := by
    intro T x3 y0 hR; unfold rj_Exprs_checkPrimary_188 at hR; rw [hG]; intro H locs hP hD hS ls hl
    refine lv_bipush (v := 8) hx hb d_Exprs_checkPrimary_188 (by decide) ?_
    refine lv_aload_n hx hb d_Exprs_checkPrimary_190 rfl (lv_at hl 0 rfl) ?_
    refine rd_Exprs_9 hx hb hT hown hK hP d_Exprs_checkPrimary_191 ?_
    refine lv_iload_n hx hb d_Exprs_checkPrimary_194 rfl (lv_at hl 1 rfl) ?_
    replace hR := bi_e hR
    obtain ⟨r44, l44, T44, hc44, hR⟩ := hR
    refine gcV_i (rest := [.int (8 : Int32), .int y0, .ref (ad 8)]) ⟨hx, hb, hml, hown, hT⟩ (h_Source_startOf _ _ _ _ _ hc44) (cwV 1 hT (gV ml_Exprs_157 im_Source_startOf se_Source_startOf ini_Source co_Source_startOf) rfl rfl rfl pd_Source_startOf ⟨rm_hi, rm_lo (Nat.le_of_ble_eq_true rfl)⟩) hK hP hD hS hA hnw henv (Nat.le_of_ble_eq_true rfl) rfl rfl hl.1 rfl (Nat.le_of_ble_eq_true rfl) d_Exprs_checkPrimary_195 ⟨Nat.le_refl _, Nat.le_refl _⟩ (fun H locs hP hD hS => ?_)
    clear hc44
    replace hR := bi_e hR
    obtain ⟨r45, l45, T45, hc45, hR⟩ := hR
    refine gcV_v (rest := []) ⟨hx, hb, hml, hown, hT⟩ (h_Exprs_demand _ _ _ _ _ _ _ hc45) (cwV 3 hT (gV ml_Exprs_111 im_Exprs_demand se_Exprs_demand ini_Exprs co_Exprs_demand) rfl rfl rfl pd_Exprs_demand ⟨rm_hi, rm_lo (Nat.le_of_ble_eq_true rfl)⟩) hK hP hD hS hA hnw henv (Nat.le_of_ble_eq_true rfl) rfl rfl hl.1 rfl (Nat.le_of_ble_eq_true rfl) d_Exprs_checkPrimary_198 ⟨Nat.le_refl _, Nat.le_refl _⟩ (fun H locs hP hD hS => ?_)
    clear hc45
    refine lv_aload_n hx hb d_Exprs_checkPrimary_201 rfl (lv_at hl 0 rfl) ?_
    refine rd_Exprs_35 hx hb hT hown hK hP d_Exprs_checkPrimary_202 ?_
    refine lv_iconst (v := 3) hx hb d_Exprs_checkPrimary_205 (by decide) ?_
    refine lv_bipush (v := 60) hx hb d_Exprs_checkPrimary_206 (by decide) ?_
    refine lv_aload_n hx hb d_Exprs_checkPrimary_208 rfl (lv_at hl 0 rfl) ?_
    refine rd_Exprs_34 hx hb hT hown hK hP d_Exprs_checkPrimary_209 ?_
    refine rd_Exprs_191 hx hb hT hown hK hP d_Exprs_checkPrimary_212 ?_
    refine lv_iadd hx hb d_Exprs_checkPrimary_215 ?_
    refine lv_iconst (v := 1) hx hb d_Exprs_checkPrimary_216 (by decide) ?_
    refine lv_isub hx hb d_Exprs_checkPrimary_217 ?_
    refine lv_iconst (v := 1) hx hb d_Exprs_checkPrimary_218 (by decide) ?_
    replace hR := bi_e hR
    obtain ⟨r46, l46, T46, hc46, hR⟩ := hR
    refine gcV_i (rest := []) ⟨hx, hb, hml, hown, hT⟩ (h_Code_emit _ _ _ _ _ _ _ hc46) (cwV 3 hT (gV ml_Exprs_94 im_Code_emit se_Code_emit ini_Code co_Code_emit) rfl rfl rfl pd_Code_emit ⟨rm_hi, rm_lo (Nat.le_of_ble_eq_true rfl)⟩) hK hP hD hS hA hnw henv (Nat.le_of_ble_eq_true rfl) rfl rfl hl.1 rfl (Nat.le_of_ble_eq_true rfl) d_Exprs_checkPrimary_219 ⟨Nat.le_refl _, Nat.le_refl _⟩ (fun H locs hP hD hS => ?_)
    clear hc46
    refine lv_pop hx hb d_Exprs_checkPrimary_222 rfl ?_
    refine lv_iconst (v := 1) hx hb d_Exprs_checkPrimary_223 (by decide) ?_
    obtain ⟨e1, -, e3⟩ := re_e hR
    subst e1; subst e3
    exact W.iret (v := (1 : Int32)) hx hb hr (fun t ht hW => ⟨⟨(1 : Int32), (), rfl, rfl, by rw [ht]; exact hP, va_K.moved hW.alike hK, hD⟩, hS.F ht⟩) hS.2.2 d_Exprs_checkPrimary_224
  unfold rb_Exprs_checkPrimary at hR
  refine lv_aload_n hx hb d_Exprs_checkPrimary_0 rfl (lv_at hl 0 rfl) ?_
  refine rd_Exprs_9 hx hb hT hown hK hP d_Exprs_checkPrimary_1 ?_
  refine rd_Exprs_146 hx hb hT hown hK hP d_Exprs_checkPrimary_4 ?_
  refine lv_iload_n hx hb d_Exprs_checkPrimary_7 rfl (lv_at hl 1 rfl) ?_
  replace hR := gd_e hR
  obtain ⟨b1, hR⟩ := hR
  refine laH_2 hx hb hK hP b1 d_Exprs_checkPrimary_8 ?_
  refine lv_topi (fun z2 e2 => ?_)
  replace hR := vK_e e2 hR
  refine lv_istore_n (lv' := [(3, .int z2), (0, .ref (ad 8)), (1, .int p1), (2, .int p2)]) hx hb d_Exprs_checkPrimary_9 rfl hl (by decide) rfl (fun ls hl => ?_)
  refine lv_aload_n hx hb d_Exprs_checkPrimary_10 rfl (lv_at hl 1 rfl) ?_
  refine rd_Exprs_9 hx hb hT hown hK hP d_Exprs_checkPrimary_11 ?_
  refine rd_Exprs_124 hx hb hT hown hK hP d_Exprs_checkPrimary_14 ?_
  refine lv_iload_n hx hb d_Exprs_checkPrimary_17 rfl (lv_at hl 2 rfl) ?_
  replace hR := gd_e hR
  obtain ⟨b3, hR⟩ := hR
  refine laH_1 hx hb hK hP b3 d_Exprs_checkPrimary_18 ?_
  by_cases c4 : T0.1 11 p1.toNatClampNeg = (2 : Int32)
  · replace hR := if_p c4 hR
    refine lv_lookup (off := 206) (tgt := 225) hx hb d_Exprs_checkPrimary_19 (by decide) (by rw [c4]; decide) (by decide) ?_
    refine lv_aload_n hx hb d_Exprs_checkPrimary_225 rfl (lv_at hl 1 rfl) ?_
    refine lv_iload_n hx hb d_Exprs_checkPrimary_226 rfl (lv_at hl 0 rfl) ?_
    replace hR := bi_e hR
    obtain ⟨r5, l5, T5, hc5, hR⟩ := hR
    refine gcV_i (rest := []) ⟨hx, hb, hml, hown, hT⟩ (h_Exprs_checkName _ _ _ _ _ hc5) (cwV 1 hT (gV ml_Exprs_195 im_Exprs_checkName se_Exprs_checkName ini_Exprs co_Exprs_checkName) rfl rfl rfl pd_Exprs_checkName ⟨rm_hi, rm_lo (Nat.le_of_ble_eq_true rfl)⟩) hK hP hD hS hA hnw henv (Nat.le_of_ble_eq_true rfl) rfl rfl hl.1 rfl (Nat.le_of_ble_eq_true rfl) d_Exprs_checkPrimary_227 ⟨Nat.le_refl _, Nat.le_refl _⟩ (fun H locs hP hD hS => ?_)
    clear hc5
    obtain ⟨e1, -, e3⟩ := re_e hR
    subst e1; subst e3
    exact W.iret (v := r5) hx hb hr (fun t ht hW => ⟨⟨r5, (), rfl, rfl, by rw [ht]; exact hP, va_K.moved hW.alike hK, hD⟩, hS.F ht⟩) hS.2.2 d_Exprs_checkPrimary_230
  replace hR := if_n c4 hR
  by_cases c7 : T0.1 11 p1.toNatClampNeg = (5 : Int32)
  · replace hR := if_p c7 hR
    refine lv_lookup (off := 105) (tgt := 124) hx hb d_Exprs_checkPrimary_19 (by decide) (by rw [c7]; decide) (by decide) ?_
    refine lv_aload_n hx hb d_Exprs_checkPrimary_124 rfl (lv_at hl 1 rfl) ?_
    refine rd_Exprs_35 hx hb hT hown hK hP d_Exprs_checkPrimary_125 ?_
    refine lv_iconst (v := 2) hx hb d_Exprs_checkPrimary_128 (by decide) ?_
    refine lv_aload_n hx hb d_Exprs_checkPrimary_129 rfl (lv_at hl 1 rfl) ?_
    refine rd_Exprs_9 hx hb hT hown hK hP d_Exprs_checkPrimary_130 ?_
    refine lv_iload_n hx hb d_Exprs_checkPrimary_133 rfl (lv_at hl 0 rfl) ?_
    replace hR := bi_e hR
    obtain ⟨r8, l8, T8, hc8, hR⟩ := hR
    refine gcV_l (rest := [.int (2 : Int32), .ref (ad 3)]) ⟨hx, hb, hml, hown, hT⟩ (h_Source_nameAt _ _ _ _ _ hc8) (cwV 1 hT (gV ml_Exprs_149 im_Source_nameAt se_Source_nameAt ini_Source co_Source_nameAt) rfl rfl rfl pd_Source_nameAt ⟨rm_hi, rm_lo (Nat.le_of_ble_eq_true rfl)⟩) hK hP hD hS hA hnw henv (Nat.le_of_ble_eq_true rfl) rfl rfl hl.1 rfl (Nat.le_of_ble_eq_true rfl) d_Exprs_checkPrimary_134 ⟨Nat.le_refl _, Nat.le_refl _⟩ (fun H locs hP hD hS => ?_)
    clear hc8
    refine lv_l2i (v := (l8 : Int64).toInt32) hx hb d_Exprs_checkPrimary_137 rfl ?_
    refine lv_iconst (v := 0) hx hb d_Exprs_checkPrimary_138 (by decide) ?_
    replace hR := bi_e hR
    obtain ⟨r9, l9, T9, hc9, hR⟩ := hR
    refine gcV_i (rest := []) ⟨hx, hb, hml, hown, hT⟩ (h_Code_emit _ _ _ _ _ _ _ hc9) (cwV 3 hT (gV ml_Exprs_94 im_Code_emit se_Code_emit ini_Code co_Code_emit) rfl rfl rfl pd_Code_emit ⟨rm_hi, rm_lo (Nat.le_of_ble_eq_true rfl)⟩) hK hP hD hS hA hnw henv (Nat.le_of_ble_eq_true rfl) rfl rfl hl.1 rfl (Nat.le_of_ble_eq_true rfl) d_Exprs_checkPrimary_139 ⟨Nat.le_refl _, Nat.le_refl _⟩ (fun H locs hP hD hS => ?_)
    clear hc9
    refine lv_pop hx hb d_Exprs_checkPrimary_142 rfl ?_
    refine lv_iconst (v := 1) hx hb d_Exprs_checkPrimary_143 (by decide) ?_
    obtain ⟨e1, -, e3⟩ := re_e hR
    subst e1; subst e3
    exact W.iret (v := (1 : Int32)) hx hb hr (fun t ht hW => ⟨⟨(1 : Int32), (), rfl, rfl, by rw [ht]; exact hP, va_K.moved hW.alike hK, hD⟩, hS.F ht⟩) hS.2.2 d_Exprs_checkPrimary_144
  replace hR := if_n c7 hR
  by_cases c11 : T0.1 11 p1.toNatClampNeg = (27 : Int32)
  · replace hR := if_p c11 hR
    refine lv_lookup (off := 126) (tgt := 145) hx hb d_Exprs_checkPrimary_19 (by decide) (by rw [c11]; decide) (by decide) ?_
    refine lv_aload_n hx hb d_Exprs_checkPrimary_145 rfl (lv_at hl 1 rfl) ?_
    refine rd_Exprs_35 hx hb hT hown hK hP d_Exprs_checkPrimary_146 ?_
    refine lv_iconst (v := 2) hx hb d_Exprs_checkPrimary_149 (by decide) ?_
    refine lv_iconst (v := 0) hx hb d_Exprs_checkPrimary_150 (by decide) ?_
    refine lv_iconst (v := 0) hx hb d_Exprs_checkPrimary_151 (by decide) ?_
    replace hR := bi_e hR
    obtain ⟨r12, l12, T12, hc12, hR⟩ := hR
    refine gcV_i (rest := []) ⟨hx, hb, hml, hown, hT⟩ (h_Code_emit _ _ _ _ _ _ _ hc12) (cwV 3 hT (gV ml_Exprs_94 im_Code_emit se_Code_emit ini_Code co_Code_emit) rfl rfl rfl pd_Code_emit ⟨rm_hi, rm_lo (Nat.le_of_ble_eq_true rfl)⟩) hK hP hD hS hA hnw henv (Nat.le_of_ble_eq_true rfl) rfl rfl hl.1 rfl (Nat.le_of_ble_eq_true rfl) d_Exprs_checkPrimary_152 ⟨Nat.le_refl _, Nat.le_refl _⟩ (fun H locs hP hD hS => ?_)
    clear hc12
    refine lv_pop hx hb d_Exprs_checkPrimary_155 rfl ?_
    refine lv_iconst (v := 2) hx hb d_Exprs_checkPrimary_156 (by decide) ?_
    obtain ⟨e1, -, e3⟩ := re_e hR
    subst e1; subst e3
    exact W.iret (v := (2 : Int32)) hx hb hr (fun t ht hW => ⟨⟨(2 : Int32), (), rfl, rfl, by rw [ht]; exact hP, va_K.moved hW.alike hK, hD⟩, hS.F ht⟩) hS.2.2 d_Exprs_checkPrimary_157
  replace hR := if_n c11 hR
  by_cases c14 : T0.1 11 p1.toNatClampNeg = (28 : Int32)
  · replace hR := if_p c14 hR
    refine lv_lookup (off := 219) (tgt := 238) hx hb d_Exprs_checkPrimary_19 (by decide) (by rw [c14]; decide) (by decide) ?_
    refine lv_aload_n hx hb d_Exprs_checkPrimary_238 rfl (lv_at hl 1 rfl) ?_
    refine lv_iload_n hx hb d_Exprs_checkPrimary_239 rfl (lv_at hl 2 rfl) ?_
    refine lv_iload_n hx hb d_Exprs_checkPrimary_240 rfl (lv_at hl 3 rfl) ?_
    replace hR := bi_e hR
    obtain ⟨r15, l15, T15, hc15, hR⟩ := hR
    refine gcV_i (rest := []) ⟨hx, hb, hml, hown, hT⟩ (h_Exprs_checkNew _ _ _ _ _ _ hc15) (cwV 2 hT (gV ml_Exprs_201 im_Exprs_checkNew se_Exprs_checkNew ini_Exprs co_Exprs_checkNew) rfl rfl rfl pd_Exprs_checkNew ⟨rm_hi, rm_lo (Nat.le_of_ble_eq_true rfl)⟩) hK hP hD hS hA hnw henv (Nat.le_of_ble_eq_true rfl) rfl rfl hl.1 rfl (Nat.le_of_ble_eq_true rfl) d_Exprs_checkPrimary_241 ⟨Nat.le_refl _, Nat.le_refl _⟩ (fun H locs hP hD hS => ?_)
    clear hc15
    obtain ⟨e1, -, e3⟩ := re_e hR
    subst e1; subst e3
    exact W.iret (v := r15) hx hb hr (fun t ht hW => ⟨⟨r15, (), rfl, rfl, by rw [ht]; exact hP, va_K.moved hW.alike hK, hD⟩, hS.F ht⟩) hS.2.2 d_Exprs_checkPrimary_244
  replace hR := if_n c14 hR
  by_cases c17 : T0.1 11 p1.toNatClampNeg = (29 : Int32)
  · replace hR := if_p c17 hR
    refine lv_lookup (off := 226) (tgt := 245) hx hb d_Exprs_checkPrimary_19 (by decide) (by rw [c17]; decide) (by decide) ?_
    refine lv_aload_n hx hb d_Exprs_checkPrimary_245 rfl (lv_at hl 1 rfl) ?_
    refine lv_iload_n hx hb d_Exprs_checkPrimary_246 rfl (lv_at hl 2 rfl) ?_
    refine lv_iload_n hx hb d_Exprs_checkPrimary_247 rfl (lv_at hl 3 rfl) ?_
    replace hR := bi_e hR
    obtain ⟨r18, l18, T18, hc18, hR⟩ := hR
    refine gcV_i (rest := []) ⟨hx, hb, hml, hown, hT⟩ (h_Exprs_checkNewCell _ _ _ _ _ _ hc18) (cwV 2 hT (gV ml_Exprs_204 im_Exprs_checkNewCell se_Exprs_checkNewCell ini_Exprs co_Exprs_checkNewCell) rfl rfl rfl pd_Exprs_checkNewCell ⟨rm_hi, rm_lo (Nat.le_of_ble_eq_true rfl)⟩) hK hP hD hS hA hnw henv (Nat.le_of_ble_eq_true rfl) rfl rfl hl.1 rfl (Nat.le_of_ble_eq_true rfl) d_Exprs_checkPrimary_248 ⟨Nat.le_refl _, Nat.le_refl _⟩ (fun H locs hP hD hS => ?_)
    clear hc18
    obtain ⟨e1, -, e3⟩ := re_e hR
    subst e1; subst e3
    exact W.iret (v := r18) hx hb hr (fun t ht hW => ⟨⟨r18, (), rfl, rfl, by rw [ht]; exact hP, va_K.moved hW.alike hK, hD⟩, hS.F ht⟩) hS.2.2 d_Exprs_checkPrimary_251
  replace hR := if_n c17 hR
  by_cases c20 : T0.1 11 p1.toNatClampNeg = (30 : Int32)
  · replace hR := if_p c20 hR
    refine lv_lookup (off := 233) (tgt := 252) hx hb d_Exprs_checkPrimary_19 (by decide) (by rw [c20]; decide) (by decide) ?_
    refine lv_aload_n hx hb d_Exprs_checkPrimary_252 rfl (lv_at hl 1 rfl) ?_
    refine lv_iload_n hx hb d_Exprs_checkPrimary_253 rfl (lv_at hl 2 rfl) ?_
    refine lv_iload_n hx hb d_Exprs_checkPrimary_254 rfl (lv_at hl 3 rfl) ?_
    replace hR := bi_e hR
    obtain ⟨r21, l21, T21, hc21, hR⟩ := hR
    refine gcV_i (rest := []) ⟨hx, hb, hml, hown, hT⟩ (h_Exprs_checkNewRow _ _ _ _ _ _ hc21) (cwV 2 hT (gV ml_Exprs_207 im_Exprs_checkNewRow se_Exprs_checkNewRow ini_Exprs co_Exprs_checkNewRow) rfl rfl rfl pd_Exprs_checkNewRow ⟨rm_hi, rm_lo (Nat.le_of_ble_eq_true rfl)⟩) hK hP hD hS hA hnw henv (Nat.le_of_ble_eq_true rfl) rfl rfl hl.1 rfl (Nat.le_of_ble_eq_true rfl) d_Exprs_checkPrimary_255 ⟨Nat.le_refl _, Nat.le_refl _⟩ (fun H locs hP hD hS => ?_)
    clear hc21
    obtain ⟨e1, -, e3⟩ := re_e hR
    subst e1; subst e3
    exact W.iret (v := r21) hx hb hr (fun t ht hW => ⟨⟨r21, (), rfl, rfl, by rw [ht]; exact hP, va_K.moved hW.alike hK, hD⟩, hS.F ht⟩) hS.2.2 d_Exprs_checkPrimary_258
  replace hR := if_n c20 hR
  by_cases c23 : T0.1 11 p1.toNatClampNeg = (31 : Int32)
  · replace hR := if_p c23 hR
    refine lv_lookup (off := 247) (tgt := 266) hx hb d_Exprs_checkPrimary_19 (by decide) (by rw [c23]; decide) (by decide) ?_
    refine lv_aload_n hx hb d_Exprs_checkPrimary_266 rfl (lv_at hl 1 rfl) ?_
    refine lv_iload_n hx hb d_Exprs_checkPrimary_267 rfl (lv_at hl 2 rfl) ?_
    refine lv_iload_n hx hb d_Exprs_checkPrimary_268 rfl (lv_at hl 3 rfl) ?_
    replace hR := bi_e hR
    obtain ⟨r24, l24, T24, hc24, hR⟩ := hR
    refine gcV_i (rest := []) ⟨hx, hb, hml, hown, hT⟩ (h_Exprs_checkSolid _ _ _ _ _ _ hc24) (cwV 2 hT (gV ml_Exprs_213 im_Exprs_checkSolid se_Exprs_checkSolid ini_Exprs co_Exprs_checkSolid) rfl rfl rfl pd_Exprs_checkSolid ⟨rm_hi, rm_lo (Nat.le_of_ble_eq_true rfl)⟩) hK hP hD hS hA hnw henv (Nat.le_of_ble_eq_true rfl) rfl rfl hl.1 rfl (Nat.le_of_ble_eq_true rfl) d_Exprs_checkPrimary_269 ⟨Nat.le_refl _, Nat.le_refl _⟩ (fun H locs hP hD hS => ?_)
    clear hc24
    obtain ⟨e1, -, e3⟩ := re_e hR
    subst e1; subst e3
    exact W.iret (v := r24) hx hb hr (fun t ht hW => ⟨⟨r24, (), rfl, rfl, by rw [ht]; exact hP, va_K.moved hW.alike hK, hD⟩, hS.F ht⟩) hS.2.2 d_Exprs_checkPrimary_272
  replace hR := if_n c23 hR
  by_cases c26 : T0.1 11 p1.toNatClampNeg = (32 : Int32)
  · replace hR := if_p c26 hR
    refine lv_lookup (off := 254) (tgt := 273) hx hb d_Exprs_checkPrimary_19 (by decide) (by rw [c26]; decide) (by decide) ?_
    refine lv_aload_n hx hb d_Exprs_checkPrimary_273 rfl (lv_at hl 1 rfl) ?_
    refine lv_iload_n hx hb d_Exprs_checkPrimary_274 rfl (lv_at hl 2 rfl) ?_
    refine lv_iload_n hx hb d_Exprs_checkPrimary_275 rfl (lv_at hl 3 rfl) ?_
    replace hR := bi_e hR
    obtain ⟨r27, l27, T27, hc27, hR⟩ := hR
    refine gcV_i (rest := []) ⟨hx, hb, hml, hown, hT⟩ (h_Exprs_checkSize _ _ _ _ _ _ hc27) (cwV 2 hT (gV ml_Exprs_216 im_Exprs_checkSize se_Exprs_checkSize ini_Exprs co_Exprs_checkSize) rfl rfl rfl pd_Exprs_checkSize ⟨rm_hi, rm_lo (Nat.le_of_ble_eq_true rfl)⟩) hK hP hD hS hA hnw henv (Nat.le_of_ble_eq_true rfl) rfl rfl hl.1 rfl (Nat.le_of_ble_eq_true rfl) d_Exprs_checkPrimary_276 ⟨Nat.le_refl _, Nat.le_refl _⟩ (fun H locs hP hD hS => ?_)
    clear hc27
    obtain ⟨e1, -, e3⟩ := re_e hR
    subst e1; subst e3
    exact W.iret (v := r27) hx hb hr (fun t ht hW => ⟨⟨r27, (), rfl, rfl, by rw [ht]; exact hP, va_K.moved hW.alike hK, hD⟩, hS.F ht⟩) hS.2.2 d_Exprs_checkPrimary_279
  replace hR := if_n c26 hR
  by_cases c29 : T0.1 11 p1.toNatClampNeg = (34 : Int32)
  · replace hR := if_p c29 hR
    refine lv_lookup (off := 139) (tgt := 158) hx hb d_Exprs_checkPrimary_19 (by decide) (by rw [c29]; decide) (by decide) ?_
    refine lv_aload_n hx hb d_Exprs_checkPrimary_158 rfl (lv_at hl 1 rfl) ?_
    refine rd_Exprs_35 hx hb hT hown hK hP d_Exprs_checkPrimary_159 ?_
    refine lv_bipush (v := 6) hx hb d_Exprs_checkPrimary_162 (by decide) ?_
    refine lv_iconst (v := 0) hx hb d_Exprs_checkPrimary_164 (by decide) ?_
    refine lv_iconst (v := 0) hx hb d_Exprs_checkPrimary_165 (by decide) ?_
    replace hR := bi_e hR
    obtain ⟨r30, l30, T30, hc30, hR⟩ := hR
    refine gcV_i (rest := []) ⟨hx, hb, hml, hown, hT⟩ (h_Code_emit _ _ _ _ _ _ _ hc30) (cwV 3 hT (gV ml_Exprs_94 im_Code_emit se_Code_emit ini_Code co_Code_emit) rfl rfl rfl pd_Code_emit ⟨rm_hi, rm_lo (Nat.le_of_ble_eq_true rfl)⟩) hK hP hD hS hA hnw henv (Nat.le_of_ble_eq_true rfl) rfl rfl hl.1 rfl (Nat.le_of_ble_eq_true rfl) d_Exprs_checkPrimary_166 ⟨Nat.le_refl _, Nat.le_refl _⟩ (fun H locs hP hD hS => ?_)
    clear hc30
    refine lv_pop hx hb d_Exprs_checkPrimary_169 rfl ?_
    refine lv_iconst (v := 1) hx hb d_Exprs_checkPrimary_170 (by decide) ?_
    obtain ⟨e1, -, e3⟩ := re_e hR
    subst e1; subst e3
    exact W.iret (v := (1 : Int32)) hx hb hr (fun t ht hW => ⟨⟨(1 : Int32), (), rfl, rfl, by rw [ht]; exact hP, va_K.moved hW.alike hK, hD⟩, hS.F ht⟩) hS.2.2 d_Exprs_checkPrimary_171
  replace hR := if_n c29 hR
  by_cases c32 : T0.1 11 p1.toNatClampNeg = (35 : Int32)
  · replace hR := if_p c32 hR
    refine lv_lookup (off := 153) (tgt := 172) hx hb d_Exprs_checkPrimary_19 (by decide) (by rw [c32]; decide) (by decide) ?_
    refine lv_aload_n hx hb d_Exprs_checkPrimary_172 rfl (lv_at hl 1 rfl) ?_
    refine lv_aload_n hx hb d_Exprs_checkPrimary_173 rfl (lv_at hl 1 rfl) ?_
    refine rd_Exprs_34 hx hb hT hown hK hP d_Exprs_checkPrimary_174 ?_
    refine rd_Exprs_191 hx hb hT hown hK hP d_Exprs_checkPrimary_177 ?_
    refine lv_if_le (tgt := 187) hx hb d_Exprs_checkPrimary_180 (by decide) (fun c33 => ?_) (fun c33 => ?_)
    · replace hR := if_p c33 hR
      refine lv_iconst (v := 0) hx hb d_Exprs_checkPrimary_187 (by decide) ?_
      have g := lb_188 T0 z2 (0 : Int32) hR
      rw [hG] at g
      exact g _ _ hP hD hS _ (lv_sub hl [1, 0] rfl)
    · replace hR := if_n c33 hR
      refine lv_iconst (v := 1) hx hb d_Exprs_checkPrimary_183 (by decide) ?_
      refine lv_goto (tgt := 188) hx hb d_Exprs_checkPrimary_184 (by decide) ?_
      have g := lb_188 T0 z2 (1 : Int32) hR
      rw [hG] at g
      exact g _ _ hP hD hS _ (lv_sub hl [1, 0] rfl)
  replace hR := if_n c32 hR
  by_cases c34 : T0.1 11 p1.toNatClampNeg = (58 : Int32)
  · replace hR := if_p c34 hR
    refine lv_lookup (off := 240) (tgt := 259) hx hb d_Exprs_checkPrimary_19 (by decide) (by rw [c34]; decide) (by decide) ?_
    refine lv_aload_n hx hb d_Exprs_checkPrimary_259 rfl (lv_at hl 1 rfl) ?_
    refine lv_iload_n hx hb d_Exprs_checkPrimary_260 rfl (lv_at hl 2 rfl) ?_
    refine lv_iload_n hx hb d_Exprs_checkPrimary_261 rfl (lv_at hl 3 rfl) ?_
    replace hR := bi_e hR
    obtain ⟨r35, l35, T35, hc35, hR⟩ := hR
    refine gcV_i (rest := []) ⟨hx, hb, hml, hown, hT⟩ (h_Exprs_checkAddress _ _ _ _ _ _ hc35) (cwV 2 hT (gV ml_Exprs_210 im_Exprs_checkAddress se_Exprs_checkAddress ini_Exprs co_Exprs_checkAddress) rfl rfl rfl pd_Exprs_checkAddress ⟨rm_hi, rm_lo (Nat.le_of_ble_eq_true rfl)⟩) hK hP hD hS hA hnw henv (Nat.le_of_ble_eq_true rfl) rfl rfl hl.1 rfl (Nat.le_of_ble_eq_true rfl) d_Exprs_checkPrimary_262 ⟨Nat.le_refl _, Nat.le_refl _⟩ (fun H locs hP hD hS => ?_)
    clear hc35
    obtain ⟨e1, -, e3⟩ := re_e hR
    subst e1; subst e3
    exact W.iret (v := r35) hx hb hr (fun t ht hW => ⟨⟨r35, (), rfl, rfl, by rw [ht]; exact hP, va_K.moved hW.alike hK, hD⟩, hS.F ht⟩) hS.2.2 d_Exprs_checkPrimary_265
  replace hR := if_n c34 hR
  by_cases c37 : T0.1 11 p1.toNatClampNeg = (63 : Int32)
  · replace hR := if_p c37 hR
    refine lv_lookup (off := 212) (tgt := 231) hx hb d_Exprs_checkPrimary_19 (by decide) (by rw [c37]; decide) (by decide) ?_
    refine lv_aload_n hx hb d_Exprs_checkPrimary_231 rfl (lv_at hl 1 rfl) ?_
    refine lv_iload_n hx hb d_Exprs_checkPrimary_232 rfl (lv_at hl 2 rfl) ?_
    refine lv_iload_n hx hb d_Exprs_checkPrimary_233 rfl (lv_at hl 3 rfl) ?_
    replace hR := bi_e hR
    obtain ⟨r38, l38, T38, hc38, hR⟩ := hR
    refine gcV_i (rest := []) ⟨hx, hb, hml, hown, hT⟩ (h_Exprs_checkCall _ _ _ _ _ _ hc38) (cwV 2 hT (gV ml_Exprs_198 im_Exprs_checkCall se_Exprs_checkCall ini_Exprs co_Exprs_checkCall) rfl rfl rfl pd_Exprs_checkCall ⟨rm_hi, rm_lo (Nat.le_of_ble_eq_true rfl)⟩) hK hP hD hS hA hnw henv (Nat.le_of_ble_eq_true rfl) rfl rfl hl.1 rfl (Nat.le_of_ble_eq_true rfl) d_Exprs_checkPrimary_234 ⟨Nat.le_refl _, Nat.le_refl _⟩ (fun H locs hP hD hS => ?_)
    clear hc38
    obtain ⟨e1, -, e3⟩ := re_e hR
    subst e1; subst e3
    exact W.iret (v := r38) hx hb hr (fun t ht hW => ⟨⟨r38, (), rfl, rfl, by rw [ht]; exact hP, va_K.moved hW.alike hK, hD⟩, hS.F ht⟩) hS.2.2 d_Exprs_checkPrimary_237
  replace hR := if_n c37 hR
  refine lv_lookup (off := 261) (tgt := 280) hx hb d_Exprs_checkPrimary_19 (by decide) ((lv_osw c4 rfl).trans ((lv_osw c7 rfl).trans ((lv_osw c11 rfl).trans ((lv_osw c14 rfl).trans ((lv_osw c17 rfl).trans ((lv_osw c20 rfl).trans ((lv_osw c23 rfl).trans ((lv_osw c26 rfl).trans ((lv_osw c29 rfl).trans ((lv_osw c32 rfl).trans ((lv_osw c34 rfl).trans ((lv_osw c37 rfl).trans rfl)))))))))))) (by decide) ?_
  refine lv_aload_n hx hb d_Exprs_checkPrimary_280 rfl (lv_at hl 1 rfl) ?_
  refine lv_aload_n hx hb d_Exprs_checkPrimary_281 rfl (lv_at hl 1 rfl) ?_
  refine rd_Exprs_9 hx hb hT hown hK hP d_Exprs_checkPrimary_282 ?_
  refine rd_Exprs_188 hx hb hT hown hK hP d_Exprs_checkPrimary_285 ?_
  refine lv_iload_n hx hb d_Exprs_checkPrimary_288 rfl (lv_at hl 2 rfl) ?_
  replace hR := gd_e hR
  obtain ⟨b41, hR⟩ := hR
  refine laH_7 hx hb hK hP b41 d_Exprs_checkPrimary_289 ?_
  refine lv_iload_n hx hb d_Exprs_checkPrimary_290 rfl (lv_at hl 3 rfl) ?_
  refine lv_iconst (v := 1) hx hb d_Exprs_checkPrimary_291 (by decide) ?_
  refine lv_iadd hx hb d_Exprs_checkPrimary_292 ?_
  replace hR := bi_e hR
  obtain ⟨r42, l42, T42, hc42, hR⟩ := hR
  refine gcV_i (rest := []) ⟨hx, hb, hml, hown, hT⟩ (h_Exprs_check _ _ _ _ _ _ hc42) (cwV 2 hT (gV ml_Exprs_53 im_Exprs_check se_Exprs_check ini_Exprs co_Exprs_check) rfl rfl rfl pd_Exprs_check ⟨rm_hi, rm_lo (Nat.le_of_ble_eq_true rfl)⟩) hK hP hD hS hA hnw henv (Nat.le_of_ble_eq_true rfl) rfl rfl hl.1 rfl (Nat.le_of_ble_eq_true rfl) d_Exprs_checkPrimary_293 ⟨Nat.le_refl _, Nat.le_refl _⟩ (fun H locs hP hD hS => ?_)
  clear hc42
  obtain ⟨e1, -, e3⟩ := re_e hR
  subst e1; subst e3
  exact W.iret (v := r42) hx hb hr (fun t ht hW => ⟨⟨r42, (), rfl, rfl, by rw [ht]; exact hP, va_K.moved hW.alike hK, hD⟩, hS.F ht⟩) hS.2.2 d_Exprs_checkPrimary_296
set_option maxHeartbeats 4000000 in
set_option maxRecDepth 100000 in
theorem sp_Exprs_checkName (l : Launch) (dC : Nat → ClassId) (dI : Nat → Nat → Nat) (ea ev ad : Nat → Nat) (km : Nat → ClassId) (F : gF) (nf d : Nat) (h_Source_nameAt : mt_Source_nameAt l dC dI ea ev ad km F d) (h_Scope_findVar : mt_Scope_findVar l dC dI ea ev ad km F d) (h_Scope_isSet : mt_Scope_isSet l dC dI ea ev ad km F d) (h_Source_startOf : mt_Source_startOf l dC dI ea ev ad km F d) (h_Exprs_demand : mt_Exprs_demand l dC dI ea ev ad km F d) (h_Scope_typeOf : mt_Scope_typeOf l dC dI ea ev ad km F d) (h_Scope_slotOf : mt_Scope_slotOf l dC dI ea ev ad km F d) (h_Types_wordsOf : mt_Types_wordsOf l dC dI ea ev ad km F d) (h_Code_emit : mt_Code_emit l dC dI ea ev ad km F d) (h_Types_kindOf : mt_Types_kindOf l dC dI ea ev ad km F d) (h_Scope_isKnown : mt_Scope_isKnown l dC dI ea ev ad km F d) (h_Exprs_solidOf : mt_Exprs_solidOf l dC dI ea ev ad km F d) (h_Code_note : mt_Code_note l dC dI ea ev ad km F d) (T0 : gSt) (p1 : Int32) (r0 : Int32) (rl0 : Int64) (T9 : gSt) (hR : rb_Exprs_checkName F nf T0 p1 = some (r0, rl0, T9)) : GMi l dC dI LH ad km ea ev y_Exprs_checkName w_Exprs_checkName (rmD (d + 1)) [.ref (ad 8), .int p1] T0 r0 T9 := by
  intro sz
  refine Met.ofW (cc := b_Exprs_checkName) (maxL := 5) (ret := (some .int)) (by decide) rfl ?_
  intro p e s m args below meth c s₁ B hml hv
  obtain ⟨rfl, hsz, hP, hK, hD0, hnw, henv⟩ := hv
  have hx := B.exec
  have hb := B.bytes
  have hr := B.returns
  have hT : ∀ w ∈ lw_good, w.before _ s = true := fun w h => atoms_spec (ws := w_Exprs_checkName) B.pre w (List.mem_cons_of_mem _ h)
  have hown : s.vm.findClass R_Exprs = some m.cls := findClass_of_methodNamed B.named
  subst hsz
  have hD := hD0.self (sz := s.heap.size)
  clear hD0
  generalize hAe : va_A (gW LH ad km T0) s.heap.size = A at hD henv ⊢
  have hA : ∀ q : Nat, s.heap.size ≤ q → A q := fun q h => by rw [← hAe]; exact Or.inr h
  have hS : va_S A s.heap s.heap [] := va_S.rf
  have hl := lv_entry ([.ref (ad 8), .int p1]) (n := 5) (Nat.le_of_ble_eq_true rfl)
  rw [lg_entry_eq]
  generalize (lg_sl ([.ref (ad 8), .int p1]) ++ List.replicate (5 - (lg_sl ([.ref (ad 8), .int p1])).length) Slot.unset).toArray = ls at hl ⊢
  have hl : lv_has ls 5 [(0, .ref (ad 8)), (1, .int p1)] := hl
  unfold rb_Exprs_checkName at hR
  refine lv_aload_n hx hb d_Exprs_checkName_0 rfl (lv_at hl 0 rfl) ?_
  refine rd_Exprs_34 hx hb hT hown hK hP d_Exprs_checkName_1 ?_
  refine lv_aload_n hx hb d_Exprs_checkName_4 rfl (lv_at hl 0 rfl) ?_
  refine rd_Exprs_9 hx hb hT hown hK hP d_Exprs_checkName_5 ?_
  refine lv_iload_n hx hb d_Exprs_checkName_8 rfl (lv_at hl 1 rfl) ?_
  replace hR := bi_e hR
  obtain ⟨r1, l1, T1, hc1, hR⟩ := hR
  refine gcV_l (rest := [.ref (ad 6)]) ⟨hx, hb, hml, hown, hT⟩ (h_Source_nameAt _ _ _ _ _ hc1) (cwV 1 hT (gV ml_Exprs_149 im_Source_nameAt se_Source_nameAt ini_Source co_Source_nameAt) rfl rfl rfl pd_Source_nameAt ⟨rm_hi, rm_lo (Nat.le_of_ble_eq_true rfl)⟩) hK hP hD hS hA hnw henv (Nat.le_of_ble_eq_true rfl) rfl rfl hl.1 rfl (Nat.le_of_ble_eq_true rfl) d_Exprs_checkName_9 ⟨Nat.le_refl _, Nat.le_refl _⟩ (fun H locs hP hD hS => ?_)
  clear hc1
  replace hR := bi_e hR
  obtain ⟨r2, l2, T2, hc2, hR⟩ := hR
  refine gcV_i (rest := []) ⟨hx, hb, hml, hown, hT⟩ (h_Scope_findVar _ _ _ _ _ hc2) (cwV 1 hT (gV ml_Exprs_219 im_Scope_findVar se_Scope_findVar ini_Scope co_Scope_findVar) rfl rfl rfl pd_Scope_findVar ⟨rm_hi, rm_lo (Nat.le_of_ble_eq_true rfl)⟩) hK hP hD hS hA hnw henv (Nat.le_of_ble_eq_true rfl) rfl rfl hl.1 rfl (Nat.le_of_ble_eq_true rfl) d_Exprs_checkName_12 ⟨Nat.le_refl _, Nat.le_refl _⟩ (fun H locs hP hD hS => ?_)
  clear hc2
  refine lv_istore_n (lv' := [(2, .int r2), (0, .ref (ad 8)), (1, .int p1)]) hx hb d_Exprs_checkName_15 rfl hl (by decide) rfl (fun ls hl => ?_)
  refine lv_iload_n hx hb d_Exprs_checkName_16 rfl (lv_at hl 0 rfl) ?_
  refine lv_iconst (v := (-1)) hx hb d_Exprs_checkName_17 (by decide) ?_
  refine lv_icmp_ne (tgt := 39) hx hb d_Exprs_checkName_18 (by decide) (fun c3 => ?_) (fun c3 => ?_)
  · replace hR := if_n c3 hR
    refine lv_aload_n hx hb d_Exprs_checkName_39 rfl (lv_at hl 1 rfl) ?_
    refine lv_aload_n hx hb d_Exprs_checkName_40 rfl (lv_at hl 1 rfl) ?_
    refine rd_Exprs_34 hx hb hT hown hK hP d_Exprs_checkName_41 ?_
    refine lv_iload_n hx hb d_Exprs_checkName_44 rfl (lv_at hl 0 rfl) ?_
    replace hR := bi_e hR
    obtain ⟨r4, l4, T4, hc4, hR⟩ := hR
    refine gcV_i (rest := [.ref (ad 8)]) ⟨hx, hb, hml, hown, hT⟩ (h_Scope_isSet _ _ _ _ _ hc4) (cwV 1 hT (gV ml_Exprs_223 im_Scope_isSet se_Scope_isSet ini_Scope co_Scope_isSet) rfl rfl rfl pd_Scope_isSet ⟨rm_hi, rm_lo (Nat.le_of_ble_eq_true rfl)⟩) hK hP hD hS hA hnw henv (Nat.le_of_ble_eq_true rfl) rfl rfl hl.1 rfl (Nat.le_of_ble_eq_true rfl) d_Exprs_checkName_45 ⟨Nat.le_refl _, Nat.le_refl _⟩ (fun H locs hP hD hS => ?_)
    clear hc4
    refine lv_bipush (v := 6) hx hb d_Exprs_checkName_48 (by decide) ?_
    refine lv_aload_n hx hb d_Exprs_checkName_50 rfl (lv_at hl 1 rfl) ?_
    refine rd_Exprs_9 hx hb hT hown hK hP d_Exprs_checkName_51 ?_
    refine lv_iload_n hx hb d_Exprs_checkName_54 rfl (lv_at hl 2 rfl) ?_
    replace hR := bi_e hR
    obtain ⟨r5, l5, T5, hc5, hR⟩ := hR
    refine gcV_i (rest := [.int (6 : Int32), .int r4, .ref (ad 8)]) ⟨hx, hb, hml, hown, hT⟩ (h_Source_startOf _ _ _ _ _ hc5) (cwV 1 hT (gV ml_Exprs_157 im_Source_startOf se_Source_startOf ini_Source co_Source_startOf) rfl rfl rfl pd_Source_startOf ⟨rm_hi, rm_lo (Nat.le_of_ble_eq_true rfl)⟩) hK hP hD hS hA hnw henv (Nat.le_of_ble_eq_true rfl) rfl rfl hl.1 rfl (Nat.le_of_ble_eq_true rfl) d_Exprs_checkName_55 ⟨Nat.le_refl _, Nat.le_refl _⟩ (fun H locs hP hD hS => ?_)
    clear hc5
    replace hR := bi_e hR
    obtain ⟨r6, l6, T6, hc6, hR⟩ := hR
    refine gcV_v (rest := []) ⟨hx, hb, hml, hown, hT⟩ (h_Exprs_demand _ _ _ _ _ _ _ hc6) (cwV 3 hT (gV ml_Exprs_111 im_Exprs_demand se_Exprs_demand ini_Exprs co_Exprs_demand) rfl rfl rfl pd_Exprs_demand ⟨rm_hi, rm_lo (Nat.le_of_ble_eq_true rfl)⟩) hK hP hD hS hA hnw henv (Nat.le_of_ble_eq_true rfl) rfl rfl hl.1 rfl (Nat.le_of_ble_eq_true rfl) d_Exprs_checkName_58 ⟨Nat.le_refl _, Nat.le_refl _⟩ (fun H locs hP hD hS => ?_)
    clear hc6
    refine lv_aload_n hx hb d_Exprs_checkName_61 rfl (lv_at hl 1 rfl) ?_
    refine rd_Exprs_34 hx hb hT hown hK hP d_Exprs_checkName_62 ?_
    refine lv_iload_n hx hb d_Exprs_checkName_65 rfl (lv_at hl 0 rfl) ?_
    replace hR := bi_e hR
    obtain ⟨r7, l7, T7, hc7, hR⟩ := hR
    refine gcV_i (rest := []) ⟨hx, hb, hml, hown, hT⟩ (h_Scope_typeOf _ _ _ _ _ hc7) (cwV 1 hT (gV ml_Exprs_226 im_Scope_typeOf se_Scope_typeOf ini_Scope co_Scope_typeOf) rfl rfl rfl pd_Scope_typeOf ⟨rm_hi, rm_lo (Nat.le_of_ble_eq_true rfl)⟩) hK hP hD hS hA hnw henv (Nat.le_of_ble_eq_true rfl) rfl rfl hl.1 rfl (Nat.le_of_ble_eq_true rfl) d_Exprs_checkName_66 ⟨Nat.le_refl _, Nat.le_refl _⟩ (fun H locs hP hD hS => ?_)
    clear hc7
    refine lv_istore_n (lv' := [(3, .int r7), (2, .int r2), (0, .ref (ad 8)), (1, .int p1)]) hx hb d_Exprs_checkName_69 rfl hl (by decide) rfl (fun ls hl => ?_)
    refine lv_aload_n hx hb d_Exprs_checkName_70 rfl (lv_at hl 2 rfl) ?_
    refine rd_Exprs_35 hx hb hT hown hK hP d_Exprs_checkName_71 ?_
    refine lv_iconst (v := 3) hx hb d_Exprs_checkName_74 (by decide) ?_
    refine lv_aload_n hx hb d_Exprs_checkName_75 rfl (lv_at hl 2 rfl) ?_
    refine rd_Exprs_34 hx hb hT hown hK hP d_Exprs_checkName_76 ?_
    refine lv_iload_n hx hb d_Exprs_checkName_79 rfl (lv_at hl 1 rfl) ?_
    replace hR := bi_e hR
    obtain ⟨r8, l8, T8, hc8, hR⟩ := hR
    refine gcV_i (rest := [.int (3 : Int32), .ref (ad 3)]) ⟨hx, hb, hml, hown, hT⟩ (h_Scope_slotOf _ _ _ _ _ hc8) (cwV 1 hT (gV ml_Exprs_229 im_Scope_slotOf se_Scope_slotOf ini_Scope co_Scope_slotOf) rfl rfl rfl pd_Scope_slotOf ⟨rm_hi, rm_lo (Nat.le_of_ble_eq_true rfl)⟩) hK hP hD hS hA hnw henv (Nat.le_of_ble_eq_true rfl) rfl rfl hl.1 rfl (Nat.le_of_ble_eq_true rfl) d_Exprs_checkName_80 ⟨Nat.le_refl _, Nat.le_refl _⟩ (fun H locs hP hD hS => ?_)
    clear hc8
    refine lv_aload_n hx hb d_Exprs_checkName_83 rfl (lv_at hl 2 rfl) ?_
    refine rd_Exprs_29 hx hb hT hown hK hP d_Exprs_checkName_84 ?_
    refine lv_iload_n hx hb d_Exprs_checkName_87 rfl (lv_at hl 0 rfl) ?_
    replace hR := bi_e hR
    obtain ⟨r9, l9, T9, hc9, hR⟩ := hR
    refine gcV_i (rest := [.int r8, .int (3 : Int32), .ref (ad 3)]) ⟨hx, hb, hml, hown, hT⟩ (h_Types_wordsOf _ _ _ _ _ hc9) (cwV 1 hT (gV ml_Exprs_179 im_Types_wordsOf se_Types_wordsOf ini_Types co_Types_wordsOf) rfl rfl rfl pd_Types_wordsOf ⟨rm_hi, rm_lo (Nat.le_of_ble_eq_true rfl)⟩) hK hP hD hS hA hnw henv (Nat.le_of_ble_eq_true rfl) rfl rfl hl.1 rfl (Nat.le_of_ble_eq_true rfl) d_Exprs_checkName_88 ⟨Nat.le_refl _, Nat.le_refl _⟩ (fun H locs hP hD hS => ?_)
    clear hc9
    replace hR := bi_e hR
    obtain ⟨r10, l10, T10, hc10, hR⟩ := hR
    refine gcV_i (rest := []) ⟨hx, hb, hml, hown, hT⟩ (h_Code_emit _ _ _ _ _ _ _ hc10) (cwV 3 hT (gV ml_Exprs_94 im_Code_emit se_Code_emit ini_Code co_Code_emit) rfl rfl rfl pd_Code_emit ⟨rm_hi, rm_lo (Nat.le_of_ble_eq_true rfl)⟩) hK hP hD hS hA hnw henv (Nat.le_of_ble_eq_true rfl) rfl rfl hl.1 rfl (Nat.le_of_ble_eq_true rfl) d_Exprs_checkName_91 ⟨Nat.le_refl _, Nat.le_refl _⟩ (fun H locs hP hD hS => ?_)
    clear hc10
    refine lv_pop hx hb d_Exprs_checkName_94 rfl ?_
    refine lv_aload_n hx hb d_Exprs_checkName_95 rfl (lv_at hl 2 rfl) ?_
    refine rd_Exprs_29 hx hb hT hown hK hP d_Exprs_checkName_96 ?_
    refine lv_iload_n hx hb d_Exprs_checkName_99 rfl (lv_at hl 0 rfl) ?_
    replace hR := bi_e hR
    obtain ⟨r11, l11, T11, hc11, hR⟩ := hR
    refine gcV_i (rest := []) ⟨hx, hb, hml, hown, hT⟩ (h_Types_kindOf _ _ _ _ _ hc11) (cwV 1 hT (gV ml_Exprs_74 im_Types_kindOf se_Types_kindOf ini_Types co_Types_kindOf) rfl rfl rfl pd_Types_kindOf ⟨rm_hi, rm_lo (Nat.le_of_ble_eq_true rfl)⟩) hK hP hD hS hA hnw henv (Nat.le_of_ble_eq_true rfl) rfl rfl hl.1 rfl (Nat.le_of_ble_eq_true rfl) d_Exprs_checkName_100 ⟨Nat.le_refl _, Nat.le_refl _⟩ (fun H locs hP hD hS => ?_)
    clear hc11
    refine lv_iconst (v := 4) hx hb d_Exprs_checkName_103 (by decide) ?_
    refine lv_icmp_ne (tgt := 122) hx hb d_Exprs_checkName_104 (by decide) (fun c12 => ?_) (fun c12 => ?_)
    · replace hR := if_n c12 hR
      refine lv_iconst (v := 0) hx hb d_Exprs_checkName_122 (by decide) ?_
      refine lv_istore (lv' := [(4, .int (0 : Int32)), (3, .int r7), (2, .int r2), (0, .ref (ad 8)), (1, .int p1)]) hx hb d_Exprs_checkName_123 hl (by decide) rfl (fun ls hl => ?_)
      refine lv_iload hx hb d_Exprs_checkName_125 (lv_at hl 0 rfl) ?_
      refine lv_if_eq (tgt := 138) hx hb d_Exprs_checkName_127 (by decide) (fun _ => ?_) (fun c13 => absurd (by decide) c13)
      refine lv_iload_n hx hb d_Exprs_checkName_138 rfl (lv_at hl 1 rfl) ?_
      obtain ⟨e1, -, e3⟩ := re_e hR
      subst e1; subst e3
      exact W.iret (v := r7) hx hb hr (fun t ht hW => ⟨⟨r7, (), rfl, rfl, by rw [ht]; exact hP, va_K.moved hW.alike hK, hD⟩, hS.F ht⟩) hS.2.2 d_Exprs_checkName_139
    · replace hR := if_p c12 hR
      refine lv_aload_n hx hb d_Exprs_checkName_107 rfl (lv_at hl 2 rfl) ?_
      refine rd_Exprs_34 hx hb hT hown hK hP d_Exprs_checkName_108 ?_
      refine lv_iload_n hx hb d_Exprs_checkName_111 rfl (lv_at hl 1 rfl) ?_
      replace hR := bi_e hR
      obtain ⟨r15, l15, T15, hc15, hR⟩ := hR
      refine gcV_i (rest := []) ⟨hx, hb, hml, hown, hT⟩ (h_Scope_isKnown _ _ _ _ _ hc15) (cwV 1 hT (gV ml_Exprs_232 im_Scope_isKnown se_Scope_isKnown ini_Scope co_Scope_isKnown) rfl rfl rfl pd_Scope_isKnown ⟨rm_hi, rm_lo (Nat.le_of_ble_eq_true rfl)⟩) hK hP hD hS hA hnw henv (Nat.le_of_ble_eq_true rfl) rfl rfl hl.1 rfl (Nat.le_of_ble_eq_true rfl) d_Exprs_checkName_112 ⟨Nat.le_refl _, Nat.le_refl _⟩ (fun H locs hP hD hS => ?_)
      clear hc15
      refine lv_if_eq (tgt := 122) hx hb d_Exprs_checkName_115 (by decide) (fun c16 => ?_) (fun c16 => ?_)
      · replace hR := if_p c16 hR
        refine lv_iconst (v := 0) hx hb d_Exprs_checkName_122 (by decide) ?_
        refine lv_istore (lv' := [(4, .int (0 : Int32)), (3, .int r7), (2, .int r2), (0, .ref (ad 8)), (1, .int p1)]) hx hb d_Exprs_checkName_123 hl (by decide) rfl (fun ls hl => ?_)
        refine lv_iload hx hb d_Exprs_checkName_125 (lv_at hl 0 rfl) ?_
        refine lv_if_eq (tgt := 138) hx hb d_Exprs_checkName_127 (by decide) (fun _ => ?_) (fun c17 => absurd (by decide) c17)
        refine lv_iload_n hx hb d_Exprs_checkName_138 rfl (lv_at hl 1 rfl) ?_
        obtain ⟨e1, -, e3⟩ := re_e hR
        subst e1; subst e3
        exact W.iret (v := r7) hx hb hr (fun t ht hW => ⟨⟨r7, (), rfl, rfl, by rw [ht]; exact hP, va_K.moved hW.alike hK, hD⟩, hS.F ht⟩) hS.2.2 d_Exprs_checkName_139
      · replace hR := if_n c16 hR
        refine lv_iconst (v := 1) hx hb d_Exprs_checkName_118 (by decide) ?_
        refine lv_goto (tgt := 123) hx hb d_Exprs_checkName_119 (by decide) ?_
        refine lv_istore (lv' := [(4, .int (1 : Int32)), (3, .int r7), (2, .int r2), (0, .ref (ad 8)), (1, .int p1)]) hx hb d_Exprs_checkName_123 hl (by decide) rfl (fun ls hl => ?_)
        refine lv_iload hx hb d_Exprs_checkName_125 (lv_at hl 0 rfl) ?_
        refine lv_if_eq (tgt := 138) hx hb d_Exprs_checkName_127 (by decide) (fun c19 => absurd c19 (by decide)) (fun _ => ?_)
        refine lv_aload_n hx hb d_Exprs_checkName_130 rfl (lv_at hl 3 rfl) ?_
        refine lv_iload_n hx hb d_Exprs_checkName_131 rfl (lv_at hl 1 rfl) ?_
        replace hR := bi_e hR
        obtain ⟨r20, l20, T20, hc20, hR⟩ := hR
        refine gcV_i (rest := []) ⟨hx, hb, hml, hown, hT⟩ (h_Exprs_solidOf _ _ _ _ _ hc20) (cwV 1 hT (gV ml_Exprs_235 im_Exprs_solidOf se_Exprs_solidOf ini_Exprs co_Exprs_solidOf) rfl rfl rfl pd_Exprs_solidOf ⟨rm_hi, rm_lo (Nat.le_of_ble_eq_true rfl)⟩) hK hP hD hS hA hnw henv (Nat.le_of_ble_eq_true rfl) rfl rfl hl.1 rfl (Nat.le_of_ble_eq_true rfl) d_Exprs_checkName_132 ⟨Nat.le_refl _, Nat.le_refl _⟩ (fun H locs hP hD hS => ?_)
        clear hc20
        refine lv_goto (tgt := 139) hx hb d_Exprs_checkName_135 (by decide) ?_
        obtain ⟨e1, -, e3⟩ := re_e hR
        subst e1; subst e3
        exact W.iret (v := r20) hx hb hr (fun t ht hW => ⟨⟨r20, (), rfl, rfl, by rw [ht]; exact hP, va_K.moved hW.alike hK, hD⟩, hS.F ht⟩) hS.2.2 d_Exprs_checkName_139
  · replace hR := if_p c3 hR
    refine lv_aload_n hx hb d_Exprs_checkName_21 rfl (lv_at hl 1 rfl) ?_
    refine rd_Exprs_35 hx hb hT hown hK hP d_Exprs_checkName_22 ?_
    refine lv_iconst (v := 3) hx hb d_Exprs_checkName_25 (by decide) ?_
    refine lv_aload_n hx hb d_Exprs_checkName_26 rfl (lv_at hl 1 rfl) ?_
    refine rd_Exprs_9 hx hb hT hown hK hP d_Exprs_checkName_27 ?_
    refine lv_iload_n hx hb d_Exprs_checkName_30 rfl (lv_at hl 2 rfl) ?_
    replace hR := bi_e hR
    obtain ⟨r22, l22, T22, hc22, hR⟩ := hR
    refine gcV_i (rest := [.int (3 : Int32), .ref (ad 3)]) ⟨hx, hb, hml, hown, hT⟩ (h_Source_startOf _ _ _ _ _ hc22) (cwV 1 hT (gV ml_Exprs_157 im_Source_startOf se_Source_startOf ini_Source co_Source_startOf) rfl rfl rfl pd_Source_startOf ⟨rm_hi, rm_lo (Nat.le_of_ble_eq_true rfl)⟩) hK hP hD hS hA hnw henv (Nat.le_of_ble_eq_true rfl) rfl rfl hl.1 rfl (Nat.le_of_ble_eq_true rfl) d_Exprs_checkName_31 ⟨Nat.le_refl _, Nat.le_refl _⟩ (fun H locs hP hD hS => ?_)
    clear hc22
    replace hR := bi_e hR
    obtain ⟨r23, l23, T23, hc23, hR⟩ := hR
    refine gcV_v (rest := []) ⟨hx, hb, hml, hown, hT⟩ (h_Code_note _ _ _ _ _ _ hc23) (cwV 2 hT (gV ml_Exprs_68 im_Code_note se_Code_note ini_Code co_Code_note) rfl rfl rfl pd_Code_note ⟨rm_hi, rm_lo (Nat.le_of_ble_eq_true rfl)⟩) hK hP hD hS hA hnw henv (Nat.le_of_ble_eq_true rfl) rfl rfl hl.1 rfl (Nat.le_of_ble_eq_true rfl) d_Exprs_checkName_34 ⟨Nat.le_refl _, Nat.le_refl _⟩ (fun H locs hP hD hS => ?_)
    clear hc23
    refine lv_iconst (v := 1) hx hb d_Exprs_checkName_37 (by decide) ?_
    obtain ⟨e1, -, e3⟩ := re_e hR
    subst e1; subst e3
    exact W.iret (v := (1 : Int32)) hx hb hr (fun t ht hW => ⟨⟨(1 : Int32), (), rfl, rfl, by rw [ht]; exact hP, va_K.moved hW.alike hK, hD⟩, hS.F ht⟩) hS.2.2 d_Exprs_checkName_38
set_option maxHeartbeats 4000000 in
set_option maxRecDepth 100000 in
theorem sp_Exprs_solidOf (l : Launch) (dC : Nat → ClassId) (dI : Nat → Nat → Nat) (ea ev ad : Nat → Nat) (km : Nat → ClassId) (F : gF) (nf d : Nat) (h_Types_regionOf : mt_Types_regionOf l dC dI ea ev ad km F d) (h_Types_behind : mt_Types_behind l dC dI ea ev ad km F d) (h_Types_pointer : mt_Types_pointer l dC dI ea ev ad km F d) (T0 : gSt) (p1 : Int32) (r0 : Int32) (rl0 : Int64) (T9 : gSt) (hR : rb_Exprs_solidOf F nf T0 p1 = some (r0, rl0, T9)) : GMi l dC dI LH ad km ea ev y_Exprs_solidOf w_Exprs_solidOf (rmD (d + 1)) [.ref (ad 8), .int p1] T0 r0 T9 := by
  intro sz
  refine Met.ofW (cc := b_Exprs_solidOf) (maxL := 2) (ret := (some .int)) (by decide) rfl ?_
  intro p e s m args below meth c s₁ B hml hv
  obtain ⟨rfl, hsz, hP, hK, hD0, hnw, henv⟩ := hv
  have hx := B.exec
  have hb := B.bytes
  have hr := B.returns
  have hT : ∀ w ∈ lw_good, w.before _ s = true := fun w h => atoms_spec (ws := w_Exprs_solidOf) B.pre w (List.mem_cons_of_mem _ h)
  have hown : s.vm.findClass R_Exprs = some m.cls := findClass_of_methodNamed B.named
  subst hsz
  have hD := hD0.self (sz := s.heap.size)
  clear hD0
  generalize hAe : va_A (gW LH ad km T0) s.heap.size = A at hD henv ⊢
  have hA : ∀ q : Nat, s.heap.size ≤ q → A q := fun q h => by rw [← hAe]; exact Or.inr h
  have hS : va_S A s.heap s.heap [] := va_S.rf
  have hl := lv_entry ([.ref (ad 8), .int p1]) (n := 2) (Nat.le_of_ble_eq_true rfl)
  rw [lg_entry_eq]
  generalize (lg_sl ([.ref (ad 8), .int p1]) ++ List.replicate (2 - (lg_sl ([.ref (ad 8), .int p1])).length) Slot.unset).toArray = ls at hl ⊢
  have hl : lv_has ls 2 [(0, .ref (ad 8)), (1, .int p1)] := hl
  unfold rb_Exprs_solidOf at hR
  refine lv_aload_n hx hb d_Exprs_solidOf_0 rfl (lv_at hl 0 rfl) ?_
  refine rd_Exprs_29 hx hb hT hown hK hP d_Exprs_solidOf_1 ?_
  refine lv_iconst (v := 3) hx hb d_Exprs_solidOf_4 (by decide) ?_
  refine lv_aload_n hx hb d_Exprs_solidOf_5 rfl (lv_at hl 0 rfl) ?_
  refine rd_Exprs_29 hx hb hT hown hK hP d_Exprs_solidOf_6 ?_
  refine lv_iload_n hx hb d_Exprs_solidOf_9 rfl (lv_at hl 1 rfl) ?_
  replace hR := bi_e hR
  obtain ⟨r1, l1, T1, hc1, hR⟩ := hR
  refine gcV_i (rest := [.int (3 : Int32), .ref (ad 5)]) ⟨hx, hb, hml, hown, hT⟩ (h_Types_regionOf _ _ _ _ _ hc1) (cwV 1 hT (gV ml_Exprs_82 im_Types_regionOf se_Types_regionOf ini_Types co_Types_regionOf) rfl rfl rfl pd_Types_regionOf ⟨rm_hi, rm_lo (Nat.le_of_ble_eq_true rfl)⟩) hK hP hD hS hA hnw henv (Nat.le_of_ble_eq_true rfl) rfl rfl hl.1 rfl (Nat.le_of_ble_eq_true rfl) d_Exprs_solidOf_10 ⟨Nat.le_refl _, Nat.le_refl _⟩ (fun H locs hP hD hS => ?_)
  clear hc1
  refine lv_aload_n hx hb d_Exprs_solidOf_13 rfl (lv_at hl 0 rfl) ?_
  refine rd_Exprs_29 hx hb hT hown hK hP d_Exprs_solidOf_14 ?_
  refine lv_iload_n hx hb d_Exprs_solidOf_17 rfl (lv_at hl 1 rfl) ?_
  replace hR := bi_e hR
  obtain ⟨r2, l2, T2, hc2, hR⟩ := hR
  refine gcV_i (rest := [.int r1, .int (3 : Int32), .ref (ad 5)]) ⟨hx, hb, hml, hown, hT⟩ (h_Types_behind _ _ _ _ _ hc2) (cwV 1 hT (gV ml_Exprs_79 im_Types_behind se_Types_behind ini_Types co_Types_behind) rfl rfl rfl pd_Types_behind ⟨rm_hi, rm_lo (Nat.le_of_ble_eq_true rfl)⟩) hK hP hD hS hA hnw henv (Nat.le_of_ble_eq_true rfl) rfl rfl hl.1 rfl (Nat.le_of_ble_eq_true rfl) d_Exprs_solidOf_18 ⟨Nat.le_refl _, Nat.le_refl _⟩ (fun H locs hP hD hS => ?_)
  clear hc2
  replace hR := bi_e hR
  obtain ⟨r3, l3, T3, hc3, hR⟩ := hR
  refine gcV_i (rest := []) ⟨hx, hb, hml, hown, hT⟩ (h_Types_pointer _ _ _ _ _ _ _ hc3) (cwV 3 hT (gV ml_Exprs_238 im_Types_pointer se_Types_pointer ini_Types co_Types_pointer) rfl rfl rfl pd_Types_pointer ⟨rm_hi, rm_lo (Nat.le_of_ble_eq_true rfl)⟩) hK hP hD hS hA hnw henv (Nat.le_of_ble_eq_true rfl) rfl rfl hl.1 rfl (Nat.le_of_ble_eq_true rfl) d_Exprs_solidOf_21 ⟨Nat.le_refl _, Nat.le_refl _⟩ (fun H locs hP hD hS => ?_)
  clear hc3
  obtain ⟨e1, -, e3⟩ := re_e hR
  subst e1; subst e3
  exact W.iret (v := r3) hx hb hr (fun t ht hW => ⟨⟨r3, (), rfl, rfl, by rw [ht]; exact hP, va_K.moved hW.alike hK, hD⟩, hS.F ht⟩) hS.2.2 d_Exprs_solidOf_24
set_option maxHeartbeats 4000000 in
set_option maxRecDepth 100000 in
theorem sp_Exprs_checkCall (l : Launch) (dC : Nat → ClassId) (dI : Nat → Nat → Nat) (ea ev ad : Nat → Nat) (km : Nat → ClassId) (F : gF) (nf d : Nat) (h_Source_startOf : mt_Source_startOf l dC dI ea ev ad km F d) (h_Source_nameAt : mt_Source_nameAt l dC dI ea ev ad km F d) (h_Items_find : mt_Items_find l dC dI ea ev ad km F d) (h_Heads_readRegions : mt_Heads_readRegions l dC dI ea ev ad km F d) (h_Source_countPeers : mt_Source_countPeers l dC dI ea ev ad km F d) (h_Exprs_checkParts : mt_Exprs_checkParts l dC dI ea ev ad km F d) (h_Code_note : mt_Code_note l dC dI ea ev ad km F d) (h_Exprs_checkWhere : mt_Exprs_checkWhere l dC dI ea ev ad km F d) (h_Code_emit : mt_Code_emit l dC dI ea ev ad km F d) (h_Types_told : mt_Types_told l dC dI ea ev ad km F d) (h_Exprs_demand : mt_Exprs_demand l dC dI ea ev ad km F d) (h_Types_toldOne : mt_Types_toldOne l dC dI ea ev ad km F d) (h_Scope_isLive : mt_Scope_isLive l dC dI ea ev ad km F d) (T0 : gSt) (p1 : Int32) (p2 : Int32) (r0 : Int32) (rl0 : Int64) (T9 : gSt) (hR : rb_Exprs_checkCall F nf T0 p1 p2 = some (r0, rl0, T9)) : GMi l dC dI LH ad km ea ev y_Exprs_checkCall w_Exprs_checkCall (rmD (d + 1)) [.ref (ad 8), .int p1, .int p2] T0 r0 T9 := by
  intro sz
  refine Met.ofW (cc := b_Exprs_checkCall) (maxL := 10) (ret := (some .int)) (by decide) rfl ?_
  intro p e s m args below meth c s₁ B hml hv
  obtain ⟨rfl, hsz, hP, hK, hD0, hnw, henv⟩ := hv
  have hx := B.exec
  have hb := B.bytes
  have hr := B.returns
  have hT : ∀ w ∈ lw_good, w.before _ s = true := fun w h => atoms_spec (ws := w_Exprs_checkCall) B.pre w (List.mem_cons_of_mem _ h)
  have hown : s.vm.findClass R_Exprs = some m.cls := findClass_of_methodNamed B.named
  subst hsz
  have hD := hD0.self (sz := s.heap.size)
  clear hD0
  generalize hAe : va_A (gW LH ad km T0) s.heap.size = A at hD henv ⊢
  have hA : ∀ q : Nat, s.heap.size ≤ q → A q := fun q h => by rw [← hAe]; exact Or.inr h
  have hS : va_S A s.heap s.heap [] := va_S.rf
  have hl := lv_entry ([.ref (ad 8), .int p1, .int p2]) (n := 10) (Nat.le_of_ble_eq_true rfl)
  rw [lg_entry_eq]
  generalize (lg_sl ([.ref (ad 8), .int p1, .int p2]) ++ List.replicate (10 - (lg_sl ([.ref (ad 8), .int p1, .int p2])).length) Slot.unset).toArray = ls at hl ⊢
  have hl : lv_has ls 10 [(0, .ref (ad 8)), (1, .int p1), (2, .int p2)] := hl
  obtain ⟨G, hG⟩ : ∃ G : Nat → List (Nat × Value) → List Value → gSt → Prop, G = (fun pc lv stk T => ∀ (H : Heap) (locs : List Loc), va_P (dC, dI) cls_all (gW LH ad km T) H → va_D A (gW LH ad km T) → va_S A s.heap H locs → ∀ (ls : Array Slot), lv_has ls 10 lv → W p l e (headSpec w_Exprs_checkCall (rmD (d + 1))).room s m ([.ref (ad 8), .int p1, .int p2] : List Value).toArray below meth c H locs 0 0 (MQ below (va_Qi (fun (z : Int32) (_ : Unit) => z = r0) (fun _ t => gPost dC dI LH ad km T9 A t) A) ([.ref (ad 8), .int p1, .int p2] : List Value).toArray s 0 0 A) (F0 m pc ls stk)) := ⟨_, rfl⟩
  have lb_202 : ∀ (rec_172 : gSt → Int32 → Int32 → Int32 → Int32 → Int32 → gR) (hrec_172 : ∀ (T : gSt) (x3 : Int32) (x5 : Int32) (x6 : Int32) (x7 : Int32) (x8 : Int32), rec_172 T x3 x5 x6 x7 x8 = some (r0, rl0, T9) → G 172 [(0, .ref (ad 8)), (3, .int x3), (5, .int x5), (6, .int x6), (7, .int x7), (8, .int x8)] [] T) (T : gSt) (x3 : Int32) (x5 : Int32) (x6 : Int32) (x7 : Int32) (x8 : Int32) (y0 : Int32), rj_Exprs_checkCall_202 F nf rec_172 T x3 x5 x6 x7 x8 y0 = some (r0, rl0, T9) → G 202 [(0, .ref (ad 8)), (3, .int x3), (5, .int x5), (6, .int x6), (7, .int x7), (8, .int x8)] [.int y0] T := by
    intro rec_172 hrec_172 T x3 x5 x6 x7 x8 y0 hR; unfold rj_Exprs_checkCall_202 at hR; rw [hG]; intro H locs hP hD hS ls hl
    refine lv_istore (lv' := [(9, .int y0), (0, .ref (ad 8)), (3, .int x3), (5, .int x5), (6, .int x6), (7, .int x7), (8, .int x8)]) hx hb d_Exprs_checkCall_202 hl (by decide) rfl (fun ls hl => ?_)
    refine lv_aload_n hx hb d_Exprs_checkCall_204 rfl (lv_at hl 1 rfl) ?_
    refine lv_iload hx hb d_Exprs_checkCall_205 (lv_at hl 0 rfl) ?_
    refine lv_if_ne (tgt := 227) hx hb d_Exprs_checkCall_207 (by decide) (fun c32 => ?_) (fun c32 => ?_)
    · replace hR := if_n c32 hR
      refine lv_iconst (v := 1) hx hb d_Exprs_checkCall_227 (by decide) ?_
      refine lv_goto (tgt := 232) hx hb d_Exprs_checkCall_228 (by decide) ?_
      refine lv_iconst (v := 5) hx hb d_Exprs_checkCall_232 (by decide) ?_
      refine lv_aload_n hx hb d_Exprs_checkCall_233 rfl (lv_at hl 1 rfl) ?_
      refine rd_Exprs_9 hx hb hT hown hK hP d_Exprs_checkCall_234 ?_
      refine lv_iload_n hx hb d_Exprs_checkCall_237 rfl (lv_at hl 2 rfl) ?_
      refine lv_iload hx hb d_Exprs_checkCall_238 (lv_at hl 6 rfl) ?_
      refine lv_iadd hx hb d_Exprs_checkCall_240 ?_
      replace hR := bi_e hR
      obtain ⟨r33, l33, T33, hc33, hR⟩ := hR
      refine gcV_i (rest := [.int (5 : Int32), .int (1 : Int32), .ref (ad 8)]) ⟨hx, hb, hml, hown, hT⟩ (h_Source_startOf _ _ _ _ _ hc33) (cwV 1 hT (gV ml_Exprs_157 im_Source_startOf se_Source_startOf ini_Source co_Source_startOf) rfl rfl rfl pd_Source_startOf ⟨rm_hi, rm_lo (Nat.le_of_ble_eq_true rfl)⟩) hK hP hD hS hA hnw henv (Nat.le_of_ble_eq_true rfl) rfl rfl hl.1 rfl (Nat.le_of_ble_eq_true rfl) d_Exprs_checkCall_241 ⟨Nat.le_refl _, Nat.le_refl _⟩ (fun H locs hP hD hS => ?_)
      clear hc33
      replace hR := bi_e hR
      obtain ⟨r34, l34, T34, hc34, hR⟩ := hR
      refine gcV_v (rest := []) ⟨hx, hb, hml, hown, hT⟩ (h_Exprs_demand _ _ _ _ _ _ _ hc34) (cwV 3 hT (gV ml_Exprs_111 im_Exprs_demand se_Exprs_demand ini_Exprs co_Exprs_demand) rfl rfl rfl pd_Exprs_demand ⟨rm_hi, rm_lo (Nat.le_of_ble_eq_true rfl)⟩) hK hP hD hS hA hnw henv (Nat.le_of_ble_eq_true rfl) rfl rfl hl.1 rfl (Nat.le_of_ble_eq_true rfl) d_Exprs_checkCall_244 ⟨Nat.le_refl _, Nat.le_refl _⟩ (fun H locs hP hD hS => ?_)
      clear hc34
      obtain ⟨z35, e35⟩ : ∃ y : Int32, y = x8 + (1 : Int32) := ⟨_, rfl⟩
      replace hR := vK_e e35 hR
      refine lv_iinc (v := z35) (lv' := [(8, .int z35), (9, .int y0), (0, .ref (ad 8)), (3, .int x3), (5, .int x5), (6, .int x6), (7, .int x7)]) hx hb d_Exprs_checkCall_247 hl (k := 6) rfl (by rw [e35]; rfl) (by decide) rfl (fun ls hl => ?_)
      refine lv_goto (tgt := 172) hx hb d_Exprs_checkCall_250 (by decide) ?_
      have g := hrec_172 T34 x3 x5 x6 x7 z35 hR
      rw [hG] at g
      exact g _ _ hP hD hS _ (lv_sub hl [2, 3, 4, 5, 6, 0] rfl)
    · replace hR := if_p c32 hR
      refine lv_aload_n hx hb d_Exprs_checkCall_210 rfl (lv_at hl 1 rfl) ?_
      refine rd_Exprs_34 hx hb hT hown hK hP d_Exprs_checkCall_211 ?_
      refine lv_iload hx hb d_Exprs_checkCall_214 (lv_at hl 6 rfl) ?_
      refine lv_iload hx hb d_Exprs_checkCall_216 (lv_at hl 5 rfl) ?_
      replace hR := bi_e hR
      obtain ⟨r36, l36, T36, hc36, hR⟩ := hR
      refine gcS_i (rest := [.ref (ad 6), .ref (ad 8)]) ⟨hx, hb, hml, hown, hT⟩ (h_Types_toldOne _ _ _ _ _ _ hc36) (va_cwS 2 hT (gS ml_Exprs_266 st_Types_toldOne ini_Types co_Types_toldOne) rfl rfl rfl pd_Types_toldOne ⟨rm_hi, rm_lo (Nat.le_of_ble_eq_true rfl)⟩) hK hP hD hS hA hnw henv rfl hl.1 rfl (Nat.le_of_ble_eq_true rfl) d_Exprs_checkCall_218 ⟨Nat.le_refl _, Nat.le_refl _⟩ (fun H locs hP hD hS => ?_)
      clear hc36
      replace hR := bi_e hR
      obtain ⟨r37, l37, T37, hc37, hR⟩ := hR
      refine gcV_i (rest := [.ref (ad 8)]) ⟨hx, hb, hml, hown, hT⟩ (h_Scope_isLive _ _ _ _ _ hc37) (cwV 1 hT (gV ml_Exprs_115 im_Scope_isLive se_Scope_isLive ini_Scope co_Scope_isLive) rfl rfl rfl pd_Scope_isLive ⟨rm_hi, rm_lo (Nat.le_of_ble_eq_true rfl)⟩) hK hP hD hS hA hnw henv (Nat.le_of_ble_eq_true rfl) rfl rfl hl.1 rfl (Nat.le_of_ble_eq_true rfl) d_Exprs_checkCall_221 ⟨Nat.le_refl _, Nat.le_refl _⟩ (fun H locs hP hD hS => ?_)
      clear hc37
      refine lv_if_eq (tgt := 231) hx hb d_Exprs_checkCall_224 (by decide) (fun c38 => ?_) (fun c38 => ?_)
      · replace hR := if_p c38 hR
        refine lv_iconst (v := 0) hx hb d_Exprs_checkCall_231 (by decide) ?_
        refine lv_iconst (v := 5) hx hb d_Exprs_checkCall_232 (by decide) ?_
        refine lv_aload_n hx hb d_Exprs_checkCall_233 rfl (lv_at hl 1 rfl) ?_
        refine rd_Exprs_9 hx hb hT hown hK hP d_Exprs_checkCall_234 ?_
        refine lv_iload_n hx hb d_Exprs_checkCall_237 rfl (lv_at hl 2 rfl) ?_
        refine lv_iload hx hb d_Exprs_checkCall_238 (lv_at hl 6 rfl) ?_
        refine lv_iadd hx hb d_Exprs_checkCall_240 ?_
        replace hR := bi_e hR
        obtain ⟨r39, l39, T39, hc39, hR⟩ := hR
        refine gcV_i (rest := [.int (5 : Int32), .int (0 : Int32), .ref (ad 8)]) ⟨hx, hb, hml, hown, hT⟩ (h_Source_startOf _ _ _ _ _ hc39) (cwV 1 hT (gV ml_Exprs_157 im_Source_startOf se_Source_startOf ini_Source co_Source_startOf) rfl rfl rfl pd_Source_startOf ⟨rm_hi, rm_lo (Nat.le_of_ble_eq_true rfl)⟩) hK hP hD hS hA hnw henv (Nat.le_of_ble_eq_true rfl) rfl rfl hl.1 rfl (Nat.le_of_ble_eq_true rfl) d_Exprs_checkCall_241 ⟨Nat.le_refl _, Nat.le_refl _⟩ (fun H locs hP hD hS => ?_)
        clear hc39
        replace hR := bi_e hR
        obtain ⟨r40, l40, T40, hc40, hR⟩ := hR
        refine gcV_v (rest := []) ⟨hx, hb, hml, hown, hT⟩ (h_Exprs_demand _ _ _ _ _ _ _ hc40) (cwV 3 hT (gV ml_Exprs_111 im_Exprs_demand se_Exprs_demand ini_Exprs co_Exprs_demand) rfl rfl rfl pd_Exprs_demand ⟨rm_hi, rm_lo (Nat.le_of_ble_eq_true rfl)⟩) hK hP hD hS hA hnw henv (Nat.le_of_ble_eq_true rfl) rfl rfl hl.1 rfl (Nat.le_of_ble_eq_true rfl) d_Exprs_checkCall_244 ⟨Nat.le_refl _, Nat.le_refl _⟩ (fun H locs hP hD hS => ?_)
        clear hc40
        obtain ⟨z41, e41⟩ : ∃ y : Int32, y = x8 + (1 : Int32) := ⟨_, rfl⟩
        replace hR := vK_e e41 hR
        refine lv_iinc (v := z41) (lv' := [(8, .int z41), (9, .int y0), (0, .ref (ad 8)), (3, .int x3), (5, .int x5), (6, .int x6), (7, .int x7)]) hx hb d_Exprs_checkCall_247 hl (k := 6) rfl (by rw [e41]; rfl) (by decide) rfl (fun ls hl => ?_)
        refine lv_goto (tgt := 172) hx hb d_Exprs_checkCall_250 (by decide) ?_
        have g := hrec_172 T40 x3 x5 x6 x7 z41 hR
        rw [hG] at g
        exact g _ _ hP hD hS _ (lv_sub hl [2, 3, 4, 5, 6, 0] rfl)
      · replace hR := if_n c38 hR
        refine lv_iconst (v := 1) hx hb d_Exprs_checkCall_227 (by decide) ?_
        refine lv_goto (tgt := 232) hx hb d_Exprs_checkCall_228 (by decide) ?_
        refine lv_iconst (v := 5) hx hb d_Exprs_checkCall_232 (by decide) ?_
        refine lv_aload_n hx hb d_Exprs_checkCall_233 rfl (lv_at hl 1 rfl) ?_
        refine rd_Exprs_9 hx hb hT hown hK hP d_Exprs_checkCall_234 ?_
        refine lv_iload_n hx hb d_Exprs_checkCall_237 rfl (lv_at hl 2 rfl) ?_
        refine lv_iload hx hb d_Exprs_checkCall_238 (lv_at hl 6 rfl) ?_
        refine lv_iadd hx hb d_Exprs_checkCall_240 ?_
        replace hR := bi_e hR
        obtain ⟨r42, l42, T42, hc42, hR⟩ := hR
        refine gcV_i (rest := [.int (5 : Int32), .int (1 : Int32), .ref (ad 8)]) ⟨hx, hb, hml, hown, hT⟩ (h_Source_startOf _ _ _ _ _ hc42) (cwV 1 hT (gV ml_Exprs_157 im_Source_startOf se_Source_startOf ini_Source co_Source_startOf) rfl rfl rfl pd_Source_startOf ⟨rm_hi, rm_lo (Nat.le_of_ble_eq_true rfl)⟩) hK hP hD hS hA hnw henv (Nat.le_of_ble_eq_true rfl) rfl rfl hl.1 rfl (Nat.le_of_ble_eq_true rfl) d_Exprs_checkCall_241 ⟨Nat.le_refl _, Nat.le_refl _⟩ (fun H locs hP hD hS => ?_)
        clear hc42
        replace hR := bi_e hR
        obtain ⟨r43, l43, T43, hc43, hR⟩ := hR
        refine gcV_v (rest := []) ⟨hx, hb, hml, hown, hT⟩ (h_Exprs_demand _ _ _ _ _ _ _ hc43) (cwV 3 hT (gV ml_Exprs_111 im_Exprs_demand se_Exprs_demand ini_Exprs co_Exprs_demand) rfl rfl rfl pd_Exprs_demand ⟨rm_hi, rm_lo (Nat.le_of_ble_eq_true rfl)⟩) hK hP hD hS hA hnw henv (Nat.le_of_ble_eq_true rfl) rfl rfl hl.1 rfl (Nat.le_of_ble_eq_true rfl) d_Exprs_checkCall_244 ⟨Nat.le_refl _, Nat.le_refl _⟩ (fun H locs hP hD hS => ?_)
        clear hc43
        obtain ⟨z44, e44⟩ : ∃ y : Int32, y = x8 + (1 : Int32) := ⟨_, rfl⟩
        replace hR := vK_e e44 hR
        refine lv_iinc (v := z44) (lv' := [(8, .int z44), (9, .int y0), (0, .ref (ad 8)), (3, .int x3), (5, .int x5), (6, .int x6), (7, .int x7)]) hx hb d_Exprs_checkCall_247 hl (k := 6) rfl (by rw [e44]; rfl) (by decide) rfl (fun ls hl => ?_)
        refine lv_goto (tgt := 172) hx hb d_Exprs_checkCall_250 (by decide) ?_
        have g := hrec_172 T43 x3 x5 x6 x7 z44 hR
        rw [hG] at g
        exact g _ _ hP hD hS _ (lv_sub hl [2, 3, 4, 5, 6, 0] rfl)
  have lb_172 : ∀ (n : Nat) (T : gSt) (x3 : Int32) (x5 : Int32) (x6 : Int32) (x7 : Int32) (x8 : Int32), rl_Exprs_checkCall_172 F nf n T x3 x5 x6 x7 x8 = some (r0, rl0, T9) → G 172 [(0, .ref (ad 8)), (3, .int x3), (5, .int x5), (6, .int x6), (7, .int x7), (8, .int x8)] [] T := by
    intro n
    induction n with
    | zero => intro T x3 x5 x6 x7 x8 hR; rw [rl_Exprs_checkCall_172] at hR; cases hR
    | succ n ih =>
      intro T x3 x5 x6 x7 x8 hR; rw [rl_Exprs_checkCall_172] at hR; rw [hG]; intro H locs hP hD hS ls hl
      refine lv_iload hx hb d_Exprs_checkCall_172 (lv_at hl 5 rfl) ?_
      refine lv_iload hx hb d_Exprs_checkCall_174 (lv_at hl 2 rfl) ?_
      refine lv_icmp_gt (tgt := 253) hx hb d_Exprs_checkCall_176 (by decide) (fun c24 => ?_) (fun c24 => ?_)
      · replace hR := if_p c24 hR
        refine lv_aload_n hx hb d_Exprs_checkCall_253 rfl (lv_at hl 0 rfl) ?_
        refine lv_iload hx hb d_Exprs_checkCall_254 (lv_at hl 3 rfl) ?_
        refine lv_iload hx hb d_Exprs_checkCall_256 (lv_at hl 4 rfl) ?_
        refine lv_iload_n hx hb d_Exprs_checkCall_258 rfl (lv_at hl 1 rfl) ?_
        replace hR := bi_e hR
        obtain ⟨r25, l25, T25, hc25, hR⟩ := hR
        refine gcV_v (rest := []) ⟨hx, hb, hml, hown, hT⟩ (h_Exprs_checkWhere _ _ _ _ _ _ _ hc25) (cwV 3 hT (gV ml_Exprs_269 im_Exprs_checkWhere se_Exprs_checkWhere ini_Exprs co_Exprs_checkWhere) rfl rfl rfl pd_Exprs_checkWhere ⟨rm_hi, rm_lo (Nat.le_of_ble_eq_true rfl)⟩) hK hP hD hS hA hnw henv (Nat.le_of_ble_eq_true rfl) rfl rfl hl.1 rfl (Nat.le_of_ble_eq_true rfl) d_Exprs_checkCall_259 ⟨Nat.le_refl _, Nat.le_refl _⟩ (fun H locs hP hD hS => ?_)
        clear hc25
        refine lv_aload_n hx hb d_Exprs_checkCall_262 rfl (lv_at hl 0 rfl) ?_
        refine rd_Exprs_35 hx hb hT hown hK hP d_Exprs_checkCall_263 ?_
        refine lv_bipush (v := 57) hx hb d_Exprs_checkCall_266 (by decide) ?_
        refine lv_iload hx hb d_Exprs_checkCall_268 (lv_at hl 3 rfl) ?_
        refine lv_iload hx hb d_Exprs_checkCall_270 (lv_at hl 4 rfl) ?_
        replace hR := bi_e hR
        obtain ⟨r26, l26, T26, hc26, hR⟩ := hR
        refine gcV_i (rest := []) ⟨hx, hb, hml, hown, hT⟩ (h_Code_emit _ _ _ _ _ _ _ hc26) (cwV 3 hT (gV ml_Exprs_94 im_Code_emit se_Code_emit ini_Code co_Code_emit) rfl rfl rfl pd_Code_emit ⟨rm_hi, rm_lo (Nat.le_of_ble_eq_true rfl)⟩) hK hP hD hS hA hnw henv (Nat.le_of_ble_eq_true rfl) rfl rfl hl.1 rfl (Nat.le_of_ble_eq_true rfl) d_Exprs_checkCall_272 ⟨Nat.le_refl _, Nat.le_refl _⟩ (fun H locs hP hD hS => ?_)
        clear hc26
        refine lv_pop hx hb d_Exprs_checkCall_275 rfl ?_
        refine lv_aload_n hx hb d_Exprs_checkCall_276 rfl (lv_at hl 0 rfl) ?_
        refine rd_Exprs_29 hx hb hT hown hK hP d_Exprs_checkCall_277 ?_
        refine lv_aload_n hx hb d_Exprs_checkCall_280 rfl (lv_at hl 0 rfl) ?_
        refine rd_Exprs_15 hx hb hT hown hK hP d_Exprs_checkCall_281 ?_
        refine rd_Exprs_272 hx hb hT hown hK hP d_Exprs_checkCall_284 ?_
        refine lv_iload hx hb d_Exprs_checkCall_287 (lv_at hl 3 rfl) ?_
        replace hR := gd_e hR
        obtain ⟨b27, hR⟩ := hR
        refine laH_23 hx hb hK hP b27 d_Exprs_checkCall_289 ?_
        refine lv_iload hx hb d_Exprs_checkCall_290 (lv_at hl 4 rfl) ?_
        refine lv_iconst (v := 1) hx hb d_Exprs_checkCall_292 (by decide) ?_
        replace hR := bi_e hR
        obtain ⟨r28, l28, T28, hc28, hR⟩ := hR
        refine gcV_i (rest := []) ⟨hx, hb, hml, hown, hT⟩ (h_Types_told _ _ _ _ _ _ _ hc28) (cwV 3 hT (gV ml_Exprs_172 im_Types_told se_Types_told ini_Types co_Types_told) rfl rfl rfl pd_Types_told ⟨rm_hi, rm_lo (Nat.le_of_ble_eq_true rfl)⟩) hK hP hD hS hA hnw henv (Nat.le_of_ble_eq_true rfl) rfl rfl hl.1 rfl (Nat.le_of_ble_eq_true rfl) d_Exprs_checkCall_293 ⟨Nat.le_refl _, Nat.le_refl _⟩ (fun H locs hP hD hS => ?_)
        clear hc28
        obtain ⟨e1, -, e3⟩ := re_e hR
        subst e1; subst e3
        exact W.iret (v := r28) hx hb hr (fun t ht hW => ⟨⟨r28, (), rfl, rfl, by rw [ht]; exact hP, va_K.moved hW.alike hK, hD⟩, hS.F ht⟩) hS.2.2 d_Exprs_checkCall_296
      · replace hR := if_n c24 hR
        refine lv_aload_n hx hb d_Exprs_checkCall_179 rfl (lv_at hl 0 rfl) ?_
        refine rd_Exprs_15 hx hb hT hown hK hP d_Exprs_checkCall_180 ?_
        refine rd_Exprs_263 hx hb hT hown hK hP d_Exprs_checkCall_183 ?_
        refine lv_iload hx hb d_Exprs_checkCall_186 (lv_at hl 3 rfl) ?_
        replace hR := gd_e hR
        obtain ⟨b30, hR⟩ := hR
        refine laH_24 hx hb hK hP b30 d_Exprs_checkCall_188 ?_
        refine lv_iload hx hb d_Exprs_checkCall_189 (lv_at hl 5 rfl) ?_
        refine lv_ishr hx hb d_Exprs_checkCall_191 ?_
        refine lv_iconst (v := 1) hx hb d_Exprs_checkCall_192 (by decide) ?_
        refine lv_iand hx hb d_Exprs_checkCall_193 ?_
        refine lv_if_eq (tgt := 201) hx hb d_Exprs_checkCall_194 (by decide) (fun c31 => ?_) (fun c31 => ?_)
        · replace hR := if_p c31 hR
          refine lv_iconst (v := 0) hx hb d_Exprs_checkCall_201 (by decide) ?_
          have g := lb_202 (rl_Exprs_checkCall_172 F nf n) ih T x3 x5 x6 x7 x8 (0 : Int32) hR
          rw [hG] at g
          exact g _ _ hP hD hS _ (lv_sub hl [0, 1, 2, 3, 4, 5] rfl)
        · replace hR := if_n c31 hR
          refine lv_iconst (v := 1) hx hb d_Exprs_checkCall_197 (by decide) ?_
          refine lv_goto (tgt := 202) hx hb d_Exprs_checkCall_198 (by decide) ?_
          have g := lb_202 (rl_Exprs_checkCall_172 F nf n) ih T x3 x5 x6 x7 x8 (1 : Int32) hR
          rw [hG] at g
          exact g _ _ hP hD hS _ (lv_sub hl [0, 1, 2, 3, 4, 5] rfl)
  unfold rb_Exprs_checkCall at hR
  refine lv_aload_n hx hb d_Exprs_checkCall_0 rfl (lv_at hl 0 rfl) ?_
  refine rd_Exprs_9 hx hb hT hown hK hP d_Exprs_checkCall_1 ?_
  refine rd_Exprs_146 hx hb hT hown hK hP d_Exprs_checkCall_4 ?_
  refine lv_iload_n hx hb d_Exprs_checkCall_7 rfl (lv_at hl 1 rfl) ?_
  replace hR := gd_e hR
  obtain ⟨b1, hR⟩ := hR
  refine laH_2 hx hb hK hP b1 d_Exprs_checkCall_8 ?_
  refine lv_topi (fun z2 e2 => ?_)
  replace hR := vK_e e2 hR
  refine lv_istore_n (lv' := [(3, .int z2), (0, .ref (ad 8)), (1, .int p1), (2, .int p2)]) hx hb d_Exprs_checkCall_9 rfl hl (by decide) rfl (fun ls hl => ?_)
  refine lv_aload_n hx hb d_Exprs_checkCall_10 rfl (lv_at hl 1 rfl) ?_
  refine rd_Exprs_9 hx hb hT hown hK hP d_Exprs_checkCall_11 ?_
  refine lv_iload_n hx hb d_Exprs_checkCall_14 rfl (lv_at hl 0 rfl) ?_
  replace hR := bi_e hR
  obtain ⟨r3, l3, T3, hc3, hR⟩ := hR
  refine gcV_i (rest := []) ⟨hx, hb, hml, hown, hT⟩ (h_Source_startOf _ _ _ _ _ hc3) (cwV 1 hT (gV ml_Exprs_157 im_Source_startOf se_Source_startOf ini_Source co_Source_startOf) rfl rfl rfl pd_Source_startOf ⟨rm_hi, rm_lo (Nat.le_of_ble_eq_true rfl)⟩) hK hP hD hS hA hnw henv (Nat.le_of_ble_eq_true rfl) rfl rfl hl.1 rfl (Nat.le_of_ble_eq_true rfl) d_Exprs_checkCall_15 ⟨Nat.le_refl _, Nat.le_refl _⟩ (fun H locs hP hD hS => ?_)
  clear hc3
  refine lv_istore (lv' := [(4, .int r3), (3, .int z2), (0, .ref (ad 8)), (1, .int p1), (2, .int p2)]) hx hb d_Exprs_checkCall_18 hl (by decide) rfl (fun ls hl => ?_)
  refine lv_aload_n hx hb d_Exprs_checkCall_20 rfl (lv_at hl 2 rfl) ?_
  refine rd_Exprs_9 hx hb hT hown hK hP d_Exprs_checkCall_21 ?_
  refine rd_Exprs_241 hx hb hT hown hK hP d_Exprs_checkCall_24 ?_
  refine lv_iload_n hx hb d_Exprs_checkCall_27 rfl (lv_at hl 3 rfl) ?_
  replace hR := gd_e hR
  obtain ⟨b4, hR⟩ := hR
  refine laH_6 hx hb hK hP b4 d_Exprs_checkCall_28 ?_
  refine lv_topi (fun z5 e5 => ?_)
  replace hR := vK_e e5 hR
  refine lv_istore (lv' := [(5, .int z5), (4, .int r3), (3, .int z2), (0, .ref (ad 8)), (1, .int p1), (2, .int p2)]) hx hb d_Exprs_checkCall_29 hl (by decide) rfl (fun ls hl => ?_)
  refine lv_aload_n hx hb d_Exprs_checkCall_31 rfl (lv_at hl 3 rfl) ?_
  refine rd_Exprs_15 hx hb hT hown hK hP d_Exprs_checkCall_32 ?_
  refine lv_aload_n hx hb d_Exprs_checkCall_35 rfl (lv_at hl 3 rfl) ?_
  refine rd_Exprs_9 hx hb hT hown hK hP d_Exprs_checkCall_36 ?_
  refine lv_iload_n hx hb d_Exprs_checkCall_39 rfl (lv_at hl 2 rfl) ?_
  replace hR := bi_e hR
  obtain ⟨r6, l6, T6, hc6, hR⟩ := hR
  refine gcV_l (rest := [.ref (ad 2)]) ⟨hx, hb, hml, hown, hT⟩ (h_Source_nameAt _ _ _ _ _ hc6) (cwV 1 hT (gV ml_Exprs_149 im_Source_nameAt se_Source_nameAt ini_Source co_Source_nameAt) rfl rfl rfl pd_Source_nameAt ⟨rm_hi, rm_lo (Nat.le_of_ble_eq_true rfl)⟩) hK hP hD hS hA hnw henv (Nat.le_of_ble_eq_true rfl) rfl rfl hl.1 rfl (Nat.le_of_ble_eq_true rfl) d_Exprs_checkCall_40 ⟨Nat.le_refl _, Nat.le_refl _⟩ (fun H locs hP hD hS => ?_)
  clear hc6
  refine lv_iconst (v := 1) hx hb d_Exprs_checkCall_43 (by decide) ?_
  replace hR := bi_e hR
  obtain ⟨r7, l7, T7, hc7, hR⟩ := hR
  refine gcV_i (rest := []) ⟨hx, hb, hml, hown, hT⟩ (h_Items_find _ _ _ _ _ _ hc7) (cwV 2 hT (gV ml_Exprs_244 im_Items_find se_Items_find ini_Items co_Items_find) rfl rfl rfl pd_Items_find ⟨rm_hi, rm_lo (Nat.le_of_ble_eq_true rfl)⟩) hK hP hD hS hA hnw henv (Nat.le_of_ble_eq_true rfl) rfl rfl hl.1 rfl (Nat.le_of_ble_eq_true rfl) d_Exprs_checkCall_44 ⟨Nat.le_refl _, Nat.le_refl _⟩ (fun H locs hP hD hS => ?_)
  clear hc7
  refine lv_istore (lv' := [(6, .int r7), (5, .int z5), (4, .int r3), (3, .int z2), (0, .ref (ad 8)), (1, .int p1), (2, .int p2)]) hx hb d_Exprs_checkCall_47 hl (by decide) rfl (fun ls hl => ?_)
  refine lv_iload hx hb d_Exprs_checkCall_49 (lv_at hl 0 rfl) ?_
  refine lv_iconst (v := (-1)) hx hb d_Exprs_checkCall_51 (by decide) ?_
  refine lv_icmp_ne (tgt := 67) hx hb d_Exprs_checkCall_52 (by decide) (fun c8 => ?_) (fun c8 => ?_)
  · replace hR := if_n c8 hR
    refine lv_aload_n hx hb d_Exprs_checkCall_67 rfl (lv_at hl 4 rfl) ?_
    refine rd_Exprs_15 hx hb hT hown hK hP d_Exprs_checkCall_68 ?_
    refine rd_Exprs_248 hx hb hT hown hK hP d_Exprs_checkCall_71 ?_
    refine lv_iload hx hb d_Exprs_checkCall_74 (lv_at hl 0 rfl) ?_
    replace hR := gd_e hR
    obtain ⟨b9, hR⟩ := hR
    refine laH_16 hx hb hK hP b9 d_Exprs_checkCall_76 ?_
    refine lv_iload hx hb d_Exprs_checkCall_77 (lv_at hl 1 rfl) ?_
    refine lv_icmp_eq (tgt := 95) hx hb d_Exprs_checkCall_79 (by decide) (fun c10 => ?_) (fun c10 => ?_)
    · replace hR := if_p c10 hR
      refine lv_aload_n hx hb d_Exprs_checkCall_95 rfl (lv_at hl 4 rfl) ?_
      refine rd_Exprs_19 hx hb hT hown hK hP d_Exprs_checkCall_96 ?_
      refine lv_iload_n hx hb d_Exprs_checkCall_99 rfl (lv_at hl 3 rfl) ?_
      refine lv_iconst (v := 1) hx hb d_Exprs_checkCall_100 (by decide) ?_
      refine lv_iadd hx hb d_Exprs_checkCall_101 ?_
      refine lv_iload hx hb d_Exprs_checkCall_102 (lv_at hl 1 rfl) ?_
      replace hR := bi_e hR
      obtain ⟨r11, l11, T11, hc11, hR⟩ := hR
      refine gcV_i (rest := []) ⟨hx, hb, hml, hown, hT⟩ (h_Heads_readRegions _ _ _ _ _ _ hc11) (cwV 2 hT (gV ml_Exprs_251 im_Heads_readRegions se_Heads_readRegions ini_Heads co_Heads_readRegions) rfl rfl rfl pd_Heads_readRegions ⟨rm_hi, rm_lo (Nat.le_of_ble_eq_true rfl)⟩) hK hP hD hS hA hnw henv (Nat.le_of_ble_eq_true rfl) rfl rfl hl.1 rfl (Nat.le_of_ble_eq_true rfl) d_Exprs_checkCall_104 ⟨Nat.le_refl _, Nat.le_refl _⟩ (fun H locs hP hD hS => ?_)
      clear hc11
      refine lv_istore (lv' := [(7, .int r11), (6, .int r7), (5, .int z5), (4, .int r3), (3, .int z2), (0, .ref (ad 8)), (1, .int p1), (2, .int p2)]) hx hb d_Exprs_checkCall_107 hl (by decide) rfl (fun ls hl => ?_)
      refine lv_aload_n hx hb d_Exprs_checkCall_109 rfl (lv_at hl 5 rfl) ?_
      refine rd_Exprs_9 hx hb hT hown hK hP d_Exprs_checkCall_110 ?_
      refine lv_aload_n hx hb d_Exprs_checkCall_113 rfl (lv_at hl 5 rfl) ?_
      refine rd_Exprs_9 hx hb hT hown hK hP d_Exprs_checkCall_114 ?_
      refine rd_Exprs_188 hx hb hT hown hK hP d_Exprs_checkCall_117 ?_
      refine lv_iload_n hx hb d_Exprs_checkCall_120 rfl (lv_at hl 6 rfl) ?_
      replace hR := gd_e hR
      obtain ⟨b12, hR⟩ := hR
      refine laH_7 hx hb hK hP b12 d_Exprs_checkCall_121 ?_
      replace hR := bi_e hR
      obtain ⟨r13, l13, T13, hc13, hR⟩ := hR
      refine gcV_i (rest := []) ⟨hx, hb, hml, hown, hT⟩ (h_Source_countPeers _ _ _ _ _ hc13) (cwV 1 hT (gV ml_Exprs_254 im_Source_countPeers se_Source_countPeers ini_Source co_Source_countPeers) rfl rfl rfl pd_Source_countPeers ⟨rm_hi, rm_lo (Nat.le_of_ble_eq_true rfl)⟩) hK hP hD hS hA hnw henv (Nat.le_of_ble_eq_true rfl) rfl rfl hl.1 rfl (Nat.le_of_ble_eq_true rfl) d_Exprs_checkCall_122 ⟨Nat.le_refl _, Nat.le_refl _⟩ (fun H locs hP hD hS => ?_)
      clear hc13
      refine lv_aload_n hx hb d_Exprs_checkCall_125 rfl (lv_at hl 5 rfl) ?_
      refine rd_Exprs_15 hx hb hT hown hK hP d_Exprs_checkCall_126 ?_
      refine rd_Exprs_257 hx hb hT hown hK hP d_Exprs_checkCall_129 ?_
      refine lv_iload hx hb d_Exprs_checkCall_132 (lv_at hl 1 rfl) ?_
      replace hR := gd_e hR
      obtain ⟨b14, hR⟩ := hR
      refine laH_17 hx hb hK hP b14 d_Exprs_checkCall_134 ?_
      refine lv_icmp_eq (tgt := 151) hx hb d_Exprs_checkCall_135 (by decide) (fun c15 => ?_) (fun c15 => ?_)
      · replace hR := if_p c15 hR
        refine lv_aload_n hx hb d_Exprs_checkCall_151 rfl (lv_at hl 5 rfl) ?_
        refine lv_iload hx hb d_Exprs_checkCall_152 (lv_at hl 1 rfl) ?_
        refine lv_aload_n hx hb d_Exprs_checkCall_154 rfl (lv_at hl 5 rfl) ?_
        refine rd_Exprs_9 hx hb hT hown hK hP d_Exprs_checkCall_155 ?_
        refine rd_Exprs_188 hx hb hT hown hK hP d_Exprs_checkCall_158 ?_
        refine lv_iload_n hx hb d_Exprs_checkCall_161 rfl (lv_at hl 6 rfl) ?_
        replace hR := gd_e hR
        obtain ⟨b16, hR⟩ := hR
        refine laH_7 hx hb hK hP b16 d_Exprs_checkCall_162 ?_
        refine lv_iload hx hb d_Exprs_checkCall_163 (lv_at hl 0 rfl) ?_
        refine lv_iload_n hx hb d_Exprs_checkCall_165 rfl (lv_at hl 7 rfl) ?_
        replace hR := bi_e hR
        obtain ⟨r17, l17, T17, hc17, hR⟩ := hR
        refine gcV_v (rest := []) ⟨hx, hb, hml, hown, hT⟩ (h_Exprs_checkParts _ _ _ _ _ _ _ _ hc17) (cwV 4 hT (gV ml_Exprs_260 im_Exprs_checkParts se_Exprs_checkParts ini_Exprs co_Exprs_checkParts) rfl rfl rfl pd_Exprs_checkParts ⟨rm_hi, rm_lo (Nat.le_of_ble_eq_true rfl)⟩) hK hP hD hS hA hnw henv (Nat.le_of_ble_eq_true rfl) rfl rfl hl.1 rfl (Nat.le_of_ble_eq_true rfl) d_Exprs_checkCall_166 ⟨Nat.le_refl _, Nat.le_refl _⟩ (fun H locs hP hD hS => ?_)
        clear hc17
        refine lv_iconst (v := 1) hx hb d_Exprs_checkCall_169 (by decide) ?_
        refine lv_istore (lv' := [(8, .int (1 : Int32)), (7, .int r11), (6, .int r7), (5, .int z5), (4, .int r3), (3, .int z2), (0, .ref (ad 8)), (1, .int p1), (2, .int p2)]) hx hb d_Exprs_checkCall_170 hl (by decide) rfl (fun ls hl => ?_)
        have g := lb_172 nf T17 z2 z5 r7 r11 (1 : Int32) hR
        rw [hG] at g
        exact g _ _ hP hD hS _ (lv_sub hl [6, 5, 3, 2, 1, 0] rfl)
      · replace hR := if_n c15 hR
        refine lv_aload_n hx hb d_Exprs_checkCall_138 rfl (lv_at hl 5 rfl) ?_
        refine rd_Exprs_35 hx hb hT hown hK hP d_Exprs_checkCall_139 ?_
        refine lv_bipush (v := 7) hx hb d_Exprs_checkCall_142 (by decide) ?_
        refine lv_iload hx hb d_Exprs_checkCall_144 (lv_at hl 3 rfl) ?_
        replace hR := bi_e hR
        obtain ⟨r18, l18, T18, hc18, hR⟩ := hR
        refine gcV_v (rest := []) ⟨hx, hb, hml, hown, hT⟩ (h_Code_note _ _ _ _ _ _ hc18) (cwV 2 hT (gV ml_Exprs_68 im_Code_note se_Code_note ini_Code co_Code_note) rfl rfl rfl pd_Code_note ⟨rm_hi, rm_lo (Nat.le_of_ble_eq_true rfl)⟩) hK hP hD hS hA hnw henv (Nat.le_of_ble_eq_true rfl) rfl rfl hl.1 rfl (Nat.le_of_ble_eq_true rfl) d_Exprs_checkCall_146 ⟨Nat.le_refl _, Nat.le_refl _⟩ (fun H locs hP hD hS => ?_)
        clear hc18
        refine lv_iconst (v := 1) hx hb d_Exprs_checkCall_149 (by decide) ?_
        obtain ⟨e1, -, e3⟩ := re_e hR
        subst e1; subst e3
        exact W.iret (v := (1 : Int32)) hx hb hr (fun t ht hW => ⟨⟨(1 : Int32), (), rfl, rfl, by rw [ht]; exact hP, va_K.moved hW.alike hK, hD⟩, hS.F ht⟩) hS.2.2 d_Exprs_checkCall_150
    · replace hR := if_n c10 hR
      refine lv_aload_n hx hb d_Exprs_checkCall_82 rfl (lv_at hl 4 rfl) ?_
      refine rd_Exprs_35 hx hb hT hown hK hP d_Exprs_checkCall_83 ?_
      refine lv_bipush (v := 7) hx hb d_Exprs_checkCall_86 (by decide) ?_
      refine lv_iload hx hb d_Exprs_checkCall_88 (lv_at hl 2 rfl) ?_
      replace hR := bi_e hR
      obtain ⟨r20, l20, T20, hc20, hR⟩ := hR
      refine gcV_v (rest := []) ⟨hx, hb, hml, hown, hT⟩ (h_Code_note _ _ _ _ _ _ hc20) (cwV 2 hT (gV ml_Exprs_68 im_Code_note se_Code_note ini_Code co_Code_note) rfl rfl rfl pd_Code_note ⟨rm_hi, rm_lo (Nat.le_of_ble_eq_true rfl)⟩) hK hP hD hS hA hnw henv (Nat.le_of_ble_eq_true rfl) rfl rfl hl.1 rfl (Nat.le_of_ble_eq_true rfl) d_Exprs_checkCall_90 ⟨Nat.le_refl _, Nat.le_refl _⟩ (fun H locs hP hD hS => ?_)
      clear hc20
      refine lv_iconst (v := 1) hx hb d_Exprs_checkCall_93 (by decide) ?_
      obtain ⟨e1, -, e3⟩ := re_e hR
      subst e1; subst e3
      exact W.iret (v := (1 : Int32)) hx hb hr (fun t ht hW => ⟨⟨(1 : Int32), (), rfl, rfl, by rw [ht]; exact hP, va_K.moved hW.alike hK, hD⟩, hS.F ht⟩) hS.2.2 d_Exprs_checkCall_94
  · replace hR := if_p c8 hR
    refine lv_aload_n hx hb d_Exprs_checkCall_55 rfl (lv_at hl 4 rfl) ?_
    refine rd_Exprs_35 hx hb hT hown hK hP d_Exprs_checkCall_56 ?_
    refine lv_iconst (v := 3) hx hb d_Exprs_checkCall_59 (by decide) ?_
    refine lv_iload hx hb d_Exprs_checkCall_60 (lv_at hl 2 rfl) ?_
    replace hR := bi_e hR
    obtain ⟨r22, l22, T22, hc22, hR⟩ := hR
    refine gcV_v (rest := []) ⟨hx, hb, hml, hown, hT⟩ (h_Code_note _ _ _ _ _ _ hc22) (cwV 2 hT (gV ml_Exprs_68 im_Code_note se_Code_note ini_Code co_Code_note) rfl rfl rfl pd_Code_note ⟨rm_hi, rm_lo (Nat.le_of_ble_eq_true rfl)⟩) hK hP hD hS hA hnw henv (Nat.le_of_ble_eq_true rfl) rfl rfl hl.1 rfl (Nat.le_of_ble_eq_true rfl) d_Exprs_checkCall_62 ⟨Nat.le_refl _, Nat.le_refl _⟩ (fun H locs hP hD hS => ?_)
    clear hc22
    refine lv_iconst (v := 1) hx hb d_Exprs_checkCall_65 (by decide) ?_
    obtain ⟨e1, -, e3⟩ := re_e hR
    subst e1; subst e3
    exact W.iret (v := (1 : Int32)) hx hb hr (fun t ht hW => ⟨⟨(1 : Int32), (), rfl, rfl, by rw [ht]; exact hP, va_K.moved hW.alike hK, hD⟩, hS.F ht⟩) hS.2.2 d_Exprs_checkCall_66
set_option maxHeartbeats 4000000 in
set_option maxRecDepth 100000 in
theorem sp_Exprs_checkParts (l : Launch) (dC : Nat → ClassId) (dI : Nat → Nat → Nat) (ea ev ad : Nat → Nat) (km : Nat → ClassId) (F : gF) (nf d : Nat) (h_Items_typeOfPart : mt_Items_typeOfPart l dC dI ea ev ad km F d) (h_Types_told : mt_Types_told l dC dI ea ev ad km F d) (h_Exprs_checkFits : mt_Exprs_checkFits l dC dI ea ev ad km F d) (T0 : gSt) (p1 : Int32) (p2 : Int32) (p3 : Int32) (p4 : Int32) (r0 : Int32) (rl0 : Int64) (T9 : gSt) (hR : rb_Exprs_checkParts F nf T0 p1 p2 p3 p4 = some (r0, rl0, T9)) : GMv l dC dI LH ad km ea ev y_Exprs_checkParts w_Exprs_checkParts (rmD (d + 1)) [.ref (ad 8), .int p1, .int p2, .int p3, .int p4] T0 T9 := by
  intro sz
  refine Met.ofW (cc := b_Exprs_checkParts) (maxL := 7) (ret := none) (by decide) rfl ?_
  intro p e s m args below meth c s₁ B hml hv
  obtain ⟨rfl, hsz, hP, hK, hD0, hnw, henv⟩ := hv
  have hx := B.exec
  have hb := B.bytes
  have hr := B.returns
  have hT : ∀ w ∈ lw_good, w.before _ s = true := fun w h => atoms_spec (ws := w_Exprs_checkParts) B.pre w (List.mem_cons_of_mem _ h)
  have hown : s.vm.findClass R_Exprs = some m.cls := findClass_of_methodNamed B.named
  subst hsz
  have hD := hD0.self (sz := s.heap.size)
  clear hD0
  generalize hAe : va_A (gW LH ad km T0) s.heap.size = A at hD henv ⊢
  have hA : ∀ q : Nat, s.heap.size ≤ q → A q := fun q h => by rw [← hAe]; exact Or.inr h
  have hS : va_S A s.heap s.heap [] := va_S.rf
  have hl := lv_entry ([.ref (ad 8), .int p1, .int p2, .int p3, .int p4]) (n := 7) (Nat.le_of_ble_eq_true rfl)
  rw [lg_entry_eq]
  generalize (lg_sl ([.ref (ad 8), .int p1, .int p2, .int p3, .int p4]) ++ List.replicate (7 - (lg_sl ([.ref (ad 8), .int p1, .int p2, .int p3, .int p4])).length) Slot.unset).toArray = ls at hl ⊢
  have hl : lv_has ls 7 [(0, .ref (ad 8)), (1, .int p1), (2, .int p2), (3, .int p3), (4, .int p4)] := hl
  obtain ⟨G, hG⟩ : ∃ G : Nat → List (Nat × Value) → List Value → gSt → Prop, G = (fun pc lv stk T => ∀ (H : Heap) (locs : List Loc), va_P (dC, dI) cls_all (gW LH ad km T) H → va_D A (gW LH ad km T) → va_S A s.heap H locs → ∀ (ls : Array Slot), lv_has ls 7 lv → W p l e (headSpec w_Exprs_checkParts (rmD (d + 1))).room s m ([.ref (ad 8), .int p1, .int p2, .int p3, .int p4] : List Value).toArray below meth c H locs 0 0 (MQ below (va_Qv (fun (_ : Unit) => True) (fun _ t => gPost dC dI LH ad km T9 A t) A) ([.ref (ad 8), .int p1, .int p2, .int p3, .int p4] : List Value).toArray s 0 0 A) (F0 m pc ls stk)) := ⟨_, rfl⟩
  have lb_6 : ∀ (n : Nat) (T : gSt) (x1 : Int32) (x3 : Int32) (x4 : Int32) (x5 : Int32) (x6 : Int32), rl_Exprs_checkParts_6 F nf n T x1 x3 x4 x5 x6 = some (r0, rl0, T9) → G 6 [(0, .ref (ad 8)), (1, .int x1), (3, .int x3), (4, .int x4), (5, .int x5), (6, .int x6)] [] T := by
    intro n
    induction n with
    | zero => intro T x1 x3 x4 x5 x6 hR; rw [rl_Exprs_checkParts_6] at hR; cases hR
    | succ n ih =>
      intro T x1 x3 x4 x5 x6 hR; rw [rl_Exprs_checkParts_6] at hR; rw [hG]; intro H locs hP hD hS ls hl
      refine lv_iload hx hb d_Exprs_checkParts_6 (lv_at hl 5 rfl) ?_
      refine lv_aload_n hx hb d_Exprs_checkParts_8 rfl (lv_at hl 0 rfl) ?_
      refine rd_Exprs_15 hx hb hT hown hK hP d_Exprs_checkParts_9 ?_
      refine rd_Exprs_257 hx hb hT hown hK hP d_Exprs_checkParts_12 ?_
      refine lv_iload_n hx hb d_Exprs_checkParts_15 rfl (lv_at hl 1 rfl) ?_
      replace hR := gd_e hR
      obtain ⟨b1, hR⟩ := hR
      refine laH_17 hx hb hK hP b1 d_Exprs_checkParts_16 ?_
      refine lv_icmp_ge (tgt := 72) hx hb d_Exprs_checkParts_17 (by decide) (fun c2 => ?_) (fun c2 => ?_)
      · replace hR := if_p c2 hR
        obtain ⟨-, -, e3⟩ := re_e hR
        subst e3
        exact W.vret hx hb hr (fun t ht hW => ⟨⟨(), rfl, trivial, by rw [ht]; exact hP, va_K.moved hW.alike hK, hD⟩, hS.F ht⟩) hS.2.2 d_Exprs_checkParts_72
      · replace hR := if_n c2 hR
        refine lv_iload hx hb d_Exprs_checkParts_20 (lv_at hl 4 rfl) ?_
        refine lv_if_eq (tgt := 72) hx hb d_Exprs_checkParts_22 (by decide) (fun c3 => ?_) (fun c3 => ?_)
        · replace hR := if_p c3 hR
          obtain ⟨-, -, e3⟩ := re_e hR
          subst e3
          exact W.vret hx hb hr (fun t ht hW => ⟨⟨(), rfl, trivial, by rw [ht]; exact hP, va_K.moved hW.alike hK, hD⟩, hS.F ht⟩) hS.2.2 d_Exprs_checkParts_72
        · replace hR := if_n c3 hR
          refine lv_aload_n hx hb d_Exprs_checkParts_25 rfl (lv_at hl 0 rfl) ?_
          refine lv_iload hx hb d_Exprs_checkParts_26 (lv_at hl 4 rfl) ?_
          refine lv_aload_n hx hb d_Exprs_checkParts_28 rfl (lv_at hl 0 rfl) ?_
          refine rd_Exprs_29 hx hb hT hown hK hP d_Exprs_checkParts_29 ?_
          refine lv_aload_n hx hb d_Exprs_checkParts_32 rfl (lv_at hl 0 rfl) ?_
          refine rd_Exprs_15 hx hb hT hown hK hP d_Exprs_checkParts_33 ?_
          refine lv_iload_n hx hb d_Exprs_checkParts_36 rfl (lv_at hl 1 rfl) ?_
          refine lv_iload hx hb d_Exprs_checkParts_37 (lv_at hl 5 rfl) ?_
          replace hR := bi_e hR
          obtain ⟨r4, l4, T4, hc4, hR⟩ := hR
          refine gcV_i (rest := [.ref (ad 5), .int x5, .ref (ad 8)]) ⟨hx, hb, hml, hown, hT⟩ (h_Items_typeOfPart _ _ _ _ _ _ hc4) (cwV 2 hT (gV ml_Exprs_164 im_Items_typeOfPart se_Items_typeOfPart ini_Items co_Items_typeOfPart) rfl rfl rfl pd_Items_typeOfPart ⟨rm_hi, rm_lo (Nat.le_of_ble_eq_true rfl)⟩) hK hP hD hS hA hnw henv (Nat.le_of_ble_eq_true rfl) rfl rfl hl.1 rfl (Nat.le_of_ble_eq_true rfl) d_Exprs_checkParts_39 ⟨Nat.le_refl _, Nat.le_refl _⟩ (fun H locs hP hD hS => ?_)
          clear hc4
          refine lv_iload_n hx hb d_Exprs_checkParts_42 rfl (lv_at hl 2 rfl) ?_
          refine lv_iconst (v := 1) hx hb d_Exprs_checkParts_43 (by decide) ?_
          replace hR := bi_e hR
          obtain ⟨r5, l5, T5, hc5, hR⟩ := hR
          refine gcV_i (rest := [.int x5, .ref (ad 8)]) ⟨hx, hb, hml, hown, hT⟩ (h_Types_told _ _ _ _ _ _ _ hc5) (cwV 3 hT (gV ml_Exprs_172 im_Types_told se_Types_told ini_Types co_Types_told) rfl rfl rfl pd_Types_told ⟨rm_hi, rm_lo (Nat.le_of_ble_eq_true rfl)⟩) hK hP hD hS hA hnw henv (Nat.le_of_ble_eq_true rfl) rfl rfl hl.1 rfl (Nat.le_of_ble_eq_true rfl) d_Exprs_checkParts_44 ⟨Nat.le_refl _, Nat.le_refl _⟩ (fun H locs hP hD hS => ?_)
          clear hc5
          refine lv_iload hx hb d_Exprs_checkParts_47 (lv_at hl 3 rfl) ?_
          refine lv_iconst (v := 1) hx hb d_Exprs_checkParts_49 (by decide) ?_
          refine lv_iadd hx hb d_Exprs_checkParts_50 ?_
          replace hR := bi_e hR
          obtain ⟨r6, l6, T6, hc6, hR⟩ := hR
          refine gcV_v (rest := []) ⟨hx, hb, hml, hown, hT⟩ (h_Exprs_checkFits _ _ _ _ _ _ _ hc6) (cwV 3 hT (gV ml_Exprs_275 im_Exprs_checkFits se_Exprs_checkFits ini_Exprs co_Exprs_checkFits) rfl rfl rfl pd_Exprs_checkFits ⟨rm_hi, rm_lo (Nat.le_of_ble_eq_true rfl)⟩) hK hP hD hS hA hnw henv (Nat.le_of_ble_eq_true rfl) rfl rfl hl.1 rfl (Nat.le_of_ble_eq_true rfl) d_Exprs_checkParts_51 ⟨Nat.le_refl _, Nat.le_refl _⟩ (fun H locs hP hD hS => ?_)
          clear hc6
          refine lv_aload_n hx hb d_Exprs_checkParts_54 rfl (lv_at hl 0 rfl) ?_
          refine rd_Exprs_9 hx hb hT hown hK hP d_Exprs_checkParts_55 ?_
          refine rd_Exprs_278 hx hb hT hown hK hP d_Exprs_checkParts_58 ?_
          refine lv_iload hx hb d_Exprs_checkParts_61 (lv_at hl 4 rfl) ?_
          replace hR := gd_e hR
          obtain ⟨b7, hR⟩ := hR
          refine laH_4 hx hb hK hP b7 d_Exprs_checkParts_63 ?_
          refine lv_topi (fun z8 e8 => ?_)
          replace hR := vK_e e8 hR
          refine lv_istore (lv' := [(5, .int z8), (0, .ref (ad 8)), (1, .int x1), (3, .int x3), (4, .int x4), (6, .int x6)]) hx hb d_Exprs_checkParts_64 hl (by decide) rfl (fun ls hl => ?_)
          obtain ⟨z9, e9⟩ : ∃ y : Int32, y = x6 + (1 : Int32) := ⟨_, rfl⟩
          replace hR := vK_e e9 hR
          refine lv_iinc (v := z9) (lv' := [(6, .int z9), (5, .int z8), (0, .ref (ad 8)), (1, .int x1), (3, .int x3), (4, .int x4)]) hx hb d_Exprs_checkParts_66 hl (k := 5) rfl (by rw [e9]; rfl) (by decide) rfl (fun ls hl => ?_)
          refine lv_goto (tgt := 6) hx hb d_Exprs_checkParts_69 (by decide) ?_
          have g := ih T6 x1 x3 x4 z8 z9 hR
          rw [hG] at g
          exact g _ _ hP hD hS _ (lv_sub hl [2, 3, 4, 5, 1, 0] rfl)
  unfold rb_Exprs_checkParts at hR
  refine lv_iload_n hx hb d_Exprs_checkParts_0 rfl (lv_at hl 2 rfl) ?_
  refine lv_istore (lv' := [(5, .int p2), (0, .ref (ad 8)), (1, .int p1), (2, .int p2), (3, .int p3), (4, .int p4)]) hx hb d_Exprs_checkParts_1 hl (by decide) rfl (fun ls hl => ?_)
  refine lv_iconst (v := 0) hx hb d_Exprs_checkParts_3 (by decide) ?_
  refine lv_istore (lv' := [(6, .int (0 : Int32)), (5, .int p2), (0, .ref (ad 8)), (1, .int p1), (2, .int p2), (3, .int p3), (4, .int p4)]) hx hb d_Exprs_checkParts_4 hl (by decide) rfl (fun ls hl => ?_)
  have g := lb_6 nf T0 p1 p3 p4 p2 (0 : Int32) hR
  rw [hG] at g
  exact g _ _ hP hD hS _ (lv_sub hl [2, 3, 5, 6, 1, 0] rfl)
set_option maxHeartbeats 4000000 in
set_option maxRecDepth 100000 in
theorem sp_Exprs_checkWhere (l : Launch) (dC : Nat → ClassId) (dI : Nat → Nat → Nat) (ea ev ad : Nat → Nat) (km : Nat → ClassId) (F : gF) (nf d : Nat) (h_Items_upperOf : mt_Items_upperOf l dC dI ea ev ad km F d) (h_Items_lowerOf : mt_Items_lowerOf l dC dI ea ev ad km F d) (h_Types_toldOne : mt_Types_toldOne l dC dI ea ev ad km F d) (h_Scope_outlives : mt_Scope_outlives l dC dI ea ev ad km F d) (h_Source_startOf : mt_Source_startOf l dC dI ea ev ad km F d) (h_Exprs_demand : mt_Exprs_demand l dC dI ea ev ad km F d) (T0 : gSt) (p1 : Int32) (p2 : Int32) (p3 : Int32) (r0 : Int32) (rl0 : Int64) (T9 : gSt) (hR : rb_Exprs_checkWhere F nf T0 p1 p2 p3 = some (r0, rl0, T9)) : GMv l dC dI LH ad km ea ev y_Exprs_checkWhere w_Exprs_checkWhere (rmD (d + 1)) [.ref (ad 8), .int p1, .int p2, .int p3] T0 T9 := by
  intro sz
  refine Met.ofW (cc := b_Exprs_checkWhere) (maxL := 8) (ret := none) (by decide) rfl ?_
  intro p e s m args below meth c s₁ B hml hv
  obtain ⟨rfl, hsz, hP, hK, hD0, hnw, henv⟩ := hv
  have hx := B.exec
  have hb := B.bytes
  have hr := B.returns
  have hT : ∀ w ∈ lw_good, w.before _ s = true := fun w h => atoms_spec (ws := w_Exprs_checkWhere) B.pre w (List.mem_cons_of_mem _ h)
  have hown : s.vm.findClass R_Exprs = some m.cls := findClass_of_methodNamed B.named
  subst hsz
  have hD := hD0.self (sz := s.heap.size)
  clear hD0
  generalize hAe : va_A (gW LH ad km T0) s.heap.size = A at hD henv ⊢
  have hA : ∀ q : Nat, s.heap.size ≤ q → A q := fun q h => by rw [← hAe]; exact Or.inr h
  have hS : va_S A s.heap s.heap [] := va_S.rf
  have hl := lv_entry ([.ref (ad 8), .int p1, .int p2, .int p3]) (n := 8) (Nat.le_of_ble_eq_true rfl)
  rw [lg_entry_eq]
  generalize (lg_sl ([.ref (ad 8), .int p1, .int p2, .int p3]) ++ List.replicate (8 - (lg_sl ([.ref (ad 8), .int p1, .int p2, .int p3])).length) Slot.unset).toArray = ls at hl ⊢
  have hl : lv_has ls 8 [(0, .ref (ad 8)), (1, .int p1), (2, .int p2), (3, .int p3)] := hl
  obtain ⟨G, hG⟩ : ∃ G : Nat → List (Nat × Value) → List Value → gSt → Prop, G = (fun pc lv stk T => ∀ (H : Heap) (locs : List Loc), va_P (dC, dI) cls_all (gW LH ad km T) H → va_D A (gW LH ad km T) → va_S A s.heap H locs → ∀ (ls : Array Slot), lv_has ls 8 lv → W p l e (headSpec w_Exprs_checkWhere (rmD (d + 1))).room s m ([.ref (ad 8), .int p1, .int p2, .int p3] : List Value).toArray below meth c H locs 0 0 (MQ below (va_Qv (fun (_ : Unit) => True) (fun _ t => gPost dC dI LH ad km T9 A t) A) ([.ref (ad 8), .int p1, .int p2, .int p3] : List Value).toArray s 0 0 A) (F0 m pc ls stk)) := ⟨_, rfl⟩
  have lb_3 : ∀ (n : Nat) (T : gSt) (x1 : Int32) (x2 : Int32) (x3 : Int32) (x4 : Int32), rl_Exprs_checkWhere_3 F nf n T x1 x2 x3 x4 = some (r0, rl0, T9) → G 3 [(0, .ref (ad 8)), (1, .int x1), (2, .int x2), (3, .int x3), (4, .int x4)] [] T := by
    intro n
    induction n with
    | zero => intro T x1 x2 x3 x4 hR; rw [rl_Exprs_checkWhere_3] at hR; cases hR
    | succ n ih =>
      intro T x1 x2 x3 x4 hR; rw [rl_Exprs_checkWhere_3] at hR; rw [hG]; intro H locs hP hD hS ls hl
      refine lv_iload hx hb d_Exprs_checkWhere_3 (lv_at hl 4 rfl) ?_
      refine lv_iconst (v := 3) hx hb d_Exprs_checkWhere_5 (by decide) ?_
      refine lv_icmp_ge (tgt := 91) hx hb d_Exprs_checkWhere_6 (by decide) (fun c1 => ?_) (fun c1 => ?_)
      · replace hR := if_p c1 hR
        obtain ⟨-, -, e3⟩ := re_e hR
        subst e3
        exact W.vret hx hb hr (fun t ht hW => ⟨⟨(), rfl, trivial, by rw [ht]; exact hP, va_K.moved hW.alike hK, hD⟩, hS.F ht⟩) hS.2.2 d_Exprs_checkWhere_91
      · replace hR := if_n c1 hR
        refine lv_aload_n hx hb d_Exprs_checkWhere_9 rfl (lv_at hl 0 rfl) ?_
        refine rd_Exprs_15 hx hb hT hown hK hP d_Exprs_checkWhere_10 ?_
        refine lv_iload_n hx hb d_Exprs_checkWhere_13 rfl (lv_at hl 1 rfl) ?_
        refine lv_iload hx hb d_Exprs_checkWhere_14 (lv_at hl 4 rfl) ?_
        replace hR := bi_e hR
        obtain ⟨r2, l2, T2, hc2, hR⟩ := hR
        refine gcV_i (rest := []) ⟨hx, hb, hml, hown, hT⟩ (h_Items_upperOf _ _ _ _ _ _ hc2) (cwV 2 hT (gV ml_Exprs_281 im_Items_upperOf se_Items_upperOf ini_Items co_Items_upperOf) rfl rfl rfl pd_Items_upperOf ⟨rm_hi, rm_lo (Nat.le_of_ble_eq_true rfl)⟩) hK hP hD hS hA hnw henv (Nat.le_of_ble_eq_true rfl) rfl rfl hl.1 rfl (Nat.le_of_ble_eq_true rfl) d_Exprs_checkWhere_16 ⟨Nat.le_refl _, Nat.le_refl _⟩ (fun H locs hP hD hS => ?_)
        clear hc2
        refine lv_if_eq (tgt := 91) hx hb d_Exprs_checkWhere_19 (by decide) (fun c3 => ?_) (fun c3 => ?_)
        · replace hR := if_p c3 hR
          obtain ⟨-, -, e3⟩ := re_e hR
          subst e3
          exact W.vret hx hb hr (fun t ht hW => ⟨⟨(), rfl, trivial, by rw [ht]; exact hP, va_K.moved hW.alike hK, hD⟩, hS.F ht⟩) hS.2.2 d_Exprs_checkWhere_91
        · replace hR := if_n c3 hR
          refine lv_aload_n hx hb d_Exprs_checkWhere_22 rfl (lv_at hl 0 rfl) ?_
          refine rd_Exprs_15 hx hb hT hown hK hP d_Exprs_checkWhere_23 ?_
          refine lv_iload_n hx hb d_Exprs_checkWhere_26 rfl (lv_at hl 1 rfl) ?_
          refine lv_iload hx hb d_Exprs_checkWhere_27 (lv_at hl 4 rfl) ?_
          replace hR := bi_e hR
          obtain ⟨r4, l4, T4, hc4, hR⟩ := hR
          refine gcV_i (rest := []) ⟨hx, hb, hml, hown, hT⟩ (h_Items_upperOf _ _ _ _ _ _ hc4) (cwV 2 hT (gV ml_Exprs_281 im_Items_upperOf se_Items_upperOf ini_Items co_Items_upperOf) rfl rfl rfl pd_Items_upperOf ⟨rm_hi, rm_lo (Nat.le_of_ble_eq_true rfl)⟩) hK hP hD hS hA hnw henv (Nat.le_of_ble_eq_true rfl) rfl rfl hl.1 rfl (Nat.le_of_ble_eq_true rfl) d_Exprs_checkWhere_29 ⟨Nat.le_refl _, Nat.le_refl _⟩ (fun H locs hP hD hS => ?_)
          clear hc4
          refine lv_istore (lv' := [(5, .int r4), (0, .ref (ad 8)), (1, .int x1), (2, .int x2), (3, .int x3), (4, .int x4)]) hx hb d_Exprs_checkWhere_32 hl (by decide) rfl (fun ls hl => ?_)
          refine lv_aload_n hx hb d_Exprs_checkWhere_34 rfl (lv_at hl 1 rfl) ?_
          refine rd_Exprs_15 hx hb hT hown hK hP d_Exprs_checkWhere_35 ?_
          refine lv_iload_n hx hb d_Exprs_checkWhere_38 rfl (lv_at hl 2 rfl) ?_
          refine lv_iload hx hb d_Exprs_checkWhere_39 (lv_at hl 5 rfl) ?_
          replace hR := bi_e hR
          obtain ⟨r5, l5, T5, hc5, hR⟩ := hR
          refine gcV_i (rest := []) ⟨hx, hb, hml, hown, hT⟩ (h_Items_lowerOf _ _ _ _ _ _ hc5) (cwV 2 hT (gV ml_Exprs_284 im_Items_lowerOf se_Items_lowerOf ini_Items co_Items_lowerOf) rfl rfl rfl pd_Items_lowerOf ⟨rm_hi, rm_lo (Nat.le_of_ble_eq_true rfl)⟩) hK hP hD hS hA hnw henv (Nat.le_of_ble_eq_true rfl) rfl rfl hl.1 rfl (Nat.le_of_ble_eq_true rfl) d_Exprs_checkWhere_41 ⟨Nat.le_refl _, Nat.le_refl _⟩ (fun H locs hP hD hS => ?_)
          clear hc5
          refine lv_istore (lv' := [(6, .int r5), (5, .int r4), (0, .ref (ad 8)), (1, .int x1), (2, .int x2), (3, .int x3), (4, .int x4)]) hx hb d_Exprs_checkWhere_44 hl (by decide) rfl (fun ls hl => ?_)
          refine lv_aload_n hx hb d_Exprs_checkWhere_46 rfl (lv_at hl 2 rfl) ?_
          refine rd_Exprs_34 hx hb hT hown hK hP d_Exprs_checkWhere_47 ?_
          refine lv_iload hx hb d_Exprs_checkWhere_50 (lv_at hl 1 rfl) ?_
          refine lv_iload_n hx hb d_Exprs_checkWhere_52 rfl (lv_at hl 4 rfl) ?_
          replace hR := bi_e hR
          obtain ⟨r6, l6, T6, hc6, hR⟩ := hR
          refine gcS_i (rest := [.ref (ad 6)]) ⟨hx, hb, hml, hown, hT⟩ (h_Types_toldOne _ _ _ _ _ _ hc6) (va_cwS 2 hT (gS ml_Exprs_266 st_Types_toldOne ini_Types co_Types_toldOne) rfl rfl rfl pd_Types_toldOne ⟨rm_hi, rm_lo (Nat.le_of_ble_eq_true rfl)⟩) hK hP hD hS hA hnw henv rfl hl.1 rfl (Nat.le_of_ble_eq_true rfl) d_Exprs_checkWhere_53 ⟨Nat.le_refl _, Nat.le_refl _⟩ (fun H locs hP hD hS => ?_)
          clear hc6
          refine lv_iload hx hb d_Exprs_checkWhere_56 (lv_at hl 0 rfl) ?_
          refine lv_iload_n hx hb d_Exprs_checkWhere_58 rfl (lv_at hl 4 rfl) ?_
          replace hR := bi_e hR
          obtain ⟨r7, l7, T7, hc7, hR⟩ := hR
          refine gcS_i (rest := [.int r6, .ref (ad 6)]) ⟨hx, hb, hml, hown, hT⟩ (h_Types_toldOne _ _ _ _ _ _ hc7) (va_cwS 2 hT (gS ml_Exprs_266 st_Types_toldOne ini_Types co_Types_toldOne) rfl rfl rfl pd_Types_toldOne ⟨rm_hi, rm_lo (Nat.le_of_ble_eq_true rfl)⟩) hK hP hD hS hA hnw henv rfl hl.1 rfl (Nat.le_of_ble_eq_true rfl) d_Exprs_checkWhere_59 ⟨Nat.le_refl _, Nat.le_refl _⟩ (fun H locs hP hD hS => ?_)
          clear hc7
          replace hR := bi_e hR
          obtain ⟨r8, l8, T8, hc8, hR⟩ := hR
          refine gcV_i (rest := []) ⟨hx, hb, hml, hown, hT⟩ (h_Scope_outlives _ _ _ _ _ _ hc8) (cwV 2 hT (gV ml_Exprs_85 im_Scope_outlives se_Scope_outlives ini_Scope co_Scope_outlives) rfl rfl rfl pd_Scope_outlives ⟨rm_hi, rm_lo (Nat.le_of_ble_eq_true rfl)⟩) hK hP hD hS hA hnw henv (Nat.le_of_ble_eq_true rfl) rfl rfl hl.1 rfl (Nat.le_of_ble_eq_true rfl) d_Exprs_checkWhere_62 ⟨Nat.le_refl _, Nat.le_refl _⟩ (fun H locs hP hD hS => ?_)
          clear hc8
          refine lv_istore (lv' := [(7, .int r8), (6, .int r5), (5, .int r4), (0, .ref (ad 8)), (1, .int x1), (2, .int x2), (3, .int x3), (4, .int x4)]) hx hb d_Exprs_checkWhere_65 hl (by decide) rfl (fun ls hl => ?_)
          refine lv_aload_n hx hb d_Exprs_checkWhere_67 rfl (lv_at hl 3 rfl) ?_
          refine lv_iload hx hb d_Exprs_checkWhere_68 (lv_at hl 0 rfl) ?_
          refine lv_iconst (v := 5) hx hb d_Exprs_checkWhere_70 (by decide) ?_
          refine lv_aload_n hx hb d_Exprs_checkWhere_71 rfl (lv_at hl 3 rfl) ?_
          refine rd_Exprs_9 hx hb hT hown hK hP d_Exprs_checkWhere_72 ?_
          refine lv_iload_n hx hb d_Exprs_checkWhere_75 rfl (lv_at hl 6 rfl) ?_
          refine lv_iload hx hb d_Exprs_checkWhere_76 (lv_at hl 2 rfl) ?_
          refine lv_iadd hx hb d_Exprs_checkWhere_78 ?_
          replace hR := bi_e hR
          obtain ⟨r9, l9, T9, hc9, hR⟩ := hR
          refine gcV_i (rest := [.int (5 : Int32), .int r8, .ref (ad 8)]) ⟨hx, hb, hml, hown, hT⟩ (h_Source_startOf _ _ _ _ _ hc9) (cwV 1 hT (gV ml_Exprs_157 im_Source_startOf se_Source_startOf ini_Source co_Source_startOf) rfl rfl rfl pd_Source_startOf ⟨rm_hi, rm_lo (Nat.le_of_ble_eq_true rfl)⟩) hK hP hD hS hA hnw henv (Nat.le_of_ble_eq_true rfl) rfl rfl hl.1 rfl (Nat.le_of_ble_eq_true rfl) d_Exprs_checkWhere_79 ⟨Nat.le_refl _, Nat.le_refl _⟩ (fun H locs hP hD hS => ?_)
          clear hc9
          replace hR := bi_e hR
          obtain ⟨r10, l10, T10, hc10, hR⟩ := hR
          refine gcV_v (rest := []) ⟨hx, hb, hml, hown, hT⟩ (h_Exprs_demand _ _ _ _ _ _ _ hc10) (cwV 3 hT (gV ml_Exprs_111 im_Exprs_demand se_Exprs_demand ini_Exprs co_Exprs_demand) rfl rfl rfl pd_Exprs_demand ⟨rm_hi, rm_lo (Nat.le_of_ble_eq_true rfl)⟩) hK hP hD hS hA hnw henv (Nat.le_of_ble_eq_true rfl) rfl rfl hl.1 rfl (Nat.le_of_ble_eq_true rfl) d_Exprs_checkWhere_82 ⟨Nat.le_refl _, Nat.le_refl _⟩ (fun H locs hP hD hS => ?_)
          clear hc10
          obtain ⟨z11, e11⟩ : ∃ y : Int32, y = x4 + (1 : Int32) := ⟨_, rfl⟩
          replace hR := vK_e e11 hR
          refine lv_iinc (v := z11) (lv' := [(4, .int z11), (7, .int r8), (6, .int r5), (5, .int r4), (0, .ref (ad 8)), (1, .int x1), (2, .int x2), (3, .int x3)]) hx hb d_Exprs_checkWhere_85 hl (k := 7) rfl (by rw [e11]; rfl) (by decide) rfl (fun ls hl => ?_)
          refine lv_goto (tgt := 3) hx hb d_Exprs_checkWhere_88 (by decide) ?_
          have g := ih T10 x1 x2 x3 z11 hR
          rw [hG] at g
          exact g _ _ hP hD hS _ (lv_sub hl [4, 5, 6, 7, 0] rfl)
  unfold rb_Exprs_checkWhere at hR
  refine lv_iconst (v := 0) hx hb d_Exprs_checkWhere_0 (by decide) ?_
  refine lv_istore (lv' := [(4, .int (0 : Int32)), (0, .ref (ad 8)), (1, .int p1), (2, .int p2), (3, .int p3)]) hx hb d_Exprs_checkWhere_1 hl (by decide) rfl (fun ls hl => ?_)
  have g := lb_3 nf T0 p1 p2 p3 (0 : Int32) hR
  rw [hG] at g
  exact g _ _ hP hD hS _ (lv_sub hl [1, 2, 3, 4, 0] rfl)
set_option maxHeartbeats 4000000 in
set_option maxRecDepth 100000 in
theorem sp_Exprs_readLiveRegion (l : Launch) (dC : Nat → ClassId) (dI : Nat → Nat → Nat) (ea ev ad : Nat → Nat) (km : Nat → ClassId) (F : gF) (nf d : Nat) (h_Heads_readRegion : mt_Heads_readRegion l dC dI ea ev ad km F d) (h_Scope_isLive : mt_Scope_isLive l dC dI ea ev ad km F d) (h_Source_startOf : mt_Source_startOf l dC dI ea ev ad km F d) (h_Exprs_demand : mt_Exprs_demand l dC dI ea ev ad km F d) (T0 : gSt) (p1 : Int32) (r0 : Int32) (rl0 : Int64) (T9 : gSt) (hR : rb_Exprs_readLiveRegion F nf T0 p1 = some (r0, rl0, T9)) : GMi l dC dI LH ad km ea ev y_Exprs_readLiveRegion w_Exprs_readLiveRegion (rmD (d + 1)) [.ref (ad 8), .int p1] T0 r0 T9 := by
  intro sz
  refine Met.ofW (cc := b_Exprs_readLiveRegion) (maxL := 3) (ret := (some .int)) (by decide) rfl ?_
  intro p e s m args below meth c s₁ B hml hv
  obtain ⟨rfl, hsz, hP, hK, hD0, hnw, henv⟩ := hv
  have hx := B.exec
  have hb := B.bytes
  have hr := B.returns
  have hT : ∀ w ∈ lw_good, w.before _ s = true := fun w h => atoms_spec (ws := w_Exprs_readLiveRegion) B.pre w (List.mem_cons_of_mem _ h)
  have hown : s.vm.findClass R_Exprs = some m.cls := findClass_of_methodNamed B.named
  subst hsz
  have hD := hD0.self (sz := s.heap.size)
  clear hD0
  generalize hAe : va_A (gW LH ad km T0) s.heap.size = A at hD henv ⊢
  have hA : ∀ q : Nat, s.heap.size ≤ q → A q := fun q h => by rw [← hAe]; exact Or.inr h
  have hS : va_S A s.heap s.heap [] := va_S.rf
  have hl := lv_entry ([.ref (ad 8), .int p1]) (n := 3) (Nat.le_of_ble_eq_true rfl)
  rw [lg_entry_eq]
  generalize (lg_sl ([.ref (ad 8), .int p1]) ++ List.replicate (3 - (lg_sl ([.ref (ad 8), .int p1])).length) Slot.unset).toArray = ls at hl ⊢
  have hl : lv_has ls 3 [(0, .ref (ad 8)), (1, .int p1)] := hl
  unfold rb_Exprs_readLiveRegion at hR
  refine lv_aload_n hx hb d_Exprs_readLiveRegion_0 rfl (lv_at hl 0 rfl) ?_
  refine rd_Exprs_19 hx hb hT hown hK hP d_Exprs_readLiveRegion_1 ?_
  refine lv_iload_n hx hb d_Exprs_readLiveRegion_4 rfl (lv_at hl 1 rfl) ?_
  replace hR := bi_e hR
  obtain ⟨r1, l1, T1, hc1, hR⟩ := hR
  refine gcV_i (rest := []) ⟨hx, hb, hml, hown, hT⟩ (h_Heads_readRegion _ _ _ _ _ hc1) (cwV 1 hT (gV ml_Exprs_287 im_Heads_readRegion se_Heads_readRegion ini_Heads co_Heads_readRegion) rfl rfl rfl pd_Heads_readRegion ⟨rm_hi, rm_lo (Nat.le_of_ble_eq_true rfl)⟩) hK hP hD hS hA hnw henv (Nat.le_of_ble_eq_true rfl) rfl rfl hl.1 rfl (Nat.le_of_ble_eq_true rfl) d_Exprs_readLiveRegion_5 ⟨Nat.le_refl _, Nat.le_refl _⟩ (fun H locs hP hD hS => ?_)
  clear hc1
  refine lv_istore_n (lv' := [(2, .int r1), (0, .ref (ad 8)), (1, .int p1)]) hx hb d_Exprs_readLiveRegion_8 rfl hl (by decide) rfl (fun ls hl => ?_)
  refine lv_aload_n hx hb d_Exprs_readLiveRegion_9 rfl (lv_at hl 1 rfl) ?_
  refine lv_aload_n hx hb d_Exprs_readLiveRegion_10 rfl (lv_at hl 1 rfl) ?_
  refine rd_Exprs_34 hx hb hT hown hK hP d_Exprs_readLiveRegion_11 ?_
  refine lv_iload_n hx hb d_Exprs_readLiveRegion_14 rfl (lv_at hl 0 rfl) ?_
  replace hR := bi_e hR
  obtain ⟨r2, l2, T2, hc2, hR⟩ := hR
  refine gcV_i (rest := [.ref (ad 8)]) ⟨hx, hb, hml, hown, hT⟩ (h_Scope_isLive _ _ _ _ _ hc2) (cwV 1 hT (gV ml_Exprs_115 im_Scope_isLive se_Scope_isLive ini_Scope co_Scope_isLive) rfl rfl rfl pd_Scope_isLive ⟨rm_hi, rm_lo (Nat.le_of_ble_eq_true rfl)⟩) hK hP hD hS hA hnw henv (Nat.le_of_ble_eq_true rfl) rfl rfl hl.1 rfl (Nat.le_of_ble_eq_true rfl) d_Exprs_readLiveRegion_15 ⟨Nat.le_refl _, Nat.le_refl _⟩ (fun H locs hP hD hS => ?_)
  clear hc2
  refine lv_iconst (v := 5) hx hb d_Exprs_readLiveRegion_18 (by decide) ?_
  refine lv_aload_n hx hb d_Exprs_readLiveRegion_19 rfl (lv_at hl 1 rfl) ?_
  refine rd_Exprs_9 hx hb hT hown hK hP d_Exprs_readLiveRegion_20 ?_
  refine lv_iload_n hx hb d_Exprs_readLiveRegion_23 rfl (lv_at hl 2 rfl) ?_
  replace hR := bi_e hR
  obtain ⟨r3, l3, T3, hc3, hR⟩ := hR
  refine gcV_i (rest := [.int (5 : Int32), .int r2, .ref (ad 8)]) ⟨hx, hb, hml, hown, hT⟩ (h_Source_startOf _ _ _ _ _ hc3) (cwV 1 hT (gV ml_Exprs_157 im_Source_startOf se_Source_startOf ini_Source co_Source_startOf) rfl rfl rfl pd_Source_startOf ⟨rm_hi, rm_lo (Nat.le_of_ble_eq_true rfl)⟩) hK hP hD hS hA hnw henv (Nat.le_of_ble_eq_true rfl) rfl rfl hl.1 rfl (Nat.le_of_ble_eq_true rfl) d_Exprs_readLiveRegion_24 ⟨Nat.le_refl _, Nat.le_refl _⟩ (fun H locs hP hD hS => ?_)
  clear hc3
  replace hR := bi_e hR
  obtain ⟨r4, l4, T4, hc4, hR⟩ := hR
  refine gcV_v (rest := []) ⟨hx, hb, hml, hown, hT⟩ (h_Exprs_demand _ _ _ _ _ _ _ hc4) (cwV 3 hT (gV ml_Exprs_111 im_Exprs_demand se_Exprs_demand ini_Exprs co_Exprs_demand) rfl rfl rfl pd_Exprs_demand ⟨rm_hi, rm_lo (Nat.le_of_ble_eq_true rfl)⟩) hK hP hD hS hA hnw henv (Nat.le_of_ble_eq_true rfl) rfl rfl hl.1 rfl (Nat.le_of_ble_eq_true rfl) d_Exprs_readLiveRegion_27 ⟨Nat.le_refl _, Nat.le_refl _⟩ (fun H locs hP hD hS => ?_)
  clear hc4
  refine lv_iload_n hx hb d_Exprs_readLiveRegion_30 rfl (lv_at hl 0 rfl) ?_
  obtain ⟨e1, -, e3⟩ := re_e hR
  subst e1; subst e3
  exact W.iret (v := r1) hx hb hr (fun t ht hW => ⟨⟨r1, (), rfl, rfl, by rw [ht]; exact hP, va_K.moved hW.alike hK, hD⟩, hS.F ht⟩) hS.2.2 d_Exprs_readLiveRegion_31
set_option maxHeartbeats 4000000 in
set_option maxRecDepth 100000 in
theorem sp_Exprs_checkNew (l : Launch) (dC : Nat → ClassId) (dI : Nat → Nat → Nat) (ea ev ad : Nat → Nat) (km : Nat → ClassId) (F : gF) (nf d : Nat) (h_Exprs_readLiveRegion : mt_Exprs_readLiveRegion l dC dI ea ev ad km F d) (h_Heads_readTitle : mt_Heads_readTitle l dC dI ea ev ad km F d) (h_Types_pointer : mt_Types_pointer l dC dI ea ev ad km F d) (h_Types_titleBehind : mt_Types_titleBehind l dC dI ea ev ad km F d) (h_Source_kindAt : mt_Source_kindAt l dC dI ea ev ad km F d) (h_Source_startOf : mt_Source_startOf l dC dI ea ev ad km F d) (h_Exprs_demand : mt_Exprs_demand l dC dI ea ev ad km F d) (h_Code_tally : mt_Code_tally l dC dI ea ev ad km F d) (h_Exprs_makeStruct : mt_Exprs_makeStruct l dC dI ea ev ad km F d) (h_Exprs_makeUnion : mt_Exprs_makeUnion l dC dI ea ev ad km F d) (T0 : gSt) (p1 : Int32) (p2 : Int32) (r0 : Int32) (rl0 : Int64) (T9 : gSt) (hR : rb_Exprs_checkNew F nf T0 p1 p2 = some (r0, rl0, T9)) : GMi l dC dI LH ad km ea ev y_Exprs_checkNew w_Exprs_checkNew (rmD (d + 1)) [.ref (ad 8), .int p1, .int p2] T0 r0 T9 := by
  intro sz
  refine Met.ofW (cc := b_Exprs_checkNew) (maxL := 10) (ret := (some .int)) (by decide) rfl ?_
  intro p e s m args below meth c s₁ B hml hv
  obtain ⟨rfl, hsz, hP, hK, hD0, hnw, henv⟩ := hv
  have hx := B.exec
  have hb := B.bytes
  have hr := B.returns
  have hT : ∀ w ∈ lw_good, w.before _ s = true := fun w h => atoms_spec (ws := w_Exprs_checkNew) B.pre w (List.mem_cons_of_mem _ h)
  have hown : s.vm.findClass R_Exprs = some m.cls := findClass_of_methodNamed B.named
  subst hsz
  have hD := hD0.self (sz := s.heap.size)
  clear hD0
  generalize hAe : va_A (gW LH ad km T0) s.heap.size = A at hD henv ⊢
  have hA : ∀ q : Nat, s.heap.size ≤ q → A q := fun q h => by rw [← hAe]; exact Or.inr h
  have hS : va_S A s.heap s.heap [] := va_S.rf
  have hl := lv_entry ([.ref (ad 8), .int p1, .int p2]) (n := 10) (Nat.le_of_ble_eq_true rfl)
  rw [lg_entry_eq]
  generalize (lg_sl ([.ref (ad 8), .int p1, .int p2]) ++ List.replicate (10 - (lg_sl ([.ref (ad 8), .int p1, .int p2])).length) Slot.unset).toArray = ls at hl ⊢
  have hl : lv_has ls 10 [(0, .ref (ad 8)), (1, .int p1), (2, .int p2)] := hl
  obtain ⟨G, hG⟩ : ∃ G : Nat → List (Nat × Value) → List Value → gSt → Prop, G = (fun pc lv stk T => ∀ (H : Heap) (locs : List Loc), va_P (dC, dI) cls_all (gW LH ad km T) H → va_D A (gW LH ad km T) → va_S A s.heap H locs → ∀ (ls : Array Slot), lv_has ls 10 lv → W p l e (headSpec w_Exprs_checkNew (rmD (d + 1))).room s m ([.ref (ad 8), .int p1, .int p2] : List Value).toArray below meth c H locs 0 0 (MQ below (va_Qi (fun (z : Int32) (_ : Unit) => z = r0) (fun _ t => gPost dC dI LH ad km T9 A t) A) ([.ref (ad 8), .int p1, .int p2] : List Value).toArray s 0 0 A) (F0 m pc ls stk)) := ⟨_, rfl⟩
  have lb_131 : ∀ (T : gSt) (x1 : Int32) (x2 : Int32) (x3 : Int32) (x6 : Int32) (x8 : Int32) (x9 : Int32) (y0 : Int32), rj_Exprs_checkNew_131 F nf T x1 x2 x3 x6 x8 x9 y0 = some (r0, rl0, T9) → G 131 [(0, .ref (ad 8)), (1, .int x1), (2, .int x2), (3, .int x3), (6, .int x6), (8, .int x8), (9, .int x9)] [.int y0, .ref (ad 8)] T := by
    intro T x1 x2 x3 x6 x8 x9 y0 hR; unfold rj_Exprs_checkNew_131 at hR; rw [hG]; intro H locs hP hD hS ls hl
    refine lv_bipush (v := 7) hx hb d_Exprs_checkNew_131 (by decide) ?_
    refine lv_aload_n hx hb d_Exprs_checkNew_133 rfl (lv_at hl 0 rfl) ?_
    refine rd_Exprs_9 hx hb hT hown hK hP d_Exprs_checkNew_134 ?_
    refine lv_iload hx hb d_Exprs_checkNew_137 (lv_at hl 5 rfl) ?_
    replace hR := bi_e hR
    obtain ⟨r17, l17, T17, hc17, hR⟩ := hR
    refine gcV_i (rest := [.int (7 : Int32), .int y0, .ref (ad 8)]) ⟨hx, hb, hml, hown, hT⟩ (h_Source_startOf _ _ _ _ _ hc17) (cwV 1 hT (gV ml_Exprs_157 im_Source_startOf se_Source_startOf ini_Source co_Source_startOf) rfl rfl rfl pd_Source_startOf ⟨rm_hi, rm_lo (Nat.le_of_ble_eq_true rfl)⟩) hK hP hD hS hA hnw henv (Nat.le_of_ble_eq_true rfl) rfl rfl hl.1 rfl (Nat.le_of_ble_eq_true rfl) d_Exprs_checkNew_139 ⟨Nat.le_refl _, Nat.le_refl _⟩ (fun H locs hP hD hS => ?_)
    clear hc17
    replace hR := bi_e hR
    obtain ⟨r18, l18, T18, hc18, hR⟩ := hR
    refine gcV_v (rest := []) ⟨hx, hb, hml, hown, hT⟩ (h_Exprs_demand _ _ _ _ _ _ _ hc18) (cwV 3 hT (gV ml_Exprs_111 im_Exprs_demand se_Exprs_demand ini_Exprs co_Exprs_demand) rfl rfl rfl pd_Exprs_demand ⟨rm_hi, rm_lo (Nat.le_of_ble_eq_true rfl)⟩) hK hP hD hS hA hnw henv (Nat.le_of_ble_eq_true rfl) rfl rfl hl.1 rfl (Nat.le_of_ble_eq_true rfl) d_Exprs_checkNew_142 ⟨Nat.le_refl _, Nat.le_refl _⟩ (fun H locs hP hD hS => ?_)
    clear hc18
    refine lv_aload_n hx hb d_Exprs_checkNew_145 rfl (lv_at hl 0 rfl) ?_
    refine rd_Exprs_35 hx hb hT hown hK hP d_Exprs_checkNew_146 ?_
    refine lv_bipush (v := 6) hx hb d_Exprs_checkNew_149 (by decide) ?_
    replace hR := bi_e hR
    obtain ⟨r19, l19, T19, hc19, hR⟩ := hR
    refine gcV_v (rest := []) ⟨hx, hb, hml, hown, hT⟩ (h_Code_tally _ _ _ _ _ hc19) (cwV 1 hT (gV ml_Exprs_176 im_Code_tally se_Code_tally ini_Code co_Code_tally) rfl rfl rfl pd_Code_tally ⟨rm_hi, rm_lo (Nat.le_of_ble_eq_true rfl)⟩) hK hP hD hS hA hnw henv (Nat.le_of_ble_eq_true rfl) rfl rfl hl.1 rfl (Nat.le_of_ble_eq_true rfl) d_Exprs_checkNew_151 ⟨Nat.le_refl _, Nat.le_refl _⟩ (fun H locs hP hD hS => ?_)
    clear hc19
    refine lv_iload hx hb d_Exprs_checkNew_154 (lv_at hl 6 rfl) ?_
    refine lv_if_eq (tgt := 174) hx hb d_Exprs_checkNew_156 (by decide) (fun c20 => ?_) (fun c20 => ?_)
    · replace hR := if_p c20 hR
      refine lv_aload_n hx hb d_Exprs_checkNew_174 rfl (lv_at hl 0 rfl) ?_
      refine lv_iload_n hx hb d_Exprs_checkNew_175 rfl (lv_at hl 1 rfl) ?_
      refine lv_iload hx hb d_Exprs_checkNew_176 (lv_at hl 4 rfl) ?_
      refine lv_iload_n hx hb d_Exprs_checkNew_178 rfl (lv_at hl 3 rfl) ?_
      refine lv_iconst (v := 2) hx hb d_Exprs_checkNew_179 (by decide) ?_
      refine lv_iadd hx hb d_Exprs_checkNew_180 ?_
      refine lv_iload_n hx hb d_Exprs_checkNew_181 rfl (lv_at hl 2 rfl) ?_
      replace hR := bi_e hR
      obtain ⟨r21, l21, T21, hc21, hR⟩ := hR
      refine gcV_v (rest := []) ⟨hx, hb, hml, hown, hT⟩ (h_Exprs_makeStruct _ _ _ _ _ _ _ _ hc21) (cwV 4 hT (gV ml_Exprs_302 im_Exprs_makeStruct se_Exprs_makeStruct ini_Exprs co_Exprs_makeStruct) rfl rfl rfl pd_Exprs_makeStruct ⟨rm_hi, rm_lo (Nat.le_of_ble_eq_true rfl)⟩) hK hP hD hS hA hnw henv (Nat.le_of_ble_eq_true rfl) rfl rfl hl.1 rfl (Nat.le_of_ble_eq_true rfl) d_Exprs_checkNew_182 ⟨Nat.le_refl _, Nat.le_refl _⟩ (fun H locs hP hD hS => ?_)
      clear hc21
      refine lv_iload hx hb d_Exprs_checkNew_185 (lv_at hl 4 rfl) ?_
      obtain ⟨e1, -, e3⟩ := re_e hR
      subst e1; subst e3
      exact W.iret (v := x6) hx hb hr (fun t ht hW => ⟨⟨x6, (), rfl, rfl, by rw [ht]; exact hP, va_K.moved hW.alike hK, hD⟩, hS.F ht⟩) hS.2.2 d_Exprs_checkNew_187
    · replace hR := if_n c20 hR
      refine lv_aload_n hx hb d_Exprs_checkNew_159 rfl (lv_at hl 0 rfl) ?_
      refine lv_iload_n hx hb d_Exprs_checkNew_160 rfl (lv_at hl 1 rfl) ?_
      refine lv_iload hx hb d_Exprs_checkNew_161 (lv_at hl 4 rfl) ?_
      refine lv_iload hx hb d_Exprs_checkNew_163 (lv_at hl 5 rfl) ?_
      refine lv_iconst (v := 1) hx hb d_Exprs_checkNew_165 (by decide) ?_
      refine lv_iadd hx hb d_Exprs_checkNew_166 ?_
      refine lv_iload_n hx hb d_Exprs_checkNew_167 rfl (lv_at hl 2 rfl) ?_
      replace hR := bi_e hR
      obtain ⟨r23, l23, T23, hc23, hR⟩ := hR
      refine gcV_v (rest := []) ⟨hx, hb, hml, hown, hT⟩ (h_Exprs_makeUnion _ _ _ _ _ _ _ _ hc23) (cwV 4 hT (gV ml_Exprs_299 im_Exprs_makeUnion se_Exprs_makeUnion ini_Exprs co_Exprs_makeUnion) rfl rfl rfl pd_Exprs_makeUnion ⟨rm_hi, rm_lo (Nat.le_of_ble_eq_true rfl)⟩) hK hP hD hS hA hnw henv (Nat.le_of_ble_eq_true rfl) rfl rfl hl.1 rfl (Nat.le_of_ble_eq_true rfl) d_Exprs_checkNew_168 ⟨Nat.le_refl _, Nat.le_refl _⟩ (fun H locs hP hD hS => ?_)
      clear hc23
      refine lv_goto (tgt := 185) hx hb d_Exprs_checkNew_171 (by decide) ?_
      refine lv_iload hx hb d_Exprs_checkNew_185 (lv_at hl 4 rfl) ?_
      obtain ⟨e1, -, e3⟩ := re_e hR
      subst e1; subst e3
      exact W.iret (v := x6) hx hb hr (fun t ht hW => ⟨⟨x6, (), rfl, rfl, by rw [ht]; exact hP, va_K.moved hW.alike hK, hD⟩, hS.F ht⟩) hS.2.2 d_Exprs_checkNew_187
  have lb_99 : ∀ (T : gSt) (x1 : Int32) (x2 : Int32) (x3 : Int32) (x6 : Int32) (x8 : Int32) (y0 : Int32), rj_Exprs_checkNew_99 F nf T x1 x2 x3 x6 x8 y0 = some (r0, rl0, T9) → G 99 [(0, .ref (ad 8)), (1, .int x1), (2, .int x2), (3, .int x3), (6, .int x6), (8, .int x8)] [.int y0] T := by
    intro T x1 x2 x3 x6 x8 y0 hR; unfold rj_Exprs_checkNew_99 at hR; rw [hG]; intro H locs hP hD hS ls hl
    refine lv_istore (lv' := [(9, .int y0), (0, .ref (ad 8)), (1, .int x1), (2, .int x2), (3, .int x3), (6, .int x6), (8, .int x8)]) hx hb d_Exprs_checkNew_99 hl (by decide) rfl (fun ls hl => ?_)
    refine lv_aload_n hx hb d_Exprs_checkNew_101 rfl (lv_at hl 1 rfl) ?_
    refine lv_aload_n hx hb d_Exprs_checkNew_102 rfl (lv_at hl 1 rfl) ?_
    refine rd_Exprs_9 hx hb hT hown hK hP d_Exprs_checkNew_103 ?_
    refine lv_iload hx hb d_Exprs_checkNew_106 (lv_at hl 6 rfl) ?_
    replace hR := bi_e hR
    obtain ⟨r13, l13, T13, hc13, hR⟩ := hR
    refine gcV_i (rest := [.ref (ad 8)]) ⟨hx, hb, hml, hown, hT⟩ (h_Source_kindAt _ _ _ _ _ hc13) (cwV 1 hT (gV ml_Exprs_296 im_Source_kindAt se_Source_kindAt ini_Source co_Source_kindAt) rfl rfl rfl pd_Source_kindAt ⟨rm_hi, rm_lo (Nat.le_of_ble_eq_true rfl)⟩) hK hP hD hS hA hnw henv (Nat.le_of_ble_eq_true rfl) rfl rfl hl.1 rfl (Nat.le_of_ble_eq_true rfl) d_Exprs_checkNew_108 ⟨Nat.le_refl _, Nat.le_refl _⟩ (fun H locs hP hD hS => ?_)
    clear hc13
    refine lv_iload hx hb d_Exprs_checkNew_111 (lv_at hl 0 rfl) ?_
    refine lv_if_eq (tgt := 121) hx hb d_Exprs_checkNew_113 (by decide) (fun c14 => ?_) (fun c14 => ?_)
    · replace hR := if_p c14 hR
      refine lv_bipush (v := 40) hx hb d_Exprs_checkNew_121 (by decide) ?_
      refine lv_icmp_ne (tgt := 130) hx hb d_Exprs_checkNew_123 (by decide) (fun c15 => ?_) (fun c15 => ?_)
      · replace hR := if_n c15 hR
        refine lv_iconst (v := 0) hx hb d_Exprs_checkNew_130 (by decide) ?_
        have g := lb_131 T13 x1 x2 x3 x6 x8 y0 (0 : Int32) hR
        rw [hG] at g
        exact g _ _ hP hD hS _ (lv_sub hl [1, 2, 3, 4, 5, 6, 0] rfl)
      · replace hR := if_p c15 hR
        refine lv_iconst (v := 1) hx hb d_Exprs_checkNew_126 (by decide) ?_
        refine lv_goto (tgt := 131) hx hb d_Exprs_checkNew_127 (by decide) ?_
        have g := lb_131 T13 x1 x2 x3 x6 x8 y0 (1 : Int32) hR
        rw [hG] at g
        exact g _ _ hP hD hS _ (lv_sub hl [1, 2, 3, 4, 5, 6, 0] rfl)
    · replace hR := if_n c14 hR
      refine lv_bipush (v := 49) hx hb d_Exprs_checkNew_116 (by decide) ?_
      refine lv_goto (tgt := 123) hx hb d_Exprs_checkNew_118 (by decide) ?_
      refine lv_icmp_ne (tgt := 130) hx hb d_Exprs_checkNew_123 (by decide) (fun c16 => ?_) (fun c16 => ?_)
      · replace hR := if_n c16 hR
        refine lv_iconst (v := 0) hx hb d_Exprs_checkNew_130 (by decide) ?_
        have g := lb_131 T13 x1 x2 x3 x6 x8 y0 (0 : Int32) hR
        rw [hG] at g
        exact g _ _ hP hD hS _ (lv_sub hl [1, 2, 3, 4, 5, 6, 0] rfl)
      · replace hR := if_p c16 hR
        refine lv_iconst (v := 1) hx hb d_Exprs_checkNew_126 (by decide) ?_
        refine lv_goto (tgt := 131) hx hb d_Exprs_checkNew_127 (by decide) ?_
        have g := lb_131 T13 x1 x2 x3 x6 x8 y0 (1 : Int32) hR
        rw [hG] at g
        exact g _ _ hP hD hS _ (lv_sub hl [1, 2, 3, 4, 5, 6, 0] rfl)
  unfold rb_Exprs_checkNew at hR
  refine lv_aload_n hx hb d_Exprs_checkNew_0 rfl (lv_at hl 0 rfl) ?_
  refine rd_Exprs_9 hx hb hT hown hK hP d_Exprs_checkNew_1 ?_
  refine rd_Exprs_146 hx hb hT hown hK hP d_Exprs_checkNew_4 ?_
  refine lv_iload_n hx hb d_Exprs_checkNew_7 rfl (lv_at hl 1 rfl) ?_
  replace hR := gd_e hR
  obtain ⟨b1, hR⟩ := hR
  refine laH_2 hx hb hK hP b1 d_Exprs_checkNew_8 ?_
  refine lv_topi (fun z2 e2 => ?_)
  replace hR := vK_e e2 hR
  refine lv_istore_n (lv' := [(3, .int z2), (0, .ref (ad 8)), (1, .int p1), (2, .int p2)]) hx hb d_Exprs_checkNew_9 rfl hl (by decide) rfl (fun ls hl => ?_)
  refine lv_aload_n hx hb d_Exprs_checkNew_10 rfl (lv_at hl 1 rfl) ?_
  refine lv_iload_n hx hb d_Exprs_checkNew_11 rfl (lv_at hl 0 rfl) ?_
  refine lv_iconst (v := 1) hx hb d_Exprs_checkNew_12 (by decide) ?_
  refine lv_iadd hx hb d_Exprs_checkNew_13 ?_
  replace hR := bi_e hR
  obtain ⟨r3, l3, T3, hc3, hR⟩ := hR
  refine gcV_i (rest := []) ⟨hx, hb, hml, hown, hT⟩ (h_Exprs_readLiveRegion _ _ _ _ _ hc3) (cwV 1 hT (gV ml_Exprs_290 im_Exprs_readLiveRegion se_Exprs_readLiveRegion ini_Exprs co_Exprs_readLiveRegion) rfl rfl rfl pd_Exprs_readLiveRegion ⟨rm_hi, rm_lo (Nat.le_of_ble_eq_true rfl)⟩) hK hP hD hS hA hnw henv (Nat.le_of_ble_eq_true rfl) rfl rfl hl.1 rfl (Nat.le_of_ble_eq_true rfl) d_Exprs_checkNew_14 ⟨Nat.le_refl _, Nat.le_refl _⟩ (fun H locs hP hD hS => ?_)
  clear hc3
  refine lv_istore (lv' := [(4, .int r3), (3, .int z2), (0, .ref (ad 8)), (1, .int p1), (2, .int p2)]) hx hb d_Exprs_checkNew_17 hl (by decide) rfl (fun ls hl => ?_)
  refine lv_aload_n hx hb d_Exprs_checkNew_19 rfl (lv_at hl 2 rfl) ?_
  refine rd_Exprs_19 hx hb hT hown hK hP d_Exprs_checkNew_20 ?_
  refine lv_iload_n hx hb d_Exprs_checkNew_23 rfl (lv_at hl 1 rfl) ?_
  refine lv_iconst (v := 2) hx hb d_Exprs_checkNew_24 (by decide) ?_
  refine lv_iadd hx hb d_Exprs_checkNew_25 ?_
  replace hR := bi_e hR
  obtain ⟨r4, l4, T4, hc4, hR⟩ := hR
  refine gcV_i (rest := []) ⟨hx, hb, hml, hown, hT⟩ (h_Heads_readTitle _ _ _ _ _ hc4) (cwV 1 hT (gV ml_Exprs_293 im_Heads_readTitle se_Heads_readTitle ini_Heads co_Heads_readTitle) rfl rfl rfl pd_Heads_readTitle ⟨rm_hi, rm_lo (Nat.le_of_ble_eq_true rfl)⟩) hK hP hD hS hA hnw henv (Nat.le_of_ble_eq_true rfl) rfl rfl hl.1 rfl (Nat.le_of_ble_eq_true rfl) d_Exprs_checkNew_26 ⟨Nat.le_refl _, Nat.le_refl _⟩ (fun H locs hP hD hS => ?_)
  clear hc4
  refine lv_istore (lv' := [(5, .int r4), (4, .int r3), (3, .int z2), (0, .ref (ad 8)), (1, .int p1), (2, .int p2)]) hx hb d_Exprs_checkNew_29 hl (by decide) rfl (fun ls hl => ?_)
  refine lv_aload_n hx hb d_Exprs_checkNew_31 rfl (lv_at hl 3 rfl) ?_
  refine rd_Exprs_29 hx hb hT hown hK hP d_Exprs_checkNew_32 ?_
  refine lv_iconst (v := 3) hx hb d_Exprs_checkNew_35 (by decide) ?_
  refine lv_iload hx hb d_Exprs_checkNew_36 (lv_at hl 1 rfl) ?_
  refine lv_iload hx hb d_Exprs_checkNew_38 (lv_at hl 0 rfl) ?_
  replace hR := bi_e hR
  obtain ⟨r5, l5, T5, hc5, hR⟩ := hR
  refine gcV_i (rest := []) ⟨hx, hb, hml, hown, hT⟩ (h_Types_pointer _ _ _ _ _ _ _ hc5) (cwV 3 hT (gV ml_Exprs_238 im_Types_pointer se_Types_pointer ini_Types co_Types_pointer) rfl rfl rfl pd_Types_pointer ⟨rm_hi, rm_lo (Nat.le_of_ble_eq_true rfl)⟩) hK hP hD hS hA hnw henv (Nat.le_of_ble_eq_true rfl) rfl rfl hl.1 rfl (Nat.le_of_ble_eq_true rfl) d_Exprs_checkNew_40 ⟨Nat.le_refl _, Nat.le_refl _⟩ (fun H locs hP hD hS => ?_)
  clear hc5
  refine lv_istore (lv' := [(6, .int r5), (5, .int r4), (4, .int r3), (3, .int z2), (0, .ref (ad 8)), (1, .int p1), (2, .int p2)]) hx hb d_Exprs_checkNew_43 hl (by decide) rfl (fun ls hl => ?_)
  refine lv_aload_n hx hb d_Exprs_checkNew_45 rfl (lv_at hl 4 rfl) ?_
  refine rd_Exprs_29 hx hb hT hown hK hP d_Exprs_checkNew_46 ?_
  refine lv_iload hx hb d_Exprs_checkNew_49 (lv_at hl 0 rfl) ?_
  replace hR := bi_e hR
  obtain ⟨r6, l6, T6, hc6, hR⟩ := hR
  refine gcV_i (rest := []) ⟨hx, hb, hml, hown, hT⟩ (h_Types_titleBehind _ _ _ _ _ hc6) (cwV 1 hT (gV ml_Exprs_143 im_Types_titleBehind se_Types_titleBehind ini_Types co_Types_titleBehind) rfl rfl rfl pd_Types_titleBehind ⟨rm_hi, rm_lo (Nat.le_of_ble_eq_true rfl)⟩) hK hP hD hS hA hnw henv (Nat.le_of_ble_eq_true rfl) rfl rfl hl.1 rfl (Nat.le_of_ble_eq_true rfl) d_Exprs_checkNew_51 ⟨Nat.le_refl _, Nat.le_refl _⟩ (fun H locs hP hD hS => ?_)
  clear hc6
  refine lv_istore (lv' := [(7, .int r6), (6, .int r5), (5, .int r4), (4, .int r3), (3, .int z2), (0, .ref (ad 8)), (1, .int p1), (2, .int p2)]) hx hb d_Exprs_checkNew_54 hl (by decide) rfl (fun ls hl => ?_)
  refine lv_iload hx hb d_Exprs_checkNew_56 (lv_at hl 0 rfl) ?_
  refine lv_iconst (v := (-1)) hx hb d_Exprs_checkNew_58 (by decide) ?_
  refine lv_icmp_ne (tgt := 64) hx hb d_Exprs_checkNew_59 (by decide) (fun c7 => ?_) (fun c7 => ?_)
  · replace hR := if_n c7 hR
    refine lv_iload_n hx hb d_Exprs_checkNew_64 rfl (lv_at hl 4 rfl) ?_
    refine lv_iconst (v := 3) hx hb d_Exprs_checkNew_65 (by decide) ?_
    refine lv_iadd hx hb d_Exprs_checkNew_66 ?_
    refine lv_aload_n hx hb d_Exprs_checkNew_67 rfl (lv_at hl 5 rfl) ?_
    refine rd_Exprs_9 hx hb hT hown hK hP d_Exprs_checkNew_68 ?_
    refine rd_Exprs_241 hx hb hT hown hK hP d_Exprs_checkNew_71 ?_
    refine lv_iload_n hx hb d_Exprs_checkNew_74 rfl (lv_at hl 6 rfl) ?_
    replace hR := gd_e hR
    obtain ⟨b8, hR⟩ := hR
    refine laH_6 hx hb hK hP b8 d_Exprs_checkNew_75 ?_
    refine lv_iadd hx hb d_Exprs_checkNew_76 ?_
    refine lv_topi (fun z9 e9 => ?_)
    replace hR := vK_e e9 hR
    refine lv_istore (lv' := [(8, .int z9), (7, .int r6), (6, .int r5), (5, .int r4), (4, .int r3), (3, .int z2), (0, .ref (ad 8)), (1, .int p1), (2, .int p2)]) hx hb d_Exprs_checkNew_77 hl (by decide) rfl (fun ls hl => ?_)
    refine lv_aload_n hx hb d_Exprs_checkNew_79 rfl (lv_at hl 6 rfl) ?_
    refine rd_Exprs_15 hx hb hT hown hK hP d_Exprs_checkNew_80 ?_
    refine rd_Exprs_175 hx hb hT hown hK hP d_Exprs_checkNew_83 ?_
    refine lv_iload hx hb d_Exprs_checkNew_86 (lv_at hl 1 rfl) ?_
    replace hR := gd_e hR
    obtain ⟨b10, hR⟩ := hR
    refine laH_13 hx hb hK hP b10 d_Exprs_checkNew_88 ?_
    refine lv_bipush (v := 11) hx hb d_Exprs_checkNew_89 (by decide) ?_
    refine lv_icmp_ne (tgt := 98) hx hb d_Exprs_checkNew_91 (by decide) (fun c11 => ?_) (fun c11 => ?_)
    · replace hR := if_n c11 hR
      refine lv_iconst (v := 0) hx hb d_Exprs_checkNew_98 (by decide) ?_
      have g := lb_99 T6 p1 p2 z2 r5 z9 (0 : Int32) hR
      rw [hG] at g
      exact g _ _ hP hD hS _ (lv_sub hl [6, 7, 8, 5, 2, 0] rfl)
    · replace hR := if_p c11 hR
      refine lv_iconst (v := 1) hx hb d_Exprs_checkNew_94 (by decide) ?_
      refine lv_goto (tgt := 99) hx hb d_Exprs_checkNew_95 (by decide) ?_
      have g := lb_99 T6 p1 p2 z2 r5 z9 (1 : Int32) hR
      rw [hG] at g
      exact g _ _ hP hD hS _ (lv_sub hl [6, 7, 8, 5, 2, 0] rfl)
  · replace hR := if_p c7 hR
    refine lv_iconst (v := 1) hx hb d_Exprs_checkNew_62 (by decide) ?_
    obtain ⟨e1, -, e3⟩ := re_e hR
    subst e1; subst e3
    exact W.iret (v := (1 : Int32)) hx hb hr (fun t ht hW => ⟨⟨(1 : Int32), (), rfl, rfl, by rw [ht]; exact hP, va_K.moved hW.alike hK, hD⟩, hS.F ht⟩) hS.2.2 d_Exprs_checkNew_63
set_option maxHeartbeats 4000000 in
set_option maxRecDepth 100000 in
theorem sp_Exprs_makeUnion (l : Launch) (dC : Nat → ClassId) (dI : Nat → Nat → Nat) (ea ev ad : Nat → Nat) (km : Nat → ClassId) (F : gF) (nf d : Nat) (h_Types_titleBehind : mt_Types_titleBehind l dC dI ea ev ad km F d) (h_Source_nameAt : mt_Source_nameAt l dC dI ea ev ad km F d) (h_Heads_findPart : mt_Heads_findPart l dC dI ea ev ad km F d) (h_Items_typeOfPart : mt_Items_typeOfPart l dC dI ea ev ad km F d) (h_Types_regionsBehind : mt_Types_regionsBehind l dC dI ea ev ad km F d) (h_Types_told : mt_Types_told l dC dI ea ev ad km F d) (h_Exprs_checkFits : mt_Exprs_checkFits l dC dI ea ev ad km F d) (h_Types_regionOf : mt_Types_regionOf l dC dI ea ev ad km F d) (h_Types_wordsOf : mt_Types_wordsOf l dC dI ea ev ad km F d) (h_Code_emit : mt_Code_emit l dC dI ea ev ad km F d) (h_Source_startOf : mt_Source_startOf l dC dI ea ev ad km F d) (h_Code_note : mt_Code_note l dC dI ea ev ad km F d) (T0 : gSt) (p1 : Int32) (p2 : Int32) (p3 : Int32) (p4 : Int32) (r0 : Int32) (rl0 : Int64) (T9 : gSt) (hR : rb_Exprs_makeUnion F nf T0 p1 p2 p3 p4 = some (r0, rl0, T9)) : GMv l dC dI LH ad km ea ev y_Exprs_makeUnion w_Exprs_makeUnion (rmD (d + 1)) [.ref (ad 8), .int p1, .int p2, .int p3, .int p4] T0 T9 := by
  intro sz
  refine Met.ofW (cc := b_Exprs_makeUnion) (maxL := 8) (ret := none) (by decide) rfl ?_
  intro p e s m args below meth c s₁ B hml hv
  obtain ⟨rfl, hsz, hP, hK, hD0, hnw, henv⟩ := hv
  have hx := B.exec
  have hb := B.bytes
  have hr := B.returns
  have hT : ∀ w ∈ lw_good, w.before _ s = true := fun w h => atoms_spec (ws := w_Exprs_makeUnion) B.pre w (List.mem_cons_of_mem _ h)
  have hown : s.vm.findClass R_Exprs = some m.cls := findClass_of_methodNamed B.named
  subst hsz
  have hD := hD0.self (sz := s.heap.size)
  clear hD0
  generalize hAe : va_A (gW LH ad km T0) s.heap.size = A at hD henv ⊢
  have hA : ∀ q : Nat, s.heap.size ≤ q → A q := fun q h => by rw [← hAe]; exact Or.inr h
  have hS : va_S A s.heap s.heap [] := va_S.rf
  have hl := lv_entry ([.ref (ad 8), .int p1, .int p2, .int p3, .int p4]) (n := 8) (Nat.le_of_ble_eq_true rfl)
  rw [lg_entry_eq]
  generalize (lg_sl ([.ref (ad 8), .int p1, .int p2, .int p3, .int p4]) ++ List.replicate (8 - (lg_sl ([.ref (ad 8), .int p1, .int p2, .int p3, .int p4])).length) Slot.unset).toArray = ls at hl ⊢
  have hl : lv_has ls 8 [(0, .ref (ad 8)), (1, .int p1), (2, .int p2), (3, .int p3), (4, .int p4)] := hl
  unfold rb_Exprs_makeUnion at hR
  refine lv_aload_n hx hb d_Exprs_makeUnion_0 rfl (lv_at hl 0 rfl) ?_
  refine rd_Exprs_29 hx hb hT hown hK hP d_Exprs_makeUnion_1 ?_
  refine lv_iload_n hx hb d_Exprs_makeUnion_4 rfl (lv_at hl 2 rfl) ?_
  replace hR := bi_e hR
  obtain ⟨r1, l1, T1, hc1, hR⟩ := hR
  refine gcV_i (rest := []) ⟨hx, hb, hml, hown, hT⟩ (h_Types_titleBehind _ _ _ _ _ hc1) (cwV 1 hT (gV ml_Exprs_143 im_Types_titleBehind se_Types_titleBehind ini_Types co_Types_titleBehind) rfl rfl rfl pd_Types_titleBehind ⟨rm_hi, rm_lo (Nat.le_of_ble_eq_true rfl)⟩) hK hP hD hS hA hnw henv (Nat.le_of_ble_eq_true rfl) rfl rfl hl.1 rfl (Nat.le_of_ble_eq_true rfl) d_Exprs_makeUnion_5 ⟨Nat.le_refl _, Nat.le_refl _⟩ (fun H locs hP hD hS => ?_)
  clear hc1
  refine lv_istore (lv' := [(5, .int r1), (0, .ref (ad 8)), (1, .int p1), (2, .int p2), (3, .int p3), (4, .int p4)]) hx hb d_Exprs_makeUnion_8 hl (by decide) rfl (fun ls hl => ?_)
  refine lv_aload_n hx hb d_Exprs_makeUnion_10 rfl (lv_at hl 1 rfl) ?_
  refine rd_Exprs_19 hx hb hT hown hK hP d_Exprs_makeUnion_11 ?_
  refine lv_iload hx hb d_Exprs_makeUnion_14 (lv_at hl 0 rfl) ?_
  refine lv_aload_n hx hb d_Exprs_makeUnion_16 rfl (lv_at hl 1 rfl) ?_
  refine rd_Exprs_9 hx hb hT hown hK hP d_Exprs_makeUnion_17 ?_
  refine lv_iload_n hx hb d_Exprs_makeUnion_20 rfl (lv_at hl 4 rfl) ?_
  replace hR := bi_e hR
  obtain ⟨r2, l2, T2, hc2, hR⟩ := hR
  refine gcV_l (rest := [.int r1, .ref (ad 7)]) ⟨hx, hb, hml, hown, hT⟩ (h_Source_nameAt _ _ _ _ _ hc2) (cwV 1 hT (gV ml_Exprs_149 im_Source_nameAt se_Source_nameAt ini_Source co_Source_nameAt) rfl rfl rfl pd_Source_nameAt ⟨rm_hi, rm_lo (Nat.le_of_ble_eq_true rfl)⟩) hK hP hD hS hA hnw henv (Nat.le_of_ble_eq_true rfl) rfl rfl hl.1 rfl (Nat.le_of_ble_eq_true rfl) d_Exprs_makeUnion_21 ⟨Nat.le_refl _, Nat.le_refl _⟩ (fun H locs hP hD hS => ?_)
  clear hc2
  replace hR := bi_e hR
  obtain ⟨r3, l3, T3, hc3, hR⟩ := hR
  refine gcV_i (rest := []) ⟨hx, hb, hml, hown, hT⟩ (h_Heads_findPart _ _ _ _ _ _ hc3) (cwV 2 hT (gV ml_Exprs_153 im_Heads_findPart se_Heads_findPart ini_Heads co_Heads_findPart) rfl rfl rfl pd_Heads_findPart ⟨rm_hi, rm_lo (Nat.le_of_ble_eq_true rfl)⟩) hK hP hD hS hA hnw henv (Nat.le_of_ble_eq_true rfl) rfl rfl hl.1 rfl (Nat.le_of_ble_eq_true rfl) d_Exprs_makeUnion_24 ⟨Nat.le_refl _, Nat.le_refl _⟩ (fun H locs hP hD hS => ?_)
  clear hc3
  refine lv_istore (lv' := [(6, .int r3), (5, .int r1), (0, .ref (ad 8)), (1, .int p1), (2, .int p2), (3, .int p3), (4, .int p4)]) hx hb d_Exprs_makeUnion_27 hl (by decide) rfl (fun ls hl => ?_)
  refine lv_iload hx hb d_Exprs_makeUnion_29 (lv_at hl 0 rfl) ?_
  refine lv_iconst (v := (-1)) hx hb d_Exprs_makeUnion_31 (by decide) ?_
  refine lv_icmp_ne (tgt := 52) hx hb d_Exprs_makeUnion_32 (by decide) (fun c4 => ?_) (fun c4 => ?_)
  · replace hR := if_n c4 hR
    refine lv_aload_n hx hb d_Exprs_makeUnion_52 rfl (lv_at hl 2 rfl) ?_
    refine rd_Exprs_29 hx hb hT hown hK hP d_Exprs_makeUnion_53 ?_
    refine lv_aload_n hx hb d_Exprs_makeUnion_56 rfl (lv_at hl 2 rfl) ?_
    refine rd_Exprs_15 hx hb hT hown hK hP d_Exprs_makeUnion_57 ?_
    refine lv_iload hx hb d_Exprs_makeUnion_60 (lv_at hl 1 rfl) ?_
    refine lv_iload hx hb d_Exprs_makeUnion_62 (lv_at hl 0 rfl) ?_
    replace hR := bi_e hR
    obtain ⟨r5, l5, T5, hc5, hR⟩ := hR
    refine gcV_i (rest := [.ref (ad 5)]) ⟨hx, hb, hml, hown, hT⟩ (h_Items_typeOfPart _ _ _ _ _ _ hc5) (cwV 2 hT (gV ml_Exprs_164 im_Items_typeOfPart se_Items_typeOfPart ini_Items co_Items_typeOfPart) rfl rfl rfl pd_Items_typeOfPart ⟨rm_hi, rm_lo (Nat.le_of_ble_eq_true rfl)⟩) hK hP hD hS hA hnw henv (Nat.le_of_ble_eq_true rfl) rfl rfl hl.1 rfl (Nat.le_of_ble_eq_true rfl) d_Exprs_makeUnion_64 ⟨Nat.le_refl _, Nat.le_refl _⟩ (fun H locs hP hD hS => ?_)
    clear hc5
    refine lv_aload_n hx hb d_Exprs_makeUnion_67 rfl (lv_at hl 2 rfl) ?_
    refine rd_Exprs_29 hx hb hT hown hK hP d_Exprs_makeUnion_68 ?_
    refine lv_iload_n hx hb d_Exprs_makeUnion_71 rfl (lv_at hl 4 rfl) ?_
    replace hR := bi_e hR
    obtain ⟨r6, l6, T6, hc6, hR⟩ := hR
    refine gcV_i (rest := [.int r5, .ref (ad 5)]) ⟨hx, hb, hml, hown, hT⟩ (h_Types_regionsBehind _ _ _ _ _ hc6) (cwV 1 hT (gV ml_Exprs_169 im_Types_regionsBehind se_Types_regionsBehind ini_Types co_Types_regionsBehind) rfl rfl rfl pd_Types_regionsBehind ⟨rm_hi, rm_lo (Nat.le_of_ble_eq_true rfl)⟩) hK hP hD hS hA hnw henv (Nat.le_of_ble_eq_true rfl) rfl rfl hl.1 rfl (Nat.le_of_ble_eq_true rfl) d_Exprs_makeUnion_72 ⟨Nat.le_refl _, Nat.le_refl _⟩ (fun H locs hP hD hS => ?_)
    clear hc6
    refine lv_iconst (v := 1) hx hb d_Exprs_makeUnion_75 (by decide) ?_
    replace hR := bi_e hR
    obtain ⟨r7, l7, T7, hc7, hR⟩ := hR
    refine gcV_i (rest := []) ⟨hx, hb, hml, hown, hT⟩ (h_Types_told _ _ _ _ _ _ _ hc7) (cwV 3 hT (gV ml_Exprs_172 im_Types_told se_Types_told ini_Types co_Types_told) rfl rfl rfl pd_Types_told ⟨rm_hi, rm_lo (Nat.le_of_ble_eq_true rfl)⟩) hK hP hD hS hA hnw henv (Nat.le_of_ble_eq_true rfl) rfl rfl hl.1 rfl (Nat.le_of_ble_eq_true rfl) d_Exprs_makeUnion_76 ⟨Nat.le_refl _, Nat.le_refl _⟩ (fun H locs hP hD hS => ?_)
    clear hc7
    refine lv_istore (lv' := [(7, .int r7), (6, .int r3), (5, .int r1), (0, .ref (ad 8)), (1, .int p1), (2, .int p2), (3, .int p3), (4, .int p4)]) hx hb d_Exprs_makeUnion_79 hl (by decide) rfl (fun ls hl => ?_)
    refine lv_aload_n hx hb d_Exprs_makeUnion_81 rfl (lv_at hl 3 rfl) ?_
    refine lv_aload_n hx hb d_Exprs_makeUnion_82 rfl (lv_at hl 3 rfl) ?_
    refine rd_Exprs_9 hx hb hT hown hK hP d_Exprs_makeUnion_83 ?_
    refine rd_Exprs_188 hx hb hT hown hK hP d_Exprs_makeUnion_86 ?_
    refine lv_iload_n hx hb d_Exprs_makeUnion_89 rfl (lv_at hl 4 rfl) ?_
    replace hR := gd_e hR
    obtain ⟨b8, hR⟩ := hR
    refine laH_7 hx hb hK hP b8 d_Exprs_makeUnion_90 ?_
    refine lv_iload hx hb d_Exprs_makeUnion_91 (lv_at hl 0 rfl) ?_
    refine lv_iload hx hb d_Exprs_makeUnion_93 (lv_at hl 7 rfl) ?_
    refine lv_iconst (v := 1) hx hb d_Exprs_makeUnion_95 (by decide) ?_
    refine lv_iadd hx hb d_Exprs_makeUnion_96 ?_
    replace hR := bi_e hR
    obtain ⟨r9, l9, T9, hc9, hR⟩ := hR
    refine gcV_v (rest := []) ⟨hx, hb, hml, hown, hT⟩ (h_Exprs_checkFits _ _ _ _ _ _ _ hc9) (cwV 3 hT (gV ml_Exprs_275 im_Exprs_checkFits se_Exprs_checkFits ini_Exprs co_Exprs_checkFits) rfl rfl rfl pd_Exprs_checkFits ⟨rm_hi, rm_lo (Nat.le_of_ble_eq_true rfl)⟩) hK hP hD hS hA hnw henv (Nat.le_of_ble_eq_true rfl) rfl rfl hl.1 rfl (Nat.le_of_ble_eq_true rfl) d_Exprs_makeUnion_97 ⟨Nat.le_refl _, Nat.le_refl _⟩ (fun H locs hP hD hS => ?_)
    clear hc9
    refine lv_aload_n hx hb d_Exprs_makeUnion_100 rfl (lv_at hl 3 rfl) ?_
    refine rd_Exprs_35 hx hb hT hown hK hP d_Exprs_makeUnion_101 ?_
    refine lv_bipush (v := 41) hx hb d_Exprs_makeUnion_104 (by decide) ?_
    refine lv_aload_n hx hb d_Exprs_makeUnion_106 rfl (lv_at hl 3 rfl) ?_
    refine rd_Exprs_29 hx hb hT hown hK hP d_Exprs_makeUnion_107 ?_
    refine lv_iload_n hx hb d_Exprs_makeUnion_110 rfl (lv_at hl 5 rfl) ?_
    replace hR := bi_e hR
    obtain ⟨r10, l10, T10, hc10, hR⟩ := hR
    refine gcV_i (rest := [.int (41 : Int32), .ref (ad 3)]) ⟨hx, hb, hml, hown, hT⟩ (h_Types_regionOf _ _ _ _ _ hc10) (cwV 1 hT (gV ml_Exprs_82 im_Types_regionOf se_Types_regionOf ini_Types co_Types_regionOf) rfl rfl rfl pd_Types_regionOf ⟨rm_hi, rm_lo (Nat.le_of_ble_eq_true rfl)⟩) hK hP hD hS hA hnw henv (Nat.le_of_ble_eq_true rfl) rfl rfl hl.1 rfl (Nat.le_of_ble_eq_true rfl) d_Exprs_makeUnion_111 ⟨Nat.le_refl _, Nat.le_refl _⟩ (fun H locs hP hD hS => ?_)
    clear hc10
    refine lv_iload hx hb d_Exprs_makeUnion_114 (lv_at hl 1 rfl) ?_
    refine lv_iconst (v := 1) hx hb d_Exprs_makeUnion_116 (by decide) ?_
    refine lv_iadd hx hb d_Exprs_makeUnion_117 ?_
    refine lv_iconst (v := 4) hx hb d_Exprs_makeUnion_118 (by decide) ?_
    refine lv_ishl hx hb d_Exprs_makeUnion_119 ?_
    refine lv_ior hx hb d_Exprs_makeUnion_120 ?_
    refine lv_aload_n hx hb d_Exprs_makeUnion_121 rfl (lv_at hl 3 rfl) ?_
    refine rd_Exprs_29 hx hb hT hown hK hP d_Exprs_makeUnion_122 ?_
    refine lv_iload hx hb d_Exprs_makeUnion_125 (lv_at hl 0 rfl) ?_
    replace hR := bi_e hR
    obtain ⟨r11, l11, T11, hc11, hR⟩ := hR
    refine gcV_i (rest := [.int (r10 ||| ((r3 + (1 : Int32)) <<< ((4 : Int32) &&& 31))), .int (41 : Int32), .ref (ad 3)]) ⟨hx, hb, hml, hown, hT⟩ (h_Types_wordsOf _ _ _ _ _ hc11) (cwV 1 hT (gV ml_Exprs_179 im_Types_wordsOf se_Types_wordsOf ini_Types co_Types_wordsOf) rfl rfl rfl pd_Types_wordsOf ⟨rm_hi, rm_lo (Nat.le_of_ble_eq_true rfl)⟩) hK hP hD hS hA hnw henv (Nat.le_of_ble_eq_true rfl) rfl rfl hl.1 rfl (Nat.le_of_ble_eq_true rfl) d_Exprs_makeUnion_127 ⟨Nat.le_refl _, Nat.le_refl _⟩ (fun H locs hP hD hS => ?_)
    clear hc11
    refine lv_aload_n hx hb d_Exprs_makeUnion_130 rfl (lv_at hl 3 rfl) ?_
    refine rd_Exprs_15 hx hb hT hown hK hP d_Exprs_makeUnion_131 ?_
    refine rd_Exprs_305 hx hb hT hown hK hP d_Exprs_makeUnion_134 ?_
    refine lv_iload hx hb d_Exprs_makeUnion_137 (lv_at hl 2 rfl) ?_
    replace hR := gd_e hR
    obtain ⟨b12, hR⟩ := hR
    refine laH_26 hx hb hK hP b12 d_Exprs_makeUnion_139 ?_
    refine lv_bipush (v := 8) hx hb d_Exprs_makeUnion_140 (by decide) ?_
    refine lv_ishl hx hb d_Exprs_makeUnion_142 ?_
    refine lv_ior hx hb d_Exprs_makeUnion_143 ?_
    replace hR := bi_e hR
    obtain ⟨r13, l13, T13, hc13, hR⟩ := hR
    refine gcV_i (rest := []) ⟨hx, hb, hml, hown, hT⟩ (h_Code_emit _ _ _ _ _ _ _ hc13) (cwV 3 hT (gV ml_Exprs_94 im_Code_emit se_Code_emit ini_Code co_Code_emit) rfl rfl rfl pd_Code_emit ⟨rm_hi, rm_lo (Nat.le_of_ble_eq_true rfl)⟩) hK hP hD hS hA hnw henv (Nat.le_of_ble_eq_true rfl) rfl rfl hl.1 rfl (Nat.le_of_ble_eq_true rfl) d_Exprs_makeUnion_144 ⟨Nat.le_refl _, Nat.le_refl _⟩ (fun H locs hP hD hS => ?_)
    clear hc13
    refine lv_pop hx hb d_Exprs_makeUnion_147 rfl ?_
    obtain ⟨-, -, e3⟩ := re_e hR
    subst e3
    exact W.vret hx hb hr (fun t ht hW => ⟨⟨(), rfl, trivial, by rw [ht]; exact hP, va_K.moved hW.alike hK, hD⟩, hS.F ht⟩) hS.2.2 d_Exprs_makeUnion_148
  · replace hR := if_p c4 hR
    refine lv_aload_n hx hb d_Exprs_makeUnion_35 rfl (lv_at hl 2 rfl) ?_
    refine rd_Exprs_35 hx hb hT hown hK hP d_Exprs_makeUnion_36 ?_
    refine lv_iconst (v := 3) hx hb d_Exprs_makeUnion_39 (by decide) ?_
    refine lv_aload_n hx hb d_Exprs_makeUnion_40 rfl (lv_at hl 2 rfl) ?_
    refine rd_Exprs_9 hx hb hT hown hK hP d_Exprs_makeUnion_41 ?_
    refine lv_iload_n hx hb d_Exprs_makeUnion_44 rfl (lv_at hl 5 rfl) ?_
    replace hR := bi_e hR
    obtain ⟨r14, l14, T14, hc14, hR⟩ := hR
    refine gcV_i (rest := [.int (3 : Int32), .ref (ad 3)]) ⟨hx, hb, hml, hown, hT⟩ (h_Source_startOf _ _ _ _ _ hc14) (cwV 1 hT (gV ml_Exprs_157 im_Source_startOf se_Source_startOf ini_Source co_Source_startOf) rfl rfl rfl pd_Source_startOf ⟨rm_hi, rm_lo (Nat.le_of_ble_eq_true rfl)⟩) hK hP hD hS hA hnw henv (Nat.le_of_ble_eq_true rfl) rfl rfl hl.1 rfl (Nat.le_of_ble_eq_true rfl) d_Exprs_makeUnion_45 ⟨Nat.le_refl _, Nat.le_refl _⟩ (fun H locs hP hD hS => ?_)
    clear hc14
    replace hR := bi_e hR
    obtain ⟨r15, l15, T15, hc15, hR⟩ := hR
    refine gcV_v (rest := []) ⟨hx, hb, hml, hown, hT⟩ (h_Code_note _ _ _ _ _ _ hc15) (cwV 2 hT (gV ml_Exprs_68 im_Code_note se_Code_note ini_Code co_Code_note) rfl rfl rfl pd_Code_note ⟨rm_hi, rm_lo (Nat.le_of_ble_eq_true rfl)⟩) hK hP hD hS hA hnw henv (Nat.le_of_ble_eq_true rfl) rfl rfl hl.1 rfl (Nat.le_of_ble_eq_true rfl) d_Exprs_makeUnion_48 ⟨Nat.le_refl _, Nat.le_refl _⟩ (fun H locs hP hD hS => ?_)
    clear hc15
    obtain ⟨-, -, e3⟩ := re_e hR
    subst e3
    exact W.vret hx hb hr (fun t ht hW => ⟨⟨(), rfl, trivial, by rw [ht]; exact hP, va_K.moved hW.alike hK, hD⟩, hS.F ht⟩) hS.2.2 d_Exprs_makeUnion_51
set_option maxHeartbeats 4000000 in
set_option maxRecDepth 100000 in
theorem sp_Exprs_makeStruct (l : Launch) (dC : Nat → ClassId) (dI : Nat → Nat → Nat) (ea ev ad : Nat → Nat) (km : Nat → ClassId) (F : gF) (nf d : Nat) (h_Types_titleBehind : mt_Types_titleBehind l dC dI ea ev ad km F d) (h_Source_countPeers : mt_Source_countPeers l dC dI ea ev ad km F d) (h_Types_regionsBehind : mt_Types_regionsBehind l dC dI ea ev ad km F d) (h_Exprs_checkParts : mt_Exprs_checkParts l dC dI ea ev ad km F d) (h_Types_regionOf : mt_Types_regionOf l dC dI ea ev ad km F d) (h_Code_emit : mt_Code_emit l dC dI ea ev ad km F d) (h_Source_startOf : mt_Source_startOf l dC dI ea ev ad km F d) (h_Code_note : mt_Code_note l dC dI ea ev ad km F d) (T0 : gSt) (p1 : Int32) (p2 : Int32) (p3 : Int32) (p4 : Int32) (r0 : Int32) (rl0 : Int64) (T9 : gSt) (hR : rb_Exprs_makeStruct F nf T0 p1 p2 p3 p4 = some (r0, rl0, T9)) : GMv l dC dI LH ad km ea ev y_Exprs_makeStruct w_Exprs_makeStruct (rmD (d + 1)) [.ref (ad 8), .int p1, .int p2, .int p3, .int p4] T0 T9 := by
  intro sz
  refine Met.ofW (cc := b_Exprs_makeStruct) (maxL := 6) (ret := none) (by decide) rfl ?_
  intro p e s m args below meth c s₁ B hml hv
  obtain ⟨rfl, hsz, hP, hK, hD0, hnw, henv⟩ := hv
  have hx := B.exec
  have hb := B.bytes
  have hr := B.returns
  have hT : ∀ w ∈ lw_good, w.before _ s = true := fun w h => atoms_spec (ws := w_Exprs_makeStruct) B.pre w (List.mem_cons_of_mem _ h)
  have hown : s.vm.findClass R_Exprs = some m.cls := findClass_of_methodNamed B.named
  subst hsz
  have hD := hD0.self (sz := s.heap.size)
  clear hD0
  generalize hAe : va_A (gW LH ad km T0) s.heap.size = A at hD henv ⊢
  have hA : ∀ q : Nat, s.heap.size ≤ q → A q := fun q h => by rw [← hAe]; exact Or.inr h
  have hS : va_S A s.heap s.heap [] := va_S.rf
  have hl := lv_entry ([.ref (ad 8), .int p1, .int p2, .int p3, .int p4]) (n := 6) (Nat.le_of_ble_eq_true rfl)
  rw [lg_entry_eq]
  generalize (lg_sl ([.ref (ad 8), .int p1, .int p2, .int p3, .int p4]) ++ List.replicate (6 - (lg_sl ([.ref (ad 8), .int p1, .int p2, .int p3, .int p4])).length) Slot.unset).toArray = ls at hl ⊢
  have hl : lv_has ls 6 [(0, .ref (ad 8)), (1, .int p1), (2, .int p2), (3, .int p3), (4, .int p4)] := hl
  unfold rb_Exprs_makeStruct at hR
  refine lv_aload_n hx hb d_Exprs_makeStruct_0 rfl (lv_at hl 0 rfl) ?_
  refine rd_Exprs_29 hx hb hT hown hK hP d_Exprs_makeStruct_1 ?_
  refine lv_iload_n hx hb d_Exprs_makeStruct_4 rfl (lv_at hl 2 rfl) ?_
  replace hR := bi_e hR
  obtain ⟨r1, l1, T1, hc1, hR⟩ := hR
  refine gcV_i (rest := []) ⟨hx, hb, hml, hown, hT⟩ (h_Types_titleBehind _ _ _ _ _ hc1) (cwV 1 hT (gV ml_Exprs_143 im_Types_titleBehind se_Types_titleBehind ini_Types co_Types_titleBehind) rfl rfl rfl pd_Types_titleBehind ⟨rm_hi, rm_lo (Nat.le_of_ble_eq_true rfl)⟩) hK hP hD hS hA hnw henv (Nat.le_of_ble_eq_true rfl) rfl rfl hl.1 rfl (Nat.le_of_ble_eq_true rfl) d_Exprs_makeStruct_5 ⟨Nat.le_refl _, Nat.le_refl _⟩ (fun H locs hP hD hS => ?_)
  clear hc1
  refine lv_istore (lv' := [(5, .int r1), (0, .ref (ad 8)), (1, .int p1), (2, .int p2), (3, .int p3), (4, .int p4)]) hx hb d_Exprs_makeStruct_8 hl (by decide) rfl (fun ls hl => ?_)
  refine lv_aload_n hx hb d_Exprs_makeStruct_10 rfl (lv_at hl 1 rfl) ?_
  refine rd_Exprs_9 hx hb hT hown hK hP d_Exprs_makeStruct_11 ?_
  refine lv_aload_n hx hb d_Exprs_makeStruct_14 rfl (lv_at hl 1 rfl) ?_
  refine rd_Exprs_9 hx hb hT hown hK hP d_Exprs_makeStruct_15 ?_
  refine rd_Exprs_188 hx hb hT hown hK hP d_Exprs_makeStruct_18 ?_
  refine lv_iload_n hx hb d_Exprs_makeStruct_21 rfl (lv_at hl 2 rfl) ?_
  replace hR := gd_e hR
  obtain ⟨b2, hR⟩ := hR
  refine laH_7 hx hb hK hP b2 d_Exprs_makeStruct_22 ?_
  replace hR := bi_e hR
  obtain ⟨r3, l3, T3, hc3, hR⟩ := hR
  refine gcV_i (rest := []) ⟨hx, hb, hml, hown, hT⟩ (h_Source_countPeers _ _ _ _ _ hc3) (cwV 1 hT (gV ml_Exprs_254 im_Source_countPeers se_Source_countPeers ini_Source co_Source_countPeers) rfl rfl rfl pd_Source_countPeers ⟨rm_hi, rm_lo (Nat.le_of_ble_eq_true rfl)⟩) hK hP hD hS hA hnw henv (Nat.le_of_ble_eq_true rfl) rfl rfl hl.1 rfl (Nat.le_of_ble_eq_true rfl) d_Exprs_makeStruct_23 ⟨Nat.le_refl _, Nat.le_refl _⟩ (fun H locs hP hD hS => ?_)
  clear hc3
  refine lv_aload_n hx hb d_Exprs_makeStruct_26 rfl (lv_at hl 1 rfl) ?_
  refine rd_Exprs_15 hx hb hT hown hK hP d_Exprs_makeStruct_27 ?_
  refine rd_Exprs_257 hx hb hT hown hK hP d_Exprs_makeStruct_30 ?_
  refine lv_iload hx hb d_Exprs_makeStruct_33 (lv_at hl 0 rfl) ?_
  replace hR := gd_e hR
  obtain ⟨b4, hR⟩ := hR
  refine laH_17 hx hb hK hP b4 d_Exprs_makeStruct_35 ?_
  refine lv_icmp_eq (tgt := 57) hx hb d_Exprs_makeStruct_36 (by decide) (fun c5 => ?_) (fun c5 => ?_)
  · replace hR := if_p c5 hR
    refine lv_aload_n hx hb d_Exprs_makeStruct_57 rfl (lv_at hl 1 rfl) ?_
    refine lv_iload hx hb d_Exprs_makeStruct_58 (lv_at hl 0 rfl) ?_
    refine lv_aload_n hx hb d_Exprs_makeStruct_60 rfl (lv_at hl 1 rfl) ?_
    refine rd_Exprs_9 hx hb hT hown hK hP d_Exprs_makeStruct_61 ?_
    refine rd_Exprs_188 hx hb hT hown hK hP d_Exprs_makeStruct_64 ?_
    refine lv_iload_n hx hb d_Exprs_makeStruct_67 rfl (lv_at hl 2 rfl) ?_
    replace hR := gd_e hR
    obtain ⟨b6, hR⟩ := hR
    refine laH_7 hx hb hK hP b6 d_Exprs_makeStruct_68 ?_
    refine lv_aload_n hx hb d_Exprs_makeStruct_69 rfl (lv_at hl 1 rfl) ?_
    refine rd_Exprs_29 hx hb hT hown hK hP d_Exprs_makeStruct_70 ?_
    refine lv_iload_n hx hb d_Exprs_makeStruct_73 rfl (lv_at hl 3 rfl) ?_
    replace hR := bi_e hR
    obtain ⟨r7, l7, T7, hc7, hR⟩ := hR
    refine gcV_i (rest := [.int (T3.1 17 p1.toNatClampNeg), .int r1, .ref (ad 8)]) ⟨hx, hb, hml, hown, hT⟩ (h_Types_regionsBehind _ _ _ _ _ hc7) (cwV 1 hT (gV ml_Exprs_169 im_Types_regionsBehind se_Types_regionsBehind ini_Types co_Types_regionsBehind) rfl rfl rfl pd_Types_regionsBehind ⟨rm_hi, rm_lo (Nat.le_of_ble_eq_true rfl)⟩) hK hP hD hS hA hnw henv (Nat.le_of_ble_eq_true rfl) rfl rfl hl.1 rfl (Nat.le_of_ble_eq_true rfl) d_Exprs_makeStruct_74 ⟨Nat.le_refl _, Nat.le_refl _⟩ (fun H locs hP hD hS => ?_)
    clear hc7
    refine lv_iload hx hb d_Exprs_makeStruct_77 (lv_at hl 5 rfl) ?_
    replace hR := bi_e hR
    obtain ⟨r8, l8, T8, hc8, hR⟩ := hR
    refine gcV_v (rest := []) ⟨hx, hb, hml, hown, hT⟩ (h_Exprs_checkParts _ _ _ _ _ _ _ _ hc8) (cwV 4 hT (gV ml_Exprs_260 im_Exprs_checkParts se_Exprs_checkParts ini_Exprs co_Exprs_checkParts) rfl rfl rfl pd_Exprs_checkParts ⟨rm_hi, rm_lo (Nat.le_of_ble_eq_true rfl)⟩) hK hP hD hS hA hnw henv (Nat.le_of_ble_eq_true rfl) rfl rfl hl.1 rfl (Nat.le_of_ble_eq_true rfl) d_Exprs_makeStruct_79 ⟨Nat.le_refl _, Nat.le_refl _⟩ (fun H locs hP hD hS => ?_)
    clear hc8
    refine lv_aload_n hx hb d_Exprs_makeStruct_82 rfl (lv_at hl 1 rfl) ?_
    refine rd_Exprs_35 hx hb hT hown hK hP d_Exprs_makeStruct_83 ?_
    refine lv_bipush (v := 40) hx hb d_Exprs_makeStruct_86 (by decide) ?_
    refine lv_aload_n hx hb d_Exprs_makeStruct_88 rfl (lv_at hl 1 rfl) ?_
    refine rd_Exprs_29 hx hb hT hown hK hP d_Exprs_makeStruct_89 ?_
    refine lv_iload_n hx hb d_Exprs_makeStruct_92 rfl (lv_at hl 3 rfl) ?_
    replace hR := bi_e hR
    obtain ⟨r9, l9, T9, hc9, hR⟩ := hR
    refine gcV_i (rest := [.int (40 : Int32), .ref (ad 3)]) ⟨hx, hb, hml, hown, hT⟩ (h_Types_regionOf _ _ _ _ _ hc9) (cwV 1 hT (gV ml_Exprs_82 im_Types_regionOf se_Types_regionOf ini_Types co_Types_regionOf) rfl rfl rfl pd_Types_regionOf ⟨rm_hi, rm_lo (Nat.le_of_ble_eq_true rfl)⟩) hK hP hD hS hA hnw henv (Nat.le_of_ble_eq_true rfl) rfl rfl hl.1 rfl (Nat.le_of_ble_eq_true rfl) d_Exprs_makeStruct_93 ⟨Nat.le_refl _, Nat.le_refl _⟩ (fun H locs hP hD hS => ?_)
    clear hc9
    refine lv_aload_n hx hb d_Exprs_makeStruct_96 rfl (lv_at hl 1 rfl) ?_
    refine rd_Exprs_15 hx hb hT hown hK hP d_Exprs_makeStruct_97 ?_
    refine rd_Exprs_305 hx hb hT hown hK hP d_Exprs_makeStruct_100 ?_
    refine lv_iload hx hb d_Exprs_makeStruct_103 (lv_at hl 0 rfl) ?_
    replace hR := gd_e hR
    obtain ⟨b10, hR⟩ := hR
    refine laH_26 hx hb hK hP b10 d_Exprs_makeStruct_105 ?_
    replace hR := bi_e hR
    obtain ⟨r11, l11, T11, hc11, hR⟩ := hR
    refine gcV_i (rest := []) ⟨hx, hb, hml, hown, hT⟩ (h_Code_emit _ _ _ _ _ _ _ hc11) (cwV 3 hT (gV ml_Exprs_94 im_Code_emit se_Code_emit ini_Code co_Code_emit) rfl rfl rfl pd_Code_emit ⟨rm_hi, rm_lo (Nat.le_of_ble_eq_true rfl)⟩) hK hP hD hS hA hnw henv (Nat.le_of_ble_eq_true rfl) rfl rfl hl.1 rfl (Nat.le_of_ble_eq_true rfl) d_Exprs_makeStruct_106 ⟨Nat.le_refl _, Nat.le_refl _⟩ (fun H locs hP hD hS => ?_)
    clear hc11
    refine lv_pop hx hb d_Exprs_makeStruct_109 rfl ?_
    obtain ⟨-, -, e3⟩ := re_e hR
    subst e3
    exact W.vret hx hb hr (fun t ht hW => ⟨⟨(), rfl, trivial, by rw [ht]; exact hP, va_K.moved hW.alike hK, hD⟩, hS.F ht⟩) hS.2.2 d_Exprs_makeStruct_110
  · replace hR := if_n c5 hR
    refine lv_aload_n hx hb d_Exprs_makeStruct_39 rfl (lv_at hl 1 rfl) ?_
    refine rd_Exprs_35 hx hb hT hown hK hP d_Exprs_makeStruct_40 ?_
    refine lv_bipush (v := 7) hx hb d_Exprs_makeStruct_43 (by decide) ?_
    refine lv_aload_n hx hb d_Exprs_makeStruct_45 rfl (lv_at hl 1 rfl) ?_
    refine rd_Exprs_9 hx hb hT hown hK hP d_Exprs_makeStruct_46 ?_
    refine lv_iload_n hx hb d_Exprs_makeStruct_49 rfl (lv_at hl 4 rfl) ?_
    replace hR := bi_e hR
    obtain ⟨r12, l12, T12, hc12, hR⟩ := hR
    refine gcV_i (rest := [.int (7 : Int32), .ref (ad 3)]) ⟨hx, hb, hml, hown, hT⟩ (h_Source_startOf _ _ _ _ _ hc12) (cwV 1 hT (gV ml_Exprs_157 im_Source_startOf se_Source_startOf ini_Source co_Source_startOf) rfl rfl rfl pd_Source_startOf ⟨rm_hi, rm_lo (Nat.le_of_ble_eq_true rfl)⟩) hK hP hD hS hA hnw henv (Nat.le_of_ble_eq_true rfl) rfl rfl hl.1 rfl (Nat.le_of_ble_eq_true rfl) d_Exprs_makeStruct_50 ⟨Nat.le_refl _, Nat.le_refl _⟩ (fun H locs hP hD hS => ?_)
    clear hc12
    replace hR := bi_e hR
    obtain ⟨r13, l13, T13, hc13, hR⟩ := hR
    refine gcV_v (rest := []) ⟨hx, hb, hml, hown, hT⟩ (h_Code_note _ _ _ _ _ _ hc13) (cwV 2 hT (gV ml_Exprs_68 im_Code_note se_Code_note ini_Code co_Code_note) rfl rfl rfl pd_Code_note ⟨rm_hi, rm_lo (Nat.le_of_ble_eq_true rfl)⟩) hK hP hD hS hA hnw henv (Nat.le_of_ble_eq_true rfl) rfl rfl hl.1 rfl (Nat.le_of_ble_eq_true rfl) d_Exprs_makeStruct_53 ⟨Nat.le_refl _, Nat.le_refl _⟩ (fun H locs hP hD hS => ?_)
    clear hc13
    obtain ⟨-, -, e3⟩ := re_e hR
    subst e3
    exact W.vret hx hb hr (fun t ht hW => ⟨⟨(), rfl, trivial, by rw [ht]; exact hP, va_K.moved hW.alike hK, hD⟩, hS.F ht⟩) hS.2.2 d_Exprs_makeStruct_56
set_option maxHeartbeats 4000000 in
set_option maxRecDepth 100000 in
theorem sp_Exprs_checkNewCell (l : Launch) (dC : Nat → ClassId) (dI : Nat → Nat → Nat) (ea ev ad : Nat → Nat) (km : Nat → ClassId) (F : gF) (nf d : Nat) (h_Exprs_readLiveRegion : mt_Exprs_readLiveRegion l dC dI ea ev ad km F d) (h_Exprs_checkValue : mt_Exprs_checkValue l dC dI ea ev ad km F d) (h_Code_tally : mt_Code_tally l dC dI ea ev ad km F d) (h_Types_wordsOf : mt_Types_wordsOf l dC dI ea ev ad km F d) (h_Code_emit : mt_Code_emit l dC dI ea ev ad km F d) (h_Types_pointer : mt_Types_pointer l dC dI ea ev ad km F d) (T0 : gSt) (p1 : Int32) (p2 : Int32) (r0 : Int32) (rl0 : Int64) (T9 : gSt) (hR : rb_Exprs_checkNewCell F nf T0 p1 p2 = some (r0, rl0, T9)) : GMi l dC dI LH ad km ea ev y_Exprs_checkNewCell w_Exprs_checkNewCell (rmD (d + 1)) [.ref (ad 8), .int p1, .int p2] T0 r0 T9 := by
  intro sz
  refine Met.ofW (cc := b_Exprs_checkNewCell) (maxL := 5) (ret := (some .int)) (by decide) rfl ?_
  intro p e s m args below meth c s₁ B hml hv
  obtain ⟨rfl, hsz, hP, hK, hD0, hnw, henv⟩ := hv
  have hx := B.exec
  have hb := B.bytes
  have hr := B.returns
  have hT : ∀ w ∈ lw_good, w.before _ s = true := fun w h => atoms_spec (ws := w_Exprs_checkNewCell) B.pre w (List.mem_cons_of_mem _ h)
  have hown : s.vm.findClass R_Exprs = some m.cls := findClass_of_methodNamed B.named
  subst hsz
  have hD := hD0.self (sz := s.heap.size)
  clear hD0
  generalize hAe : va_A (gW LH ad km T0) s.heap.size = A at hD henv ⊢
  have hA : ∀ q : Nat, s.heap.size ≤ q → A q := fun q h => by rw [← hAe]; exact Or.inr h
  have hS : va_S A s.heap s.heap [] := va_S.rf
  have hl := lv_entry ([.ref (ad 8), .int p1, .int p2]) (n := 5) (Nat.le_of_ble_eq_true rfl)
  rw [lg_entry_eq]
  generalize (lg_sl ([.ref (ad 8), .int p1, .int p2]) ++ List.replicate (5 - (lg_sl ([.ref (ad 8), .int p1, .int p2])).length) Slot.unset).toArray = ls at hl ⊢
  have hl : lv_has ls 5 [(0, .ref (ad 8)), (1, .int p1), (2, .int p2)] := hl
  unfold rb_Exprs_checkNewCell at hR
  refine lv_aload_n hx hb d_Exprs_checkNewCell_0 rfl (lv_at hl 0 rfl) ?_
  refine lv_aload_n hx hb d_Exprs_checkNewCell_1 rfl (lv_at hl 0 rfl) ?_
  refine rd_Exprs_9 hx hb hT hown hK hP d_Exprs_checkNewCell_2 ?_
  refine rd_Exprs_146 hx hb hT hown hK hP d_Exprs_checkNewCell_5 ?_
  refine lv_iload_n hx hb d_Exprs_checkNewCell_8 rfl (lv_at hl 1 rfl) ?_
  replace hR := gd_e hR
  obtain ⟨b1, hR⟩ := hR
  refine laH_2 hx hb hK hP b1 d_Exprs_checkNewCell_9 ?_
  refine lv_iconst (v := 1) hx hb d_Exprs_checkNewCell_10 (by decide) ?_
  refine lv_iadd hx hb d_Exprs_checkNewCell_11 ?_
  replace hR := bi_e hR
  obtain ⟨r2, l2, T2, hc2, hR⟩ := hR
  refine gcV_i (rest := []) ⟨hx, hb, hml, hown, hT⟩ (h_Exprs_readLiveRegion _ _ _ _ _ hc2) (cwV 1 hT (gV ml_Exprs_290 im_Exprs_readLiveRegion se_Exprs_readLiveRegion ini_Exprs co_Exprs_readLiveRegion) rfl rfl rfl pd_Exprs_readLiveRegion ⟨rm_hi, rm_lo (Nat.le_of_ble_eq_true rfl)⟩) hK hP hD hS hA hnw henv (Nat.le_of_ble_eq_true rfl) rfl rfl hl.1 rfl (Nat.le_of_ble_eq_true rfl) d_Exprs_checkNewCell_12 ⟨Nat.le_refl _, Nat.le_refl _⟩ (fun H locs hP hD hS => ?_)
  clear hc2
  refine lv_istore_n (lv' := [(3, .int r2), (0, .ref (ad 8)), (1, .int p1), (2, .int p2)]) hx hb d_Exprs_checkNewCell_15 rfl hl (by decide) rfl (fun ls hl => ?_)
  refine lv_aload_n hx hb d_Exprs_checkNewCell_16 rfl (lv_at hl 1 rfl) ?_
  refine lv_aload_n hx hb d_Exprs_checkNewCell_17 rfl (lv_at hl 1 rfl) ?_
  refine rd_Exprs_9 hx hb hT hown hK hP d_Exprs_checkNewCell_18 ?_
  refine rd_Exprs_188 hx hb hT hown hK hP d_Exprs_checkNewCell_21 ?_
  refine lv_iload_n hx hb d_Exprs_checkNewCell_24 rfl (lv_at hl 2 rfl) ?_
  replace hR := gd_e hR
  obtain ⟨b3, hR⟩ := hR
  refine laH_7 hx hb hK hP b3 d_Exprs_checkNewCell_25 ?_
  refine lv_iload_n hx hb d_Exprs_checkNewCell_26 rfl (lv_at hl 3 rfl) ?_
  refine lv_iconst (v := 1) hx hb d_Exprs_checkNewCell_27 (by decide) ?_
  refine lv_iadd hx hb d_Exprs_checkNewCell_28 ?_
  replace hR := bi_e hR
  obtain ⟨r4, l4, T4, hc4, hR⟩ := hR
  refine gcV_i (rest := []) ⟨hx, hb, hml, hown, hT⟩ (h_Exprs_checkValue _ _ _ _ _ _ hc4) (cwV 2 hT (gV ml_Exprs_308 im_Exprs_checkValue se_Exprs_checkValue ini_Exprs co_Exprs_checkValue) rfl rfl rfl pd_Exprs_checkValue ⟨rm_hi, rm_lo (Nat.le_of_ble_eq_true rfl)⟩) hK hP hD hS hA hnw henv (Nat.le_of_ble_eq_true rfl) rfl rfl hl.1 rfl (Nat.le_of_ble_eq_true rfl) d_Exprs_checkNewCell_29 ⟨Nat.le_refl _, Nat.le_refl _⟩ (fun H locs hP hD hS => ?_)
  clear hc4
  refine lv_istore (lv' := [(4, .int r4), (3, .int r2), (0, .ref (ad 8)), (1, .int p1), (2, .int p2)]) hx hb d_Exprs_checkNewCell_32 hl (by decide) rfl (fun ls hl => ?_)
  refine lv_aload_n hx hb d_Exprs_checkNewCell_34 rfl (lv_at hl 2 rfl) ?_
  refine rd_Exprs_35 hx hb hT hown hK hP d_Exprs_checkNewCell_35 ?_
  refine lv_bipush (v := 6) hx hb d_Exprs_checkNewCell_38 (by decide) ?_
  replace hR := bi_e hR
  obtain ⟨r5, l5, T5, hc5, hR⟩ := hR
  refine gcV_v (rest := []) ⟨hx, hb, hml, hown, hT⟩ (h_Code_tally _ _ _ _ _ hc5) (cwV 1 hT (gV ml_Exprs_176 im_Code_tally se_Code_tally ini_Code co_Code_tally) rfl rfl rfl pd_Code_tally ⟨rm_hi, rm_lo (Nat.le_of_ble_eq_true rfl)⟩) hK hP hD hS hA hnw henv (Nat.le_of_ble_eq_true rfl) rfl rfl hl.1 rfl (Nat.le_of_ble_eq_true rfl) d_Exprs_checkNewCell_40 ⟨Nat.le_refl _, Nat.le_refl _⟩ (fun H locs hP hD hS => ?_)
  clear hc5
  refine lv_aload_n hx hb d_Exprs_checkNewCell_43 rfl (lv_at hl 2 rfl) ?_
  refine rd_Exprs_35 hx hb hT hown hK hP d_Exprs_checkNewCell_44 ?_
  refine lv_bipush (v := 40) hx hb d_Exprs_checkNewCell_47 (by decide) ?_
  refine lv_iload_n hx hb d_Exprs_checkNewCell_49 rfl (lv_at hl 1 rfl) ?_
  refine lv_aload_n hx hb d_Exprs_checkNewCell_50 rfl (lv_at hl 2 rfl) ?_
  refine rd_Exprs_29 hx hb hT hown hK hP d_Exprs_checkNewCell_51 ?_
  refine lv_iload hx hb d_Exprs_checkNewCell_54 (lv_at hl 0 rfl) ?_
  replace hR := bi_e hR
  obtain ⟨r6, l6, T6, hc6, hR⟩ := hR
  refine gcV_i (rest := [.int r2, .int (40 : Int32), .ref (ad 3)]) ⟨hx, hb, hml, hown, hT⟩ (h_Types_wordsOf _ _ _ _ _ hc6) (cwV 1 hT (gV ml_Exprs_179 im_Types_wordsOf se_Types_wordsOf ini_Types co_Types_wordsOf) rfl rfl rfl pd_Types_wordsOf ⟨rm_hi, rm_lo (Nat.le_of_ble_eq_true rfl)⟩) hK hP hD hS hA hnw henv (Nat.le_of_ble_eq_true rfl) rfl rfl hl.1 rfl (Nat.le_of_ble_eq_true rfl) d_Exprs_checkNewCell_56 ⟨Nat.le_refl _, Nat.le_refl _⟩ (fun H locs hP hD hS => ?_)
  clear hc6
  replace hR := bi_e hR
  obtain ⟨r7, l7, T7, hc7, hR⟩ := hR
  refine gcV_i (rest := []) ⟨hx, hb, hml, hown, hT⟩ (h_Code_emit _ _ _ _ _ _ _ hc7) (cwV 3 hT (gV ml_Exprs_94 im_Code_emit se_Code_emit ini_Code co_Code_emit) rfl rfl rfl pd_Code_emit ⟨rm_hi, rm_lo (Nat.le_of_ble_eq_true rfl)⟩) hK hP hD hS hA hnw henv (Nat.le_of_ble_eq_true rfl) rfl rfl hl.1 rfl (Nat.le_of_ble_eq_true rfl) d_Exprs_checkNewCell_59 ⟨Nat.le_refl _, Nat.le_refl _⟩ (fun H locs hP hD hS => ?_)
  clear hc7
  refine lv_pop hx hb d_Exprs_checkNewCell_62 rfl ?_
  refine lv_aload_n hx hb d_Exprs_checkNewCell_63 rfl (lv_at hl 2 rfl) ?_
  refine rd_Exprs_29 hx hb hT hown hK hP d_Exprs_checkNewCell_64 ?_
  refine lv_iconst (v := 3) hx hb d_Exprs_checkNewCell_67 (by decide) ?_
  refine lv_iload_n hx hb d_Exprs_checkNewCell_68 rfl (lv_at hl 1 rfl) ?_
  refine lv_iload hx hb d_Exprs_checkNewCell_69 (lv_at hl 0 rfl) ?_
  replace hR := bi_e hR
  obtain ⟨r8, l8, T8, hc8, hR⟩ := hR
  refine gcV_i (rest := []) ⟨hx, hb, hml, hown, hT⟩ (h_Types_pointer _ _ _ _ _ _ _ hc8) (cwV 3 hT (gV ml_Exprs_238 im_Types_pointer se_Types_pointer ini_Types co_Types_pointer) rfl rfl rfl pd_Types_pointer ⟨rm_hi, rm_lo (Nat.le_of_ble_eq_true rfl)⟩) hK hP hD hS hA hnw henv (Nat.le_of_ble_eq_true rfl) rfl rfl hl.1 rfl (Nat.le_of_ble_eq_true rfl) d_Exprs_checkNewCell_71 ⟨Nat.le_refl _, Nat.le_refl _⟩ (fun H locs hP hD hS => ?_)
  clear hc8
  obtain ⟨e1, -, e3⟩ := re_e hR
  subst e1; subst e3
  exact W.iret (v := r8) hx hb hr (fun t ht hW => ⟨⟨r8, (), rfl, rfl, by rw [ht]; exact hP, va_K.moved hW.alike hK, hD⟩, hS.F ht⟩) hS.2.2 d_Exprs_checkNewCell_74
set_option maxHeartbeats 4000000 in
set_option maxRecDepth 100000 in
theorem sp_Exprs_checkNewRow (l : Launch) (dC : Nat → ClassId) (dI : Nat → Nat → Nat) (ea ev ad : Nat → Nat) (km : Nat → ClassId) (F : gF) (nf d : Nat) (h_Exprs_readLiveRegion : mt_Exprs_readLiveRegion l dC dI ea ev ad km F d) (h_Exprs_check : mt_Exprs_check l dC dI ea ev ad km F d) (h_Source_beginOf : mt_Source_beginOf l dC dI ea ev ad km F d) (h_Exprs_demand : mt_Exprs_demand l dC dI ea ev ad km F d) (h_Exprs_checkValue : mt_Exprs_checkValue l dC dI ea ev ad km F d) (h_Code_tally : mt_Code_tally l dC dI ea ev ad km F d) (h_Types_wordsOf : mt_Types_wordsOf l dC dI ea ev ad km F d) (h_Code_emit : mt_Code_emit l dC dI ea ev ad km F d) (h_Types_pointer : mt_Types_pointer l dC dI ea ev ad km F d) (T0 : gSt) (p1 : Int32) (p2 : Int32) (r0 : Int32) (rl0 : Int64) (T9 : gSt) (hR : rb_Exprs_checkNewRow F nf T0 p1 p2 = some (r0, rl0, T9)) : GMi l dC dI LH ad km ea ev y_Exprs_checkNewRow w_Exprs_checkNewRow (rmD (d + 1)) [.ref (ad 8), .int p1, .int p2] T0 r0 T9 := by
  intro sz
  refine Met.ofW (cc := b_Exprs_checkNewRow) (maxL := 6) (ret := (some .int)) (by decide) rfl ?_
  intro p e s m args below meth c s₁ B hml hv
  obtain ⟨rfl, hsz, hP, hK, hD0, hnw, henv⟩ := hv
  have hx := B.exec
  have hb := B.bytes
  have hr := B.returns
  have hT : ∀ w ∈ lw_good, w.before _ s = true := fun w h => atoms_spec (ws := w_Exprs_checkNewRow) B.pre w (List.mem_cons_of_mem _ h)
  have hown : s.vm.findClass R_Exprs = some m.cls := findClass_of_methodNamed B.named
  subst hsz
  have hD := hD0.self (sz := s.heap.size)
  clear hD0
  generalize hAe : va_A (gW LH ad km T0) s.heap.size = A at hD henv ⊢
  have hA : ∀ q : Nat, s.heap.size ≤ q → A q := fun q h => by rw [← hAe]; exact Or.inr h
  have hS : va_S A s.heap s.heap [] := va_S.rf
  have hl := lv_entry ([.ref (ad 8), .int p1, .int p2]) (n := 6) (Nat.le_of_ble_eq_true rfl)
  rw [lg_entry_eq]
  generalize (lg_sl ([.ref (ad 8), .int p1, .int p2]) ++ List.replicate (6 - (lg_sl ([.ref (ad 8), .int p1, .int p2])).length) Slot.unset).toArray = ls at hl ⊢
  have hl : lv_has ls 6 [(0, .ref (ad 8)), (1, .int p1), (2, .int p2)] := hl
  obtain ⟨G, hG⟩ : ∃ G : Nat → List (Nat × Value) → List Value → gSt → Prop, G = (fun pc lv stk T => ∀ (H : Heap) (locs : List Loc), va_P (dC, dI) cls_all (gW LH ad km T) H → va_D A (gW LH ad km T) → va_S A s.heap H locs → ∀ (ls : Array Slot), lv_has ls 6 lv → W p l e (headSpec w_Exprs_checkNewRow (rmD (d + 1))).room s m ([.ref (ad 8), .int p1, .int p2] : List Value).toArray below meth c H locs 0 0 (MQ below (va_Qi (fun (z : Int32) (_ : Unit) => z = r0) (fun _ t => gPost dC dI LH ad km T9 A t) A) ([.ref (ad 8), .int p1, .int p2] : List Value).toArray s 0 0 A) (F0 m pc ls stk)) := ⟨_, rfl⟩
  have lb_46 : ∀ (T : gSt) (x2 : Int32) (x3 : Int32) (x4 : Int32) (y0 : Int32), rj_Exprs_checkNewRow_46 F nf T x2 x3 x4 y0 = some (r0, rl0, T9) → G 46 [(0, .ref (ad 8)), (2, .int x2), (3, .int x3), (4, .int x4)] [.int y0, .ref (ad 8)] T := by
    intro T x2 x3 x4 y0 hR; unfold rj_Exprs_checkNewRow_46 at hR; rw [hG]; intro H locs hP hD hS ls hl
    refine lv_iconst (v := 4) hx hb d_Exprs_checkNewRow_46 (by decide) ?_
    refine lv_aload_n hx hb d_Exprs_checkNewRow_47 rfl (lv_at hl 0 rfl) ?_
    refine rd_Exprs_9 hx hb hT hown hK hP d_Exprs_checkNewRow_48 ?_
    refine lv_iload hx hb d_Exprs_checkNewRow_51 (lv_at hl 3 rfl) ?_
    replace hR := bi_e hR
    obtain ⟨r7, l7, T7, hc7, hR⟩ := hR
    refine gcV_i (rest := [.int (4 : Int32), .int y0, .ref (ad 8)]) ⟨hx, hb, hml, hown, hT⟩ (h_Source_beginOf _ _ _ _ _ hc7) (cwV 1 hT (gV ml_Exprs_64 im_Source_beginOf se_Source_beginOf ini_Source co_Source_beginOf) rfl rfl rfl pd_Source_beginOf ⟨rm_hi, rm_lo (Nat.le_of_ble_eq_true rfl)⟩) hK hP hD hS hA hnw henv (Nat.le_of_ble_eq_true rfl) rfl rfl hl.1 rfl (Nat.le_of_ble_eq_true rfl) d_Exprs_checkNewRow_53 ⟨Nat.le_refl _, Nat.le_refl _⟩ (fun H locs hP hD hS => ?_)
    clear hc7
    replace hR := bi_e hR
    obtain ⟨r8, l8, T8, hc8, hR⟩ := hR
    refine gcV_v (rest := []) ⟨hx, hb, hml, hown, hT⟩ (h_Exprs_demand _ _ _ _ _ _ _ hc8) (cwV 3 hT (gV ml_Exprs_111 im_Exprs_demand se_Exprs_demand ini_Exprs co_Exprs_demand) rfl rfl rfl pd_Exprs_demand ⟨rm_hi, rm_lo (Nat.le_of_ble_eq_true rfl)⟩) hK hP hD hS hA hnw henv (Nat.le_of_ble_eq_true rfl) rfl rfl hl.1 rfl (Nat.le_of_ble_eq_true rfl) d_Exprs_checkNewRow_56 ⟨Nat.le_refl _, Nat.le_refl _⟩ (fun H locs hP hD hS => ?_)
    clear hc8
    refine lv_aload_n hx hb d_Exprs_checkNewRow_59 rfl (lv_at hl 0 rfl) ?_
    refine lv_aload_n hx hb d_Exprs_checkNewRow_60 rfl (lv_at hl 0 rfl) ?_
    refine rd_Exprs_9 hx hb hT hown hK hP d_Exprs_checkNewRow_61 ?_
    refine rd_Exprs_278 hx hb hT hown hK hP d_Exprs_checkNewRow_64 ?_
    refine lv_iload hx hb d_Exprs_checkNewRow_67 (lv_at hl 3 rfl) ?_
    replace hR := gd_e hR
    obtain ⟨b9, hR⟩ := hR
    refine laH_4 hx hb hK hP b9 d_Exprs_checkNewRow_69 ?_
    refine lv_iload_n hx hb d_Exprs_checkNewRow_70 rfl (lv_at hl 1 rfl) ?_
    refine lv_iconst (v := 1) hx hb d_Exprs_checkNewRow_71 (by decide) ?_
    refine lv_iadd hx hb d_Exprs_checkNewRow_72 ?_
    replace hR := bi_e hR
    obtain ⟨r10, l10, T10, hc10, hR⟩ := hR
    refine gcV_i (rest := []) ⟨hx, hb, hml, hown, hT⟩ (h_Exprs_checkValue _ _ _ _ _ _ hc10) (cwV 2 hT (gV ml_Exprs_308 im_Exprs_checkValue se_Exprs_checkValue ini_Exprs co_Exprs_checkValue) rfl rfl rfl pd_Exprs_checkValue ⟨rm_hi, rm_lo (Nat.le_of_ble_eq_true rfl)⟩) hK hP hD hS hA hnw henv (Nat.le_of_ble_eq_true rfl) rfl rfl hl.1 rfl (Nat.le_of_ble_eq_true rfl) d_Exprs_checkNewRow_73 ⟨Nat.le_refl _, Nat.le_refl _⟩ (fun H locs hP hD hS => ?_)
    clear hc10
    refine lv_istore (lv' := [(5, .int r10), (0, .ref (ad 8)), (2, .int x2), (3, .int x3), (4, .int x4)]) hx hb d_Exprs_checkNewRow_76 hl (by decide) rfl (fun ls hl => ?_)
    refine lv_aload_n hx hb d_Exprs_checkNewRow_78 rfl (lv_at hl 1 rfl) ?_
    refine rd_Exprs_35 hx hb hT hown hK hP d_Exprs_checkNewRow_79 ?_
    refine lv_bipush (v := 6) hx hb d_Exprs_checkNewRow_82 (by decide) ?_
    replace hR := bi_e hR
    obtain ⟨r11, l11, T11, hc11, hR⟩ := hR
    refine gcV_v (rest := []) ⟨hx, hb, hml, hown, hT⟩ (h_Code_tally _ _ _ _ _ hc11) (cwV 1 hT (gV ml_Exprs_176 im_Code_tally se_Code_tally ini_Code co_Code_tally) rfl rfl rfl pd_Code_tally ⟨rm_hi, rm_lo (Nat.le_of_ble_eq_true rfl)⟩) hK hP hD hS hA hnw henv (Nat.le_of_ble_eq_true rfl) rfl rfl hl.1 rfl (Nat.le_of_ble_eq_true rfl) d_Exprs_checkNewRow_84 ⟨Nat.le_refl _, Nat.le_refl _⟩ (fun H locs hP hD hS => ?_)
    clear hc11
    refine lv_aload_n hx hb d_Exprs_checkNewRow_87 rfl (lv_at hl 1 rfl) ?_
    refine rd_Exprs_35 hx hb hT hown hK hP d_Exprs_checkNewRow_88 ?_
    refine lv_bipush (v := 42) hx hb d_Exprs_checkNewRow_91 (by decide) ?_
    refine lv_iload_n hx hb d_Exprs_checkNewRow_93 rfl (lv_at hl 3 rfl) ?_
    refine lv_aload_n hx hb d_Exprs_checkNewRow_94 rfl (lv_at hl 1 rfl) ?_
    refine rd_Exprs_29 hx hb hT hown hK hP d_Exprs_checkNewRow_95 ?_
    refine lv_iload hx hb d_Exprs_checkNewRow_98 (lv_at hl 0 rfl) ?_
    replace hR := bi_e hR
    obtain ⟨r12, l12, T12, hc12, hR⟩ := hR
    refine gcV_i (rest := [.int x3, .int (42 : Int32), .ref (ad 3)]) ⟨hx, hb, hml, hown, hT⟩ (h_Types_wordsOf _ _ _ _ _ hc12) (cwV 1 hT (gV ml_Exprs_179 im_Types_wordsOf se_Types_wordsOf ini_Types co_Types_wordsOf) rfl rfl rfl pd_Types_wordsOf ⟨rm_hi, rm_lo (Nat.le_of_ble_eq_true rfl)⟩) hK hP hD hS hA hnw henv (Nat.le_of_ble_eq_true rfl) rfl rfl hl.1 rfl (Nat.le_of_ble_eq_true rfl) d_Exprs_checkNewRow_100 ⟨Nat.le_refl _, Nat.le_refl _⟩ (fun H locs hP hD hS => ?_)
    clear hc12
    replace hR := bi_e hR
    obtain ⟨r13, l13, T13, hc13, hR⟩ := hR
    refine gcV_i (rest := []) ⟨hx, hb, hml, hown, hT⟩ (h_Code_emit _ _ _ _ _ _ _ hc13) (cwV 3 hT (gV ml_Exprs_94 im_Code_emit se_Code_emit ini_Code co_Code_emit) rfl rfl rfl pd_Code_emit ⟨rm_hi, rm_lo (Nat.le_of_ble_eq_true rfl)⟩) hK hP hD hS hA hnw henv (Nat.le_of_ble_eq_true rfl) rfl rfl hl.1 rfl (Nat.le_of_ble_eq_true rfl) d_Exprs_checkNewRow_103 ⟨Nat.le_refl _, Nat.le_refl _⟩ (fun H locs hP hD hS => ?_)
    clear hc13
    refine lv_pop hx hb d_Exprs_checkNewRow_106 rfl ?_
    refine lv_aload_n hx hb d_Exprs_checkNewRow_107 rfl (lv_at hl 1 rfl) ?_
    refine rd_Exprs_29 hx hb hT hown hK hP d_Exprs_checkNewRow_108 ?_
    refine lv_iconst (v := 5) hx hb d_Exprs_checkNewRow_111 (by decide) ?_
    refine lv_iload_n hx hb d_Exprs_checkNewRow_112 rfl (lv_at hl 3 rfl) ?_
    refine lv_iload hx hb d_Exprs_checkNewRow_113 (lv_at hl 0 rfl) ?_
    replace hR := bi_e hR
    obtain ⟨r14, l14, T14, hc14, hR⟩ := hR
    refine gcV_i (rest := []) ⟨hx, hb, hml, hown, hT⟩ (h_Types_pointer _ _ _ _ _ _ _ hc14) (cwV 3 hT (gV ml_Exprs_238 im_Types_pointer se_Types_pointer ini_Types co_Types_pointer) rfl rfl rfl pd_Types_pointer ⟨rm_hi, rm_lo (Nat.le_of_ble_eq_true rfl)⟩) hK hP hD hS hA hnw henv (Nat.le_of_ble_eq_true rfl) rfl rfl hl.1 rfl (Nat.le_of_ble_eq_true rfl) d_Exprs_checkNewRow_115 ⟨Nat.le_refl _, Nat.le_refl _⟩ (fun H locs hP hD hS => ?_)
    clear hc14
    obtain ⟨e1, -, e3⟩ := re_e hR
    subst e1; subst e3
    exact W.iret (v := r14) hx hb hr (fun t ht hW => ⟨⟨r14, (), rfl, rfl, by rw [ht]; exact hP, va_K.moved hW.alike hK, hD⟩, hS.F ht⟩) hS.2.2 d_Exprs_checkNewRow_118
  unfold rb_Exprs_checkNewRow at hR
  refine lv_aload_n hx hb d_Exprs_checkNewRow_0 rfl (lv_at hl 0 rfl) ?_
  refine lv_aload_n hx hb d_Exprs_checkNewRow_1 rfl (lv_at hl 0 rfl) ?_
  refine rd_Exprs_9 hx hb hT hown hK hP d_Exprs_checkNewRow_2 ?_
  refine rd_Exprs_146 hx hb hT hown hK hP d_Exprs_checkNewRow_5 ?_
  refine lv_iload_n hx hb d_Exprs_checkNewRow_8 rfl (lv_at hl 1 rfl) ?_
  replace hR := gd_e hR
  obtain ⟨b1, hR⟩ := hR
  refine laH_2 hx hb hK hP b1 d_Exprs_checkNewRow_9 ?_
  refine lv_iconst (v := 1) hx hb d_Exprs_checkNewRow_10 (by decide) ?_
  refine lv_iadd hx hb d_Exprs_checkNewRow_11 ?_
  replace hR := bi_e hR
  obtain ⟨r2, l2, T2, hc2, hR⟩ := hR
  refine gcV_i (rest := []) ⟨hx, hb, hml, hown, hT⟩ (h_Exprs_readLiveRegion _ _ _ _ _ hc2) (cwV 1 hT (gV ml_Exprs_290 im_Exprs_readLiveRegion se_Exprs_readLiveRegion ini_Exprs co_Exprs_readLiveRegion) rfl rfl rfl pd_Exprs_readLiveRegion ⟨rm_hi, rm_lo (Nat.le_of_ble_eq_true rfl)⟩) hK hP hD hS hA hnw henv (Nat.le_of_ble_eq_true rfl) rfl rfl hl.1 rfl (Nat.le_of_ble_eq_true rfl) d_Exprs_checkNewRow_12 ⟨Nat.le_refl _, Nat.le_refl _⟩ (fun H locs hP hD hS => ?_)
  clear hc2
  refine lv_istore_n (lv' := [(3, .int r2), (0, .ref (ad 8)), (1, .int p1), (2, .int p2)]) hx hb d_Exprs_checkNewRow_15 rfl hl (by decide) rfl (fun ls hl => ?_)
  refine lv_aload_n hx hb d_Exprs_checkNewRow_16 rfl (lv_at hl 1 rfl) ?_
  refine rd_Exprs_9 hx hb hT hown hK hP d_Exprs_checkNewRow_17 ?_
  refine rd_Exprs_188 hx hb hT hown hK hP d_Exprs_checkNewRow_20 ?_
  refine lv_iload_n hx hb d_Exprs_checkNewRow_23 rfl (lv_at hl 2 rfl) ?_
  replace hR := gd_e hR
  obtain ⟨b3, hR⟩ := hR
  refine laH_7 hx hb hK hP b3 d_Exprs_checkNewRow_24 ?_
  refine lv_topi (fun z4 e4 => ?_)
  replace hR := vK_e e4 hR
  refine lv_istore (lv' := [(4, .int z4), (3, .int r2), (0, .ref (ad 8)), (1, .int p1), (2, .int p2)]) hx hb d_Exprs_checkNewRow_25 hl (by decide) rfl (fun ls hl => ?_)
  refine lv_aload_n hx hb d_Exprs_checkNewRow_27 rfl (lv_at hl 2 rfl) ?_
  refine lv_aload_n hx hb d_Exprs_checkNewRow_28 rfl (lv_at hl 2 rfl) ?_
  refine lv_iload hx hb d_Exprs_checkNewRow_29 (lv_at hl 0 rfl) ?_
  refine lv_iload_n hx hb d_Exprs_checkNewRow_31 rfl (lv_at hl 4 rfl) ?_
  refine lv_iconst (v := 1) hx hb d_Exprs_checkNewRow_32 (by decide) ?_
  refine lv_iadd hx hb d_Exprs_checkNewRow_33 ?_
  replace hR := bi_e hR
  obtain ⟨r5, l5, T5, hc5, hR⟩ := hR
  refine gcV_i (rest := [.ref (ad 8)]) ⟨hx, hb, hml, hown, hT⟩ (h_Exprs_check _ _ _ _ _ _ hc5) (cwV 2 hT (gV ml_Exprs_53 im_Exprs_check se_Exprs_check ini_Exprs co_Exprs_check) rfl rfl rfl pd_Exprs_check ⟨rm_hi, rm_lo (Nat.le_of_ble_eq_true rfl)⟩) hK hP hD hS hA hnw henv (Nat.le_of_ble_eq_true rfl) rfl rfl hl.1 rfl (Nat.le_of_ble_eq_true rfl) d_Exprs_checkNewRow_34 ⟨Nat.le_refl _, Nat.le_refl _⟩ (fun H locs hP hD hS => ?_)
  clear hc5
  refine lv_iconst (v := 1) hx hb d_Exprs_checkNewRow_37 (by decide) ?_
  refine lv_icmp_ne (tgt := 45) hx hb d_Exprs_checkNewRow_38 (by decide) (fun c6 => ?_) (fun c6 => ?_)
  · replace hR := if_n c6 hR
    refine lv_iconst (v := 0) hx hb d_Exprs_checkNewRow_45 (by decide) ?_
    have g := lb_46 T5 p2 r2 z4 (0 : Int32) hR
    rw [hG] at g
    exact g _ _ hP hD hS _ (lv_sub hl [2, 4, 1, 0] rfl)
  · replace hR := if_p c6 hR
    refine lv_iconst (v := 1) hx hb d_Exprs_checkNewRow_41 (by decide) ?_
    refine lv_goto (tgt := 46) hx hb d_Exprs_checkNewRow_42 (by decide) ?_
    have g := lb_46 T5 p2 r2 z4 (1 : Int32) hR
    rw [hG] at g
    exact g _ _ hP hD hS _ (lv_sub hl [2, 4, 1, 0] rfl)
set_option maxHeartbeats 4000000 in
set_option maxRecDepth 100000 in
theorem sp_Exprs_checkValue (l : Launch) (dC : Nat → ClassId) (dI : Nat → Nat → Nat) (ea ev ad : Nat → Nat) (km : Nat → ClassId) (F : gF) (nf d : Nat) (h_Exprs_check : mt_Exprs_check l dC dI ea ev ad km F d) (h_Source_beginOf : mt_Source_beginOf l dC dI ea ev ad km F d) (h_Code_note : mt_Code_note l dC dI ea ev ad km F d) (T0 : gSt) (p1 : Int32) (p2 : Int32) (r0 : Int32) (rl0 : Int64) (T9 : gSt) (hR : rb_Exprs_checkValue F nf T0 p1 p2 = some (r0, rl0, T9)) : GMi l dC dI LH ad km ea ev y_Exprs_checkValue w_Exprs_checkValue (rmD (d + 1)) [.ref (ad 8), .int p1, .int p2] T0 r0 T9 := by
  intro sz
  refine Met.ofW (cc := b_Exprs_checkValue) (maxL := 4) (ret := (some .int)) (by decide) rfl ?_
  intro p e s m args below meth c s₁ B hml hv
  obtain ⟨rfl, hsz, hP, hK, hD0, hnw, henv⟩ := hv
  have hx := B.exec
  have hb := B.bytes
  have hr := B.returns
  have hT : ∀ w ∈ lw_good, w.before _ s = true := fun w h => atoms_spec (ws := w_Exprs_checkValue) B.pre w (List.mem_cons_of_mem _ h)
  have hown : s.vm.findClass R_Exprs = some m.cls := findClass_of_methodNamed B.named
  subst hsz
  have hD := hD0.self (sz := s.heap.size)
  clear hD0
  generalize hAe : va_A (gW LH ad km T0) s.heap.size = A at hD henv ⊢
  have hA : ∀ q : Nat, s.heap.size ≤ q → A q := fun q h => by rw [← hAe]; exact Or.inr h
  have hS : va_S A s.heap s.heap [] := va_S.rf
  have hl := lv_entry ([.ref (ad 8), .int p1, .int p2]) (n := 4) (Nat.le_of_ble_eq_true rfl)
  rw [lg_entry_eq]
  generalize (lg_sl ([.ref (ad 8), .int p1, .int p2]) ++ List.replicate (4 - (lg_sl ([.ref (ad 8), .int p1, .int p2])).length) Slot.unset).toArray = ls at hl ⊢
  have hl : lv_has ls 4 [(0, .ref (ad 8)), (1, .int p1), (2, .int p2)] := hl
  unfold rb_Exprs_checkValue at hR
  refine lv_aload_n hx hb d_Exprs_checkValue_0 rfl (lv_at hl 0 rfl) ?_
  refine lv_iload_n hx hb d_Exprs_checkValue_1 rfl (lv_at hl 1 rfl) ?_
  refine lv_iload_n hx hb d_Exprs_checkValue_2 rfl (lv_at hl 2 rfl) ?_
  replace hR := bi_e hR
  obtain ⟨r1, l1, T1, hc1, hR⟩ := hR
  refine gcV_i (rest := []) ⟨hx, hb, hml, hown, hT⟩ (h_Exprs_check _ _ _ _ _ _ hc1) (cwV 2 hT (gV ml_Exprs_53 im_Exprs_check se_Exprs_check ini_Exprs co_Exprs_check) rfl rfl rfl pd_Exprs_check ⟨rm_hi, rm_lo (Nat.le_of_ble_eq_true rfl)⟩) hK hP hD hS hA hnw henv (Nat.le_of_ble_eq_true rfl) rfl rfl hl.1 rfl (Nat.le_of_ble_eq_true rfl) d_Exprs_checkValue_3 ⟨Nat.le_refl _, Nat.le_refl _⟩ (fun H locs hP hD hS => ?_)
  clear hc1
  refine lv_istore_n (lv' := [(3, .int r1), (0, .ref (ad 8)), (1, .int p1), (2, .int p2)]) hx hb d_Exprs_checkValue_6 rfl hl (by decide) rfl (fun ls hl => ?_)
  refine lv_iload_n hx hb d_Exprs_checkValue_7 rfl (lv_at hl 0 rfl) ?_
  refine lv_if_eq (tgt := 16) hx hb d_Exprs_checkValue_8 (by decide) (fun c2 => ?_) (fun c2 => ?_)
  · replace hR := if_p c2 hR
    refine lv_aload_n hx hb d_Exprs_checkValue_16 rfl (lv_at hl 1 rfl) ?_
    refine rd_Exprs_35 hx hb hT hown hK hP d_Exprs_checkValue_17 ?_
    refine lv_iconst (v := 4) hx hb d_Exprs_checkValue_20 (by decide) ?_
    refine lv_aload_n hx hb d_Exprs_checkValue_21 rfl (lv_at hl 1 rfl) ?_
    refine rd_Exprs_9 hx hb hT hown hK hP d_Exprs_checkValue_22 ?_
    refine lv_iload_n hx hb d_Exprs_checkValue_25 rfl (lv_at hl 2 rfl) ?_
    replace hR := bi_e hR
    obtain ⟨r3, l3, T3, hc3, hR⟩ := hR
    refine gcV_i (rest := [.int (4 : Int32), .ref (ad 3)]) ⟨hx, hb, hml, hown, hT⟩ (h_Source_beginOf _ _ _ _ _ hc3) (cwV 1 hT (gV ml_Exprs_64 im_Source_beginOf se_Source_beginOf ini_Source co_Source_beginOf) rfl rfl rfl pd_Source_beginOf ⟨rm_hi, rm_lo (Nat.le_of_ble_eq_true rfl)⟩) hK hP hD hS hA hnw henv (Nat.le_of_ble_eq_true rfl) rfl rfl hl.1 rfl (Nat.le_of_ble_eq_true rfl) d_Exprs_checkValue_26 ⟨Nat.le_refl _, Nat.le_refl _⟩ (fun H locs hP hD hS => ?_)
    clear hc3
    replace hR := bi_e hR
    obtain ⟨r4, l4, T4, hc4, hR⟩ := hR
    refine gcV_v (rest := []) ⟨hx, hb, hml, hown, hT⟩ (h_Code_note _ _ _ _ _ _ hc4) (cwV 2 hT (gV ml_Exprs_68 im_Code_note se_Code_note ini_Code co_Code_note) rfl rfl rfl pd_Code_note ⟨rm_hi, rm_lo (Nat.le_of_ble_eq_true rfl)⟩) hK hP hD hS hA hnw henv (Nat.le_of_ble_eq_true rfl) rfl rfl hl.1 rfl (Nat.le_of_ble_eq_true rfl) d_Exprs_checkValue_29 ⟨Nat.le_refl _, Nat.le_refl _⟩ (fun H locs hP hD hS => ?_)
    clear hc4
    refine lv_iconst (v := 1) hx hb d_Exprs_checkValue_32 (by decide) ?_
    obtain ⟨e1, -, e3⟩ := re_e hR
    subst e1; subst e3
    exact W.iret (v := (1 : Int32)) hx hb hr (fun t ht hW => ⟨⟨(1 : Int32), (), rfl, rfl, by rw [ht]; exact hP, va_K.moved hW.alike hK, hD⟩, hS.F ht⟩) hS.2.2 d_Exprs_checkValue_33
  · replace hR := if_n c2 hR
    refine lv_iload_n hx hb d_Exprs_checkValue_11 rfl (lv_at hl 0 rfl) ?_
    refine lv_iconst (v := 2) hx hb d_Exprs_checkValue_12 (by decide) ?_
    refine lv_icmp_ne (tgt := 34) hx hb d_Exprs_checkValue_13 (by decide) (fun c6 => ?_) (fun c6 => ?_)
    · replace hR := if_n c6 hR
      refine lv_iload_n hx hb d_Exprs_checkValue_34 rfl (lv_at hl 0 rfl) ?_
      obtain ⟨e1, -, e3⟩ := re_e hR
      subst e1; subst e3
      exact W.iret (v := r1) hx hb hr (fun t ht hW => ⟨⟨r1, (), rfl, rfl, by rw [ht]; exact hP, va_K.moved hW.alike hK, hD⟩, hS.F ht⟩) hS.2.2 d_Exprs_checkValue_35
    · replace hR := if_p c6 hR
      refine lv_aload_n hx hb d_Exprs_checkValue_16 rfl (lv_at hl 1 rfl) ?_
      refine rd_Exprs_35 hx hb hT hown hK hP d_Exprs_checkValue_17 ?_
      refine lv_iconst (v := 4) hx hb d_Exprs_checkValue_20 (by decide) ?_
      refine lv_aload_n hx hb d_Exprs_checkValue_21 rfl (lv_at hl 1 rfl) ?_
      refine rd_Exprs_9 hx hb hT hown hK hP d_Exprs_checkValue_22 ?_
      refine lv_iload_n hx hb d_Exprs_checkValue_25 rfl (lv_at hl 2 rfl) ?_
      replace hR := bi_e hR
      obtain ⟨r8, l8, T8, hc8, hR⟩ := hR
      refine gcV_i (rest := [.int (4 : Int32), .ref (ad 3)]) ⟨hx, hb, hml, hown, hT⟩ (h_Source_beginOf _ _ _ _ _ hc8) (cwV 1 hT (gV ml_Exprs_64 im_Source_beginOf se_Source_beginOf ini_Source co_Source_beginOf) rfl rfl rfl pd_Source_beginOf ⟨rm_hi, rm_lo (Nat.le_of_ble_eq_true rfl)⟩) hK hP hD hS hA hnw henv (Nat.le_of_ble_eq_true rfl) rfl rfl hl.1 rfl (Nat.le_of_ble_eq_true rfl) d_Exprs_checkValue_26 ⟨Nat.le_refl _, Nat.le_refl _⟩ (fun H locs hP hD hS => ?_)
      clear hc8
      replace hR := bi_e hR
      obtain ⟨r9, l9, T9, hc9, hR⟩ := hR
      refine gcV_v (rest := []) ⟨hx, hb, hml, hown, hT⟩ (h_Code_note _ _ _ _ _ _ hc9) (cwV 2 hT (gV ml_Exprs_68 im_Code_note se_Code_note ini_Code co_Code_note) rfl rfl rfl pd_Code_note ⟨rm_hi, rm_lo (Nat.le_of_ble_eq_true rfl)⟩) hK hP hD hS hA hnw henv (Nat.le_of_ble_eq_true rfl) rfl rfl hl.1 rfl (Nat.le_of_ble_eq_true rfl) d_Exprs_checkValue_29 ⟨Nat.le_refl _, Nat.le_refl _⟩ (fun H locs hP hD hS => ?_)
      clear hc9
      refine lv_iconst (v := 1) hx hb d_Exprs_checkValue_32 (by decide) ?_
      obtain ⟨e1, -, e3⟩ := re_e hR
      subst e1; subst e3
      exact W.iret (v := (1 : Int32)) hx hb hr (fun t ht hW => ⟨⟨(1 : Int32), (), rfl, rfl, by rw [ht]; exact hP, va_K.moved hW.alike hK, hD⟩, hS.F ht⟩) hS.2.2 d_Exprs_checkValue_33
set_option maxHeartbeats 4000000 in
set_option maxRecDepth 100000 in
theorem sp_Exprs_checkAddress (l : Launch) (dC : Nat → ClassId) (dI : Nat → Nat → Nat) (ea ev ad : Nat → Nat) (km : Nat → ClassId) (F : gF) (nf d : Nat) (h_Source_bare : mt_Source_bare l dC dI ea ev ad km F d) (h_Source_beginOf : mt_Source_beginOf l dC dI ea ev ad km F d) (h_Source_lastTail : mt_Source_lastTail l dC dI ea ev ad km F d) (h_Code_note : mt_Code_note l dC dI ea ev ad km F d) (h_Exprs_checkTerm : mt_Exprs_checkTerm l dC dI ea ev ad km F d) (h_Exprs_checkPlace : mt_Exprs_checkPlace l dC dI ea ev ad km F d) (h_Types_regionOf : mt_Types_regionOf l dC dI ea ev ad km F d) (h_Types_pointer : mt_Types_pointer l dC dI ea ev ad km F d) (T0 : gSt) (p1 : Int32) (p2 : Int32) (r0 : Int32) (rl0 : Int64) (T9 : gSt) (hR : rb_Exprs_checkAddress F nf T0 p1 p2 = some (r0, rl0, T9)) : GMi l dC dI LH ad km ea ev y_Exprs_checkAddress w_Exprs_checkAddress (rmD (d + 1)) [.ref (ad 8), .int p1, .int p2] T0 r0 T9 := by
  intro sz
  refine Met.ofW (cc := b_Exprs_checkAddress) (maxL := 8) (ret := (some .int)) (by decide) rfl ?_
  intro p e s m args below meth c s₁ B hml hv
  obtain ⟨rfl, hsz, hP, hK, hD0, hnw, henv⟩ := hv
  have hx := B.exec
  have hb := B.bytes
  have hr := B.returns
  have hT : ∀ w ∈ lw_good, w.before _ s = true := fun w h => atoms_spec (ws := w_Exprs_checkAddress) B.pre w (List.mem_cons_of_mem _ h)
  have hown : s.vm.findClass R_Exprs = some m.cls := findClass_of_methodNamed B.named
  subst hsz
  have hD := hD0.self (sz := s.heap.size)
  clear hD0
  generalize hAe : va_A (gW LH ad km T0) s.heap.size = A at hD henv ⊢
  have hA : ∀ q : Nat, s.heap.size ≤ q → A q := fun q h => by rw [← hAe]; exact Or.inr h
  have hS : va_S A s.heap s.heap [] := va_S.rf
  have hl := lv_entry ([.ref (ad 8), .int p1, .int p2]) (n := 8) (Nat.le_of_ble_eq_true rfl)
  rw [lg_entry_eq]
  generalize (lg_sl ([.ref (ad 8), .int p1, .int p2]) ++ List.replicate (8 - (lg_sl ([.ref (ad 8), .int p1, .int p2])).length) Slot.unset).toArray = ls at hl ⊢
  have hl : lv_has ls 8 [(0, .ref (ad 8)), (1, .int p1), (2, .int p2)] := hl
  obtain ⟨G, hG⟩ : ∃ G : Nat → List (Nat × Value) → List Value → gSt → Prop, G = (fun pc lv stk T => ∀ (H : Heap) (locs : List Loc), va_P (dC, dI) cls_all (gW LH ad km T) H → va_D A (gW LH ad km T) → va_S A s.heap H locs → ∀ (ls : Array Slot), lv_has ls 8 lv → W p l e (headSpec w_Exprs_checkAddress (rmD (d + 1))).room s m ([.ref (ad 8), .int p1, .int p2] : List Value).toArray below meth c H locs 0 0 (MQ below (va_Qi (fun (z : Int32) (_ : Unit) => z = r0) (fun _ t => gPost dC dI LH ad km T9 A t) A) ([.ref (ad 8), .int p1, .int p2] : List Value).toArray s 0 0 A) (F0 m pc ls stk)) := ⟨_, rfl⟩
  have lb_91 : ∀ (T : gSt) (x2 : Int32) (x3 : Int32) (x4 : Int32) (x5 : Int32), rj_Exprs_checkAddress_91 F nf T x2 x3 x4 x5 = some (r0, rl0, T9) → G 91 [(0, .ref (ad 8)), (2, .int x2), (3, .int x3), (4, .int x4), (5, .int x5)] [] T := by
    intro T x2 x3 x4 x5 hR; unfold rj_Exprs_checkAddress_91 at hR; rw [hG]; intro H locs hP hD hS ls hl
    refine lv_aload_n hx hb d_Exprs_checkAddress_91 rfl (lv_at hl 0 rfl) ?_
    refine lv_iload_n hx hb d_Exprs_checkAddress_92 rfl (lv_at hl 2 rfl) ?_
    refine lv_iload hx hb d_Exprs_checkAddress_93 (lv_at hl 4 rfl) ?_
    refine lv_iload_n hx hb d_Exprs_checkAddress_95 rfl (lv_at hl 1 rfl) ?_
    refine lv_iconst (v := 1) hx hb d_Exprs_checkAddress_96 (by decide) ?_
    refine lv_iadd hx hb d_Exprs_checkAddress_97 ?_
    replace hR := bi_e hR
    obtain ⟨r15, l15, T15, hc15, hR⟩ := hR
    refine gcV_i (rest := []) ⟨hx, hb, hml, hown, hT⟩ (h_Exprs_checkTerm _ _ _ _ _ _ _ hc15) (cwV 3 hT (gV ml_Exprs_39 im_Exprs_checkTerm se_Exprs_checkTerm ini_Exprs co_Exprs_checkTerm) rfl rfl rfl pd_Exprs_checkTerm ⟨rm_hi, rm_lo (Nat.le_of_ble_eq_true rfl)⟩) hK hP hD hS hA hnw henv (Nat.le_of_ble_eq_true rfl) rfl rfl hl.1 rfl (Nat.le_of_ble_eq_true rfl) d_Exprs_checkAddress_98 ⟨Nat.le_refl _, Nat.le_refl _⟩ (fun H locs hP hD hS => ?_)
    clear hc15
    refine lv_istore (lv' := [(6, .int r15), (0, .ref (ad 8)), (2, .int x2), (3, .int x3), (4, .int x4), (5, .int x5)]) hx hb d_Exprs_checkAddress_101 hl (by decide) rfl (fun ls hl => ?_)
    refine lv_aload_n hx hb d_Exprs_checkAddress_103 rfl (lv_at hl 1 rfl) ?_
    refine lv_iload hx hb d_Exprs_checkAddress_104 (lv_at hl 5 rfl) ?_
    refine lv_iload hx hb d_Exprs_checkAddress_106 (lv_at hl 0 rfl) ?_
    refine lv_iload hx hb d_Exprs_checkAddress_108 (lv_at hl 4 rfl) ?_
    refine lv_iconst (v := 1) hx hb d_Exprs_checkAddress_110 (by decide) ?_
    refine lv_iload_n hx hb d_Exprs_checkAddress_111 rfl (lv_at hl 2 rfl) ?_
    refine lv_iconst (v := 1) hx hb d_Exprs_checkAddress_112 (by decide) ?_
    refine lv_iadd hx hb d_Exprs_checkAddress_113 ?_
    replace hR := bi_e hR
    obtain ⟨r16, l16, T16, hc16, hR⟩ := hR
    refine gcV_i (rest := []) ⟨hx, hb, hml, hown, hT⟩ (h_Exprs_checkPlace _ _ _ _ _ _ _ _ _ hc16) (cwV 5 hT (gV ml_Exprs_130 im_Exprs_checkPlace se_Exprs_checkPlace ini_Exprs co_Exprs_checkPlace) rfl rfl rfl pd_Exprs_checkPlace ⟨rm_hi, rm_lo (Nat.le_of_ble_eq_true rfl)⟩) hK hP hD hS hA hnw henv (Nat.le_of_ble_eq_true rfl) rfl rfl hl.1 rfl (Nat.le_of_ble_eq_true rfl) d_Exprs_checkAddress_114 ⟨Nat.le_refl _, Nat.le_refl _⟩ (fun H locs hP hD hS => ?_)
    clear hc16
    refine lv_istore (lv' := [(7, .int r16), (6, .int r15), (0, .ref (ad 8)), (2, .int x2), (3, .int x3), (4, .int x4), (5, .int x5)]) hx hb d_Exprs_checkAddress_117 hl (by decide) rfl (fun ls hl => ?_)
    refine lv_aload_n hx hb d_Exprs_checkAddress_119 rfl (lv_at hl 2 rfl) ?_
    refine rd_Exprs_29 hx hb hT hown hK hP d_Exprs_checkAddress_120 ?_
    refine lv_iconst (v := 3) hx hb d_Exprs_checkAddress_123 (by decide) ?_
    refine lv_aload_n hx hb d_Exprs_checkAddress_124 rfl (lv_at hl 2 rfl) ?_
    refine rd_Exprs_29 hx hb hT hown hK hP d_Exprs_checkAddress_125 ?_
    refine lv_iload hx hb d_Exprs_checkAddress_128 (lv_at hl 1 rfl) ?_
    replace hR := bi_e hR
    obtain ⟨r17, l17, T17, hc17, hR⟩ := hR
    refine gcV_i (rest := [.int (3 : Int32), .ref (ad 5)]) ⟨hx, hb, hml, hown, hT⟩ (h_Types_regionOf _ _ _ _ _ hc17) (cwV 1 hT (gV ml_Exprs_82 im_Types_regionOf se_Types_regionOf ini_Types co_Types_regionOf) rfl rfl rfl pd_Types_regionOf ⟨rm_hi, rm_lo (Nat.le_of_ble_eq_true rfl)⟩) hK hP hD hS hA hnw henv (Nat.le_of_ble_eq_true rfl) rfl rfl hl.1 rfl (Nat.le_of_ble_eq_true rfl) d_Exprs_checkAddress_130 ⟨Nat.le_refl _, Nat.le_refl _⟩ (fun H locs hP hD hS => ?_)
    clear hc17
    refine lv_iload hx hb d_Exprs_checkAddress_133 (lv_at hl 0 rfl) ?_
    replace hR := bi_e hR
    obtain ⟨r18, l18, T18, hc18, hR⟩ := hR
    refine gcV_i (rest := []) ⟨hx, hb, hml, hown, hT⟩ (h_Types_pointer _ _ _ _ _ _ _ hc18) (cwV 3 hT (gV ml_Exprs_238 im_Types_pointer se_Types_pointer ini_Types co_Types_pointer) rfl rfl rfl pd_Types_pointer ⟨rm_hi, rm_lo (Nat.le_of_ble_eq_true rfl)⟩) hK hP hD hS hA hnw henv (Nat.le_of_ble_eq_true rfl) rfl rfl hl.1 rfl (Nat.le_of_ble_eq_true rfl) d_Exprs_checkAddress_135 ⟨Nat.le_refl _, Nat.le_refl _⟩ (fun H locs hP hD hS => ?_)
    clear hc18
    obtain ⟨e1, -, e3⟩ := re_e hR
    subst e1; subst e3
    exact W.iret (v := r18) hx hb hr (fun t ht hW => ⟨⟨r18, (), rfl, rfl, by rw [ht]; exact hP, va_K.moved hW.alike hK, hD⟩, hS.F ht⟩) hS.2.2 d_Exprs_checkAddress_138
  unfold rb_Exprs_checkAddress at hR
  refine lv_aload_n hx hb d_Exprs_checkAddress_0 rfl (lv_at hl 0 rfl) ?_
  refine rd_Exprs_9 hx hb hT hown hK hP d_Exprs_checkAddress_1 ?_
  refine lv_aload_n hx hb d_Exprs_checkAddress_4 rfl (lv_at hl 0 rfl) ?_
  refine rd_Exprs_9 hx hb hT hown hK hP d_Exprs_checkAddress_5 ?_
  refine rd_Exprs_188 hx hb hT hown hK hP d_Exprs_checkAddress_8 ?_
  refine lv_iload_n hx hb d_Exprs_checkAddress_11 rfl (lv_at hl 1 rfl) ?_
  replace hR := gd_e hR
  obtain ⟨b1, hR⟩ := hR
  refine laH_7 hx hb hK hP b1 d_Exprs_checkAddress_12 ?_
  replace hR := bi_e hR
  obtain ⟨r2, l2, T2, hc2, hR⟩ := hR
  refine gcV_i (rest := []) ⟨hx, hb, hml, hown, hT⟩ (h_Source_bare _ _ _ _ _ hc2) (cwV 1 hT (gV ml_Exprs_311 im_Source_bare se_Source_bare ini_Source co_Source_bare) rfl rfl rfl pd_Source_bare ⟨rm_hi, rm_lo (Nat.le_of_ble_eq_true rfl)⟩) hK hP hD hS hA hnw henv (Nat.le_of_ble_eq_true rfl) rfl rfl hl.1 rfl (Nat.le_of_ble_eq_true rfl) d_Exprs_checkAddress_13 ⟨Nat.le_refl _, Nat.le_refl _⟩ (fun H locs hP hD hS => ?_)
  clear hc2
  refine lv_istore_n (lv' := [(3, .int r2), (0, .ref (ad 8)), (1, .int p1), (2, .int p2)]) hx hb d_Exprs_checkAddress_16 rfl hl (by decide) rfl (fun ls hl => ?_)
  refine lv_aload_n hx hb d_Exprs_checkAddress_17 rfl (lv_at hl 1 rfl) ?_
  refine rd_Exprs_9 hx hb hT hown hK hP d_Exprs_checkAddress_18 ?_
  refine lv_iload_n hx hb d_Exprs_checkAddress_21 rfl (lv_at hl 0 rfl) ?_
  replace hR := bi_e hR
  obtain ⟨r3, l3, T3, hc3, hR⟩ := hR
  refine gcV_i (rest := []) ⟨hx, hb, hml, hown, hT⟩ (h_Source_beginOf _ _ _ _ _ hc3) (cwV 1 hT (gV ml_Exprs_64 im_Source_beginOf se_Source_beginOf ini_Source co_Source_beginOf) rfl rfl rfl pd_Source_beginOf ⟨rm_hi, rm_lo (Nat.le_of_ble_eq_true rfl)⟩) hK hP hD hS hA hnw henv (Nat.le_of_ble_eq_true rfl) rfl rfl hl.1 rfl (Nat.le_of_ble_eq_true rfl) d_Exprs_checkAddress_22 ⟨Nat.le_refl _, Nat.le_refl _⟩ (fun H locs hP hD hS => ?_)
  clear hc3
  refine lv_istore (lv' := [(4, .int r3), (3, .int r2), (0, .ref (ad 8)), (1, .int p1), (2, .int p2)]) hx hb d_Exprs_checkAddress_25 hl (by decide) rfl (fun ls hl => ?_)
  refine lv_aload_n hx hb d_Exprs_checkAddress_27 rfl (lv_at hl 2 rfl) ?_
  refine rd_Exprs_9 hx hb hT hown hK hP d_Exprs_checkAddress_28 ?_
  refine lv_iload_n hx hb d_Exprs_checkAddress_31 rfl (lv_at hl 1 rfl) ?_
  replace hR := bi_e hR
  obtain ⟨r4, l4, T4, hc4, hR⟩ := hR
  refine gcV_i (rest := []) ⟨hx, hb, hml, hown, hT⟩ (h_Source_lastTail _ _ _ _ _ hc4) (cwV 1 hT (gV ml_Exprs_314 im_Source_lastTail se_Source_lastTail ini_Source co_Source_lastTail) rfl rfl rfl pd_Source_lastTail ⟨rm_hi, rm_lo (Nat.le_of_ble_eq_true rfl)⟩) hK hP hD hS hA hnw henv (Nat.le_of_ble_eq_true rfl) rfl rfl hl.1 rfl (Nat.le_of_ble_eq_true rfl) d_Exprs_checkAddress_32 ⟨Nat.le_refl _, Nat.le_refl _⟩ (fun H locs hP hD hS => ?_)
  clear hc4
  refine lv_istore (lv' := [(5, .int r4), (4, .int r3), (3, .int r2), (0, .ref (ad 8)), (1, .int p1), (2, .int p2)]) hx hb d_Exprs_checkAddress_35 hl (by decide) rfl (fun ls hl => ?_)
  refine lv_aload_n hx hb d_Exprs_checkAddress_37 rfl (lv_at hl 3 rfl) ?_
  refine rd_Exprs_9 hx hb hT hown hK hP d_Exprs_checkAddress_38 ?_
  refine rd_Exprs_43 hx hb hT hown hK hP d_Exprs_checkAddress_41 ?_
  refine lv_iload_n hx hb d_Exprs_checkAddress_44 rfl (lv_at hl 2 rfl) ?_
  replace hR := gd_e hR
  obtain ⟨b5, hR⟩ := hR
  refine laH_3 hx hb hK hP b5 d_Exprs_checkAddress_45 ?_
  refine lv_if_ne (tgt := 79) hx hb d_Exprs_checkAddress_46 (by decide) (fun c6 => ?_) (fun c6 => ?_)
  · replace hR := if_n c6 hR
    refine lv_aload_n hx hb d_Exprs_checkAddress_79 rfl (lv_at hl 3 rfl) ?_
    refine rd_Exprs_35 hx hb hT hown hK hP d_Exprs_checkAddress_80 ?_
    refine lv_iconst (v := 4) hx hb d_Exprs_checkAddress_83 (by decide) ?_
    refine lv_iload hx hb d_Exprs_checkAddress_84 (lv_at hl 1 rfl) ?_
    replace hR := bi_e hR
    obtain ⟨r7, l7, T7, hc7, hR⟩ := hR
    refine gcV_v (rest := []) ⟨hx, hb, hml, hown, hT⟩ (h_Code_note _ _ _ _ _ _ hc7) (cwV 2 hT (gV ml_Exprs_68 im_Code_note se_Code_note ini_Code co_Code_note) rfl rfl rfl pd_Code_note ⟨rm_hi, rm_lo (Nat.le_of_ble_eq_true rfl)⟩) hK hP hD hS hA hnw henv (Nat.le_of_ble_eq_true rfl) rfl rfl hl.1 rfl (Nat.le_of_ble_eq_true rfl) d_Exprs_checkAddress_86 ⟨Nat.le_refl _, Nat.le_refl _⟩ (fun H locs hP hD hS => ?_)
    clear hc7
    refine lv_iconst (v := 1) hx hb d_Exprs_checkAddress_89 (by decide) ?_
    obtain ⟨e1, -, e3⟩ := re_e hR
    subst e1; subst e3
    exact W.iret (v := (1 : Int32)) hx hb hr (fun t ht hW => ⟨⟨(1 : Int32), (), rfl, rfl, by rw [ht]; exact hP, va_K.moved hW.alike hK, hD⟩, hS.F ht⟩) hS.2.2 d_Exprs_checkAddress_90
  · replace hR := if_p c6 hR
    refine lv_aload_n hx hb d_Exprs_checkAddress_49 rfl (lv_at hl 3 rfl) ?_
    refine rd_Exprs_9 hx hb hT hown hK hP d_Exprs_checkAddress_50 ?_
    refine rd_Exprs_124 hx hb hT hown hK hP d_Exprs_checkAddress_53 ?_
    refine lv_iload hx hb d_Exprs_checkAddress_56 (lv_at hl 0 rfl) ?_
    replace hR := gd_e hR
    obtain ⟨b9, hR⟩ := hR
    refine laH_1 hx hb hK hP b9 d_Exprs_checkAddress_58 ?_
    refine lv_bipush (v := 49) hx hb d_Exprs_checkAddress_59 (by decide) ?_
    refine lv_icmp_eq (tgt := 91) hx hb d_Exprs_checkAddress_61 (by decide) (fun c10 => ?_) (fun c10 => ?_)
    · replace hR := if_p c10 hR
      have g := lb_91 T4 p2 r2 r3 r4 hR
      rw [hG] at g
      exact g _ _ hP hD hS _ (lv_sub hl [3, 5, 2, 1, 0] rfl)
    · replace hR := if_n c10 hR
      refine lv_aload_n hx hb d_Exprs_checkAddress_64 rfl (lv_at hl 3 rfl) ?_
      refine rd_Exprs_9 hx hb hT hown hK hP d_Exprs_checkAddress_65 ?_
      refine rd_Exprs_124 hx hb hT hown hK hP d_Exprs_checkAddress_68 ?_
      refine lv_iload hx hb d_Exprs_checkAddress_71 (lv_at hl 0 rfl) ?_
      replace hR := gd_e hR
      obtain ⟨b11, hR⟩ := hR
      refine laH_1 hx hb hK hP b11 d_Exprs_checkAddress_73 ?_
      refine lv_bipush (v := 44) hx hb d_Exprs_checkAddress_74 (by decide) ?_
      refine lv_icmp_eq (tgt := 91) hx hb d_Exprs_checkAddress_76 (by decide) (fun c12 => ?_) (fun c12 => ?_)
      · replace hR := if_p c12 hR
        have g := lb_91 T4 p2 r2 r3 r4 hR
        rw [hG] at g
        exact g _ _ hP hD hS _ (lv_sub hl [3, 5, 2, 1, 0] rfl)
      · replace hR := if_n c12 hR
        refine lv_aload_n hx hb d_Exprs_checkAddress_79 rfl (lv_at hl 3 rfl) ?_
        refine rd_Exprs_35 hx hb hT hown hK hP d_Exprs_checkAddress_80 ?_
        refine lv_iconst (v := 4) hx hb d_Exprs_checkAddress_83 (by decide) ?_
        refine lv_iload hx hb d_Exprs_checkAddress_84 (lv_at hl 1 rfl) ?_
        replace hR := bi_e hR
        obtain ⟨r13, l13, T13, hc13, hR⟩ := hR
        refine gcV_v (rest := []) ⟨hx, hb, hml, hown, hT⟩ (h_Code_note _ _ _ _ _ _ hc13) (cwV 2 hT (gV ml_Exprs_68 im_Code_note se_Code_note ini_Code co_Code_note) rfl rfl rfl pd_Code_note ⟨rm_hi, rm_lo (Nat.le_of_ble_eq_true rfl)⟩) hK hP hD hS hA hnw henv (Nat.le_of_ble_eq_true rfl) rfl rfl hl.1 rfl (Nat.le_of_ble_eq_true rfl) d_Exprs_checkAddress_86 ⟨Nat.le_refl _, Nat.le_refl _⟩ (fun H locs hP hD hS => ?_)
        clear hc13
        refine lv_iconst (v := 1) hx hb d_Exprs_checkAddress_89 (by decide) ?_
        obtain ⟨e1, -, e3⟩ := re_e hR
        subst e1; subst e3
        exact W.iret (v := (1 : Int32)) hx hb hr (fun t ht hW => ⟨⟨(1 : Int32), (), rfl, rfl, by rw [ht]; exact hP, va_K.moved hW.alike hK, hD⟩, hS.F ht⟩) hS.2.2 d_Exprs_checkAddress_90
set_option maxHeartbeats 4000000 in
set_option maxRecDepth 100000 in
theorem sp_Exprs_checkSolid (l : Launch) (dC : Nat → ClassId) (dI : Nat → Nat → Nat) (ea ev ad : Nat → Nat) (km : Nat → ClassId) (F : gF) (nf d : Nat) (h_Exprs_check : mt_Exprs_check l dC dI ea ev ad km F d) (h_Types_isPointed : mt_Types_isPointed l dC dI ea ev ad km F d) (h_Exprs_countNull : mt_Exprs_countNull l dC dI ea ev ad km F d) (h_Code_emit : mt_Code_emit l dC dI ea ev ad km F d) (h_Exprs_solidOf : mt_Exprs_solidOf l dC dI ea ev ad km F d) (h_Source_beginOf : mt_Source_beginOf l dC dI ea ev ad km F d) (h_Code_note : mt_Code_note l dC dI ea ev ad km F d) (T0 : gSt) (p1 : Int32) (p2 : Int32) (r0 : Int32) (rl0 : Int64) (T9 : gSt) (hR : rb_Exprs_checkSolid F nf T0 p1 p2 = some (r0, rl0, T9)) : GMi l dC dI LH ad km ea ev y_Exprs_checkSolid w_Exprs_checkSolid (rmD (d + 1)) [.ref (ad 8), .int p1, .int p2] T0 r0 T9 := by
  intro sz
  refine Met.ofW (cc := b_Exprs_checkSolid) (maxL := 5) (ret := (some .int)) (by decide) rfl ?_
  intro p e s m args below meth c s₁ B hml hv
  obtain ⟨rfl, hsz, hP, hK, hD0, hnw, henv⟩ := hv
  have hx := B.exec
  have hb := B.bytes
  have hr := B.returns
  have hT : ∀ w ∈ lw_good, w.before _ s = true := fun w h => atoms_spec (ws := w_Exprs_checkSolid) B.pre w (List.mem_cons_of_mem _ h)
  have hown : s.vm.findClass R_Exprs = some m.cls := findClass_of_methodNamed B.named
  subst hsz
  have hD := hD0.self (sz := s.heap.size)
  clear hD0
  generalize hAe : va_A (gW LH ad km T0) s.heap.size = A at hD henv ⊢
  have hA : ∀ q : Nat, s.heap.size ≤ q → A q := fun q h => by rw [← hAe]; exact Or.inr h
  have hS : va_S A s.heap s.heap [] := va_S.rf
  have hl := lv_entry ([.ref (ad 8), .int p1, .int p2]) (n := 5) (Nat.le_of_ble_eq_true rfl)
  rw [lg_entry_eq]
  generalize (lg_sl ([.ref (ad 8), .int p1, .int p2]) ++ List.replicate (5 - (lg_sl ([.ref (ad 8), .int p1, .int p2])).length) Slot.unset).toArray = ls at hl ⊢
  have hl : lv_has ls 5 [(0, .ref (ad 8)), (1, .int p1), (2, .int p2)] := hl
  unfold rb_Exprs_checkSolid at hR
  refine lv_aload_n hx hb d_Exprs_checkSolid_0 rfl (lv_at hl 0 rfl) ?_
  refine rd_Exprs_9 hx hb hT hown hK hP d_Exprs_checkSolid_1 ?_
  refine rd_Exprs_188 hx hb hT hown hK hP d_Exprs_checkSolid_4 ?_
  refine lv_iload_n hx hb d_Exprs_checkSolid_7 rfl (lv_at hl 1 rfl) ?_
  replace hR := gd_e hR
  obtain ⟨b1, hR⟩ := hR
  refine laH_7 hx hb hK hP b1 d_Exprs_checkSolid_8 ?_
  refine lv_topi (fun z2 e2 => ?_)
  replace hR := vK_e e2 hR
  refine lv_istore_n (lv' := [(3, .int z2), (0, .ref (ad 8)), (1, .int p1), (2, .int p2)]) hx hb d_Exprs_checkSolid_9 rfl hl (by decide) rfl (fun ls hl => ?_)
  refine lv_aload_n hx hb d_Exprs_checkSolid_10 rfl (lv_at hl 1 rfl) ?_
  refine lv_iload_n hx hb d_Exprs_checkSolid_11 rfl (lv_at hl 0 rfl) ?_
  refine lv_iload_n hx hb d_Exprs_checkSolid_12 rfl (lv_at hl 3 rfl) ?_
  refine lv_iconst (v := 1) hx hb d_Exprs_checkSolid_13 (by decide) ?_
  refine lv_iadd hx hb d_Exprs_checkSolid_14 ?_
  replace hR := bi_e hR
  obtain ⟨r3, l3, T3, hc3, hR⟩ := hR
  refine gcV_i (rest := []) ⟨hx, hb, hml, hown, hT⟩ (h_Exprs_check _ _ _ _ _ _ hc3) (cwV 2 hT (gV ml_Exprs_53 im_Exprs_check se_Exprs_check ini_Exprs co_Exprs_check) rfl rfl rfl pd_Exprs_check ⟨rm_hi, rm_lo (Nat.le_of_ble_eq_true rfl)⟩) hK hP hD hS hA hnw henv (Nat.le_of_ble_eq_true rfl) rfl rfl hl.1 rfl (Nat.le_of_ble_eq_true rfl) d_Exprs_checkSolid_15 ⟨Nat.le_refl _, Nat.le_refl _⟩ (fun H locs hP hD hS => ?_)
  clear hc3
  refine lv_istore (lv' := [(4, .int r3), (3, .int z2), (0, .ref (ad 8)), (1, .int p1), (2, .int p2)]) hx hb d_Exprs_checkSolid_18 hl (by decide) rfl (fun ls hl => ?_)
  refine lv_aload_n hx hb d_Exprs_checkSolid_20 rfl (lv_at hl 2 rfl) ?_
  refine rd_Exprs_29 hx hb hT hown hK hP d_Exprs_checkSolid_21 ?_
  refine lv_iload hx hb d_Exprs_checkSolid_24 (lv_at hl 0 rfl) ?_
  replace hR := bi_e hR
  obtain ⟨r4, l4, T4, hc4, hR⟩ := hR
  refine gcV_i (rest := []) ⟨hx, hb, hml, hown, hT⟩ (h_Types_isPointed _ _ _ _ _ hc4) (cwV 1 hT (gV ml_Exprs_108 im_Types_isPointed se_Types_isPointed ini_Types co_Types_isPointed) rfl rfl rfl pd_Types_isPointed ⟨rm_hi, rm_lo (Nat.le_of_ble_eq_true rfl)⟩) hK hP hD hS hA hnw henv (Nat.le_of_ble_eq_true rfl) rfl rfl hl.1 rfl (Nat.le_of_ble_eq_true rfl) d_Exprs_checkSolid_26 ⟨Nat.le_refl _, Nat.le_refl _⟩ (fun H locs hP hD hS => ?_)
  clear hc4
  refine lv_if_ne (tgt := 50) hx hb d_Exprs_checkSolid_29 (by decide) (fun c5 => ?_) (fun c5 => ?_)
  · replace hR := if_n c5 hR
    refine lv_aload_n hx hb d_Exprs_checkSolid_50 rfl (lv_at hl 2 rfl) ?_
    refine lv_iload hx hb d_Exprs_checkSolid_51 (lv_at hl 0 rfl) ?_
    replace hR := bi_e hR
    obtain ⟨r6, l6, T6, hc6, hR⟩ := hR
    refine gcV_v (rest := []) ⟨hx, hb, hml, hown, hT⟩ (h_Exprs_countNull _ _ _ _ _ hc6) (cwV 1 hT (gV ml_Exprs_160 im_Exprs_countNull se_Exprs_countNull ini_Exprs co_Exprs_countNull) rfl rfl rfl pd_Exprs_countNull ⟨rm_hi, rm_lo (Nat.le_of_ble_eq_true rfl)⟩) hK hP hD hS hA hnw henv (Nat.le_of_ble_eq_true rfl) rfl rfl hl.1 rfl (Nat.le_of_ble_eq_true rfl) d_Exprs_checkSolid_53 ⟨Nat.le_refl _, Nat.le_refl _⟩ (fun H locs hP hD hS => ?_)
    clear hc6
    refine lv_aload_n hx hb d_Exprs_checkSolid_56 rfl (lv_at hl 2 rfl) ?_
    refine rd_Exprs_35 hx hb hT hown hK hP d_Exprs_checkSolid_57 ?_
    refine lv_bipush (v := 23) hx hb d_Exprs_checkSolid_60 (by decide) ?_
    refine lv_iconst (v := 0) hx hb d_Exprs_checkSolid_62 (by decide) ?_
    refine lv_iconst (v := 0) hx hb d_Exprs_checkSolid_63 (by decide) ?_
    replace hR := bi_e hR
    obtain ⟨r7, l7, T7, hc7, hR⟩ := hR
    refine gcV_i (rest := []) ⟨hx, hb, hml, hown, hT⟩ (h_Code_emit _ _ _ _ _ _ _ hc7) (cwV 3 hT (gV ml_Exprs_94 im_Code_emit se_Code_emit ini_Code co_Code_emit) rfl rfl rfl pd_Code_emit ⟨rm_hi, rm_lo (Nat.le_of_ble_eq_true rfl)⟩) hK hP hD hS hA hnw henv (Nat.le_of_ble_eq_true rfl) rfl rfl hl.1 rfl (Nat.le_of_ble_eq_true rfl) d_Exprs_checkSolid_64 ⟨Nat.le_refl _, Nat.le_refl _⟩ (fun H locs hP hD hS => ?_)
    clear hc7
    refine lv_pop hx hb d_Exprs_checkSolid_67 rfl ?_
    refine lv_aload_n hx hb d_Exprs_checkSolid_68 rfl (lv_at hl 2 rfl) ?_
    refine lv_iload hx hb d_Exprs_checkSolid_69 (lv_at hl 0 rfl) ?_
    replace hR := bi_e hR
    obtain ⟨r8, l8, T8, hc8, hR⟩ := hR
    refine gcV_i (rest := []) ⟨hx, hb, hml, hown, hT⟩ (h_Exprs_solidOf _ _ _ _ _ hc8) (cwV 1 hT (gV ml_Exprs_235 im_Exprs_solidOf se_Exprs_solidOf ini_Exprs co_Exprs_solidOf) rfl rfl rfl pd_Exprs_solidOf ⟨rm_hi, rm_lo (Nat.le_of_ble_eq_true rfl)⟩) hK hP hD hS hA hnw henv (Nat.le_of_ble_eq_true rfl) rfl rfl hl.1 rfl (Nat.le_of_ble_eq_true rfl) d_Exprs_checkSolid_71 ⟨Nat.le_refl _, Nat.le_refl _⟩ (fun H locs hP hD hS => ?_)
    clear hc8
    obtain ⟨e1, -, e3⟩ := re_e hR
    subst e1; subst e3
    exact W.iret (v := r8) hx hb hr (fun t ht hW => ⟨⟨r8, (), rfl, rfl, by rw [ht]; exact hP, va_K.moved hW.alike hK, hD⟩, hS.F ht⟩) hS.2.2 d_Exprs_checkSolid_74
  · replace hR := if_p c5 hR
    refine lv_aload_n hx hb d_Exprs_checkSolid_32 rfl (lv_at hl 2 rfl) ?_
    refine rd_Exprs_35 hx hb hT hown hK hP d_Exprs_checkSolid_33 ?_
    refine lv_iconst (v := 4) hx hb d_Exprs_checkSolid_36 (by decide) ?_
    refine lv_aload_n hx hb d_Exprs_checkSolid_37 rfl (lv_at hl 2 rfl) ?_
    refine rd_Exprs_9 hx hb hT hown hK hP d_Exprs_checkSolid_38 ?_
    refine lv_iload_n hx hb d_Exprs_checkSolid_41 rfl (lv_at hl 1 rfl) ?_
    replace hR := bi_e hR
    obtain ⟨r10, l10, T10, hc10, hR⟩ := hR
    refine gcV_i (rest := [.int (4 : Int32), .ref (ad 3)]) ⟨hx, hb, hml, hown, hT⟩ (h_Source_beginOf _ _ _ _ _ hc10) (cwV 1 hT (gV ml_Exprs_64 im_Source_beginOf se_Source_beginOf ini_Source co_Source_beginOf) rfl rfl rfl pd_Source_beginOf ⟨rm_hi, rm_lo (Nat.le_of_ble_eq_true rfl)⟩) hK hP hD hS hA hnw henv (Nat.le_of_ble_eq_true rfl) rfl rfl hl.1 rfl (Nat.le_of_ble_eq_true rfl) d_Exprs_checkSolid_42 ⟨Nat.le_refl _, Nat.le_refl _⟩ (fun H locs hP hD hS => ?_)
    clear hc10
    replace hR := bi_e hR
    obtain ⟨r11, l11, T11, hc11, hR⟩ := hR
    refine gcV_v (rest := []) ⟨hx, hb, hml, hown, hT⟩ (h_Code_note _ _ _ _ _ _ hc11) (cwV 2 hT (gV ml_Exprs_68 im_Code_note se_Code_note ini_Code co_Code_note) rfl rfl rfl pd_Code_note ⟨rm_hi, rm_lo (Nat.le_of_ble_eq_true rfl)⟩) hK hP hD hS hA hnw henv (Nat.le_of_ble_eq_true rfl) rfl rfl hl.1 rfl (Nat.le_of_ble_eq_true rfl) d_Exprs_checkSolid_45 ⟨Nat.le_refl _, Nat.le_refl _⟩ (fun H locs hP hD hS => ?_)
    clear hc11
    refine lv_iconst (v := 1) hx hb d_Exprs_checkSolid_48 (by decide) ?_
    obtain ⟨e1, -, e3⟩ := re_e hR
    subst e1; subst e3
    exact W.iret (v := (1 : Int32)) hx hb hr (fun t ht hW => ⟨⟨(1 : Int32), (), rfl, rfl, by rw [ht]; exact hP, va_K.moved hW.alike hK, hD⟩, hS.F ht⟩) hS.2.2 d_Exprs_checkSolid_49
set_option maxHeartbeats 4000000 in
set_option maxRecDepth 100000 in
theorem sp_Exprs_checkSize (l : Launch) (dC : Nat → ClassId) (dI : Nat → Nat → Nat) (ea ev ad : Nat → Nat) (km : Nat → ClassId) (F : gF) (nf d : Nat) (h_Exprs_check : mt_Exprs_check l dC dI ea ev ad km F d) (h_Types_kindOf : mt_Types_kindOf l dC dI ea ev ad km F d) (h_Source_beginOf : mt_Source_beginOf l dC dI ea ev ad km F d) (h_Exprs_demand : mt_Exprs_demand l dC dI ea ev ad km F d) (h_Code_emit : mt_Code_emit l dC dI ea ev ad km F d) (T0 : gSt) (p1 : Int32) (p2 : Int32) (r0 : Int32) (rl0 : Int64) (T9 : gSt) (hR : rb_Exprs_checkSize F nf T0 p1 p2 = some (r0, rl0, T9)) : GMi l dC dI LH ad km ea ev y_Exprs_checkSize w_Exprs_checkSize (rmD (d + 1)) [.ref (ad 8), .int p1, .int p2] T0 r0 T9 := by
  intro sz
  refine Met.ofW (cc := b_Exprs_checkSize) (maxL := 5) (ret := (some .int)) (by decide) rfl ?_
  intro p e s m args below meth c s₁ B hml hv
  obtain ⟨rfl, hsz, hP, hK, hD0, hnw, henv⟩ := hv
  have hx := B.exec
  have hb := B.bytes
  have hr := B.returns
  have hT : ∀ w ∈ lw_good, w.before _ s = true := fun w h => atoms_spec (ws := w_Exprs_checkSize) B.pre w (List.mem_cons_of_mem _ h)
  have hown : s.vm.findClass R_Exprs = some m.cls := findClass_of_methodNamed B.named
  subst hsz
  have hD := hD0.self (sz := s.heap.size)
  clear hD0
  generalize hAe : va_A (gW LH ad km T0) s.heap.size = A at hD henv ⊢
  have hA : ∀ q : Nat, s.heap.size ≤ q → A q := fun q h => by rw [← hAe]; exact Or.inr h
  have hS : va_S A s.heap s.heap [] := va_S.rf
  have hl := lv_entry ([.ref (ad 8), .int p1, .int p2]) (n := 5) (Nat.le_of_ble_eq_true rfl)
  rw [lg_entry_eq]
  generalize (lg_sl ([.ref (ad 8), .int p1, .int p2]) ++ List.replicate (5 - (lg_sl ([.ref (ad 8), .int p1, .int p2])).length) Slot.unset).toArray = ls at hl ⊢
  have hl : lv_has ls 5 [(0, .ref (ad 8)), (1, .int p1), (2, .int p2)] := hl
  obtain ⟨G, hG⟩ : ∃ G : Nat → List (Nat × Value) → List Value → gSt → Prop, G = (fun pc lv stk T => ∀ (H : Heap) (locs : List Loc), va_P (dC, dI) cls_all (gW LH ad km T) H → va_D A (gW LH ad km T) → va_S A s.heap H locs → ∀ (ls : Array Slot), lv_has ls 5 lv → W p l e (headSpec w_Exprs_checkSize (rmD (d + 1))).room s m ([.ref (ad 8), .int p1, .int p2] : List Value).toArray below meth c H locs 0 0 (MQ below (va_Qi (fun (z : Int32) (_ : Unit) => z = r0) (fun _ t => gPost dC dI LH ad km T9 A t) A) ([.ref (ad 8), .int p1, .int p2] : List Value).toArray s 0 0 A) (F0 m pc ls stk)) := ⟨_, rfl⟩
  have lb_39 : ∀ (T : gSt) (x3 : Int32) (y0 : Int32), rj_Exprs_checkSize_39 F nf T x3 y0 = some (r0, rl0, T9) → G 39 [(0, .ref (ad 8)), (3, .int x3)] [.int y0, .ref (ad 8)] T := by
    intro T x3 y0 hR; unfold rj_Exprs_checkSize_39 at hR; rw [hG]; intro H locs hP hD hS ls hl
    refine lv_iconst (v := 4) hx hb d_Exprs_checkSize_39 (by decide) ?_
    refine lv_aload_n hx hb d_Exprs_checkSize_40 rfl (lv_at hl 0 rfl) ?_
    refine rd_Exprs_9 hx hb hT hown hK hP d_Exprs_checkSize_41 ?_
    refine lv_iload_n hx hb d_Exprs_checkSize_44 rfl (lv_at hl 1 rfl) ?_
    replace hR := bi_e hR
    obtain ⟨r6, l6, T6, hc6, hR⟩ := hR
    refine gcV_i (rest := [.int (4 : Int32), .int y0, .ref (ad 8)]) ⟨hx, hb, hml, hown, hT⟩ (h_Source_beginOf _ _ _ _ _ hc6) (cwV 1 hT (gV ml_Exprs_64 im_Source_beginOf se_Source_beginOf ini_Source co_Source_beginOf) rfl rfl rfl pd_Source_beginOf ⟨rm_hi, rm_lo (Nat.le_of_ble_eq_true rfl)⟩) hK hP hD hS hA hnw henv (Nat.le_of_ble_eq_true rfl) rfl rfl hl.1 rfl (Nat.le_of_ble_eq_true rfl) d_Exprs_checkSize_45 ⟨Nat.le_refl _, Nat.le_refl _⟩ (fun H locs hP hD hS => ?_)
    clear hc6
    replace hR := bi_e hR
    obtain ⟨r7, l7, T7, hc7, hR⟩ := hR
    refine gcV_v (rest := []) ⟨hx, hb, hml, hown, hT⟩ (h_Exprs_demand _ _ _ _ _ _ _ hc7) (cwV 3 hT (gV ml_Exprs_111 im_Exprs_demand se_Exprs_demand ini_Exprs co_Exprs_demand) rfl rfl rfl pd_Exprs_demand ⟨rm_hi, rm_lo (Nat.le_of_ble_eq_true rfl)⟩) hK hP hD hS hA hnw henv (Nat.le_of_ble_eq_true rfl) rfl rfl hl.1 rfl (Nat.le_of_ble_eq_true rfl) d_Exprs_checkSize_48 ⟨Nat.le_refl _, Nat.le_refl _⟩ (fun H locs hP hD hS => ?_)
    clear hc7
    refine lv_aload_n hx hb d_Exprs_checkSize_51 rfl (lv_at hl 0 rfl) ?_
    refine rd_Exprs_35 hx hb hT hown hK hP d_Exprs_checkSize_52 ?_
    refine lv_bipush (v := 8) hx hb d_Exprs_checkSize_55 (by decide) ?_
    refine lv_iconst (v := 0) hx hb d_Exprs_checkSize_57 (by decide) ?_
    refine lv_iconst (v := 0) hx hb d_Exprs_checkSize_58 (by decide) ?_
    replace hR := bi_e hR
    obtain ⟨r8, l8, T8, hc8, hR⟩ := hR
    refine gcV_i (rest := []) ⟨hx, hb, hml, hown, hT⟩ (h_Code_emit _ _ _ _ _ _ _ hc8) (cwV 3 hT (gV ml_Exprs_94 im_Code_emit se_Code_emit ini_Code co_Code_emit) rfl rfl rfl pd_Code_emit ⟨rm_hi, rm_lo (Nat.le_of_ble_eq_true rfl)⟩) hK hP hD hS hA hnw henv (Nat.le_of_ble_eq_true rfl) rfl rfl hl.1 rfl (Nat.le_of_ble_eq_true rfl) d_Exprs_checkSize_59 ⟨Nat.le_refl _, Nat.le_refl _⟩ (fun H locs hP hD hS => ?_)
    clear hc8
    refine lv_pop hx hb d_Exprs_checkSize_62 rfl ?_
    refine lv_iconst (v := 1) hx hb d_Exprs_checkSize_63 (by decide) ?_
    obtain ⟨e1, -, e3⟩ := re_e hR
    subst e1; subst e3
    exact W.iret (v := (1 : Int32)) hx hb hr (fun t ht hW => ⟨⟨(1 : Int32), (), rfl, rfl, by rw [ht]; exact hP, va_K.moved hW.alike hK, hD⟩, hS.F ht⟩) hS.2.2 d_Exprs_checkSize_64
  unfold rb_Exprs_checkSize at hR
  refine lv_aload_n hx hb d_Exprs_checkSize_0 rfl (lv_at hl 0 rfl) ?_
  refine rd_Exprs_9 hx hb hT hown hK hP d_Exprs_checkSize_1 ?_
  refine rd_Exprs_188 hx hb hT hown hK hP d_Exprs_checkSize_4 ?_
  refine lv_iload_n hx hb d_Exprs_checkSize_7 rfl (lv_at hl 1 rfl) ?_
  replace hR := gd_e hR
  obtain ⟨b1, hR⟩ := hR
  refine laH_7 hx hb hK hP b1 d_Exprs_checkSize_8 ?_
  refine lv_topi (fun z2 e2 => ?_)
  replace hR := vK_e e2 hR
  refine lv_istore_n (lv' := [(3, .int z2), (0, .ref (ad 8)), (1, .int p1), (2, .int p2)]) hx hb d_Exprs_checkSize_9 rfl hl (by decide) rfl (fun ls hl => ?_)
  refine lv_aload_n hx hb d_Exprs_checkSize_10 rfl (lv_at hl 1 rfl) ?_
  refine lv_iload_n hx hb d_Exprs_checkSize_11 rfl (lv_at hl 0 rfl) ?_
  refine lv_iload_n hx hb d_Exprs_checkSize_12 rfl (lv_at hl 3 rfl) ?_
  refine lv_iconst (v := 1) hx hb d_Exprs_checkSize_13 (by decide) ?_
  refine lv_iadd hx hb d_Exprs_checkSize_14 ?_
  replace hR := bi_e hR
  obtain ⟨r3, l3, T3, hc3, hR⟩ := hR
  refine gcV_i (rest := []) ⟨hx, hb, hml, hown, hT⟩ (h_Exprs_check _ _ _ _ _ _ hc3) (cwV 2 hT (gV ml_Exprs_53 im_Exprs_check se_Exprs_check ini_Exprs co_Exprs_check) rfl rfl rfl pd_Exprs_check ⟨rm_hi, rm_lo (Nat.le_of_ble_eq_true rfl)⟩) hK hP hD hS hA hnw henv (Nat.le_of_ble_eq_true rfl) rfl rfl hl.1 rfl (Nat.le_of_ble_eq_true rfl) d_Exprs_checkSize_15 ⟨Nat.le_refl _, Nat.le_refl _⟩ (fun H locs hP hD hS => ?_)
  clear hc3
  refine lv_istore (lv' := [(4, .int r3), (3, .int z2), (0, .ref (ad 8)), (1, .int p1), (2, .int p2)]) hx hb d_Exprs_checkSize_18 hl (by decide) rfl (fun ls hl => ?_)
  refine lv_aload_n hx hb d_Exprs_checkSize_20 rfl (lv_at hl 2 rfl) ?_
  refine lv_aload_n hx hb d_Exprs_checkSize_21 rfl (lv_at hl 2 rfl) ?_
  refine rd_Exprs_29 hx hb hT hown hK hP d_Exprs_checkSize_22 ?_
  refine lv_iload hx hb d_Exprs_checkSize_25 (lv_at hl 0 rfl) ?_
  replace hR := bi_e hR
  obtain ⟨r4, l4, T4, hc4, hR⟩ := hR
  refine gcV_i (rest := [.ref (ad 8)]) ⟨hx, hb, hml, hown, hT⟩ (h_Types_kindOf _ _ _ _ _ hc4) (cwV 1 hT (gV ml_Exprs_74 im_Types_kindOf se_Types_kindOf ini_Types co_Types_kindOf) rfl rfl rfl pd_Types_kindOf ⟨rm_hi, rm_lo (Nat.le_of_ble_eq_true rfl)⟩) hK hP hD hS hA hnw henv (Nat.le_of_ble_eq_true rfl) rfl rfl hl.1 rfl (Nat.le_of_ble_eq_true rfl) d_Exprs_checkSize_27 ⟨Nat.le_refl _, Nat.le_refl _⟩ (fun H locs hP hD hS => ?_)
  clear hc4
  refine lv_iconst (v := 5) hx hb d_Exprs_checkSize_30 (by decide) ?_
  refine lv_icmp_ne (tgt := 38) hx hb d_Exprs_checkSize_31 (by decide) (fun c5 => ?_) (fun c5 => ?_)
  · replace hR := if_n c5 hR
    refine lv_iconst (v := 0) hx hb d_Exprs_checkSize_38 (by decide) ?_
    have g := lb_39 T4 z2 (0 : Int32) hR
    rw [hG] at g
    exact g _ _ hP hD hS _ (lv_sub hl [2, 1] rfl)
  · replace hR := if_p c5 hR
    refine lv_iconst (v := 1) hx hb d_Exprs_checkSize_34 (by decide) ?_
    refine lv_goto (tgt := 39) hx hb d_Exprs_checkSize_35 (by decide) ?_
    have g := lb_39 T4 z2 (1 : Int32) hR
    rw [hG] at g
    exact g _ _ hP hD hS _ (lv_sub hl [2, 1] rfl)
