abbrev b_Memory_begin : ByteArray := prog_7_method_2_code
abbrev y_Memory_begin : MethodName := ⟨R_Memory, "begin", "(II)V"⟩
theorem co_Memory_begin : Cond.code y_Memory_begin b_Memory_begin 3 none ∈ lw_good := lg_in (tin_7 _ (List.mem_of_getElem? (i := 157) rfl)) rfl
abbrev w_Memory_begin : List Cond := Cond.code y_Memory_begin b_Memory_begin 3 none :: lw_good
theorem im_Memory_begin : Cond.instanceMethod y_Memory_begin ∈ lw_good := lg_right (i := 1595) (by decide +kernel) rfl
theorem se_Memory_begin : Cond.selects R_Memory y_Memory_begin y_Memory_begin ∈ lw_good := lg_right (i := 1596) (by decide +kernel) rfl
theorem d_Memory_begin_0 : decode b_Memory_begin 0 = .ok (.aload_n 0, 1) := by decide +kernel
theorem d_Memory_begin_1 : decode b_Memory_begin 1 = .ok (.iconst 0, 1) := by decide +kernel
theorem d_Memory_begin_2 : decode b_Memory_begin 2 = .ok (.iload_n 1, 1) := by decide +kernel
theorem d_Memory_begin_3 : decode b_Memory_begin 3 = .ok (.bipush 64, 2) := by decide +kernel
theorem d_Memory_begin_5 : decode b_Memory_begin 5 = .ok (.invokestatic 39, 3) := by decide +kernel
theorem ml_Memory_39 : Cond.methodLink R_Memory 39 ⟨"java/lang/Math", "min", "(II)I"⟩ ∈ lw_good := lg_right (i := 1598) (by decide +kernel) rfl
theorem d_Memory_begin_8 : decode b_Memory_begin 8 = .ok (.invokestatic 45, 3) := by decide +kernel
theorem ml_Memory_45 : Cond.methodLink R_Memory 45 ⟨"java/lang/Math", "max", "(II)I"⟩ ∈ lw_good := lg_right (i := 1599) (by decide +kernel) rfl
theorem d_Memory_begin_11 : decode b_Memory_begin 11 = .ok (.putfield 48, 3) := by decide +kernel
theorem fl_Memory_48 : Cond.fieldLink R_Memory 48 "PointerHouse$Memory" "pages" "I" ∈ lw_good := lg_right (i := 602) (by decide +kernel) rfl
theorem d_Memory_begin_14 : decode b_Memory_begin 14 = .ok (.aload_n 0, 1) := by decide +kernel
theorem d_Memory_begin_15 : decode b_Memory_begin 15 = .ok (.iconst 0, 1) := by decide +kernel
theorem d_Memory_begin_16 : decode b_Memory_begin 16 = .ok (.iload_n 2, 1) := by decide +kernel
theorem d_Memory_begin_17 : decode b_Memory_begin 17 = .ok (.bipush 64, 2) := by decide +kernel
theorem d_Memory_begin_19 : decode b_Memory_begin 19 = .ok (.invokestatic 39, 3) := by decide +kernel
theorem d_Memory_begin_22 : decode b_Memory_begin 22 = .ok (.invokestatic 45, 3) := by decide +kernel
theorem d_Memory_begin_25 : decode b_Memory_begin 25 = .ok (.putfield 52, 3) := by decide +kernel
theorem fl_Memory_52 : Cond.fieldLink R_Memory 52 "PointerHouse$Memory" "wordsAPage" "I" ∈ lw_good := lg_right (i := 603) (by decide +kernel) rfl
theorem d_Memory_begin_28 : decode b_Memory_begin 28 = .ok (.aload_n 0, 1) := by decide +kernel
theorem d_Memory_begin_29 : decode b_Memory_begin 29 = .ok (.iconst 0, 1) := by decide +kernel
theorem d_Memory_begin_30 : decode b_Memory_begin 30 = .ok (.putfield 55, 3) := by decide +kernel
theorem fl_Memory_55 : Cond.fieldLink R_Memory 55 "PointerHouse$Memory" "inUse" "I" ∈ lw_good := lg_right (i := 604) (by decide +kernel) rfl
theorem d_Memory_begin_33 : decode b_Memory_begin 33 = .ok (.aload_n 0, 1) := by decide +kernel
theorem d_Memory_begin_34 : decode b_Memory_begin 34 = .ok (.iconst 0, 1) := by decide +kernel
theorem d_Memory_begin_35 : decode b_Memory_begin 35 = .ok (.putfield 58, 3) := by decide +kernel
theorem fl_Memory_58 : Cond.fieldLink R_Memory 58 "PointerHouse$Memory" "made" "I" ∈ lw_good := lg_right (i := 605) (by decide +kernel) rfl
theorem d_Memory_begin_38 : decode b_Memory_begin 38 = .ok (.aload_n 0, 1) := by decide +kernel
theorem d_Memory_begin_39 : decode b_Memory_begin 39 = .ok (.iconst 0, 1) := by decide +kernel
theorem d_Memory_begin_40 : decode b_Memory_begin 40 = .ok (.putfield 61, 3) := by decide +kernel
theorem fl_Memory_61 : Cond.fieldLink R_Memory 61 "PointerHouse$Memory" "strays" "I" ∈ lw_good := lg_right (i := 606) (by decide +kernel) rfl
theorem d_Memory_begin_43 : decode b_Memory_begin 43 = .ok (.aload_n 0, 1) := by decide +kernel
theorem d_Memory_begin_44 : decode b_Memory_begin 44 = .ok (.iconst 0, 1) := by decide +kernel
theorem d_Memory_begin_45 : decode b_Memory_begin 45 = .ok (.putfield 64, 3) := by decide +kernel
theorem d_Memory_begin_48 : decode b_Memory_begin 48 = .ok (.aload_n 0, 1) := by decide +kernel
theorem d_Memory_begin_49 : decode b_Memory_begin 49 = .ok (.getfield 21, 3) := by decide +kernel
theorem fl_Memory_21 : Cond.fieldLink R_Memory 21 "PointerHouse$Memory" "owner" "[I" ∈ lw_good := lg_right (i := 601) (by decide +kernel) rfl
theorem d_Memory_begin_52 : decode b_Memory_begin 52 = .ok (.iconst (-1), 1) := by decide +kernel
theorem d_Memory_begin_53 : decode b_Memory_begin 53 = .ok (.invokestatic 67, 3) := by decide +kernel
theorem ml_Memory_67 : Cond.methodLink R_Memory 67 ⟨"java/util/Arrays", "fill", "([II)V"⟩ ∈ lw_good := lg_right (i := 1600) (by decide +kernel) rfl
theorem d_Memory_begin_56 : decode b_Memory_begin 56 = .ok (.aload_n 0, 1) := by decide +kernel
theorem d_Memory_begin_57 : decode b_Memory_begin 57 = .ok (.invokevirtual 73, 3) := by decide +kernel
theorem ml_Memory_73 : Cond.methodLink R_Memory 73 ⟨"PointerHouse$Memory", "open", "()I"⟩ ∈ lw_good := lg_right (i := 1601) (by decide +kernel) rfl
theorem d_Memory_begin_60 : decode b_Memory_begin 60 = .ok (.pop, 1) := by decide +kernel
theorem d_Memory_begin_61 : decode b_Memory_begin 61 = .ok (.return_, 1) := by decide +kernel
abbrev b_Machine_enter : ByteArray := prog_6_method_27_code
abbrev y_Machine_enter : MethodName := ⟨R_Machine, "enter", "(II)V"⟩
theorem co_Machine_enter : Cond.code y_Machine_enter b_Machine_enter 6 none ∈ lw_good := lg_in (tin_7 _ (List.mem_of_getElem? (i := 170) rfl)) rfl
abbrev w_Machine_enter : List Cond := Cond.code y_Machine_enter b_Machine_enter 6 none :: lw_good
theorem im_Machine_enter : Cond.instanceMethod y_Machine_enter ∈ lw_good := lg_right (i := 1609) (by decide +kernel) rfl
theorem se_Machine_enter : Cond.selects R_Machine y_Machine_enter y_Machine_enter ∈ lw_good := lg_left (i := 88) (by decide +kernel) rfl
theorem d_Machine_enter_0 : decode b_Machine_enter 0 = .ok (.iload_n 1, 1) := by decide +kernel
theorem d_Machine_enter_1 : decode b_Machine_enter 1 = .ok (.ifCond .lt 14, 3) := by decide +kernel
theorem d_Machine_enter_4 : decode b_Machine_enter 4 = .ok (.iload_n 1, 1) := by decide +kernel
theorem d_Machine_enter_5 : decode b_Machine_enter 5 = .ok (.aload_n 0, 1) := by decide +kernel
theorem d_Machine_enter_6 : decode b_Machine_enter 6 = .ok (.getfield 40, 3) := by decide +kernel
theorem d_Machine_enter_9 : decode b_Machine_enter 9 = .ok (.getfield 210, 3) := by decide +kernel
theorem fl_Machine_210 : Cond.fieldLink R_Machine 210 "PointerHouse$Items" "count" "I" ∈ lw_good := lg_right (i := 274) (by decide +kernel) rfl
theorem d_Machine_enter_12 : decode b_Machine_enter 12 = .ok (.if_icmp .lt 4, 3) := by decide +kernel
theorem d_Machine_enter_15 : decode b_Machine_enter 15 = .ok (.return_, 1) := by decide +kernel
theorem d_Machine_enter_16 : decode b_Machine_enter 16 = .ok (.aload_n 0, 1) := by decide +kernel
theorem d_Machine_enter_17 : decode b_Machine_enter 17 = .ok (.getfield 55, 3) := by decide +kernel
theorem d_Machine_enter_20 : decode b_Machine_enter 20 = .ok (.bipush 40, 2) := by decide +kernel
theorem d_Machine_enter_22 : decode b_Machine_enter 22 = .ok (.if_icmp .lt 9, 3) := by decide +kernel
theorem d_Machine_enter_25 : decode b_Machine_enter 25 = .ok (.aload_n 0, 1) := by decide +kernel
theorem d_Machine_enter_26 : decode b_Machine_enter 26 = .ok (.iconst 5, 1) := by decide +kernel
theorem d_Machine_enter_27 : decode b_Machine_enter 27 = .ok (.putfield 44, 3) := by decide +kernel
theorem d_Machine_enter_30 : decode b_Machine_enter 30 = .ok (.return_, 1) := by decide +kernel
theorem d_Machine_enter_31 : decode b_Machine_enter 31 = .ok (.iconst 0, 1) := by decide +kernel
theorem d_Machine_enter_32 : decode b_Machine_enter 32 = .ok (.aload_n 0, 1) := by decide +kernel
theorem d_Machine_enter_33 : decode b_Machine_enter 33 = .ok (.getfield 52, 3) := by decide +kernel
theorem d_Machine_enter_36 : decode b_Machine_enter 36 = .ok (.aload_n 0, 1) := by decide +kernel
theorem d_Machine_enter_37 : decode b_Machine_enter 37 = .ok (.getfield 40, 3) := by decide +kernel
theorem d_Machine_enter_40 : decode b_Machine_enter 40 = .ok (.getfield 213, 3) := by decide +kernel
theorem fl_Machine_213 : Cond.fieldLink R_Machine 213 "PointerHouse$Items" "words" "[I" ∈ lw_good := lg_right (i := 325) (by decide +kernel) rfl
theorem d_Machine_enter_43 : decode b_Machine_enter 43 = .ok (.iload_n 1, 1) := by decide +kernel
theorem d_Machine_enter_44 : decode b_Machine_enter 44 = .ok (.iaload, 1) := by decide +kernel
theorem d_Machine_enter_45 : decode b_Machine_enter 45 = .ok (.isub, 1) := by decide +kernel
theorem d_Machine_enter_46 : decode b_Machine_enter 46 = .ok (.invokestatic 149, 3) := by decide +kernel
theorem ml_Machine_149 : Cond.methodLink R_Machine 149 ⟨"java/lang/Math", "max", "(II)I"⟩ ∈ lw_good := lg_right (i := 1611) (by decide +kernel) rfl
theorem d_Machine_enter_49 : decode b_Machine_enter 49 = .ok (.istore_n 3, 1) := by decide +kernel
theorem d_Machine_enter_50 : decode b_Machine_enter 50 = .ok (.aload_n 0, 1) := by decide +kernel
theorem d_Machine_enter_51 : decode b_Machine_enter 51 = .ok (.getfield 55, 3) := by decide +kernel
theorem d_Machine_enter_54 : decode b_Machine_enter 54 = .ok (.bipush 17, 2) := by decide +kernel
theorem d_Machine_enter_56 : decode b_Machine_enter 56 = .ok (.imul, 1) := by decide +kernel
theorem d_Machine_enter_57 : decode b_Machine_enter 57 = .ok (.iconst 5, 1) := by decide +kernel
theorem d_Machine_enter_58 : decode b_Machine_enter 58 = .ok (.iadd, 1) := by decide +kernel
theorem d_Machine_enter_59 : decode b_Machine_enter 59 = .ok (.istore 4, 2) := by decide +kernel
theorem d_Machine_enter_61 : decode b_Machine_enter 61 = .ok (.aload_n 0, 1) := by decide +kernel
theorem d_Machine_enter_62 : decode b_Machine_enter 62 = .ok (.dup, 1) := by decide +kernel
theorem d_Machine_enter_63 : decode b_Machine_enter 63 = .ok (.getfield 55, 3) := by decide +kernel
theorem d_Machine_enter_66 : decode b_Machine_enter 66 = .ok (.iconst 1, 1) := by decide +kernel
theorem d_Machine_enter_67 : decode b_Machine_enter 67 = .ok (.iadd, 1) := by decide +kernel
theorem d_Machine_enter_68 : decode b_Machine_enter 68 = .ok (.putfield 55, 3) := by decide +kernel
theorem d_Machine_enter_71 : decode b_Machine_enter 71 = .ok (.aload_n 0, 1) := by decide +kernel
theorem d_Machine_enter_72 : decode b_Machine_enter 72 = .ok (.iconst 0, 1) := by decide +kernel
theorem d_Machine_enter_73 : decode b_Machine_enter 73 = .ok (.aload_n 0, 1) := by decide +kernel
theorem d_Machine_enter_74 : decode b_Machine_enter 74 = .ok (.getfield 61, 3) := by decide +kernel
theorem d_Machine_enter_77 : decode b_Machine_enter 77 = .ok (.invokevirtual 103, 3) := by decide +kernel
theorem d_Machine_enter_80 : decode b_Machine_enter 80 = .ok (.aload_n 0, 1) := by decide +kernel
theorem d_Machine_enter_81 : decode b_Machine_enter 81 = .ok (.iconst 1, 1) := by decide +kernel
theorem d_Machine_enter_82 : decode b_Machine_enter 82 = .ok (.iload_n 3, 1) := by decide +kernel
theorem d_Machine_enter_83 : decode b_Machine_enter 83 = .ok (.invokevirtual 103, 3) := by decide +kernel
theorem d_Machine_enter_86 : decode b_Machine_enter 86 = .ok (.aload_n 0, 1) := by decide +kernel
theorem d_Machine_enter_87 : decode b_Machine_enter 87 = .ok (.iconst 3, 1) := by decide +kernel
theorem d_Machine_enter_88 : decode b_Machine_enter 88 = .ok (.aload_n 0, 1) := by decide +kernel
theorem d_Machine_enter_89 : decode b_Machine_enter 89 = .ok (.getfield 16, 3) := by decide +kernel
theorem d_Machine_enter_92 : decode b_Machine_enter 92 = .ok (.invokevirtual 207, 3) := by decide +kernel
theorem d_Machine_enter_95 : decode b_Machine_enter 95 = .ok (.invokevirtual 103, 3) := by decide +kernel
theorem d_Machine_enter_98 : decode b_Machine_enter 98 = .ok (.aload_n 0, 1) := by decide +kernel
theorem d_Machine_enter_99 : decode b_Machine_enter 99 = .ok (.iconst 4, 1) := by decide +kernel
theorem d_Machine_enter_100 : decode b_Machine_enter 100 = .ok (.aload_n 0, 1) := by decide +kernel
theorem d_Machine_enter_101 : decode b_Machine_enter 101 = .ok (.getfield 58, 3) := by decide +kernel
theorem d_Machine_enter_104 : decode b_Machine_enter 104 = .ok (.invokevirtual 103, 3) := by decide +kernel
theorem d_Machine_enter_107 : decode b_Machine_enter 107 = .ok (.aload_n 0, 1) := by decide +kernel
theorem d_Machine_enter_108 : decode b_Machine_enter 108 = .ok (.iconst 5, 1) := by decide +kernel
theorem d_Machine_enter_109 : decode b_Machine_enter 109 = .ok (.iconst 0, 1) := by decide +kernel
theorem d_Machine_enter_110 : decode b_Machine_enter 110 = .ok (.invokevirtual 103, 3) := by decide +kernel
theorem d_Machine_enter_113 : decode b_Machine_enter 113 = .ok (.iconst 1, 1) := by decide +kernel
theorem d_Machine_enter_114 : decode b_Machine_enter 114 = .ok (.istore 5, 2) := by decide +kernel
theorem d_Machine_enter_116 : decode b_Machine_enter 116 = .ok (.iload 5, 2) := by decide +kernel
theorem d_Machine_enter_118 : decode b_Machine_enter 118 = .ok (.iconst 3, 1) := by decide +kernel
theorem d_Machine_enter_119 : decode b_Machine_enter 119 = .ok (.if_icmp .gt 36, 3) := by decide +kernel
theorem d_Machine_enter_122 : decode b_Machine_enter 122 = .ok (.aload_n 0, 1) := by decide +kernel
theorem d_Machine_enter_123 : decode b_Machine_enter 123 = .ok (.iconst 5, 1) := by decide +kernel
theorem d_Machine_enter_124 : decode b_Machine_enter 124 = .ok (.iload 5, 2) := by decide +kernel
theorem d_Machine_enter_126 : decode b_Machine_enter 126 = .ok (.iadd, 1) := by decide +kernel
theorem d_Machine_enter_127 : decode b_Machine_enter 127 = .ok (.aload_n 0, 1) := by decide +kernel
theorem d_Machine_enter_128 : decode b_Machine_enter 128 = .ok (.getfield 24, 3) := by decide +kernel
theorem fl_Machine_24 : Cond.fieldLink R_Machine 24 "PointerHouse$Machine" "frames" "[I" ∈ lw_good := lg_right (i := 649) (by decide +kernel) rfl
theorem d_Machine_enter_131 : decode b_Machine_enter 131 = .ok (.iload 4, 2) := by decide +kernel
theorem d_Machine_enter_133 : decode b_Machine_enter 133 = .ok (.iload 5, 2) := by decide +kernel
theorem d_Machine_enter_135 : decode b_Machine_enter 135 = .ok (.iload_n 2, 1) := by decide +kernel
theorem d_Machine_enter_136 : decode b_Machine_enter 136 = .ok (.invokestatic 216, 3) := by decide +kernel
theorem ml_Machine_216 : Cond.methodLink R_Machine 216 ⟨"PointerHouse$Types", "toldOne", "(II)I"⟩ ∈ lw_good := lg_right (i := 1620) (by decide +kernel) rfl
theorem d_Machine_enter_139 : decode b_Machine_enter 139 = .ok (.bipush 11, 2) := by decide +kernel
theorem d_Machine_enter_141 : decode b_Machine_enter 141 = .ok (.invokestatic 221, 3) := by decide +kernel
theorem ml_Machine_221 : Cond.methodLink R_Machine 221 ⟨"java/lang/Math", "min", "(II)I"⟩ ∈ lw_good := lg_right (i := 1621) (by decide +kernel) rfl
theorem d_Machine_enter_144 : decode b_Machine_enter 144 = .ok (.iadd, 1) := by decide +kernel
theorem d_Machine_enter_145 : decode b_Machine_enter 145 = .ok (.iaload, 1) := by decide +kernel
theorem d_Machine_enter_146 : decode b_Machine_enter 146 = .ok (.invokevirtual 103, 3) := by decide +kernel
theorem d_Machine_enter_149 : decode b_Machine_enter 149 = .ok (.iinc 5 1, 3) := by decide +kernel
theorem d_Machine_enter_152 : decode b_Machine_enter 152 = .ok (.goto (-36), 3) := by decide +kernel
theorem d_Machine_enter_155 : decode b_Machine_enter 155 = .ok (.aload_n 0, 1) := by decide +kernel
theorem d_Machine_enter_156 : decode b_Machine_enter 156 = .ok (.iload_n 3, 1) := by decide +kernel
theorem d_Machine_enter_157 : decode b_Machine_enter 157 = .ok (.bipush 80, 2) := by decide +kernel
theorem d_Machine_enter_159 : decode b_Machine_enter 159 = .ok (.iadd, 1) := by decide +kernel
theorem d_Machine_enter_160 : decode b_Machine_enter 160 = .ok (.aload_n 0, 1) := by decide +kernel
theorem d_Machine_enter_161 : decode b_Machine_enter 161 = .ok (.getfield 20, 3) := by decide +kernel
theorem fl_Machine_20 : Cond.fieldLink R_Machine 20 "PointerHouse$Machine" "stack" "[I" ∈ lw_good := lg_right (i := 647) (by decide +kernel) rfl
theorem d_Machine_enter_164 : decode b_Machine_enter 164 = .ok (.arraylength, 1) := by decide +kernel
theorem d_Machine_enter_165 : decode b_Machine_enter 165 = .ok (.invokestatic 221, 3) := by decide +kernel
theorem d_Machine_enter_168 : decode b_Machine_enter 168 = .ok (.putfield 52, 3) := by decide +kernel
theorem d_Machine_enter_171 : decode b_Machine_enter 171 = .ok (.aload_n 0, 1) := by decide +kernel
theorem d_Machine_enter_172 : decode b_Machine_enter 172 = .ok (.aload_n 0, 1) := by decide +kernel
theorem d_Machine_enter_173 : decode b_Machine_enter 173 = .ok (.getfield 40, 3) := by decide +kernel
theorem d_Machine_enter_176 : decode b_Machine_enter 176 = .ok (.getfield 224, 3) := by decide +kernel
theorem fl_Machine_224 : Cond.fieldLink R_Machine 224 "PointerHouse$Items" "entry" "[I" ∈ lw_good := lg_right (i := 329) (by decide +kernel) rfl
theorem d_Machine_enter_179 : decode b_Machine_enter 179 = .ok (.iload_n 1, 1) := by decide +kernel
theorem d_Machine_enter_180 : decode b_Machine_enter 180 = .ok (.iaload, 1) := by decide +kernel
theorem d_Machine_enter_181 : decode b_Machine_enter 181 = .ok (.putfield 61, 3) := by decide +kernel
theorem d_Machine_enter_184 : decode b_Machine_enter 184 = .ok (.return_, 1) := by decide +kernel
abbrev b_Machine_goOn : ByteArray := prog_6_method_6_code
abbrev y_Machine_goOn : MethodName := ⟨R_Machine, "goOn", "()V"⟩
theorem co_Machine_goOn : Cond.code y_Machine_goOn b_Machine_goOn 5 none ∈ lw_good := lg_in (tin_7 _ (List.mem_of_getElem? (i := 185) rfl)) rfl
abbrev w_Machine_goOn : List Cond := Cond.code y_Machine_goOn b_Machine_goOn 5 none :: lw_good
theorem im_Machine_goOn : Cond.instanceMethod y_Machine_goOn ∈ lw_good := lg_right (i := 1624) (by decide +kernel) rfl
theorem se_Machine_goOn : Cond.selects R_Machine y_Machine_goOn y_Machine_goOn ∈ lw_good := lg_left (i := 90) (by decide +kernel) rfl
theorem d_Machine_goOn_0 : decode b_Machine_goOn 0 = .ok (.iconst 0, 1) := by decide +kernel
theorem d_Machine_goOn_1 : decode b_Machine_goOn 1 = .ok (.istore_n 1, 1) := by decide +kernel
theorem d_Machine_goOn_2 : decode b_Machine_goOn 2 = .ok (.iload_n 1, 1) := by decide +kernel
theorem d_Machine_goOn_3 : decode b_Machine_goOn 3 = .ok (.ldc 106, 2) := by decide +kernel
theorem k_Machine_106 : Cond.constant R_Machine 106 (1000000) ∈ lw_good := lg_right (i := 1626) (by decide +kernel) rfl
theorem d_Machine_goOn_5 : decode b_Machine_goOn 5 = .ok (.if_icmp .ge 168, 3) := by decide +kernel
theorem d_Machine_goOn_8 : decode b_Machine_goOn 8 = .ok (.aload_n 0, 1) := by decide +kernel
theorem d_Machine_goOn_9 : decode b_Machine_goOn 9 = .ok (.getfield 44, 3) := by decide +kernel
theorem d_Machine_goOn_12 : decode b_Machine_goOn 12 = .ok (.iconst 1, 1) := by decide +kernel
theorem d_Machine_goOn_13 : decode b_Machine_goOn 13 = .ok (.if_icmp .ne 160, 3) := by decide +kernel
theorem d_Machine_goOn_16 : decode b_Machine_goOn 16 = .ok (.aload_n 0, 1) := by decide +kernel
theorem d_Machine_goOn_17 : decode b_Machine_goOn 17 = .ok (.getfield 36, 3) := by decide +kernel
theorem d_Machine_goOn_20 : decode b_Machine_goOn 20 = .ok (.aload_n 0, 1) := by decide +kernel
theorem d_Machine_goOn_21 : decode b_Machine_goOn 21 = .ok (.getfield 61, 3) := by decide +kernel
theorem d_Machine_goOn_24 : decode b_Machine_goOn 24 = .ok (.invokevirtual 107, 3) := by decide +kernel
theorem ml_Machine_107 : Cond.methodLink R_Machine 107 ⟨"PointerHouse$Code", "opAt", "(I)I"⟩ ∈ lw_good := lg_right (i := 1627) (by decide +kernel) rfl
theorem d_Machine_goOn_27 : decode b_Machine_goOn 27 = .ok (.iconst 1, 1) := by decide +kernel
theorem d_Machine_goOn_28 : decode b_Machine_goOn 28 = .ok (.if_icmp .eq 145, 3) := by decide +kernel
theorem d_Machine_goOn_31 : decode b_Machine_goOn 31 = .ok (.aload_n 0, 1) := by decide +kernel
theorem d_Machine_goOn_32 : decode b_Machine_goOn 32 = .ok (.getfield 36, 3) := by decide +kernel
theorem d_Machine_goOn_35 : decode b_Machine_goOn 35 = .ok (.aload_n 0, 1) := by decide +kernel
theorem d_Machine_goOn_36 : decode b_Machine_goOn 36 = .ok (.getfield 61, 3) := by decide +kernel
theorem d_Machine_goOn_39 : decode b_Machine_goOn 39 = .ok (.invokevirtual 107, 3) := by decide +kernel
theorem d_Machine_goOn_42 : decode b_Machine_goOn 42 = .ok (.istore_n 2, 1) := by decide +kernel
theorem d_Machine_goOn_43 : decode b_Machine_goOn 43 = .ok (.aload_n 0, 1) := by decide +kernel
theorem d_Machine_goOn_44 : decode b_Machine_goOn 44 = .ok (.getfield 36, 3) := by decide +kernel
theorem d_Machine_goOn_47 : decode b_Machine_goOn 47 = .ok (.aload_n 0, 1) := by decide +kernel
theorem d_Machine_goOn_48 : decode b_Machine_goOn 48 = .ok (.getfield 61, 3) := by decide +kernel
theorem d_Machine_goOn_51 : decode b_Machine_goOn 51 = .ok (.invokevirtual 97, 3) := by decide +kernel
theorem d_Machine_goOn_54 : decode b_Machine_goOn 54 = .ok (.istore_n 3, 1) := by decide +kernel
theorem d_Machine_goOn_55 : decode b_Machine_goOn 55 = .ok (.aload_n 0, 1) := by decide +kernel
theorem d_Machine_goOn_56 : decode b_Machine_goOn 56 = .ok (.getfield 36, 3) := by decide +kernel
theorem d_Machine_goOn_59 : decode b_Machine_goOn 59 = .ok (.aload_n 0, 1) := by decide +kernel
theorem d_Machine_goOn_60 : decode b_Machine_goOn 60 = .ok (.getfield 61, 3) := by decide +kernel
theorem d_Machine_goOn_63 : decode b_Machine_goOn 63 = .ok (.invokevirtual 110, 3) := by decide +kernel
theorem ml_Machine_110 : Cond.methodLink R_Machine 110 ⟨"PointerHouse$Code", "secondAt", "(I)I"⟩ ∈ lw_good := lg_right (i := 1635) (by decide +kernel) rfl
theorem d_Machine_goOn_66 : decode b_Machine_goOn 66 = .ok (.istore 4, 2) := by decide +kernel
theorem d_Machine_goOn_68 : decode b_Machine_goOn 68 = .ok (.aload_n 0, 1) := by decide +kernel
theorem d_Machine_goOn_69 : decode b_Machine_goOn 69 = .ok (.dup, 1) := by decide +kernel
theorem d_Machine_goOn_70 : decode b_Machine_goOn 70 = .ok (.getfield 61, 3) := by decide +kernel
theorem d_Machine_goOn_73 : decode b_Machine_goOn 73 = .ok (.iconst 1, 1) := by decide +kernel
theorem d_Machine_goOn_74 : decode b_Machine_goOn 74 = .ok (.iadd, 1) := by decide +kernel
theorem d_Machine_goOn_75 : decode b_Machine_goOn 75 = .ok (.putfield 61, 3) := by decide +kernel
theorem d_Machine_goOn_78 : decode b_Machine_goOn 78 = .ok (.iload_n 2, 1) := by decide +kernel
theorem d_Machine_goOn_79 : decode b_Machine_goOn 79 = .ok (.bipush 9, 2) := by decide +kernel
theorem d_Machine_goOn_81 : decode b_Machine_goOn 81 = .ok (.if_icmp .gt 14, 3) := by decide +kernel
theorem d_Machine_goOn_84 : decode b_Machine_goOn 84 = .ok (.aload_n 0, 1) := by decide +kernel
theorem d_Machine_goOn_85 : decode b_Machine_goOn 85 = .ok (.iload_n 2, 1) := by decide +kernel
theorem d_Machine_goOn_86 : decode b_Machine_goOn 86 = .ok (.iload_n 3, 1) := by decide +kernel
theorem d_Machine_goOn_87 : decode b_Machine_goOn 87 = .ok (.iload 4, 2) := by decide +kernel
theorem d_Machine_goOn_89 : decode b_Machine_goOn 89 = .ok (.invokevirtual 113, 3) := by decide +kernel
theorem ml_Machine_113 : Cond.methodLink R_Machine 113 ⟨"PointerHouse$Machine", "doSimple", "(III)V"⟩ ∈ lw_good := lg_right (i := 1639) (by decide +kernel) rfl
theorem d_Machine_goOn_92 : decode b_Machine_goOn 92 = .ok (.goto 75, 3) := by decide +kernel
theorem d_Machine_goOn_95 : decode b_Machine_goOn 95 = .ok (.iload_n 2, 1) := by decide +kernel
theorem d_Machine_goOn_96 : decode b_Machine_goOn 96 = .ok (.bipush 16, 2) := by decide +kernel
theorem d_Machine_goOn_98 : decode b_Machine_goOn 98 = .ok (.if_icmp .gt 11, 3) := by decide +kernel
theorem d_Machine_goOn_101 : decode b_Machine_goOn 101 = .ok (.aload_n 0, 1) := by decide +kernel
theorem d_Machine_goOn_102 : decode b_Machine_goOn 102 = .ok (.iload_n 2, 1) := by decide +kernel
theorem d_Machine_goOn_103 : decode b_Machine_goOn 103 = .ok (.invokevirtual 117, 3) := by decide +kernel
theorem ml_Machine_117 : Cond.methodLink R_Machine 117 ⟨"PointerHouse$Machine", "doNumeric", "(I)V"⟩ ∈ lw_good := lg_right (i := 1672) (by decide +kernel) rfl
theorem d_Machine_goOn_106 : decode b_Machine_goOn 106 = .ok (.goto 61, 3) := by decide +kernel
theorem d_Machine_goOn_109 : decode b_Machine_goOn 109 = .ok (.iload_n 2, 1) := by decide +kernel
theorem d_Machine_goOn_110 : decode b_Machine_goOn 110 = .ok (.bipush 26, 2) := by decide +kernel
theorem d_Machine_goOn_112 : decode b_Machine_goOn 112 = .ok (.if_icmp .gt 14, 3) := by decide +kernel
theorem d_Machine_goOn_115 : decode b_Machine_goOn 115 = .ok (.aload_n 0, 1) := by decide +kernel
theorem d_Machine_goOn_116 : decode b_Machine_goOn 116 = .ok (.iload_n 2, 1) := by decide +kernel
theorem d_Machine_goOn_117 : decode b_Machine_goOn 117 = .ok (.iload_n 3, 1) := by decide +kernel
theorem d_Machine_goOn_118 : decode b_Machine_goOn 118 = .ok (.iload 4, 2) := by decide +kernel
theorem d_Machine_goOn_120 : decode b_Machine_goOn 120 = .ok (.invokevirtual 121, 3) := by decide +kernel
theorem ml_Machine_121 : Cond.methodLink R_Machine 121 ⟨"PointerHouse$Machine", "doPointed", "(III)V"⟩ ∈ lw_good := lg_right (i := 1684) (by decide +kernel) rfl
theorem d_Machine_goOn_123 : decode b_Machine_goOn 123 = .ok (.goto 44, 3) := by decide +kernel
theorem d_Machine_goOn_126 : decode b_Machine_goOn 126 = .ok (.iload_n 2, 1) := by decide +kernel
theorem d_Machine_goOn_127 : decode b_Machine_goOn 127 = .ok (.bipush 32, 2) := by decide +kernel
theorem d_Machine_goOn_129 : decode b_Machine_goOn 129 = .ok (.if_icmp .gt 13, 3) := by decide +kernel
theorem d_Machine_goOn_132 : decode b_Machine_goOn 132 = .ok (.aload_n 0, 1) := by decide +kernel
theorem d_Machine_goOn_133 : decode b_Machine_goOn 133 = .ok (.iload_n 2, 1) := by decide +kernel
theorem d_Machine_goOn_134 : decode b_Machine_goOn 134 = .ok (.iload 4, 2) := by decide +kernel
theorem d_Machine_goOn_136 : decode b_Machine_goOn 136 = .ok (.invokevirtual 124, 3) := by decide +kernel
theorem ml_Machine_124 : Cond.methodLink R_Machine 124 ⟨"PointerHouse$Machine", "doIndexed", "(II)V"⟩ ∈ lw_good := lg_right (i := 1708) (by decide +kernel) rfl
theorem d_Machine_goOn_139 : decode b_Machine_goOn 139 = .ok (.goto 28, 3) := by decide +kernel
theorem d_Machine_goOn_142 : decode b_Machine_goOn 142 = .ok (.iload_n 2, 1) := by decide +kernel
theorem d_Machine_goOn_143 : decode b_Machine_goOn 143 = .ok (.bipush 42, 2) := by decide +kernel
theorem d_Machine_goOn_145 : decode b_Machine_goOn 145 = .ok (.if_icmp .gt 14, 3) := by decide +kernel
theorem d_Machine_goOn_148 : decode b_Machine_goOn 148 = .ok (.aload_n 0, 1) := by decide +kernel
theorem d_Machine_goOn_149 : decode b_Machine_goOn 149 = .ok (.iload_n 2, 1) := by decide +kernel
theorem d_Machine_goOn_150 : decode b_Machine_goOn 150 = .ok (.iload_n 3, 1) := by decide +kernel
theorem d_Machine_goOn_151 : decode b_Machine_goOn 151 = .ok (.iload 4, 2) := by decide +kernel
theorem d_Machine_goOn_153 : decode b_Machine_goOn 153 = .ok (.invokevirtual 127, 3) := by decide +kernel
theorem ml_Machine_127 : Cond.methodLink R_Machine 127 ⟨"PointerHouse$Machine", "doMaking", "(III)V"⟩ ∈ lw_good := lg_right (i := 1712) (by decide +kernel) rfl
theorem d_Machine_goOn_156 : decode b_Machine_goOn 156 = .ok (.goto 11, 3) := by decide +kernel
theorem d_Machine_goOn_159 : decode b_Machine_goOn 159 = .ok (.aload_n 0, 1) := by decide +kernel
theorem d_Machine_goOn_160 : decode b_Machine_goOn 160 = .ok (.iload_n 2, 1) := by decide +kernel
theorem d_Machine_goOn_161 : decode b_Machine_goOn 161 = .ok (.iload_n 3, 1) := by decide +kernel
theorem d_Machine_goOn_162 : decode b_Machine_goOn 162 = .ok (.iload 4, 2) := by decide +kernel
theorem d_Machine_goOn_164 : decode b_Machine_goOn 164 = .ok (.invokevirtual 130, 3) := by decide +kernel
theorem ml_Machine_130 : Cond.methodLink R_Machine 130 ⟨"PointerHouse$Machine", "doControl", "(III)V"⟩ ∈ lw_good := lg_right (i := 1740) (by decide +kernel) rfl
theorem d_Machine_goOn_167 : decode b_Machine_goOn 167 = .ok (.iinc 1 1, 3) := by decide +kernel
theorem d_Machine_goOn_170 : decode b_Machine_goOn 170 = .ok (.goto (-168), 3) := by decide +kernel
theorem d_Machine_goOn_173 : decode b_Machine_goOn 173 = .ok (.return_, 1) := by decide +kernel
abbrev b_Machine_setFrame : ByteArray := prog_6_method_12_code
abbrev y_Machine_setFrame : MethodName := ⟨R_Machine, "setFrame", "(II)V"⟩
theorem co_Machine_setFrame : Cond.code y_Machine_setFrame b_Machine_setFrame 4 none ∈ lw_good := lg_in (tin_7 _ (List.mem_of_getElem? (i := 175) rfl)) rfl
abbrev w_Machine_setFrame : List Cond := Cond.code y_Machine_setFrame b_Machine_setFrame 4 none :: lw_good
theorem im_Machine_setFrame : Cond.instanceMethod y_Machine_setFrame ∈ lw_good := lg_right (i := 1614) (by decide +kernel) rfl
theorem se_Machine_setFrame : Cond.selects R_Machine y_Machine_setFrame y_Machine_setFrame ∈ lw_good := lg_left (i := 89) (by decide +kernel) rfl
theorem d_Machine_setFrame_0 : decode b_Machine_setFrame 0 = .ok (.aload_n 0, 1) := by decide +kernel
theorem d_Machine_setFrame_1 : decode b_Machine_setFrame 1 = .ok (.getfield 55, 3) := by decide +kernel
theorem d_Machine_setFrame_4 : decode b_Machine_setFrame 4 = .ok (.bipush 17, 2) := by decide +kernel
theorem d_Machine_setFrame_6 : decode b_Machine_setFrame 6 = .ok (.imul, 1) := by decide +kernel
theorem d_Machine_setFrame_7 : decode b_Machine_setFrame 7 = .ok (.iload_n 1, 1) := by decide +kernel
theorem d_Machine_setFrame_8 : decode b_Machine_setFrame 8 = .ok (.iadd, 1) := by decide +kernel
theorem d_Machine_setFrame_9 : decode b_Machine_setFrame 9 = .ok (.istore_n 3, 1) := by decide +kernel
theorem d_Machine_setFrame_10 : decode b_Machine_setFrame 10 = .ok (.iload_n 3, 1) := by decide +kernel
theorem d_Machine_setFrame_11 : decode b_Machine_setFrame 11 = .ok (.ifCond .lt 19, 3) := by decide +kernel
theorem d_Machine_setFrame_14 : decode b_Machine_setFrame 14 = .ok (.iload_n 3, 1) := by decide +kernel
theorem d_Machine_setFrame_15 : decode b_Machine_setFrame 15 = .ok (.aload_n 0, 1) := by decide +kernel
theorem d_Machine_setFrame_16 : decode b_Machine_setFrame 16 = .ok (.getfield 24, 3) := by decide +kernel
theorem d_Machine_setFrame_19 : decode b_Machine_setFrame 19 = .ok (.arraylength, 1) := by decide +kernel
theorem d_Machine_setFrame_20 : decode b_Machine_setFrame 20 = .ok (.if_icmp .ge 10, 3) := by decide +kernel
theorem d_Machine_setFrame_23 : decode b_Machine_setFrame 23 = .ok (.aload_n 0, 1) := by decide +kernel
theorem d_Machine_setFrame_24 : decode b_Machine_setFrame 24 = .ok (.getfield 24, 3) := by decide +kernel
theorem d_Machine_setFrame_27 : decode b_Machine_setFrame 27 = .ok (.iload_n 3, 1) := by decide +kernel
theorem d_Machine_setFrame_28 : decode b_Machine_setFrame 28 = .ok (.iload_n 2, 1) := by decide +kernel
theorem d_Machine_setFrame_29 : decode b_Machine_setFrame 29 = .ok (.iastore, 1) := by decide +kernel
theorem d_Machine_setFrame_30 : decode b_Machine_setFrame 30 = .ok (.return_, 1) := by decide +kernel
abbrev b_Machine_doControl : ByteArray := prog_6_method_24_code
abbrev y_Machine_doControl : MethodName := ⟨R_Machine, "doControl", "(III)V"⟩
theorem co_Machine_doControl : Cond.code y_Machine_doControl b_Machine_doControl 4 none ∈ lw_good := lg_in (tin_8 _ (List.mem_of_getElem? (i := 63) rfl)) rfl
abbrev w_Machine_doControl : List Cond := Cond.code y_Machine_doControl b_Machine_doControl 4 none :: lw_good
theorem im_Machine_doControl : Cond.instanceMethod y_Machine_doControl ∈ lw_good := lg_right (i := 1742) (by decide +kernel) rfl
theorem se_Machine_doControl : Cond.selects R_Machine y_Machine_doControl y_Machine_doControl ∈ lw_good := lg_left (i := 111) (by decide +kernel) rfl
theorem d_Machine_doControl_0 : decode b_Machine_doControl 0 = .ok (.iload_n 1, 1) := by decide +kernel
theorem d_Machine_doControl_1 : decode b_Machine_doControl 1 = .ok (.tableswitch 149 50 57 #[47, 55, 70, 87, 104, 112, 129, 140], 47) := by decide +kernel
theorem d_Machine_doControl_48 : decode b_Machine_doControl 48 = .ok (.aload_n 0, 1) := by decide +kernel
theorem d_Machine_doControl_49 : decode b_Machine_doControl 49 = .ok (.iload_n 2, 1) := by decide +kernel
theorem d_Machine_doControl_50 : decode b_Machine_doControl 50 = .ok (.putfield 61, 3) := by decide +kernel
theorem d_Machine_doControl_53 : decode b_Machine_doControl 53 = .ok (.goto 102, 3) := by decide +kernel
theorem d_Machine_doControl_56 : decode b_Machine_doControl 56 = .ok (.aload_n 0, 1) := by decide +kernel
theorem d_Machine_doControl_57 : decode b_Machine_doControl 57 = .ok (.invokevirtual 142, 3) := by decide +kernel
theorem ml_Machine_142 : Cond.methodLink R_Machine 142 ⟨"PointerHouse$Machine", "pop", "()I"⟩ ∈ lw_good := lg_right (i := 1655) (by decide +kernel) rfl
theorem d_Machine_doControl_60 : decode b_Machine_doControl 60 = .ok (.ifCond .ne 95, 3) := by decide +kernel
theorem d_Machine_doControl_63 : decode b_Machine_doControl 63 = .ok (.aload_n 0, 1) := by decide +kernel
theorem d_Machine_doControl_64 : decode b_Machine_doControl 64 = .ok (.iload_n 2, 1) := by decide +kernel
theorem d_Machine_doControl_65 : decode b_Machine_doControl 65 = .ok (.putfield 61, 3) := by decide +kernel
theorem d_Machine_doControl_68 : decode b_Machine_doControl 68 = .ok (.goto 87, 3) := by decide +kernel
theorem d_Machine_doControl_71 : decode b_Machine_doControl 71 = .ok (.aload_n 0, 1) := by decide +kernel
theorem d_Machine_doControl_72 : decode b_Machine_doControl 72 = .ok (.iconst 5, 1) := by decide +kernel
theorem d_Machine_doControl_73 : decode b_Machine_doControl 73 = .ok (.iload_n 2, 1) := by decide +kernel
theorem d_Machine_doControl_74 : decode b_Machine_doControl 74 = .ok (.iadd, 1) := by decide +kernel
theorem d_Machine_doControl_75 : decode b_Machine_doControl 75 = .ok (.aload_n 0, 1) := by decide +kernel
theorem d_Machine_doControl_76 : decode b_Machine_doControl 76 = .ok (.getfield 16, 3) := by decide +kernel
theorem d_Machine_doControl_79 : decode b_Machine_doControl 79 = .ok (.invokevirtual 195, 3) := by decide +kernel
theorem ml_Machine_195 : Cond.methodLink R_Machine 195 ⟨"PointerHouse$Memory", "open", "()I"⟩ ∈ lw_good := lg_right (i := 1744) (by decide +kernel) rfl
theorem d_Machine_doControl_82 : decode b_Machine_doControl 82 = .ok (.invokevirtual 103, 3) := by decide +kernel
theorem d_Machine_doControl_85 : decode b_Machine_doControl 85 = .ok (.goto 70, 3) := by decide +kernel
theorem d_Machine_doControl_88 : decode b_Machine_doControl 88 = .ok (.aload_n 0, 1) := by decide +kernel
theorem d_Machine_doControl_89 : decode b_Machine_doControl 89 = .ok (.getfield 16, 3) := by decide +kernel
theorem d_Machine_doControl_92 : decode b_Machine_doControl 92 = .ok (.aload_n 0, 1) := by decide +kernel
theorem d_Machine_doControl_93 : decode b_Machine_doControl 93 = .ok (.iconst 5, 1) := by decide +kernel
theorem d_Machine_doControl_94 : decode b_Machine_doControl 94 = .ok (.iload_n 2, 1) := by decide +kernel
theorem d_Machine_doControl_95 : decode b_Machine_doControl 95 = .ok (.iadd, 1) := by decide +kernel
theorem d_Machine_doControl_96 : decode b_Machine_doControl 96 = .ok (.invokevirtual 136, 3) := by decide +kernel
theorem d_Machine_doControl_99 : decode b_Machine_doControl 99 = .ok (.invokevirtual 198, 3) := by decide +kernel
theorem ml_Machine_198 : Cond.methodLink R_Machine 198 ⟨"PointerHouse$Memory", "closeFrom", "(I)V"⟩ ∈ lw_good := lg_right (i := 1680) (by decide +kernel) rfl
theorem d_Machine_doControl_102 : decode b_Machine_doControl 102 = .ok (.goto 53, 3) := by decide +kernel
theorem d_Machine_doControl_105 : decode b_Machine_doControl 105 = .ok (.aload_n 0, 1) := by decide +kernel
theorem d_Machine_doControl_106 : decode b_Machine_doControl 106 = .ok (.iload_n 2, 1) := by decide +kernel
theorem d_Machine_doControl_107 : decode b_Machine_doControl 107 = .ok (.invokevirtual 201, 3) := by decide +kernel
theorem ml_Machine_201 : Cond.methodLink R_Machine 201 ⟨"PointerHouse$Machine", "pushTry", "(I)V"⟩ ∈ lw_good := lg_right (i := 1745) (by decide +kernel) rfl
theorem d_Machine_doControl_110 : decode b_Machine_doControl 110 = .ok (.goto 45, 3) := by decide +kernel
theorem d_Machine_doControl_113 : decode b_Machine_doControl 113 = .ok (.aload_n 0, 1) := by decide +kernel
theorem d_Machine_doControl_114 : decode b_Machine_doControl 114 = .ok (.iconst 0, 1) := by decide +kernel
theorem d_Machine_doControl_115 : decode b_Machine_doControl 115 = .ok (.aload_n 0, 1) := by decide +kernel
theorem d_Machine_doControl_116 : decode b_Machine_doControl 116 = .ok (.getfield 58, 3) := by decide +kernel
theorem d_Machine_doControl_119 : decode b_Machine_doControl 119 = .ok (.iconst 1, 1) := by decide +kernel
theorem d_Machine_doControl_120 : decode b_Machine_doControl 120 = .ok (.isub, 1) := by decide +kernel
theorem d_Machine_doControl_121 : decode b_Machine_doControl 121 = .ok (.invokestatic 149, 3) := by decide +kernel
theorem d_Machine_doControl_124 : decode b_Machine_doControl 124 = .ok (.putfield 58, 3) := by decide +kernel
theorem d_Machine_doControl_127 : decode b_Machine_doControl 127 = .ok (.goto 28, 3) := by decide +kernel
theorem d_Machine_doControl_130 : decode b_Machine_doControl 130 = .ok (.aload_n 0, 1) := by decide +kernel
theorem d_Machine_doControl_131 : decode b_Machine_doControl 131 = .ok (.aload_n 0, 1) := by decide +kernel
theorem d_Machine_doControl_132 : decode b_Machine_doControl 132 = .ok (.invokevirtual 142, 3) := by decide +kernel
theorem d_Machine_doControl_135 : decode b_Machine_doControl 135 = .ok (.invokevirtual 167, 3) := by decide +kernel
theorem ml_Machine_167 : Cond.methodLink R_Machine 167 ⟨"PointerHouse$Machine", "raise", "(I)V"⟩ ∈ lw_good := lg_right (i := 1676) (by decide +kernel) rfl
theorem d_Machine_doControl_138 : decode b_Machine_doControl 138 = .ok (.goto 17, 3) := by decide +kernel
theorem d_Machine_doControl_141 : decode b_Machine_doControl 141 = .ok (.aload_n 0, 1) := by decide +kernel
theorem d_Machine_doControl_142 : decode b_Machine_doControl 142 = .ok (.iload_n 2, 1) := by decide +kernel
theorem d_Machine_doControl_143 : decode b_Machine_doControl 143 = .ok (.iload_n 3, 1) := by decide +kernel
theorem d_Machine_doControl_144 : decode b_Machine_doControl 144 = .ok (.invokevirtual 91, 3) := by decide +kernel
theorem d_Machine_doControl_147 : decode b_Machine_doControl 147 = .ok (.goto 8, 3) := by decide +kernel
theorem d_Machine_doControl_150 : decode b_Machine_doControl 150 = .ok (.aload_n 0, 1) := by decide +kernel
theorem d_Machine_doControl_151 : decode b_Machine_doControl 151 = .ok (.iload_n 2, 1) := by decide +kernel
theorem d_Machine_doControl_152 : decode b_Machine_doControl 152 = .ok (.invokevirtual 204, 3) := by decide +kernel
theorem ml_Machine_204 : Cond.methodLink R_Machine 204 ⟨"PointerHouse$Machine", "leave", "(I)V"⟩ ∈ lw_good := lg_right (i := 1749) (by decide +kernel) rfl
theorem d_Machine_doControl_155 : decode b_Machine_doControl 155 = .ok (.return_, 1) := by decide +kernel
abbrev b_Machine_doMaking : ByteArray := prog_6_method_21_code
abbrev y_Machine_doMaking : MethodName := ⟨R_Machine, "doMaking", "(III)V"⟩
theorem co_Machine_doMaking : Cond.code y_Machine_doMaking b_Machine_doMaking 6 none ∈ lw_good := lg_in (tin_8 _ (List.mem_of_getElem? (i := 35) rfl)) rfl
abbrev w_Machine_doMaking : List Cond := Cond.code y_Machine_doMaking b_Machine_doMaking 6 none :: lw_good
theorem im_Machine_doMaking : Cond.instanceMethod y_Machine_doMaking ∈ lw_good := lg_right (i := 1714) (by decide +kernel) rfl
theorem se_Machine_doMaking : Cond.selects R_Machine y_Machine_doMaking y_Machine_doMaking ∈ lw_good := lg_left (i := 106) (by decide +kernel) rfl
theorem d_Machine_doMaking_0 : decode b_Machine_doMaking 0 = .ok (.iload_n 1, 1) := by decide +kernel
theorem d_Machine_doMaking_1 : decode b_Machine_doMaking 1 = .ok (.lookupswitch 117 #[(40, 27), (41, 60)], 27) := by decide +kernel
theorem d_Machine_doMaking_28 : decode b_Machine_doMaking 28 = .ok (.aload_n 0, 1) := by decide +kernel
theorem d_Machine_doMaking_29 : decode b_Machine_doMaking 29 = .ok (.iload_n 2, 1) := by decide +kernel
theorem d_Machine_doMaking_30 : decode b_Machine_doMaking 30 = .ok (.iconst 1, 1) := by decide +kernel
theorem d_Machine_doMaking_31 : decode b_Machine_doMaking 31 = .ok (.iload_n 3, 1) := by decide +kernel
theorem d_Machine_doMaking_32 : decode b_Machine_doMaking 32 = .ok (.invokevirtual 182, 3) := by decide +kernel
theorem ml_Machine_182 : Cond.methodLink R_Machine 182 ⟨"PointerHouse$Machine", "placeFor", "(III)I"⟩ ∈ lw_good := lg_right (i := 1716) (by decide +kernel) rfl
theorem d_Machine_doMaking_35 : decode b_Machine_doMaking 35 = .ok (.istore 4, 2) := by decide +kernel
theorem d_Machine_doMaking_37 : decode b_Machine_doMaking 37 = .ok (.iload 4, 2) := by decide +kernel
theorem d_Machine_doMaking_39 : decode b_Machine_doMaking 39 = .ok (.iconst (-1), 1) := by decide +kernel
theorem d_Machine_doMaking_40 : decode b_Machine_doMaking 40 = .ok (.if_icmp .eq 84, 3) := by decide +kernel
theorem d_Machine_doMaking_43 : decode b_Machine_doMaking 43 = .ok (.aload_n 0, 1) := by decide +kernel
theorem d_Machine_doMaking_44 : decode b_Machine_doMaking 44 = .ok (.iload 4, 2) := by decide +kernel
theorem d_Machine_doMaking_46 : decode b_Machine_doMaking 46 = .ok (.iload_n 3, 1) := by decide +kernel
theorem d_Machine_doMaking_47 : decode b_Machine_doMaking 47 = .ok (.invokevirtual 176, 3) := by decide +kernel
theorem ml_Machine_176 : Cond.methodLink R_Machine 176 ⟨"PointerHouse$Machine", "store", "(II)V"⟩ ∈ lw_good := lg_right (i := 1700) (by decide +kernel) rfl
theorem d_Machine_doMaking_50 : decode b_Machine_doMaking 50 = .ok (.aload_n 0, 1) := by decide +kernel
theorem d_Machine_doMaking_51 : decode b_Machine_doMaking 51 = .ok (.iload 4, 2) := by decide +kernel
theorem d_Machine_doMaking_53 : decode b_Machine_doMaking 53 = .ok (.iconst 1, 1) := by decide +kernel
theorem d_Machine_doMaking_54 : decode b_Machine_doMaking 54 = .ok (.iadd, 1) := by decide +kernel
theorem d_Machine_doMaking_55 : decode b_Machine_doMaking 55 = .ok (.invokevirtual 133, 3) := by decide +kernel
theorem ml_Machine_133 : Cond.methodLink R_Machine 133 ⟨"PointerHouse$Machine", "push", "(I)V"⟩ ∈ lw_good := lg_right (i := 1643) (by decide +kernel) rfl
theorem d_Machine_doMaking_58 : decode b_Machine_doMaking 58 = .ok (.goto 66, 3) := by decide +kernel
theorem d_Machine_doMaking_61 : decode b_Machine_doMaking 61 = .ok (.aload_n 0, 1) := by decide +kernel
theorem d_Machine_doMaking_62 : decode b_Machine_doMaking 62 = .ok (.iload_n 2, 1) := by decide +kernel
theorem d_Machine_doMaking_63 : decode b_Machine_doMaking 63 = .ok (.bipush 15, 2) := by decide +kernel
theorem d_Machine_doMaking_65 : decode b_Machine_doMaking 65 = .ok (.iand, 1) := by decide +kernel
theorem d_Machine_doMaking_66 : decode b_Machine_doMaking 66 = .ok (.iconst 1, 1) := by decide +kernel
theorem d_Machine_doMaking_67 : decode b_Machine_doMaking 67 = .ok (.iload_n 3, 1) := by decide +kernel
theorem d_Machine_doMaking_68 : decode b_Machine_doMaking 68 = .ok (.bipush 8, 2) := by decide +kernel
theorem d_Machine_doMaking_70 : decode b_Machine_doMaking 70 = .ok (.ishr, 1) := by decide +kernel
theorem d_Machine_doMaking_71 : decode b_Machine_doMaking 71 = .ok (.invokevirtual 182, 3) := by decide +kernel
theorem d_Machine_doMaking_74 : decode b_Machine_doMaking 74 = .ok (.istore 5, 2) := by decide +kernel
theorem d_Machine_doMaking_76 : decode b_Machine_doMaking 76 = .ok (.iload 5, 2) := by decide +kernel
theorem d_Machine_doMaking_78 : decode b_Machine_doMaking 78 = .ok (.iconst (-1), 1) := by decide +kernel
theorem d_Machine_doMaking_79 : decode b_Machine_doMaking 79 = .ok (.if_icmp .eq 45, 3) := by decide +kernel
theorem d_Machine_doMaking_82 : decode b_Machine_doMaking 82 = .ok (.aload_n 0, 1) := by decide +kernel
theorem d_Machine_doMaking_83 : decode b_Machine_doMaking 83 = .ok (.getfield 16, 3) := by decide +kernel
theorem d_Machine_doMaking_86 : decode b_Machine_doMaking 86 = .ok (.iload 5, 2) := by decide +kernel
theorem d_Machine_doMaking_88 : decode b_Machine_doMaking 88 = .ok (.iload_n 2, 1) := by decide +kernel
theorem d_Machine_doMaking_89 : decode b_Machine_doMaking 89 = .ok (.iconst 4, 1) := by decide +kernel
theorem d_Machine_doMaking_90 : decode b_Machine_doMaking 90 = .ok (.ishr, 1) := by decide +kernel
theorem d_Machine_doMaking_91 : decode b_Machine_doMaking 91 = .ok (.invokevirtual 179, 3) := by decide +kernel
theorem ml_Machine_179 : Cond.methodLink R_Machine 179 ⟨"PointerHouse$Memory", "put", "(II)V"⟩ ∈ lw_good := lg_right (i := 1704) (by decide +kernel) rfl
theorem d_Machine_doMaking_94 : decode b_Machine_doMaking 94 = .ok (.aload_n 0, 1) := by decide +kernel
theorem d_Machine_doMaking_95 : decode b_Machine_doMaking 95 = .ok (.iload 5, 2) := by decide +kernel
theorem d_Machine_doMaking_97 : decode b_Machine_doMaking 97 = .ok (.iconst 1, 1) := by decide +kernel
theorem d_Machine_doMaking_98 : decode b_Machine_doMaking 98 = .ok (.iadd, 1) := by decide +kernel
theorem d_Machine_doMaking_99 : decode b_Machine_doMaking 99 = .ok (.iload_n 3, 1) := by decide +kernel
theorem d_Machine_doMaking_100 : decode b_Machine_doMaking 100 = .ok (.sipush 255, 3) := by decide +kernel
theorem d_Machine_doMaking_103 : decode b_Machine_doMaking 103 = .ok (.iand, 1) := by decide +kernel
theorem d_Machine_doMaking_104 : decode b_Machine_doMaking 104 = .ok (.invokevirtual 176, 3) := by decide +kernel
theorem d_Machine_doMaking_107 : decode b_Machine_doMaking 107 = .ok (.aload_n 0, 1) := by decide +kernel
theorem d_Machine_doMaking_108 : decode b_Machine_doMaking 108 = .ok (.iload 5, 2) := by decide +kernel
theorem d_Machine_doMaking_110 : decode b_Machine_doMaking 110 = .ok (.iconst 1, 1) := by decide +kernel
theorem d_Machine_doMaking_111 : decode b_Machine_doMaking 111 = .ok (.iadd, 1) := by decide +kernel
theorem d_Machine_doMaking_112 : decode b_Machine_doMaking 112 = .ok (.invokevirtual 133, 3) := by decide +kernel
theorem d_Machine_doMaking_115 : decode b_Machine_doMaking 115 = .ok (.goto 9, 3) := by decide +kernel
theorem d_Machine_doMaking_118 : decode b_Machine_doMaking 118 = .ok (.aload_n 0, 1) := by decide +kernel
theorem d_Machine_doMaking_119 : decode b_Machine_doMaking 119 = .ok (.iload_n 2, 1) := by decide +kernel
theorem d_Machine_doMaking_120 : decode b_Machine_doMaking 120 = .ok (.iload_n 3, 1) := by decide +kernel
theorem d_Machine_doMaking_121 : decode b_Machine_doMaking 121 = .ok (.invokevirtual 186, 3) := by decide +kernel
theorem ml_Machine_186 : Cond.methodLink R_Machine 186 ⟨"PointerHouse$Machine", "makeRow", "(II)V"⟩ ∈ lw_good := lg_right (i := 1736) (by decide +kernel) rfl
theorem d_Machine_doMaking_124 : decode b_Machine_doMaking 124 = .ok (.return_, 1) := by decide +kernel
abbrev b_Machine_doIndexed : ByteArray := prog_6_method_20_code
abbrev y_Machine_doIndexed : MethodName := ⟨R_Machine, "doIndexed", "(II)V"⟩
theorem co_Machine_doIndexed : Cond.code y_Machine_doIndexed b_Machine_doIndexed 7 none ∈ lw_good := lg_in (tin_8 _ (List.mem_of_getElem? (i := 31) rfl)) rfl
abbrev w_Machine_doIndexed : List Cond := Cond.code y_Machine_doIndexed b_Machine_doIndexed 7 none :: lw_good
theorem im_Machine_doIndexed : Cond.instanceMethod y_Machine_doIndexed ∈ lw_good := lg_right (i := 1710) (by decide +kernel) rfl
theorem se_Machine_doIndexed : Cond.selects R_Machine y_Machine_doIndexed y_Machine_doIndexed ∈ lw_good := lg_left (i := 105) (by decide +kernel) rfl
theorem d_Machine_doIndexed_0 : decode b_Machine_doIndexed 0 = .ok (.aload_n 0, 1) := by decide +kernel
theorem d_Machine_doIndexed_1 : decode b_Machine_doIndexed 1 = .ok (.invokevirtual 142, 3) := by decide +kernel
theorem d_Machine_doIndexed_4 : decode b_Machine_doIndexed 4 = .ok (.istore_n 3, 1) := by decide +kernel
theorem d_Machine_doIndexed_5 : decode b_Machine_doIndexed 5 = .ok (.aload_n 0, 1) := by decide +kernel
theorem d_Machine_doIndexed_6 : decode b_Machine_doIndexed 6 = .ok (.invokevirtual 142, 3) := by decide +kernel
theorem d_Machine_doIndexed_9 : decode b_Machine_doIndexed 9 = .ok (.istore 4, 2) := by decide +kernel
theorem d_Machine_doIndexed_11 : decode b_Machine_doIndexed 11 = .ok (.aload_n 0, 1) := by decide +kernel
theorem d_Machine_doIndexed_12 : decode b_Machine_doIndexed 12 = .ok (.invokevirtual 142, 3) := by decide +kernel
theorem d_Machine_doIndexed_15 : decode b_Machine_doIndexed 15 = .ok (.iload_n 3, 1) := by decide +kernel
theorem d_Machine_doIndexed_16 : decode b_Machine_doIndexed 16 = .ok (.iadd, 1) := by decide +kernel
theorem d_Machine_doIndexed_17 : decode b_Machine_doIndexed 17 = .ok (.istore 5, 2) := by decide +kernel
theorem d_Machine_doIndexed_19 : decode b_Machine_doIndexed 19 = .ok (.aload_n 0, 1) := by decide +kernel
theorem d_Machine_doIndexed_20 : decode b_Machine_doIndexed 20 = .ok (.invokevirtual 142, 3) := by decide +kernel
theorem d_Machine_doIndexed_23 : decode b_Machine_doIndexed 23 = .ok (.iconst 1, 1) := by decide +kernel
theorem d_Machine_doIndexed_24 : decode b_Machine_doIndexed 24 = .ok (.isub, 1) := by decide +kernel
theorem d_Machine_doIndexed_25 : decode b_Machine_doIndexed 25 = .ok (.istore 6, 2) := by decide +kernel
theorem d_Machine_doIndexed_27 : decode b_Machine_doIndexed 27 = .ok (.iload 5, 2) := by decide +kernel
theorem d_Machine_doIndexed_29 : decode b_Machine_doIndexed 29 = .ok (.ifCond .lt 10, 3) := by decide +kernel
theorem d_Machine_doIndexed_32 : decode b_Machine_doIndexed 32 = .ok (.iload 5, 2) := by decide +kernel
theorem d_Machine_doIndexed_34 : decode b_Machine_doIndexed 34 = .ok (.iload 4, 2) := by decide +kernel
theorem d_Machine_doIndexed_36 : decode b_Machine_doIndexed 36 = .ok (.if_icmp .lt 9, 3) := by decide +kernel
theorem d_Machine_doIndexed_39 : decode b_Machine_doIndexed 39 = .ok (.aload_n 0, 1) := by decide +kernel
theorem d_Machine_doIndexed_40 : decode b_Machine_doIndexed 40 = .ok (.iconst 2, 1) := by decide +kernel
theorem d_Machine_doIndexed_41 : decode b_Machine_doIndexed 41 = .ok (.invokevirtual 167, 3) := by decide +kernel
theorem d_Machine_doIndexed_44 : decode b_Machine_doIndexed 44 = .ok (.return_, 1) := by decide +kernel
theorem d_Machine_doIndexed_45 : decode b_Machine_doIndexed 45 = .ok (.iload 6, 2) := by decide +kernel
theorem d_Machine_doIndexed_47 : decode b_Machine_doIndexed 47 = .ok (.iload 5, 2) := by decide +kernel
theorem d_Machine_doIndexed_49 : decode b_Machine_doIndexed 49 = .ok (.iload_n 2, 1) := by decide +kernel
theorem d_Machine_doIndexed_50 : decode b_Machine_doIndexed 50 = .ok (.imul, 1) := by decide +kernel
theorem d_Machine_doIndexed_51 : decode b_Machine_doIndexed 51 = .ok (.iadd, 1) := by decide +kernel
theorem d_Machine_doIndexed_52 : decode b_Machine_doIndexed 52 = .ok (.istore 6, 2) := by decide +kernel
theorem d_Machine_doIndexed_54 : decode b_Machine_doIndexed 54 = .ok (.iload_n 1, 1) := by decide +kernel
theorem d_Machine_doIndexed_55 : decode b_Machine_doIndexed 55 = .ok (.lookupswitch 46 #[(30, 25), (31, 35)], 25) := by decide +kernel
theorem d_Machine_doIndexed_80 : decode b_Machine_doIndexed 80 = .ok (.aload_n 0, 1) := by decide +kernel
theorem d_Machine_doIndexed_81 : decode b_Machine_doIndexed 81 = .ok (.iload 6, 2) := by decide +kernel
theorem d_Machine_doIndexed_83 : decode b_Machine_doIndexed 83 = .ok (.iload_n 2, 1) := by decide +kernel
theorem d_Machine_doIndexed_84 : decode b_Machine_doIndexed 84 = .ok (.invokevirtual 170, 3) := by decide +kernel
theorem ml_Machine_170 : Cond.methodLink R_Machine 170 ⟨"PointerHouse$Machine", "fetch", "(II)V"⟩ ∈ lw_good := lg_right (i := 1688) (by decide +kernel) rfl
theorem d_Machine_doIndexed_87 : decode b_Machine_doIndexed 87 = .ok (.goto 21, 3) := by decide +kernel
theorem d_Machine_doIndexed_90 : decode b_Machine_doIndexed 90 = .ok (.aload_n 0, 1) := by decide +kernel
theorem d_Machine_doIndexed_91 : decode b_Machine_doIndexed 91 = .ok (.iload 6, 2) := by decide +kernel
theorem d_Machine_doIndexed_93 : decode b_Machine_doIndexed 93 = .ok (.iconst 1, 1) := by decide +kernel
theorem d_Machine_doIndexed_94 : decode b_Machine_doIndexed 94 = .ok (.iadd, 1) := by decide +kernel
theorem d_Machine_doIndexed_95 : decode b_Machine_doIndexed 95 = .ok (.invokevirtual 133, 3) := by decide +kernel
theorem d_Machine_doIndexed_98 : decode b_Machine_doIndexed 98 = .ok (.goto 10, 3) := by decide +kernel
theorem d_Machine_doIndexed_101 : decode b_Machine_doIndexed 101 = .ok (.aload_n 0, 1) := by decide +kernel
theorem d_Machine_doIndexed_102 : decode b_Machine_doIndexed 102 = .ok (.iload 6, 2) := by decide +kernel
theorem d_Machine_doIndexed_104 : decode b_Machine_doIndexed 104 = .ok (.iload_n 2, 1) := by decide +kernel
theorem d_Machine_doIndexed_105 : decode b_Machine_doIndexed 105 = .ok (.invokevirtual 176, 3) := by decide +kernel
theorem d_Machine_doIndexed_108 : decode b_Machine_doIndexed 108 = .ok (.return_, 1) := by decide +kernel
abbrev b_Machine_doPointed : ByteArray := prog_6_method_17_code
abbrev y_Machine_doPointed : MethodName := ⟨R_Machine, "doPointed", "(III)V"⟩
theorem co_Machine_doPointed : Cond.code y_Machine_doPointed b_Machine_doPointed 6 none ∈ lw_good := lg_in (tin_8 _ (List.mem_of_getElem? (i := 7) rfl)) rfl
abbrev w_Machine_doPointed : List Cond := Cond.code y_Machine_doPointed b_Machine_doPointed 6 none :: lw_good
theorem im_Machine_doPointed : Cond.instanceMethod y_Machine_doPointed ∈ lw_good := lg_right (i := 1686) (by decide +kernel) rfl
theorem se_Machine_doPointed : Cond.selects R_Machine y_Machine_doPointed y_Machine_doPointed ∈ lw_good := lg_left (i := 101) (by decide +kernel) rfl
theorem d_Machine_doPointed_0 : decode b_Machine_doPointed 0 = .ok (.aload_n 0, 1) := by decide +kernel
theorem d_Machine_doPointed_1 : decode b_Machine_doPointed 1 = .ok (.invokevirtual 142, 3) := by decide +kernel
theorem d_Machine_doPointed_4 : decode b_Machine_doPointed 4 = .ok (.istore 4, 2) := by decide +kernel
theorem d_Machine_doPointed_6 : decode b_Machine_doPointed 6 = .ok (.iload 4, 2) := by decide +kernel
theorem d_Machine_doPointed_8 : decode b_Machine_doPointed 8 = .ok (.ifCond .ne 9, 3) := by decide +kernel
theorem d_Machine_doPointed_11 : decode b_Machine_doPointed 11 = .ok (.aload_n 0, 1) := by decide +kernel
theorem d_Machine_doPointed_12 : decode b_Machine_doPointed 12 = .ok (.iconst 1, 1) := by decide +kernel
theorem d_Machine_doPointed_13 : decode b_Machine_doPointed 13 = .ok (.invokevirtual 167, 3) := by decide +kernel
theorem d_Machine_doPointed_16 : decode b_Machine_doPointed 16 = .ok (.return_, 1) := by decide +kernel
theorem d_Machine_doPointed_17 : decode b_Machine_doPointed 17 = .ok (.iload 4, 2) := by decide +kernel
theorem d_Machine_doPointed_19 : decode b_Machine_doPointed 19 = .ok (.iconst 1, 1) := by decide +kernel
theorem d_Machine_doPointed_20 : decode b_Machine_doPointed 20 = .ok (.isub, 1) := by decide +kernel
theorem d_Machine_doPointed_21 : decode b_Machine_doPointed 21 = .ok (.istore 5, 2) := by decide +kernel
theorem d_Machine_doPointed_23 : decode b_Machine_doPointed 23 = .ok (.iload_n 1, 1) := by decide +kernel
theorem d_Machine_doPointed_24 : decode b_Machine_doPointed 24 = .ok (.tableswitch 142 20 25 #[40, 52, 85, 110, 119, 130], 40) := by decide +kernel
theorem d_Machine_doPointed_64 : decode b_Machine_doPointed 64 = .ok (.aload_n 0, 1) := by decide +kernel
theorem d_Machine_doPointed_65 : decode b_Machine_doPointed 65 = .ok (.iload 5, 2) := by decide +kernel
theorem d_Machine_doPointed_67 : decode b_Machine_doPointed 67 = .ok (.iload_n 2, 1) := by decide +kernel
theorem d_Machine_doPointed_68 : decode b_Machine_doPointed 68 = .ok (.iadd, 1) := by decide +kernel
theorem d_Machine_doPointed_69 : decode b_Machine_doPointed 69 = .ok (.iload_n 3, 1) := by decide +kernel
theorem d_Machine_doPointed_70 : decode b_Machine_doPointed 70 = .ok (.invokevirtual 170, 3) := by decide +kernel
theorem d_Machine_doPointed_73 : decode b_Machine_doPointed 73 = .ok (.goto 112, 3) := by decide +kernel
theorem d_Machine_doPointed_76 : decode b_Machine_doPointed 76 = .ok (.aload_n 0, 1) := by decide +kernel
theorem d_Machine_doPointed_77 : decode b_Machine_doPointed 77 = .ok (.getfield 16, 3) := by decide +kernel
theorem d_Machine_doPointed_80 : decode b_Machine_doPointed 80 = .ok (.iload 5, 2) := by decide +kernel
theorem d_Machine_doPointed_82 : decode b_Machine_doPointed 82 = .ok (.invokevirtual 173, 3) := by decide +kernel
theorem ml_Machine_173 : Cond.methodLink R_Machine 173 ⟨"PointerHouse$Memory", "get", "(I)I"⟩ ∈ lw_good := lg_right (i := 1692) (by decide +kernel) rfl
theorem d_Machine_doPointed_85 : decode b_Machine_doPointed 85 = .ok (.iload_n 2, 1) := by decide +kernel
theorem d_Machine_doPointed_86 : decode b_Machine_doPointed 86 = .ok (.if_icmp .ne 15, 3) := by decide +kernel
theorem d_Machine_doPointed_89 : decode b_Machine_doPointed 89 = .ok (.aload_n 0, 1) := by decide +kernel
theorem d_Machine_doPointed_90 : decode b_Machine_doPointed 90 = .ok (.iload 5, 2) := by decide +kernel
theorem d_Machine_doPointed_92 : decode b_Machine_doPointed 92 = .ok (.iconst 1, 1) := by decide +kernel
theorem d_Machine_doPointed_93 : decode b_Machine_doPointed 93 = .ok (.iadd, 1) := by decide +kernel
theorem d_Machine_doPointed_94 : decode b_Machine_doPointed 94 = .ok (.iload_n 3, 1) := by decide +kernel
theorem d_Machine_doPointed_95 : decode b_Machine_doPointed 95 = .ok (.invokevirtual 170, 3) := by decide +kernel
theorem d_Machine_doPointed_98 : decode b_Machine_doPointed 98 = .ok (.goto 87, 3) := by decide +kernel
theorem d_Machine_doPointed_101 : decode b_Machine_doPointed 101 = .ok (.aload_n 0, 1) := by decide +kernel
theorem d_Machine_doPointed_102 : decode b_Machine_doPointed 102 = .ok (.iconst 3, 1) := by decide +kernel
theorem d_Machine_doPointed_103 : decode b_Machine_doPointed 103 = .ok (.invokevirtual 167, 3) := by decide +kernel
theorem d_Machine_doPointed_106 : decode b_Machine_doPointed 106 = .ok (.goto 79, 3) := by decide +kernel
theorem d_Machine_doPointed_109 : decode b_Machine_doPointed 109 = .ok (.aload_n 0, 1) := by decide +kernel
theorem d_Machine_doPointed_110 : decode b_Machine_doPointed 110 = .ok (.aload_n 0, 1) := by decide +kernel
theorem d_Machine_doPointed_111 : decode b_Machine_doPointed 111 = .ok (.getfield 16, 3) := by decide +kernel
theorem d_Machine_doPointed_114 : decode b_Machine_doPointed 114 = .ok (.iload 5, 2) := by decide +kernel
theorem d_Machine_doPointed_116 : decode b_Machine_doPointed 116 = .ok (.invokevirtual 173, 3) := by decide +kernel
theorem d_Machine_doPointed_119 : decode b_Machine_doPointed 119 = .ok (.iload_n 2, 1) := by decide +kernel
theorem d_Machine_doPointed_120 : decode b_Machine_doPointed 120 = .ok (.if_icmp .ne 7, 3) := by decide +kernel
theorem d_Machine_doPointed_123 : decode b_Machine_doPointed 123 = .ok (.iconst 1, 1) := by decide +kernel
theorem d_Machine_doPointed_124 : decode b_Machine_doPointed 124 = .ok (.goto 4, 3) := by decide +kernel
theorem d_Machine_doPointed_127 : decode b_Machine_doPointed 127 = .ok (.iconst 0, 1) := by decide +kernel
theorem d_Machine_doPointed_128 : decode b_Machine_doPointed 128 = .ok (.invokevirtual 133, 3) := by decide +kernel
theorem d_Machine_doPointed_131 : decode b_Machine_doPointed 131 = .ok (.goto 54, 3) := by decide +kernel
theorem d_Machine_doPointed_134 : decode b_Machine_doPointed 134 = .ok (.aload_n 0, 1) := by decide +kernel
theorem d_Machine_doPointed_135 : decode b_Machine_doPointed 135 = .ok (.iload 4, 2) := by decide +kernel
theorem d_Machine_doPointed_137 : decode b_Machine_doPointed 137 = .ok (.invokevirtual 133, 3) := by decide +kernel
theorem d_Machine_doPointed_140 : decode b_Machine_doPointed 140 = .ok (.goto 45, 3) := by decide +kernel
theorem d_Machine_doPointed_143 : decode b_Machine_doPointed 143 = .ok (.aload_n 0, 1) := by decide +kernel
theorem d_Machine_doPointed_144 : decode b_Machine_doPointed 144 = .ok (.iload 4, 2) := by decide +kernel
theorem d_Machine_doPointed_146 : decode b_Machine_doPointed 146 = .ok (.iload_n 2, 1) := by decide +kernel
theorem d_Machine_doPointed_147 : decode b_Machine_doPointed 147 = .ok (.iadd, 1) := by decide +kernel
theorem d_Machine_doPointed_148 : decode b_Machine_doPointed 148 = .ok (.invokevirtual 133, 3) := by decide +kernel
theorem d_Machine_doPointed_151 : decode b_Machine_doPointed 151 = .ok (.goto 34, 3) := by decide +kernel
theorem d_Machine_doPointed_154 : decode b_Machine_doPointed 154 = .ok (.aload_n 0, 1) := by decide +kernel
theorem d_Machine_doPointed_155 : decode b_Machine_doPointed 155 = .ok (.iload 5, 2) := by decide +kernel
theorem d_Machine_doPointed_157 : decode b_Machine_doPointed 157 = .ok (.iload_n 2, 1) := by decide +kernel
theorem d_Machine_doPointed_158 : decode b_Machine_doPointed 158 = .ok (.iadd, 1) := by decide +kernel
theorem d_Machine_doPointed_159 : decode b_Machine_doPointed 159 = .ok (.iload_n 3, 1) := by decide +kernel
theorem d_Machine_doPointed_160 : decode b_Machine_doPointed 160 = .ok (.invokevirtual 176, 3) := by decide +kernel
theorem d_Machine_doPointed_163 : decode b_Machine_doPointed 163 = .ok (.goto 22, 3) := by decide +kernel
theorem d_Machine_doPointed_166 : decode b_Machine_doPointed 166 = .ok (.aload_n 0, 1) := by decide +kernel
theorem d_Machine_doPointed_167 : decode b_Machine_doPointed 167 = .ok (.getfield 16, 3) := by decide +kernel
theorem d_Machine_doPointed_170 : decode b_Machine_doPointed 170 = .ok (.iload 5, 2) := by decide +kernel
theorem d_Machine_doPointed_172 : decode b_Machine_doPointed 172 = .ok (.iload_n 2, 1) := by decide +kernel
theorem d_Machine_doPointed_173 : decode b_Machine_doPointed 173 = .ok (.invokevirtual 179, 3) := by decide +kernel
theorem d_Machine_doPointed_176 : decode b_Machine_doPointed 176 = .ok (.aload_n 0, 1) := by decide +kernel
theorem d_Machine_doPointed_177 : decode b_Machine_doPointed 177 = .ok (.iload 5, 2) := by decide +kernel
theorem d_Machine_doPointed_179 : decode b_Machine_doPointed 179 = .ok (.iconst 1, 1) := by decide +kernel
theorem d_Machine_doPointed_180 : decode b_Machine_doPointed 180 = .ok (.iadd, 1) := by decide +kernel
theorem d_Machine_doPointed_181 : decode b_Machine_doPointed 181 = .ok (.iload_n 3, 1) := by decide +kernel
theorem d_Machine_doPointed_182 : decode b_Machine_doPointed 182 = .ok (.invokevirtual 176, 3) := by decide +kernel
theorem d_Machine_doPointed_185 : decode b_Machine_doPointed 185 = .ok (.return_, 1) := by decide +kernel
abbrev b_Machine_doNumeric : ByteArray := prog_6_method_16_code
abbrev y_Machine_doNumeric : MethodName := ⟨R_Machine, "doNumeric", "(I)V"⟩
theorem co_Machine_doNumeric : Cond.code y_Machine_doNumeric b_Machine_doNumeric 4 none ∈ lw_good := lg_in (tin_7 _ (List.mem_of_getElem? (i := 235) rfl)) rfl
abbrev w_Machine_doNumeric : List Cond := Cond.code y_Machine_doNumeric b_Machine_doNumeric 4 none :: lw_good
theorem im_Machine_doNumeric : Cond.instanceMethod y_Machine_doNumeric ∈ lw_good := lg_right (i := 1674) (by decide +kernel) rfl
theorem se_Machine_doNumeric : Cond.selects R_Machine y_Machine_doNumeric y_Machine_doNumeric ∈ lw_good := lg_left (i := 99) (by decide +kernel) rfl
theorem d_Machine_doNumeric_0 : decode b_Machine_doNumeric 0 = .ok (.aload_n 0, 1) := by decide +kernel
theorem d_Machine_doNumeric_1 : decode b_Machine_doNumeric 1 = .ok (.invokevirtual 142, 3) := by decide +kernel
theorem d_Machine_doNumeric_4 : decode b_Machine_doNumeric 4 = .ok (.istore_n 2, 1) := by decide +kernel
theorem d_Machine_doNumeric_5 : decode b_Machine_doNumeric 5 = .ok (.aload_n 0, 1) := by decide +kernel
theorem d_Machine_doNumeric_6 : decode b_Machine_doNumeric 6 = .ok (.invokevirtual 142, 3) := by decide +kernel
theorem d_Machine_doNumeric_9 : decode b_Machine_doNumeric 9 = .ok (.istore_n 3, 1) := by decide +kernel
theorem d_Machine_doNumeric_10 : decode b_Machine_doNumeric 10 = .ok (.iload_n 1, 1) := by decide +kernel
theorem d_Machine_doNumeric_11 : decode b_Machine_doNumeric 11 = .ok (.tableswitch 105 10 16 #[41, 51, 61, 105, 105, 71, 88], 41) := by decide +kernel
theorem d_Machine_doNumeric_52 : decode b_Machine_doNumeric 52 = .ok (.aload_n 0, 1) := by decide +kernel
theorem d_Machine_doNumeric_53 : decode b_Machine_doNumeric 53 = .ok (.iload_n 3, 1) := by decide +kernel
theorem d_Machine_doNumeric_54 : decode b_Machine_doNumeric 54 = .ok (.iload_n 2, 1) := by decide +kernel
theorem d_Machine_doNumeric_55 : decode b_Machine_doNumeric 55 = .ok (.iadd, 1) := by decide +kernel
theorem d_Machine_doNumeric_56 : decode b_Machine_doNumeric 56 = .ok (.invokevirtual 133, 3) := by decide +kernel
theorem d_Machine_doNumeric_59 : decode b_Machine_doNumeric 59 = .ok (.goto 88, 3) := by decide +kernel
theorem d_Machine_doNumeric_62 : decode b_Machine_doNumeric 62 = .ok (.aload_n 0, 1) := by decide +kernel
theorem d_Machine_doNumeric_63 : decode b_Machine_doNumeric 63 = .ok (.iload_n 3, 1) := by decide +kernel
theorem d_Machine_doNumeric_64 : decode b_Machine_doNumeric 64 = .ok (.iload_n 2, 1) := by decide +kernel
theorem d_Machine_doNumeric_65 : decode b_Machine_doNumeric 65 = .ok (.isub, 1) := by decide +kernel
theorem d_Machine_doNumeric_66 : decode b_Machine_doNumeric 66 = .ok (.invokevirtual 133, 3) := by decide +kernel
theorem d_Machine_doNumeric_69 : decode b_Machine_doNumeric 69 = .ok (.goto 78, 3) := by decide +kernel
theorem d_Machine_doNumeric_72 : decode b_Machine_doNumeric 72 = .ok (.aload_n 0, 1) := by decide +kernel
theorem d_Machine_doNumeric_73 : decode b_Machine_doNumeric 73 = .ok (.iload_n 3, 1) := by decide +kernel
theorem d_Machine_doNumeric_74 : decode b_Machine_doNumeric 74 = .ok (.iload_n 2, 1) := by decide +kernel
theorem d_Machine_doNumeric_75 : decode b_Machine_doNumeric 75 = .ok (.imul, 1) := by decide +kernel
theorem d_Machine_doNumeric_76 : decode b_Machine_doNumeric 76 = .ok (.invokevirtual 133, 3) := by decide +kernel
theorem d_Machine_doNumeric_79 : decode b_Machine_doNumeric 79 = .ok (.goto 68, 3) := by decide +kernel
theorem d_Machine_doNumeric_82 : decode b_Machine_doNumeric 82 = .ok (.aload_n 0, 1) := by decide +kernel
theorem d_Machine_doNumeric_83 : decode b_Machine_doNumeric 83 = .ok (.iload_n 3, 1) := by decide +kernel
theorem d_Machine_doNumeric_84 : decode b_Machine_doNumeric 84 = .ok (.iload_n 2, 1) := by decide +kernel
theorem d_Machine_doNumeric_85 : decode b_Machine_doNumeric 85 = .ok (.if_icmp .ne 7, 3) := by decide +kernel
theorem d_Machine_doNumeric_88 : decode b_Machine_doNumeric 88 = .ok (.iconst 1, 1) := by decide +kernel
theorem d_Machine_doNumeric_89 : decode b_Machine_doNumeric 89 = .ok (.goto 4, 3) := by decide +kernel
theorem d_Machine_doNumeric_92 : decode b_Machine_doNumeric 92 = .ok (.iconst 0, 1) := by decide +kernel
theorem d_Machine_doNumeric_93 : decode b_Machine_doNumeric 93 = .ok (.invokevirtual 133, 3) := by decide +kernel
theorem d_Machine_doNumeric_96 : decode b_Machine_doNumeric 96 = .ok (.goto 51, 3) := by decide +kernel
theorem d_Machine_doNumeric_99 : decode b_Machine_doNumeric 99 = .ok (.aload_n 0, 1) := by decide +kernel
theorem d_Machine_doNumeric_100 : decode b_Machine_doNumeric 100 = .ok (.iload_n 3, 1) := by decide +kernel
theorem d_Machine_doNumeric_101 : decode b_Machine_doNumeric 101 = .ok (.iload_n 2, 1) := by decide +kernel
theorem d_Machine_doNumeric_102 : decode b_Machine_doNumeric 102 = .ok (.if_icmp .ge 7, 3) := by decide +kernel
theorem d_Machine_doNumeric_105 : decode b_Machine_doNumeric 105 = .ok (.iconst 1, 1) := by decide +kernel
theorem d_Machine_doNumeric_106 : decode b_Machine_doNumeric 106 = .ok (.goto 4, 3) := by decide +kernel
theorem d_Machine_doNumeric_109 : decode b_Machine_doNumeric 109 = .ok (.iconst 0, 1) := by decide +kernel
theorem d_Machine_doNumeric_110 : decode b_Machine_doNumeric 110 = .ok (.invokevirtual 133, 3) := by decide +kernel
theorem d_Machine_doNumeric_113 : decode b_Machine_doNumeric 113 = .ok (.goto 34, 3) := by decide +kernel
theorem d_Machine_doNumeric_116 : decode b_Machine_doNumeric 116 = .ok (.iload_n 2, 1) := by decide +kernel
theorem d_Machine_doNumeric_117 : decode b_Machine_doNumeric 117 = .ok (.ifCond .ne 11, 3) := by decide +kernel
theorem d_Machine_doNumeric_120 : decode b_Machine_doNumeric 120 = .ok (.aload_n 0, 1) := by decide +kernel
theorem d_Machine_doNumeric_121 : decode b_Machine_doNumeric 121 = .ok (.iconst 4, 1) := by decide +kernel
theorem d_Machine_doNumeric_122 : decode b_Machine_doNumeric 122 = .ok (.invokevirtual 167, 3) := by decide +kernel
theorem d_Machine_doNumeric_125 : decode b_Machine_doNumeric 125 = .ok (.goto 22, 3) := by decide +kernel
theorem d_Machine_doNumeric_128 : decode b_Machine_doNumeric 128 = .ok (.aload_n 0, 1) := by decide +kernel
theorem d_Machine_doNumeric_129 : decode b_Machine_doNumeric 129 = .ok (.iload_n 1, 1) := by decide +kernel
theorem d_Machine_doNumeric_130 : decode b_Machine_doNumeric 130 = .ok (.bipush 13, 2) := by decide +kernel
theorem d_Machine_doNumeric_132 : decode b_Machine_doNumeric 132 = .ok (.if_icmp .ne 9, 3) := by decide +kernel
theorem d_Machine_doNumeric_135 : decode b_Machine_doNumeric 135 = .ok (.iload_n 3, 1) := by decide +kernel
theorem d_Machine_doNumeric_136 : decode b_Machine_doNumeric 136 = .ok (.iload_n 2, 1) := by decide +kernel
theorem d_Machine_doNumeric_137 : decode b_Machine_doNumeric 137 = .ok (.idiv, 1) := by decide +kernel
theorem d_Machine_doNumeric_138 : decode b_Machine_doNumeric 138 = .ok (.goto 6, 3) := by decide +kernel
theorem d_Machine_doNumeric_141 : decode b_Machine_doNumeric 141 = .ok (.iload_n 3, 1) := by decide +kernel
theorem d_Machine_doNumeric_142 : decode b_Machine_doNumeric 142 = .ok (.iload_n 2, 1) := by decide +kernel
theorem d_Machine_doNumeric_143 : decode b_Machine_doNumeric 143 = .ok (.irem, 1) := by decide +kernel
theorem d_Machine_doNumeric_144 : decode b_Machine_doNumeric 144 = .ok (.invokevirtual 133, 3) := by decide +kernel
theorem d_Machine_doNumeric_147 : decode b_Machine_doNumeric 147 = .ok (.return_, 1) := by decide +kernel
abbrev b_Machine_doSimple : ByteArray := prog_6_method_13_code
abbrev y_Machine_doSimple : MethodName := ⟨R_Machine, "doSimple", "(III)V"⟩
theorem co_Machine_doSimple : Cond.code y_Machine_doSimple b_Machine_doSimple 6 none ∈ lw_good := lg_in (tin_7 _ (List.mem_of_getElem? (i := 202) rfl)) rfl
abbrev w_Machine_doSimple : List Cond := Cond.code y_Machine_doSimple b_Machine_doSimple 6 none :: lw_good
theorem im_Machine_doSimple : Cond.instanceMethod y_Machine_doSimple ∈ lw_good := lg_right (i := 1641) (by decide +kernel) rfl
theorem se_Machine_doSimple : Cond.selects R_Machine y_Machine_doSimple y_Machine_doSimple ∈ lw_good := lg_left (i := 91) (by decide +kernel) rfl
theorem d_Machine_doSimple_0 : decode b_Machine_doSimple 0 = .ok (.iload_n 1, 1) := by decide +kernel
theorem d_Machine_doSimple_1 : decode b_Machine_doSimple 1 = .ok (.tableswitch 192 2 8 #[43, 51, 87, 124, 141, 152, 163], 43) := by decide +kernel
theorem d_Machine_doSimple_44 : decode b_Machine_doSimple 44 = .ok (.aload_n 0, 1) := by decide +kernel
theorem d_Machine_doSimple_45 : decode b_Machine_doSimple 45 = .ok (.iload_n 2, 1) := by decide +kernel
theorem d_Machine_doSimple_46 : decode b_Machine_doSimple 46 = .ok (.invokevirtual 133, 3) := by decide +kernel
theorem d_Machine_doSimple_49 : decode b_Machine_doSimple 49 = .ok (.goto 173, 3) := by decide +kernel
theorem d_Machine_doSimple_52 : decode b_Machine_doSimple 52 = .ok (.iconst 0, 1) := by decide +kernel
theorem d_Machine_doSimple_53 : decode b_Machine_doSimple 53 = .ok (.istore 4, 2) := by decide +kernel
theorem d_Machine_doSimple_55 : decode b_Machine_doSimple 55 = .ok (.iload 4, 2) := by decide +kernel
theorem d_Machine_doSimple_57 : decode b_Machine_doSimple 57 = .ok (.iload_n 3, 1) := by decide +kernel
theorem d_Machine_doSimple_58 : decode b_Machine_doSimple 58 = .ok (.if_icmp .ge 27, 3) := by decide +kernel
theorem d_Machine_doSimple_61 : decode b_Machine_doSimple 61 = .ok (.aload_n 0, 1) := by decide +kernel
theorem d_Machine_doSimple_62 : decode b_Machine_doSimple 62 = .ok (.aload_n 0, 1) := by decide +kernel
theorem d_Machine_doSimple_63 : decode b_Machine_doSimple 63 = .ok (.aload_n 0, 1) := by decide +kernel
theorem d_Machine_doSimple_64 : decode b_Machine_doSimple 64 = .ok (.iconst 1, 1) := by decide +kernel
theorem d_Machine_doSimple_65 : decode b_Machine_doSimple 65 = .ok (.invokevirtual 136, 3) := by decide +kernel
theorem d_Machine_doSimple_68 : decode b_Machine_doSimple 68 = .ok (.iload_n 2, 1) := by decide +kernel
theorem d_Machine_doSimple_69 : decode b_Machine_doSimple 69 = .ok (.iadd, 1) := by decide +kernel
theorem d_Machine_doSimple_70 : decode b_Machine_doSimple 70 = .ok (.iload 4, 2) := by decide +kernel
theorem d_Machine_doSimple_72 : decode b_Machine_doSimple 72 = .ok (.iadd, 1) := by decide +kernel
theorem d_Machine_doSimple_73 : decode b_Machine_doSimple 73 = .ok (.invokevirtual 139, 3) := by decide +kernel
theorem ml_Machine_139 : Cond.methodLink R_Machine 139 ⟨"PointerHouse$Machine", "wordAt", "(I)I"⟩ ∈ lw_good := lg_right (i := 1651) (by decide +kernel) rfl
theorem d_Machine_doSimple_76 : decode b_Machine_doSimple 76 = .ok (.invokevirtual 133, 3) := by decide +kernel
theorem d_Machine_doSimple_79 : decode b_Machine_doSimple 79 = .ok (.iinc 4 1, 3) := by decide +kernel
theorem d_Machine_doSimple_82 : decode b_Machine_doSimple 82 = .ok (.goto (-27), 3) := by decide +kernel
theorem d_Machine_doSimple_85 : decode b_Machine_doSimple 85 = .ok (.goto 137, 3) := by decide +kernel
theorem d_Machine_doSimple_88 : decode b_Machine_doSimple 88 = .ok (.iload_n 3, 1) := by decide +kernel
theorem d_Machine_doSimple_89 : decode b_Machine_doSimple 89 = .ok (.iconst 1, 1) := by decide +kernel
theorem d_Machine_doSimple_90 : decode b_Machine_doSimple 90 = .ok (.isub, 1) := by decide +kernel
theorem d_Machine_doSimple_91 : decode b_Machine_doSimple 91 = .ok (.istore 4, 2) := by decide +kernel
theorem d_Machine_doSimple_93 : decode b_Machine_doSimple 93 = .ok (.iload 4, 2) := by decide +kernel
theorem d_Machine_doSimple_95 : decode b_Machine_doSimple 95 = .ok (.ifCond .lt 27, 3) := by decide +kernel
theorem d_Machine_doSimple_98 : decode b_Machine_doSimple 98 = .ok (.aload_n 0, 1) := by decide +kernel
theorem d_Machine_doSimple_99 : decode b_Machine_doSimple 99 = .ok (.aload_n 0, 1) := by decide +kernel
theorem d_Machine_doSimple_100 : decode b_Machine_doSimple 100 = .ok (.iconst 1, 1) := by decide +kernel
theorem d_Machine_doSimple_101 : decode b_Machine_doSimple 101 = .ok (.invokevirtual 136, 3) := by decide +kernel
theorem d_Machine_doSimple_104 : decode b_Machine_doSimple 104 = .ok (.iload_n 2, 1) := by decide +kernel
theorem d_Machine_doSimple_105 : decode b_Machine_doSimple 105 = .ok (.iadd, 1) := by decide +kernel
theorem d_Machine_doSimple_106 : decode b_Machine_doSimple 106 = .ok (.iload 4, 2) := by decide +kernel
theorem d_Machine_doSimple_108 : decode b_Machine_doSimple 108 = .ok (.iadd, 1) := by decide +kernel
theorem d_Machine_doSimple_109 : decode b_Machine_doSimple 109 = .ok (.aload_n 0, 1) := by decide +kernel
theorem d_Machine_doSimple_110 : decode b_Machine_doSimple 110 = .ok (.invokevirtual 142, 3) := by decide +kernel
theorem d_Machine_doSimple_113 : decode b_Machine_doSimple 113 = .ok (.invokevirtual 146, 3) := by decide +kernel
theorem ml_Machine_146 : Cond.methodLink R_Machine 146 ⟨"PointerHouse$Machine", "setWord", "(II)V"⟩ ∈ lw_good := lg_right (i := 1659) (by decide +kernel) rfl
theorem d_Machine_doSimple_116 : decode b_Machine_doSimple 116 = .ok (.iinc 4 (-1), 3) := by decide +kernel
theorem d_Machine_doSimple_119 : decode b_Machine_doSimple 119 = .ok (.goto (-26), 3) := by decide +kernel
theorem d_Machine_doSimple_122 : decode b_Machine_doSimple 122 = .ok (.goto 100, 3) := by decide +kernel
theorem d_Machine_doSimple_125 : decode b_Machine_doSimple 125 = .ok (.aload_n 0, 1) := by decide +kernel
theorem d_Machine_doSimple_126 : decode b_Machine_doSimple 126 = .ok (.iconst 0, 1) := by decide +kernel
theorem d_Machine_doSimple_127 : decode b_Machine_doSimple 127 = .ok (.aload_n 0, 1) := by decide +kernel
theorem d_Machine_doSimple_128 : decode b_Machine_doSimple 128 = .ok (.getfield 52, 3) := by decide +kernel
theorem d_Machine_doSimple_131 : decode b_Machine_doSimple 131 = .ok (.iload_n 2, 1) := by decide +kernel
theorem d_Machine_doSimple_132 : decode b_Machine_doSimple 132 = .ok (.isub, 1) := by decide +kernel
theorem d_Machine_doSimple_133 : decode b_Machine_doSimple 133 = .ok (.invokestatic 149, 3) := by decide +kernel
theorem d_Machine_doSimple_136 : decode b_Machine_doSimple 136 = .ok (.putfield 52, 3) := by decide +kernel
theorem d_Machine_doSimple_139 : decode b_Machine_doSimple 139 = .ok (.goto 83, 3) := by decide +kernel
theorem d_Machine_doSimple_142 : decode b_Machine_doSimple 142 = .ok (.aload_n 0, 1) := by decide +kernel
theorem d_Machine_doSimple_143 : decode b_Machine_doSimple 143 = .ok (.aload_n 0, 1) := by decide +kernel
theorem d_Machine_doSimple_144 : decode b_Machine_doSimple 144 = .ok (.invokevirtual 155, 3) := by decide +kernel
theorem ml_Machine_155 : Cond.methodLink R_Machine 155 ⟨"PointerHouse$Machine", "nextInput", "()I"⟩ ∈ lw_good := lg_right (i := 1663) (by decide +kernel) rfl
theorem d_Machine_doSimple_147 : decode b_Machine_doSimple 147 = .ok (.invokevirtual 133, 3) := by decide +kernel
theorem d_Machine_doSimple_150 : decode b_Machine_doSimple 150 = .ok (.goto 72, 3) := by decide +kernel
theorem d_Machine_doSimple_153 : decode b_Machine_doSimple 153 = .ok (.aload_n 0, 1) := by decide +kernel
theorem d_Machine_doSimple_154 : decode b_Machine_doSimple 154 = .ok (.aload_n 0, 1) := by decide +kernel
theorem d_Machine_doSimple_155 : decode b_Machine_doSimple 155 = .ok (.invokevirtual 142, 3) := by decide +kernel
theorem d_Machine_doSimple_158 : decode b_Machine_doSimple 158 = .ok (.invokevirtual 158, 3) := by decide +kernel
theorem ml_Machine_158 : Cond.methodLink R_Machine 158 ⟨"PointerHouse$Machine", "keepPrinted", "(I)V"⟩ ∈ lw_good := lg_right (i := 1668) (by decide +kernel) rfl
theorem d_Machine_doSimple_161 : decode b_Machine_doSimple 161 = .ok (.goto 61, 3) := by decide +kernel
theorem d_Machine_doSimple_164 : decode b_Machine_doSimple 164 = .ok (.aload_n 0, 1) := by decide +kernel
theorem d_Machine_doSimple_165 : decode b_Machine_doSimple 165 = .ok (.invokevirtual 142, 3) := by decide +kernel
theorem d_Machine_doSimple_168 : decode b_Machine_doSimple 168 = .ok (.istore 4, 2) := by decide +kernel
theorem d_Machine_doSimple_170 : decode b_Machine_doSimple 170 = .ok (.aload_n 0, 1) := by decide +kernel
theorem d_Machine_doSimple_171 : decode b_Machine_doSimple 171 = .ok (.iconst 0, 1) := by decide +kernel
theorem d_Machine_doSimple_172 : decode b_Machine_doSimple 172 = .ok (.aload_n 0, 1) := by decide +kernel
theorem d_Machine_doSimple_173 : decode b_Machine_doSimple 173 = .ok (.getfield 52, 3) := by decide +kernel
theorem d_Machine_doSimple_176 : decode b_Machine_doSimple 176 = .ok (.iconst 2, 1) := by decide +kernel
theorem d_Machine_doSimple_177 : decode b_Machine_doSimple 177 = .ok (.isub, 1) := by decide +kernel
theorem d_Machine_doSimple_178 : decode b_Machine_doSimple 178 = .ok (.invokestatic 149, 3) := by decide +kernel
theorem d_Machine_doSimple_181 : decode b_Machine_doSimple 181 = .ok (.putfield 52, 3) := by decide +kernel
theorem d_Machine_doSimple_184 : decode b_Machine_doSimple 184 = .ok (.aload_n 0, 1) := by decide +kernel
theorem d_Machine_doSimple_185 : decode b_Machine_doSimple 185 = .ok (.iload 4, 2) := by decide +kernel
theorem d_Machine_doSimple_187 : decode b_Machine_doSimple 187 = .ok (.invokevirtual 133, 3) := by decide +kernel
theorem d_Machine_doSimple_190 : decode b_Machine_doSimple 190 = .ok (.goto 32, 3) := by decide +kernel
theorem d_Machine_doSimple_193 : decode b_Machine_doSimple 193 = .ok (.aload_n 0, 1) := by decide +kernel
theorem d_Machine_doSimple_194 : decode b_Machine_doSimple 194 = .ok (.invokevirtual 142, 3) := by decide +kernel
theorem d_Machine_doSimple_197 : decode b_Machine_doSimple 197 = .ok (.istore 5, 2) := by decide +kernel
theorem d_Machine_doSimple_199 : decode b_Machine_doSimple 199 = .ok (.aload_n 0, 1) := by decide +kernel
theorem d_Machine_doSimple_200 : decode b_Machine_doSimple 200 = .ok (.aload_n 0, 1) := by decide +kernel
theorem d_Machine_doSimple_201 : decode b_Machine_doSimple 201 = .ok (.getfield 52, 3) := by decide +kernel
theorem d_Machine_doSimple_204 : decode b_Machine_doSimple 204 = .ok (.iconst 2, 1) := by decide +kernel
theorem d_Machine_doSimple_205 : decode b_Machine_doSimple 205 = .ok (.isub, 1) := by decide +kernel
theorem d_Machine_doSimple_206 : decode b_Machine_doSimple 206 = .ok (.aload_n 0, 1) := by decide +kernel
theorem d_Machine_doSimple_207 : decode b_Machine_doSimple 207 = .ok (.aload_n 0, 1) := by decide +kernel
theorem d_Machine_doSimple_208 : decode b_Machine_doSimple 208 = .ok (.getfield 52, 3) := by decide +kernel
theorem d_Machine_doSimple_211 : decode b_Machine_doSimple 211 = .ok (.iconst 2, 1) := by decide +kernel
theorem d_Machine_doSimple_212 : decode b_Machine_doSimple 212 = .ok (.isub, 1) := by decide +kernel
theorem d_Machine_doSimple_213 : decode b_Machine_doSimple 213 = .ok (.invokevirtual 139, 3) := by decide +kernel
theorem d_Machine_doSimple_216 : decode b_Machine_doSimple 216 = .ok (.iload 5, 2) := by decide +kernel
theorem d_Machine_doSimple_218 : decode b_Machine_doSimple 218 = .ok (.iadd, 1) := by decide +kernel
theorem d_Machine_doSimple_219 : decode b_Machine_doSimple 219 = .ok (.invokevirtual 146, 3) := by decide +kernel
theorem d_Machine_doSimple_222 : decode b_Machine_doSimple 222 = .ok (.return_, 1) := by decide +kernel
abbrev b_Machine_push : ByteArray := prog_6_method_7_code
abbrev y_Machine_push : MethodName := ⟨R_Machine, "push", "(I)V"⟩
theorem co_Machine_push : Cond.code y_Machine_push b_Machine_push 2 none ∈ lw_good := lg_in (tin_7 _ (List.mem_of_getElem? (i := 206) rfl)) rfl
abbrev w_Machine_push : List Cond := Cond.code y_Machine_push b_Machine_push 2 none :: lw_good
theorem im_Machine_push : Cond.instanceMethod y_Machine_push ∈ lw_good := lg_right (i := 1645) (by decide +kernel) rfl
theorem se_Machine_push : Cond.selects R_Machine y_Machine_push y_Machine_push ∈ lw_good := lg_left (i := 92) (by decide +kernel) rfl
theorem d_Machine_push_0 : decode b_Machine_push 0 = .ok (.aload_n 0, 1) := by decide +kernel
theorem d_Machine_push_1 : decode b_Machine_push 1 = .ok (.getfield 52, 3) := by decide +kernel
theorem d_Machine_push_4 : decode b_Machine_push 4 = .ok (.ifCond .lt 35, 3) := by decide +kernel
theorem d_Machine_push_7 : decode b_Machine_push 7 = .ok (.aload_n 0, 1) := by decide +kernel
theorem d_Machine_push_8 : decode b_Machine_push 8 = .ok (.getfield 52, 3) := by decide +kernel
theorem d_Machine_push_11 : decode b_Machine_push 11 = .ok (.aload_n 0, 1) := by decide +kernel
theorem d_Machine_push_12 : decode b_Machine_push 12 = .ok (.getfield 20, 3) := by decide +kernel
theorem d_Machine_push_15 : decode b_Machine_push 15 = .ok (.arraylength, 1) := by decide +kernel
theorem d_Machine_push_16 : decode b_Machine_push 16 = .ok (.if_icmp .ge 23, 3) := by decide +kernel
theorem d_Machine_push_19 : decode b_Machine_push 19 = .ok (.aload_n 0, 1) := by decide +kernel
theorem d_Machine_push_20 : decode b_Machine_push 20 = .ok (.getfield 20, 3) := by decide +kernel
theorem d_Machine_push_23 : decode b_Machine_push 23 = .ok (.aload_n 0, 1) := by decide +kernel
theorem d_Machine_push_24 : decode b_Machine_push 24 = .ok (.getfield 52, 3) := by decide +kernel
theorem d_Machine_push_27 : decode b_Machine_push 27 = .ok (.iload_n 1, 1) := by decide +kernel
theorem d_Machine_push_28 : decode b_Machine_push 28 = .ok (.iastore, 1) := by decide +kernel
theorem d_Machine_push_29 : decode b_Machine_push 29 = .ok (.aload_n 0, 1) := by decide +kernel
theorem d_Machine_push_30 : decode b_Machine_push 30 = .ok (.dup, 1) := by decide +kernel
theorem d_Machine_push_31 : decode b_Machine_push 31 = .ok (.getfield 52, 3) := by decide +kernel
theorem d_Machine_push_34 : decode b_Machine_push 34 = .ok (.iconst 1, 1) := by decide +kernel
theorem d_Machine_push_35 : decode b_Machine_push 35 = .ok (.iadd, 1) := by decide +kernel
theorem d_Machine_push_36 : decode b_Machine_push 36 = .ok (.putfield 52, 3) := by decide +kernel
theorem d_Machine_push_39 : decode b_Machine_push 39 = .ok (.return_, 1) := by decide +kernel
abbrev b_Machine_pop : ByteArray := prog_6_method_8_code
abbrev y_Machine_pop : MethodName := ⟨R_Machine, "pop", "()I"⟩
theorem co_Machine_pop : Cond.code y_Machine_pop b_Machine_pop 1 (some .int) ∈ lw_good := lg_in (tin_7 _ (List.mem_of_getElem? (i := 218) rfl)) rfl
abbrev w_Machine_pop : List Cond := Cond.code y_Machine_pop b_Machine_pop 1 (some .int) :: lw_good
theorem im_Machine_pop : Cond.instanceMethod y_Machine_pop ∈ lw_good := lg_right (i := 1657) (by decide +kernel) rfl
theorem se_Machine_pop : Cond.selects R_Machine y_Machine_pop y_Machine_pop ∈ lw_good := lg_left (i := 95) (by decide +kernel) rfl
theorem d_Machine_pop_0 : decode b_Machine_pop 0 = .ok (.aload_n 0, 1) := by decide +kernel
theorem d_Machine_pop_1 : decode b_Machine_pop 1 = .ok (.getfield 52, 3) := by decide +kernel
theorem d_Machine_pop_4 : decode b_Machine_pop 4 = .ok (.ifCond .le 15, 3) := by decide +kernel
theorem d_Machine_pop_7 : decode b_Machine_pop 7 = .ok (.aload_n 0, 1) := by decide +kernel
theorem d_Machine_pop_8 : decode b_Machine_pop 8 = .ok (.getfield 52, 3) := by decide +kernel
theorem d_Machine_pop_11 : decode b_Machine_pop 11 = .ok (.aload_n 0, 1) := by decide +kernel
theorem d_Machine_pop_12 : decode b_Machine_pop 12 = .ok (.getfield 20, 3) := by decide +kernel
theorem d_Machine_pop_15 : decode b_Machine_pop 15 = .ok (.arraylength, 1) := by decide +kernel
theorem d_Machine_pop_16 : decode b_Machine_pop 16 = .ok (.if_icmp .le 5, 3) := by decide +kernel
theorem d_Machine_pop_19 : decode b_Machine_pop 19 = .ok (.iconst 0, 1) := by decide +kernel
theorem d_Machine_pop_20 : decode b_Machine_pop 20 = .ok (.ireturn, 1) := by decide +kernel
theorem d_Machine_pop_21 : decode b_Machine_pop 21 = .ok (.aload_n 0, 1) := by decide +kernel
theorem d_Machine_pop_22 : decode b_Machine_pop 22 = .ok (.dup, 1) := by decide +kernel
theorem d_Machine_pop_23 : decode b_Machine_pop 23 = .ok (.getfield 52, 3) := by decide +kernel
theorem d_Machine_pop_26 : decode b_Machine_pop 26 = .ok (.iconst 1, 1) := by decide +kernel
theorem d_Machine_pop_27 : decode b_Machine_pop 27 = .ok (.isub, 1) := by decide +kernel
theorem d_Machine_pop_28 : decode b_Machine_pop 28 = .ok (.putfield 52, 3) := by decide +kernel
theorem d_Machine_pop_31 : decode b_Machine_pop 31 = .ok (.aload_n 0, 1) := by decide +kernel
theorem d_Machine_pop_32 : decode b_Machine_pop 32 = .ok (.getfield 20, 3) := by decide +kernel
theorem d_Machine_pop_35 : decode b_Machine_pop 35 = .ok (.aload_n 0, 1) := by decide +kernel
theorem d_Machine_pop_36 : decode b_Machine_pop 36 = .ok (.getfield 52, 3) := by decide +kernel
theorem d_Machine_pop_39 : decode b_Machine_pop 39 = .ok (.iaload, 1) := by decide +kernel
theorem d_Machine_pop_40 : decode b_Machine_pop 40 = .ok (.ireturn, 1) := by decide +kernel
abbrev b_Machine_wordAt : ByteArray := prog_6_method_9_code
abbrev y_Machine_wordAt : MethodName := ⟨R_Machine, "wordAt", "(I)I"⟩
theorem co_Machine_wordAt : Cond.code y_Machine_wordAt b_Machine_wordAt 2 (some .int) ∈ lw_good := lg_in (tin_7 _ (List.mem_of_getElem? (i := 214) rfl)) rfl
abbrev w_Machine_wordAt : List Cond := Cond.code y_Machine_wordAt b_Machine_wordAt 2 (some .int) :: lw_good
theorem im_Machine_wordAt : Cond.instanceMethod y_Machine_wordAt ∈ lw_good := lg_right (i := 1653) (by decide +kernel) rfl
theorem se_Machine_wordAt : Cond.selects R_Machine y_Machine_wordAt y_Machine_wordAt ∈ lw_good := lg_left (i := 94) (by decide +kernel) rfl
theorem d_Machine_wordAt_0 : decode b_Machine_wordAt 0 = .ok (.iload_n 1, 1) := by decide +kernel
theorem d_Machine_wordAt_1 : decode b_Machine_wordAt 1 = .ok (.ifCond .lt 12, 3) := by decide +kernel
theorem d_Machine_wordAt_4 : decode b_Machine_wordAt 4 = .ok (.iload_n 1, 1) := by decide +kernel
theorem d_Machine_wordAt_5 : decode b_Machine_wordAt 5 = .ok (.aload_n 0, 1) := by decide +kernel
theorem d_Machine_wordAt_6 : decode b_Machine_wordAt 6 = .ok (.getfield 20, 3) := by decide +kernel
theorem d_Machine_wordAt_9 : decode b_Machine_wordAt 9 = .ok (.arraylength, 1) := by decide +kernel
theorem d_Machine_wordAt_10 : decode b_Machine_wordAt 10 = .ok (.if_icmp .lt 7, 3) := by decide +kernel
theorem d_Machine_wordAt_13 : decode b_Machine_wordAt 13 = .ok (.iconst 0, 1) := by decide +kernel
theorem d_Machine_wordAt_14 : decode b_Machine_wordAt 14 = .ok (.goto 9, 3) := by decide +kernel
theorem d_Machine_wordAt_17 : decode b_Machine_wordAt 17 = .ok (.aload_n 0, 1) := by decide +kernel
theorem d_Machine_wordAt_18 : decode b_Machine_wordAt 18 = .ok (.getfield 20, 3) := by decide +kernel
theorem d_Machine_wordAt_21 : decode b_Machine_wordAt 21 = .ok (.iload_n 1, 1) := by decide +kernel
theorem d_Machine_wordAt_22 : decode b_Machine_wordAt 22 = .ok (.iaload, 1) := by decide +kernel
theorem d_Machine_wordAt_23 : decode b_Machine_wordAt 23 = .ok (.ireturn, 1) := by decide +kernel
abbrev b_Machine_setWord : ByteArray := prog_6_method_10_code
abbrev y_Machine_setWord : MethodName := ⟨R_Machine, "setWord", "(II)V"⟩
theorem co_Machine_setWord : Cond.code y_Machine_setWord b_Machine_setWord 3 none ∈ lw_good := lg_in (tin_7 _ (List.mem_of_getElem? (i := 222) rfl)) rfl
abbrev w_Machine_setWord : List Cond := Cond.code y_Machine_setWord b_Machine_setWord 3 none :: lw_good
theorem im_Machine_setWord : Cond.instanceMethod y_Machine_setWord ∈ lw_good := lg_right (i := 1661) (by decide +kernel) rfl
theorem se_Machine_setWord : Cond.selects R_Machine y_Machine_setWord y_Machine_setWord ∈ lw_good := lg_left (i := 96) (by decide +kernel) rfl
theorem d_Machine_setWord_0 : decode b_Machine_setWord 0 = .ok (.iload_n 1, 1) := by decide +kernel
theorem d_Machine_setWord_1 : decode b_Machine_setWord 1 = .ok (.ifCond .lt 19, 3) := by decide +kernel
theorem d_Machine_setWord_4 : decode b_Machine_setWord 4 = .ok (.iload_n 1, 1) := by decide +kernel
theorem d_Machine_setWord_5 : decode b_Machine_setWord 5 = .ok (.aload_n 0, 1) := by decide +kernel
theorem d_Machine_setWord_6 : decode b_Machine_setWord 6 = .ok (.getfield 20, 3) := by decide +kernel
theorem d_Machine_setWord_9 : decode b_Machine_setWord 9 = .ok (.arraylength, 1) := by decide +kernel
theorem d_Machine_setWord_10 : decode b_Machine_setWord 10 = .ok (.if_icmp .ge 10, 3) := by decide +kernel
theorem d_Machine_setWord_13 : decode b_Machine_setWord 13 = .ok (.aload_n 0, 1) := by decide +kernel
theorem d_Machine_setWord_14 : decode b_Machine_setWord 14 = .ok (.getfield 20, 3) := by decide +kernel
theorem d_Machine_setWord_17 : decode b_Machine_setWord 17 = .ok (.iload_n 1, 1) := by decide +kernel
theorem d_Machine_setWord_18 : decode b_Machine_setWord 18 = .ok (.iload_n 2, 1) := by decide +kernel
theorem d_Machine_setWord_19 : decode b_Machine_setWord 19 = .ok (.iastore, 1) := by decide +kernel
theorem d_Machine_setWord_20 : decode b_Machine_setWord 20 = .ok (.return_, 1) := by decide +kernel
abbrev b_Machine_frame : ByteArray := prog_6_method_11_code
abbrev y_Machine_frame : MethodName := ⟨R_Machine, "frame", "(I)I"⟩
theorem co_Machine_frame : Cond.code y_Machine_frame b_Machine_frame 3 (some .int) ∈ lw_good := lg_in (tin_7 _ (List.mem_of_getElem? (i := 210) rfl)) rfl
abbrev w_Machine_frame : List Cond := Cond.code y_Machine_frame b_Machine_frame 3 (some .int) :: lw_good
theorem im_Machine_frame : Cond.instanceMethod y_Machine_frame ∈ lw_good := lg_right (i := 1649) (by decide +kernel) rfl
theorem se_Machine_frame : Cond.selects R_Machine y_Machine_frame y_Machine_frame ∈ lw_good := lg_left (i := 93) (by decide +kernel) rfl
theorem d_Machine_frame_0 : decode b_Machine_frame 0 = .ok (.aload_n 0, 1) := by decide +kernel
theorem d_Machine_frame_1 : decode b_Machine_frame 1 = .ok (.getfield 55, 3) := by decide +kernel
theorem d_Machine_frame_4 : decode b_Machine_frame 4 = .ok (.bipush 17, 2) := by decide +kernel
theorem d_Machine_frame_6 : decode b_Machine_frame 6 = .ok (.imul, 1) := by decide +kernel
theorem d_Machine_frame_7 : decode b_Machine_frame 7 = .ok (.iload_n 1, 1) := by decide +kernel
theorem d_Machine_frame_8 : decode b_Machine_frame 8 = .ok (.iadd, 1) := by decide +kernel
theorem d_Machine_frame_9 : decode b_Machine_frame 9 = .ok (.istore_n 2, 1) := by decide +kernel
theorem d_Machine_frame_10 : decode b_Machine_frame 10 = .ok (.iload_n 2, 1) := by decide +kernel
theorem d_Machine_frame_11 : decode b_Machine_frame 11 = .ok (.ifCond .lt 12, 3) := by decide +kernel
theorem d_Machine_frame_14 : decode b_Machine_frame 14 = .ok (.iload_n 2, 1) := by decide +kernel
theorem d_Machine_frame_15 : decode b_Machine_frame 15 = .ok (.aload_n 0, 1) := by decide +kernel
theorem d_Machine_frame_16 : decode b_Machine_frame 16 = .ok (.getfield 24, 3) := by decide +kernel
theorem d_Machine_frame_19 : decode b_Machine_frame 19 = .ok (.arraylength, 1) := by decide +kernel
theorem d_Machine_frame_20 : decode b_Machine_frame 20 = .ok (.if_icmp .lt 7, 3) := by decide +kernel
theorem d_Machine_frame_23 : decode b_Machine_frame 23 = .ok (.iconst 0, 1) := by decide +kernel
theorem d_Machine_frame_24 : decode b_Machine_frame 24 = .ok (.goto 9, 3) := by decide +kernel
theorem d_Machine_frame_27 : decode b_Machine_frame 27 = .ok (.aload_n 0, 1) := by decide +kernel
theorem d_Machine_frame_28 : decode b_Machine_frame 28 = .ok (.getfield 24, 3) := by decide +kernel
theorem d_Machine_frame_31 : decode b_Machine_frame 31 = .ok (.iload_n 2, 1) := by decide +kernel
theorem d_Machine_frame_32 : decode b_Machine_frame 32 = .ok (.iaload, 1) := by decide +kernel
theorem d_Machine_frame_33 : decode b_Machine_frame 33 = .ok (.ireturn, 1) := by decide +kernel
abbrev b_Machine_nextInput : ByteArray := prog_6_method_14_code
abbrev y_Machine_nextInput : MethodName := ⟨R_Machine, "nextInput", "()I"⟩
theorem co_Machine_nextInput : Cond.code y_Machine_nextInput b_Machine_nextInput 2 (some .int) ∈ lw_good := lg_in (tin_7 _ (List.mem_of_getElem? (i := 226) rfl)) rfl
abbrev w_Machine_nextInput : List Cond := Cond.code y_Machine_nextInput b_Machine_nextInput 2 (some .int) :: lw_good
theorem im_Machine_nextInput : Cond.instanceMethod y_Machine_nextInput ∈ lw_good := lg_right (i := 1665) (by decide +kernel) rfl
theorem se_Machine_nextInput : Cond.selects R_Machine y_Machine_nextInput y_Machine_nextInput ∈ lw_good := lg_left (i := 97) (by decide +kernel) rfl
theorem d_Machine_nextInput_0 : decode b_Machine_nextInput 0 = .ok (.aload_n 0, 1) := by decide +kernel
theorem d_Machine_nextInput_1 : decode b_Machine_nextInput 1 = .ok (.getfield 73, 3) := by decide +kernel
theorem d_Machine_nextInput_4 : decode b_Machine_nextInput 4 = .ok (.ifCond .ne 5, 3) := by decide +kernel
theorem d_Machine_nextInput_7 : decode b_Machine_nextInput 7 = .ok (.iconst 0, 1) := by decide +kernel
theorem d_Machine_nextInput_8 : decode b_Machine_nextInput 8 = .ok (.ireturn, 1) := by decide +kernel
theorem d_Machine_nextInput_9 : decode b_Machine_nextInput 9 = .ok (.aload_n 0, 1) := by decide +kernel
theorem d_Machine_nextInput_10 : decode b_Machine_nextInput 10 = .ok (.getfield 30, 3) := by decide +kernel
theorem d_Machine_nextInput_13 : decode b_Machine_nextInput 13 = .ok (.iconst 0, 1) := by decide +kernel
theorem d_Machine_nextInput_14 : decode b_Machine_nextInput 14 = .ok (.iaload, 1) := by decide +kernel
theorem d_Machine_nextInput_15 : decode b_Machine_nextInput 15 = .ok (.istore_n 1, 1) := by decide +kernel
theorem d_Machine_nextInput_16 : decode b_Machine_nextInput 16 = .ok (.aload_n 0, 1) := by decide +kernel
theorem d_Machine_nextInput_17 : decode b_Machine_nextInput 17 = .ok (.dup, 1) := by decide +kernel
theorem d_Machine_nextInput_18 : decode b_Machine_nextInput 18 = .ok (.getfield 73, 3) := by decide +kernel
theorem d_Machine_nextInput_21 : decode b_Machine_nextInput 21 = .ok (.iconst 1, 1) := by decide +kernel
theorem d_Machine_nextInput_22 : decode b_Machine_nextInput 22 = .ok (.isub, 1) := by decide +kernel
theorem d_Machine_nextInput_23 : decode b_Machine_nextInput 23 = .ok (.putfield 73, 3) := by decide +kernel
theorem d_Machine_nextInput_26 : decode b_Machine_nextInput 26 = .ok (.aload_n 0, 1) := by decide +kernel
theorem d_Machine_nextInput_27 : decode b_Machine_nextInput 27 = .ok (.getfield 30, 3) := by decide +kernel
theorem d_Machine_nextInput_30 : decode b_Machine_nextInput 30 = .ok (.iconst 1, 1) := by decide +kernel
theorem d_Machine_nextInput_31 : decode b_Machine_nextInput 31 = .ok (.aload_n 0, 1) := by decide +kernel
theorem d_Machine_nextInput_32 : decode b_Machine_nextInput 32 = .ok (.getfield 30, 3) := by decide +kernel
theorem d_Machine_nextInput_35 : decode b_Machine_nextInput 35 = .ok (.iconst 0, 1) := by decide +kernel
theorem d_Machine_nextInput_36 : decode b_Machine_nextInput 36 = .ok (.aload_n 0, 1) := by decide +kernel
theorem d_Machine_nextInput_37 : decode b_Machine_nextInput 37 = .ok (.getfield 73, 3) := by decide +kernel
theorem d_Machine_nextInput_40 : decode b_Machine_nextInput 40 = .ok (.invokestatic 161, 3) := by decide +kernel
theorem ml_Machine_161 : Cond.methodLink R_Machine 161 ⟨"java/lang/System", "arraycopy", "(Ljava/lang/Object;ILjava/lang/Object;II)V"⟩ ∈ lw_good := lg_right (i := 1667) (by decide +kernel) rfl
theorem d_Machine_nextInput_43 : decode b_Machine_nextInput 43 = .ok (.iload_n 1, 1) := by decide +kernel
theorem d_Machine_nextInput_44 : decode b_Machine_nextInput 44 = .ok (.ireturn, 1) := by decide +kernel
abbrev b_Machine_keepPrinted : ByteArray := prog_6_method_15_code
abbrev y_Machine_keepPrinted : MethodName := ⟨R_Machine, "keepPrinted", "(I)V"⟩
theorem co_Machine_keepPrinted : Cond.code y_Machine_keepPrinted b_Machine_keepPrinted 2 none ∈ lw_good := lg_in (tin_7 _ (List.mem_of_getElem? (i := 231) rfl)) rfl
abbrev w_Machine_keepPrinted : List Cond := Cond.code y_Machine_keepPrinted b_Machine_keepPrinted 2 none :: lw_good
theorem im_Machine_keepPrinted : Cond.instanceMethod y_Machine_keepPrinted ∈ lw_good := lg_right (i := 1670) (by decide +kernel) rfl
theorem se_Machine_keepPrinted : Cond.selects R_Machine y_Machine_keepPrinted y_Machine_keepPrinted ∈ lw_good := lg_left (i := 98) (by decide +kernel) rfl
theorem d_Machine_keepPrinted_0 : decode b_Machine_keepPrinted 0 = .ok (.aload_n 0, 1) := by decide +kernel
theorem d_Machine_keepPrinted_1 : decode b_Machine_keepPrinted 1 = .ok (.getfield 76, 3) := by decide +kernel
theorem d_Machine_keepPrinted_4 : decode b_Machine_keepPrinted 4 = .ok (.aload_n 0, 1) := by decide +kernel
theorem d_Machine_keepPrinted_5 : decode b_Machine_keepPrinted 5 = .ok (.getfield 33, 3) := by decide +kernel
theorem d_Machine_keepPrinted_8 : decode b_Machine_keepPrinted 8 = .ok (.arraylength, 1) := by decide +kernel
theorem d_Machine_keepPrinted_9 : decode b_Machine_keepPrinted 9 = .ok (.if_icmp .ge 13, 3) := by decide +kernel
theorem d_Machine_keepPrinted_12 : decode b_Machine_keepPrinted 12 = .ok (.aload_n 0, 1) := by decide +kernel
theorem d_Machine_keepPrinted_13 : decode b_Machine_keepPrinted 13 = .ok (.getfield 33, 3) := by decide +kernel
theorem d_Machine_keepPrinted_16 : decode b_Machine_keepPrinted 16 = .ok (.aload_n 0, 1) := by decide +kernel
theorem d_Machine_keepPrinted_17 : decode b_Machine_keepPrinted 17 = .ok (.getfield 76, 3) := by decide +kernel
theorem d_Machine_keepPrinted_20 : decode b_Machine_keepPrinted 20 = .ok (.iload_n 1, 1) := by decide +kernel
theorem d_Machine_keepPrinted_21 : decode b_Machine_keepPrinted 21 = .ok (.iastore, 1) := by decide +kernel
theorem d_Machine_keepPrinted_22 : decode b_Machine_keepPrinted 22 = .ok (.aload_n 0, 1) := by decide +kernel
theorem d_Machine_keepPrinted_23 : decode b_Machine_keepPrinted 23 = .ok (.dup, 1) := by decide +kernel
theorem d_Machine_keepPrinted_24 : decode b_Machine_keepPrinted 24 = .ok (.getfield 76, 3) := by decide +kernel
theorem d_Machine_keepPrinted_27 : decode b_Machine_keepPrinted 27 = .ok (.iconst 1, 1) := by decide +kernel
theorem d_Machine_keepPrinted_28 : decode b_Machine_keepPrinted 28 = .ok (.iadd, 1) := by decide +kernel
theorem d_Machine_keepPrinted_29 : decode b_Machine_keepPrinted 29 = .ok (.putfield 76, 3) := by decide +kernel
theorem d_Machine_keepPrinted_32 : decode b_Machine_keepPrinted 32 = .ok (.return_, 1) := by decide +kernel
abbrev b_Machine_raise : ByteArray := prog_6_method_26_code
abbrev y_Machine_raise : MethodName := ⟨R_Machine, "raise", "(I)V"⟩
theorem co_Machine_raise : Cond.code y_Machine_raise b_Machine_raise 3 none ∈ lw_good := lg_in (tin_7 _ (List.mem_of_getElem? (i := 239) rfl)) rfl
abbrev w_Machine_raise : List Cond := Cond.code y_Machine_raise b_Machine_raise 3 none :: lw_good
theorem im_Machine_raise : Cond.instanceMethod y_Machine_raise ∈ lw_good := lg_right (i := 1678) (by decide +kernel) rfl
theorem se_Machine_raise : Cond.selects R_Machine y_Machine_raise y_Machine_raise ∈ lw_good := lg_left (i := 100) (by decide +kernel) rfl
theorem d_Machine_raise_0 : decode b_Machine_raise 0 = .ok (.aload_n 0, 1) := by decide +kernel
theorem d_Machine_raise_1 : decode b_Machine_raise 1 = .ok (.dup, 1) := by decide +kernel
theorem d_Machine_raise_2 : decode b_Machine_raise 2 = .ok (.getfield 70, 3) := by decide +kernel
theorem d_Machine_raise_5 : decode b_Machine_raise 5 = .ok (.iconst 1, 1) := by decide +kernel
theorem d_Machine_raise_6 : decode b_Machine_raise 6 = .ok (.iadd, 1) := by decide +kernel
theorem d_Machine_raise_7 : decode b_Machine_raise 7 = .ok (.putfield 70, 3) := by decide +kernel
theorem d_Machine_raise_10 : decode b_Machine_raise 10 = .ok (.aload_n 0, 1) := by decide +kernel
theorem d_Machine_raise_11 : decode b_Machine_raise 11 = .ok (.getfield 58, 3) := by decide +kernel
theorem d_Machine_raise_14 : decode b_Machine_raise 14 = .ok (.iconst 1, 1) := by decide +kernel
theorem d_Machine_raise_15 : decode b_Machine_raise 15 = .ok (.isub, 1) := by decide +kernel
theorem d_Machine_raise_16 : decode b_Machine_raise 16 = .ok (.iconst 4, 1) := by decide +kernel
theorem d_Machine_raise_17 : decode b_Machine_raise 17 = .ok (.imul, 1) := by decide +kernel
theorem d_Machine_raise_18 : decode b_Machine_raise 18 = .ok (.istore_n 2, 1) := by decide +kernel
theorem d_Machine_raise_19 : decode b_Machine_raise 19 = .ok (.iload_n 2, 1) := by decide +kernel
theorem d_Machine_raise_20 : decode b_Machine_raise 20 = .ok (.ifCond .lt 14, 3) := by decide +kernel
theorem d_Machine_raise_23 : decode b_Machine_raise 23 = .ok (.iload_n 2, 1) := by decide +kernel
theorem d_Machine_raise_24 : decode b_Machine_raise 24 = .ok (.iconst 4, 1) := by decide +kernel
theorem d_Machine_raise_25 : decode b_Machine_raise 25 = .ok (.iadd, 1) := by decide +kernel
theorem d_Machine_raise_26 : decode b_Machine_raise 26 = .ok (.aload_n 0, 1) := by decide +kernel
theorem d_Machine_raise_27 : decode b_Machine_raise 27 = .ok (.getfield 27, 3) := by decide +kernel
theorem fl_Machine_27 : Cond.fieldLink R_Machine 27 "PointerHouse$Machine" "tries" "[I" ∈ lw_good := lg_right (i := 651) (by decide +kernel) rfl
theorem d_Machine_raise_30 : decode b_Machine_raise 30 = .ok (.arraylength, 1) := by decide +kernel
theorem d_Machine_raise_31 : decode b_Machine_raise 31 = .ok (.if_icmp .le 14, 3) := by decide +kernel
theorem d_Machine_raise_34 : decode b_Machine_raise 34 = .ok (.aload_n 0, 1) := by decide +kernel
theorem d_Machine_raise_35 : decode b_Machine_raise 35 = .ok (.iconst 3, 1) := by decide +kernel
theorem d_Machine_raise_36 : decode b_Machine_raise 36 = .ok (.putfield 44, 3) := by decide +kernel
theorem d_Machine_raise_39 : decode b_Machine_raise 39 = .ok (.aload_n 0, 1) := by decide +kernel
theorem d_Machine_raise_40 : decode b_Machine_raise 40 = .ok (.iload_n 1, 1) := by decide +kernel
theorem d_Machine_raise_41 : decode b_Machine_raise 41 = .ok (.putfield 64, 3) := by decide +kernel
theorem d_Machine_raise_44 : decode b_Machine_raise 44 = .ok (.return_, 1) := by decide +kernel
theorem d_Machine_raise_45 : decode b_Machine_raise 45 = .ok (.aload_n 0, 1) := by decide +kernel
theorem d_Machine_raise_46 : decode b_Machine_raise 46 = .ok (.dup, 1) := by decide +kernel
theorem d_Machine_raise_47 : decode b_Machine_raise 47 = .ok (.getfield 58, 3) := by decide +kernel
theorem d_Machine_raise_50 : decode b_Machine_raise 50 = .ok (.iconst 1, 1) := by decide +kernel
theorem d_Machine_raise_51 : decode b_Machine_raise 51 = .ok (.isub, 1) := by decide +kernel
theorem d_Machine_raise_52 : decode b_Machine_raise 52 = .ok (.putfield 58, 3) := by decide +kernel
theorem d_Machine_raise_55 : decode b_Machine_raise 55 = .ok (.aload_n 0, 1) := by decide +kernel
theorem d_Machine_raise_56 : decode b_Machine_raise 56 = .ok (.aload_n 0, 1) := by decide +kernel
theorem d_Machine_raise_57 : decode b_Machine_raise 57 = .ok (.getfield 27, 3) := by decide +kernel
theorem d_Machine_raise_60 : decode b_Machine_raise 60 = .ok (.iload_n 2, 1) := by decide +kernel
theorem d_Machine_raise_61 : decode b_Machine_raise 61 = .ok (.iaload, 1) := by decide +kernel
theorem d_Machine_raise_62 : decode b_Machine_raise 62 = .ok (.putfield 61, 3) := by decide +kernel
theorem d_Machine_raise_65 : decode b_Machine_raise 65 = .ok (.aload_n 0, 1) := by decide +kernel
theorem d_Machine_raise_66 : decode b_Machine_raise 66 = .ok (.aload_n 0, 1) := by decide +kernel
theorem d_Machine_raise_67 : decode b_Machine_raise 67 = .ok (.getfield 27, 3) := by decide +kernel
theorem d_Machine_raise_70 : decode b_Machine_raise 70 = .ok (.iload_n 2, 1) := by decide +kernel
theorem d_Machine_raise_71 : decode b_Machine_raise 71 = .ok (.iconst 1, 1) := by decide +kernel
theorem d_Machine_raise_72 : decode b_Machine_raise 72 = .ok (.iadd, 1) := by decide +kernel
theorem d_Machine_raise_73 : decode b_Machine_raise 73 = .ok (.iaload, 1) := by decide +kernel
theorem d_Machine_raise_74 : decode b_Machine_raise 74 = .ok (.putfield 55, 3) := by decide +kernel
theorem d_Machine_raise_77 : decode b_Machine_raise 77 = .ok (.aload_n 0, 1) := by decide +kernel
theorem d_Machine_raise_78 : decode b_Machine_raise 78 = .ok (.aload_n 0, 1) := by decide +kernel
theorem d_Machine_raise_79 : decode b_Machine_raise 79 = .ok (.getfield 27, 3) := by decide +kernel
theorem d_Machine_raise_82 : decode b_Machine_raise 82 = .ok (.iload_n 2, 1) := by decide +kernel
theorem d_Machine_raise_83 : decode b_Machine_raise 83 = .ok (.iconst 2, 1) := by decide +kernel
theorem d_Machine_raise_84 : decode b_Machine_raise 84 = .ok (.iadd, 1) := by decide +kernel
theorem d_Machine_raise_85 : decode b_Machine_raise 85 = .ok (.iaload, 1) := by decide +kernel
theorem d_Machine_raise_86 : decode b_Machine_raise 86 = .ok (.putfield 52, 3) := by decide +kernel
theorem d_Machine_raise_89 : decode b_Machine_raise 89 = .ok (.aload_n 0, 1) := by decide +kernel
theorem d_Machine_raise_90 : decode b_Machine_raise 90 = .ok (.getfield 16, 3) := by decide +kernel
theorem d_Machine_raise_93 : decode b_Machine_raise 93 = .ok (.aload_n 0, 1) := by decide +kernel
theorem d_Machine_raise_94 : decode b_Machine_raise 94 = .ok (.getfield 27, 3) := by decide +kernel
theorem d_Machine_raise_97 : decode b_Machine_raise 97 = .ok (.iload_n 2, 1) := by decide +kernel
theorem d_Machine_raise_98 : decode b_Machine_raise 98 = .ok (.iconst 3, 1) := by decide +kernel
theorem d_Machine_raise_99 : decode b_Machine_raise 99 = .ok (.iadd, 1) := by decide +kernel
theorem d_Machine_raise_100 : decode b_Machine_raise 100 = .ok (.iaload, 1) := by decide +kernel
theorem d_Machine_raise_101 : decode b_Machine_raise 101 = .ok (.invokevirtual 198, 3) := by decide +kernel
theorem d_Machine_raise_104 : decode b_Machine_raise 104 = .ok (.aload_n 0, 1) := by decide +kernel
theorem d_Machine_raise_105 : decode b_Machine_raise 105 = .ok (.iload_n 1, 1) := by decide +kernel
theorem d_Machine_raise_106 : decode b_Machine_raise 106 = .ok (.invokevirtual 133, 3) := by decide +kernel
theorem d_Machine_raise_109 : decode b_Machine_raise 109 = .ok (.return_, 1) := by decide +kernel
abbrev b_Machine_fetch : ByteArray := prog_6_method_18_code
abbrev y_Machine_fetch : MethodName := ⟨R_Machine, "fetch", "(II)V"⟩
theorem co_Machine_fetch : Cond.code y_Machine_fetch b_Machine_fetch 4 none ∈ lw_good := lg_in (tin_8 _ (List.mem_of_getElem? (i := 11) rfl)) rfl
abbrev w_Machine_fetch : List Cond := Cond.code y_Machine_fetch b_Machine_fetch 4 none :: lw_good
theorem im_Machine_fetch : Cond.instanceMethod y_Machine_fetch ∈ lw_good := lg_right (i := 1690) (by decide +kernel) rfl
theorem se_Machine_fetch : Cond.selects R_Machine y_Machine_fetch y_Machine_fetch ∈ lw_good := lg_left (i := 102) (by decide +kernel) rfl
theorem d_Machine_fetch_0 : decode b_Machine_fetch 0 = .ok (.iconst 0, 1) := by decide +kernel
theorem d_Machine_fetch_1 : decode b_Machine_fetch 1 = .ok (.istore_n 3, 1) := by decide +kernel
theorem d_Machine_fetch_2 : decode b_Machine_fetch 2 = .ok (.iload_n 3, 1) := by decide +kernel
theorem d_Machine_fetch_3 : decode b_Machine_fetch 3 = .ok (.iload_n 2, 1) := by decide +kernel
theorem d_Machine_fetch_4 : decode b_Machine_fetch 4 = .ok (.if_icmp .ge 23, 3) := by decide +kernel
theorem d_Machine_fetch_7 : decode b_Machine_fetch 7 = .ok (.aload_n 0, 1) := by decide +kernel
theorem d_Machine_fetch_8 : decode b_Machine_fetch 8 = .ok (.aload_n 0, 1) := by decide +kernel
theorem d_Machine_fetch_9 : decode b_Machine_fetch 9 = .ok (.getfield 16, 3) := by decide +kernel
theorem d_Machine_fetch_12 : decode b_Machine_fetch 12 = .ok (.iload_n 1, 1) := by decide +kernel
theorem d_Machine_fetch_13 : decode b_Machine_fetch 13 = .ok (.iload_n 3, 1) := by decide +kernel
theorem d_Machine_fetch_14 : decode b_Machine_fetch 14 = .ok (.iadd, 1) := by decide +kernel
theorem d_Machine_fetch_15 : decode b_Machine_fetch 15 = .ok (.invokevirtual 173, 3) := by decide +kernel
theorem d_Machine_fetch_18 : decode b_Machine_fetch 18 = .ok (.invokevirtual 133, 3) := by decide +kernel
theorem d_Machine_fetch_21 : decode b_Machine_fetch 21 = .ok (.iinc 3 1, 3) := by decide +kernel
theorem d_Machine_fetch_24 : decode b_Machine_fetch 24 = .ok (.goto (-22), 3) := by decide +kernel
theorem d_Machine_fetch_27 : decode b_Machine_fetch 27 = .ok (.return_, 1) := by decide +kernel
abbrev b_Memory_get : ByteArray := prog_7_method_13_code
abbrev y_Memory_get : MethodName := ⟨R_Memory, "get", "(I)I"⟩
theorem co_Memory_get : Cond.code y_Memory_get b_Memory_get 2 (some .int) ∈ lw_good := lg_in (tin_8 _ (List.mem_of_getElem? (i := 15) rfl)) rfl
abbrev w_Memory_get : List Cond := Cond.code y_Memory_get b_Memory_get 2 (some .int) :: lw_good
theorem im_Memory_get : Cond.instanceMethod y_Memory_get ∈ lw_good := lg_right (i := 1693) (by decide +kernel) rfl
theorem se_Memory_get : Cond.selects R_Memory y_Memory_get y_Memory_get ∈ lw_good := lg_right (i := 1694) (by decide +kernel) rfl
theorem d_Memory_get_0 : decode b_Memory_get 0 = .ok (.aload_n 0, 1) := by decide +kernel
theorem d_Memory_get_1 : decode b_Memory_get 1 = .ok (.iload_n 1, 1) := by decide +kernel
theorem d_Memory_get_2 : decode b_Memory_get 2 = .ok (.invokevirtual 84, 3) := by decide +kernel
theorem ml_Memory_84 : Cond.methodLink R_Memory 84 ⟨"PointerHouse$Memory", "isOwned", "(I)Z"⟩ ∈ lw_good := lg_right (i := 1696) (by decide +kernel) rfl
theorem d_Memory_get_5 : decode b_Memory_get 5 = .ok (.ifCond .eq 12, 3) := by decide +kernel
theorem d_Memory_get_8 : decode b_Memory_get 8 = .ok (.aload_n 0, 1) := by decide +kernel
theorem d_Memory_get_9 : decode b_Memory_get 9 = .ok (.getfield 17, 3) := by decide +kernel
theorem fl_Memory_17 : Cond.fieldLink R_Memory 17 "PointerHouse$Memory" "given" "[Z" ∈ lw_good := lg_right (i := 600) (by decide +kernel) rfl
theorem d_Memory_get_12 : decode b_Memory_get 12 = .ok (.iload_n 1, 1) := by decide +kernel
theorem d_Memory_get_13 : decode b_Memory_get 13 = .ok (.baload, 1) := by decide +kernel
theorem d_Memory_get_14 : decode b_Memory_get 14 = .ok (.ifCond .ne 15, 3) := by decide +kernel
theorem d_Memory_get_17 : decode b_Memory_get 17 = .ok (.aload_n 0, 1) := by decide +kernel
theorem d_Memory_get_18 : decode b_Memory_get 18 = .ok (.dup, 1) := by decide +kernel
theorem d_Memory_get_19 : decode b_Memory_get 19 = .ok (.getfield 61, 3) := by decide +kernel
theorem d_Memory_get_22 : decode b_Memory_get 22 = .ok (.iconst 1, 1) := by decide +kernel
theorem d_Memory_get_23 : decode b_Memory_get 23 = .ok (.iadd, 1) := by decide +kernel
theorem d_Memory_get_24 : decode b_Memory_get 24 = .ok (.putfield 61, 3) := by decide +kernel
theorem d_Memory_get_27 : decode b_Memory_get 27 = .ok (.iconst 0, 1) := by decide +kernel
theorem d_Memory_get_28 : decode b_Memory_get 28 = .ok (.ireturn, 1) := by decide +kernel
theorem d_Memory_get_29 : decode b_Memory_get 29 = .ok (.aload_n 0, 1) := by decide +kernel
theorem d_Memory_get_30 : decode b_Memory_get 30 = .ok (.getfield 13, 3) := by decide +kernel
theorem fl_Memory_13 : Cond.fieldLink R_Memory 13 "PointerHouse$Memory" "words" "[I" ∈ lw_good := lg_right (i := 599) (by decide +kernel) rfl
theorem d_Memory_get_33 : decode b_Memory_get 33 = .ok (.iload_n 1, 1) := by decide +kernel
theorem d_Memory_get_34 : decode b_Memory_get 34 = .ok (.iaload, 1) := by decide +kernel
theorem d_Memory_get_35 : decode b_Memory_get 35 = .ok (.ireturn, 1) := by decide +kernel
abbrev b_Machine_store : ByteArray := prog_6_method_19_code
abbrev y_Machine_store : MethodName := ⟨R_Machine, "store", "(II)V"⟩
theorem co_Machine_store : Cond.code y_Machine_store b_Machine_store 4 none ∈ lw_good := lg_in (tin_8 _ (List.mem_of_getElem? (i := 23) rfl)) rfl
abbrev w_Machine_store : List Cond := Cond.code y_Machine_store b_Machine_store 4 none :: lw_good
theorem im_Machine_store : Cond.instanceMethod y_Machine_store ∈ lw_good := lg_right (i := 1702) (by decide +kernel) rfl
theorem se_Machine_store : Cond.selects R_Machine y_Machine_store y_Machine_store ∈ lw_good := lg_left (i := 104) (by decide +kernel) rfl
theorem d_Machine_store_0 : decode b_Machine_store 0 = .ok (.iload_n 2, 1) := by decide +kernel
theorem d_Machine_store_1 : decode b_Machine_store 1 = .ok (.iconst 1, 1) := by decide +kernel
theorem d_Machine_store_2 : decode b_Machine_store 2 = .ok (.isub, 1) := by decide +kernel
theorem d_Machine_store_3 : decode b_Machine_store 3 = .ok (.istore_n 3, 1) := by decide +kernel
theorem d_Machine_store_4 : decode b_Machine_store 4 = .ok (.iload_n 3, 1) := by decide +kernel
theorem d_Machine_store_5 : decode b_Machine_store 5 = .ok (.ifCond .lt 23, 3) := by decide +kernel
theorem d_Machine_store_8 : decode b_Machine_store 8 = .ok (.aload_n 0, 1) := by decide +kernel
theorem d_Machine_store_9 : decode b_Machine_store 9 = .ok (.getfield 16, 3) := by decide +kernel
theorem d_Machine_store_12 : decode b_Machine_store 12 = .ok (.iload_n 1, 1) := by decide +kernel
theorem d_Machine_store_13 : decode b_Machine_store 13 = .ok (.iload_n 3, 1) := by decide +kernel
theorem d_Machine_store_14 : decode b_Machine_store 14 = .ok (.iadd, 1) := by decide +kernel
theorem d_Machine_store_15 : decode b_Machine_store 15 = .ok (.aload_n 0, 1) := by decide +kernel
theorem d_Machine_store_16 : decode b_Machine_store 16 = .ok (.invokevirtual 142, 3) := by decide +kernel
theorem d_Machine_store_19 : decode b_Machine_store 19 = .ok (.invokevirtual 179, 3) := by decide +kernel
theorem d_Machine_store_22 : decode b_Machine_store 22 = .ok (.iinc 3 (-1), 3) := by decide +kernel
theorem d_Machine_store_25 : decode b_Machine_store 25 = .ok (.goto (-21), 3) := by decide +kernel
theorem d_Machine_store_28 : decode b_Machine_store 28 = .ok (.return_, 1) := by decide +kernel
abbrev b_Memory_put : ByteArray := prog_7_method_14_code
abbrev y_Memory_put : MethodName := ⟨R_Memory, "put", "(II)V"⟩
theorem co_Memory_put : Cond.code y_Memory_put b_Memory_put 3 none ∈ lw_good := lg_in (tin_8 _ (List.mem_of_getElem? (i := 27) rfl)) rfl
abbrev w_Memory_put : List Cond := Cond.code y_Memory_put b_Memory_put 3 none :: lw_good
theorem im_Memory_put : Cond.instanceMethod y_Memory_put ∈ lw_good := lg_right (i := 1705) (by decide +kernel) rfl
theorem se_Memory_put : Cond.selects R_Memory y_Memory_put y_Memory_put ∈ lw_good := lg_right (i := 1706) (by decide +kernel) rfl
theorem d_Memory_put_0 : decode b_Memory_put 0 = .ok (.aload_n 0, 1) := by decide +kernel
theorem d_Memory_put_1 : decode b_Memory_put 1 = .ok (.iload_n 1, 1) := by decide +kernel
theorem d_Memory_put_2 : decode b_Memory_put 2 = .ok (.invokevirtual 84, 3) := by decide +kernel
theorem d_Memory_put_5 : decode b_Memory_put 5 = .ok (.ifCond .ne 14, 3) := by decide +kernel
theorem d_Memory_put_8 : decode b_Memory_put 8 = .ok (.aload_n 0, 1) := by decide +kernel
theorem d_Memory_put_9 : decode b_Memory_put 9 = .ok (.dup, 1) := by decide +kernel
theorem d_Memory_put_10 : decode b_Memory_put 10 = .ok (.getfield 61, 3) := by decide +kernel
theorem d_Memory_put_13 : decode b_Memory_put 13 = .ok (.iconst 1, 1) := by decide +kernel
theorem d_Memory_put_14 : decode b_Memory_put 14 = .ok (.iadd, 1) := by decide +kernel
theorem d_Memory_put_15 : decode b_Memory_put 15 = .ok (.putfield 61, 3) := by decide +kernel
theorem d_Memory_put_18 : decode b_Memory_put 18 = .ok (.return_, 1) := by decide +kernel
theorem d_Memory_put_19 : decode b_Memory_put 19 = .ok (.aload_n 0, 1) := by decide +kernel
theorem d_Memory_put_20 : decode b_Memory_put 20 = .ok (.getfield 13, 3) := by decide +kernel
theorem d_Memory_put_23 : decode b_Memory_put 23 = .ok (.iload_n 1, 1) := by decide +kernel
theorem d_Memory_put_24 : decode b_Memory_put 24 = .ok (.iload_n 2, 1) := by decide +kernel
theorem d_Memory_put_25 : decode b_Memory_put 25 = .ok (.iastore, 1) := by decide +kernel
theorem d_Memory_put_26 : decode b_Memory_put 26 = .ok (.aload_n 0, 1) := by decide +kernel
theorem d_Memory_put_27 : decode b_Memory_put 27 = .ok (.getfield 17, 3) := by decide +kernel
theorem d_Memory_put_30 : decode b_Memory_put 30 = .ok (.iload_n 1, 1) := by decide +kernel
theorem d_Memory_put_31 : decode b_Memory_put 31 = .ok (.iconst 1, 1) := by decide +kernel
theorem d_Memory_put_32 : decode b_Memory_put 32 = .ok (.bastore, 1) := by decide +kernel
theorem d_Memory_put_33 : decode b_Memory_put 33 = .ok (.return_, 1) := by decide +kernel
abbrev b_Machine_placeFor : ByteArray := prog_6_method_23_code
abbrev y_Machine_placeFor : MethodName := ⟨R_Machine, "placeFor", "(III)I"⟩
theorem co_Machine_placeFor : Cond.code y_Machine_placeFor b_Machine_placeFor 5 (some .int) ∈ lw_good := lg_in (tin_8 _ (List.mem_of_getElem? (i := 39) rfl)) rfl
abbrev w_Machine_placeFor : List Cond := Cond.code y_Machine_placeFor b_Machine_placeFor 5 (some .int) :: lw_good
theorem im_Machine_placeFor : Cond.instanceMethod y_Machine_placeFor ∈ lw_good := lg_right (i := 1718) (by decide +kernel) rfl
theorem se_Machine_placeFor : Cond.selects R_Machine y_Machine_placeFor y_Machine_placeFor ∈ lw_good := lg_left (i := 107) (by decide +kernel) rfl
theorem d_Machine_placeFor_0 : decode b_Machine_placeFor 0 = .ok (.iload_n 2, 1) := by decide +kernel
theorem d_Machine_placeFor_1 : decode b_Machine_placeFor 1 = .ok (.ifCond .lt 20, 3) := by decide +kernel
theorem d_Machine_placeFor_4 : decode b_Machine_placeFor 4 = .ok (.iload_n 2, 1) := by decide +kernel
theorem d_Machine_placeFor_5 : decode b_Machine_placeFor 5 = .ok (.i2l, 1) := by decide +kernel
theorem d_Machine_placeFor_6 : decode b_Machine_placeFor 6 = .ok (.iload_n 3, 1) := by decide +kernel
theorem d_Machine_placeFor_7 : decode b_Machine_placeFor 7 = .ok (.i2l, 1) := by decide +kernel
theorem d_Machine_placeFor_8 : decode b_Machine_placeFor 8 = .ok (.lmul, 1) := by decide +kernel
theorem d_Machine_placeFor_9 : decode b_Machine_placeFor 9 = .ok (.aload_n 0, 1) := by decide +kernel
theorem d_Machine_placeFor_10 : decode b_Machine_placeFor 10 = .ok (.getfield 16, 3) := by decide +kernel
theorem d_Machine_placeFor_13 : decode b_Machine_placeFor 13 = .ok (.invokevirtual 189, 3) := by decide +kernel
theorem ml_Machine_189 : Cond.methodLink R_Machine 189 ⟨"PointerHouse$Memory", "pageWords", "()I"⟩ ∈ lw_good := lg_right (i := 1720) (by decide +kernel) rfl
theorem d_Machine_placeFor_16 : decode b_Machine_placeFor 16 = .ok (.i2l, 1) := by decide +kernel
theorem d_Machine_placeFor_17 : decode b_Machine_placeFor 17 = .ok (.lcmp, 1) := by decide +kernel
theorem d_Machine_placeFor_18 : decode b_Machine_placeFor 18 = .ok (.ifCond .le 10, 3) := by decide +kernel
theorem d_Machine_placeFor_21 : decode b_Machine_placeFor 21 = .ok (.aload_n 0, 1) := by decide +kernel
theorem d_Machine_placeFor_22 : decode b_Machine_placeFor 22 = .ok (.iconst 5, 1) := by decide +kernel
theorem d_Machine_placeFor_23 : decode b_Machine_placeFor 23 = .ok (.invokevirtual 167, 3) := by decide +kernel
theorem d_Machine_placeFor_26 : decode b_Machine_placeFor 26 = .ok (.iconst (-1), 1) := by decide +kernel
theorem d_Machine_placeFor_27 : decode b_Machine_placeFor 27 = .ok (.ireturn, 1) := by decide +kernel
theorem d_Machine_placeFor_28 : decode b_Machine_placeFor 28 = .ok (.aload_n 0, 1) := by decide +kernel
theorem d_Machine_placeFor_29 : decode b_Machine_placeFor 29 = .ok (.getfield 16, 3) := by decide +kernel
theorem d_Machine_placeFor_32 : decode b_Machine_placeFor 32 = .ok (.aload_n 0, 1) := by decide +kernel
theorem d_Machine_placeFor_33 : decode b_Machine_placeFor 33 = .ok (.iconst 5, 1) := by decide +kernel
theorem d_Machine_placeFor_34 : decode b_Machine_placeFor 34 = .ok (.iload_n 1, 1) := by decide +kernel
theorem d_Machine_placeFor_35 : decode b_Machine_placeFor 35 = .ok (.iadd, 1) := by decide +kernel
theorem d_Machine_placeFor_36 : decode b_Machine_placeFor 36 = .ok (.invokevirtual 136, 3) := by decide +kernel
theorem d_Machine_placeFor_39 : decode b_Machine_placeFor 39 = .ok (.iload_n 2, 1) := by decide +kernel
theorem d_Machine_placeFor_40 : decode b_Machine_placeFor 40 = .ok (.iload_n 3, 1) := by decide +kernel
theorem d_Machine_placeFor_41 : decode b_Machine_placeFor 41 = .ok (.imul, 1) := by decide +kernel
theorem d_Machine_placeFor_42 : decode b_Machine_placeFor 42 = .ok (.invokevirtual 192, 3) := by decide +kernel
theorem ml_Machine_192 : Cond.methodLink R_Machine 192 ⟨"PointerHouse$Memory", "make", "(II)I"⟩ ∈ lw_good := lg_right (i := 1724) (by decide +kernel) rfl
theorem d_Machine_placeFor_45 : decode b_Machine_placeFor 45 = .ok (.istore 4, 2) := by decide +kernel
theorem d_Machine_placeFor_47 : decode b_Machine_placeFor 47 = .ok (.iload 4, 2) := by decide +kernel
theorem d_Machine_placeFor_49 : decode b_Machine_placeFor 49 = .ok (.iconst (-1), 1) := by decide +kernel
theorem d_Machine_placeFor_50 : decode b_Machine_placeFor 50 = .ok (.if_icmp .ne 8, 3) := by decide +kernel
theorem d_Machine_placeFor_53 : decode b_Machine_placeFor 53 = .ok (.aload_n 0, 1) := by decide +kernel
theorem d_Machine_placeFor_54 : decode b_Machine_placeFor 54 = .ok (.iconst 4, 1) := by decide +kernel
theorem d_Machine_placeFor_55 : decode b_Machine_placeFor 55 = .ok (.putfield 44, 3) := by decide +kernel
theorem d_Machine_placeFor_58 : decode b_Machine_placeFor 58 = .ok (.iload 4, 2) := by decide +kernel
theorem d_Machine_placeFor_60 : decode b_Machine_placeFor 60 = .ok (.ireturn, 1) := by decide +kernel
abbrev b_Machine_makeRow : ByteArray := prog_6_method_22_code
abbrev y_Machine_makeRow : MethodName := ⟨R_Machine, "makeRow", "(II)V"⟩
theorem co_Machine_makeRow : Cond.code y_Machine_makeRow b_Machine_makeRow 7 none ∈ lw_good := lg_in (tin_8 _ (List.mem_of_getElem? (i := 59) rfl)) rfl
abbrev w_Machine_makeRow : List Cond := Cond.code y_Machine_makeRow b_Machine_makeRow 7 none :: lw_good
theorem im_Machine_makeRow : Cond.instanceMethod y_Machine_makeRow ∈ lw_good := lg_right (i := 1738) (by decide +kernel) rfl
theorem se_Machine_makeRow : Cond.selects R_Machine y_Machine_makeRow y_Machine_makeRow ∈ lw_good := lg_left (i := 110) (by decide +kernel) rfl
theorem d_Machine_makeRow_0 : decode b_Machine_makeRow 0 = .ok (.aload_n 0, 1) := by decide +kernel
theorem d_Machine_makeRow_1 : decode b_Machine_makeRow 1 = .ok (.getfield 52, 3) := by decide +kernel
theorem d_Machine_makeRow_4 : decode b_Machine_makeRow 4 = .ok (.iload_n 2, 1) := by decide +kernel
theorem d_Machine_makeRow_5 : decode b_Machine_makeRow 5 = .ok (.isub, 1) := by decide +kernel
theorem d_Machine_makeRow_6 : decode b_Machine_makeRow 6 = .ok (.istore_n 3, 1) := by decide +kernel
theorem d_Machine_makeRow_7 : decode b_Machine_makeRow 7 = .ok (.aload_n 0, 1) := by decide +kernel
theorem d_Machine_makeRow_8 : decode b_Machine_makeRow 8 = .ok (.iload_n 3, 1) := by decide +kernel
theorem d_Machine_makeRow_9 : decode b_Machine_makeRow 9 = .ok (.iconst 1, 1) := by decide +kernel
theorem d_Machine_makeRow_10 : decode b_Machine_makeRow 10 = .ok (.isub, 1) := by decide +kernel
theorem d_Machine_makeRow_11 : decode b_Machine_makeRow 11 = .ok (.invokevirtual 139, 3) := by decide +kernel
theorem d_Machine_makeRow_14 : decode b_Machine_makeRow 14 = .ok (.istore 4, 2) := by decide +kernel
theorem d_Machine_makeRow_16 : decode b_Machine_makeRow 16 = .ok (.aload_n 0, 1) := by decide +kernel
theorem d_Machine_makeRow_17 : decode b_Machine_makeRow 17 = .ok (.iload_n 1, 1) := by decide +kernel
theorem d_Machine_makeRow_18 : decode b_Machine_makeRow 18 = .ok (.iload 4, 2) := by decide +kernel
theorem d_Machine_makeRow_20 : decode b_Machine_makeRow 20 = .ok (.iload_n 2, 1) := by decide +kernel
theorem d_Machine_makeRow_21 : decode b_Machine_makeRow 21 = .ok (.invokevirtual 182, 3) := by decide +kernel
theorem d_Machine_makeRow_24 : decode b_Machine_makeRow 24 = .ok (.istore 5, 2) := by decide +kernel
theorem d_Machine_makeRow_26 : decode b_Machine_makeRow 26 = .ok (.iload 5, 2) := by decide +kernel
theorem d_Machine_makeRow_28 : decode b_Machine_makeRow 28 = .ok (.iconst (-1), 1) := by decide +kernel
theorem d_Machine_makeRow_29 : decode b_Machine_makeRow 29 = .ok (.if_icmp .ne 4, 3) := by decide +kernel
theorem d_Machine_makeRow_32 : decode b_Machine_makeRow 32 = .ok (.return_, 1) := by decide +kernel
theorem d_Machine_makeRow_33 : decode b_Machine_makeRow 33 = .ok (.iconst 0, 1) := by decide +kernel
theorem d_Machine_makeRow_34 : decode b_Machine_makeRow 34 = .ok (.istore 6, 2) := by decide +kernel
theorem d_Machine_makeRow_36 : decode b_Machine_makeRow 36 = .ok (.iload 6, 2) := by decide +kernel
theorem d_Machine_makeRow_38 : decode b_Machine_makeRow 38 = .ok (.iload 4, 2) := by decide +kernel
theorem d_Machine_makeRow_40 : decode b_Machine_makeRow 40 = .ok (.iload_n 2, 1) := by decide +kernel
theorem d_Machine_makeRow_41 : decode b_Machine_makeRow 41 = .ok (.imul, 1) := by decide +kernel
theorem d_Machine_makeRow_42 : decode b_Machine_makeRow 42 = .ok (.if_icmp .ge 31, 3) := by decide +kernel
theorem d_Machine_makeRow_45 : decode b_Machine_makeRow 45 = .ok (.aload_n 0, 1) := by decide +kernel
theorem d_Machine_makeRow_46 : decode b_Machine_makeRow 46 = .ok (.getfield 16, 3) := by decide +kernel
theorem d_Machine_makeRow_49 : decode b_Machine_makeRow 49 = .ok (.iload 5, 2) := by decide +kernel
theorem d_Machine_makeRow_51 : decode b_Machine_makeRow 51 = .ok (.iload 6, 2) := by decide +kernel
theorem d_Machine_makeRow_53 : decode b_Machine_makeRow 53 = .ok (.iadd, 1) := by decide +kernel
theorem d_Machine_makeRow_54 : decode b_Machine_makeRow 54 = .ok (.aload_n 0, 1) := by decide +kernel
theorem d_Machine_makeRow_55 : decode b_Machine_makeRow 55 = .ok (.iload_n 3, 1) := by decide +kernel
theorem d_Machine_makeRow_56 : decode b_Machine_makeRow 56 = .ok (.iload 6, 2) := by decide +kernel
theorem d_Machine_makeRow_58 : decode b_Machine_makeRow 58 = .ok (.iload_n 2, 1) := by decide +kernel
theorem d_Machine_makeRow_59 : decode b_Machine_makeRow 59 = .ok (.irem, 1) := by decide +kernel
theorem d_Machine_makeRow_60 : decode b_Machine_makeRow 60 = .ok (.iadd, 1) := by decide +kernel
theorem d_Machine_makeRow_61 : decode b_Machine_makeRow 61 = .ok (.invokevirtual 139, 3) := by decide +kernel
theorem d_Machine_makeRow_64 : decode b_Machine_makeRow 64 = .ok (.invokevirtual 179, 3) := by decide +kernel
theorem d_Machine_makeRow_67 : decode b_Machine_makeRow 67 = .ok (.iinc 6 1, 3) := by decide +kernel
theorem d_Machine_makeRow_70 : decode b_Machine_makeRow 70 = .ok (.goto (-34), 3) := by decide +kernel
theorem d_Machine_makeRow_73 : decode b_Machine_makeRow 73 = .ok (.aload_n 0, 1) := by decide +kernel
theorem d_Machine_makeRow_74 : decode b_Machine_makeRow 74 = .ok (.iconst 0, 1) := by decide +kernel
theorem d_Machine_makeRow_75 : decode b_Machine_makeRow 75 = .ok (.iload_n 3, 1) := by decide +kernel
theorem d_Machine_makeRow_76 : decode b_Machine_makeRow 76 = .ok (.iconst 1, 1) := by decide +kernel
theorem d_Machine_makeRow_77 : decode b_Machine_makeRow 77 = .ok (.isub, 1) := by decide +kernel
theorem d_Machine_makeRow_78 : decode b_Machine_makeRow 78 = .ok (.invokestatic 149, 3) := by decide +kernel
theorem d_Machine_makeRow_81 : decode b_Machine_makeRow 81 = .ok (.putfield 52, 3) := by decide +kernel
theorem d_Machine_makeRow_84 : decode b_Machine_makeRow 84 = .ok (.aload_n 0, 1) := by decide +kernel
theorem d_Machine_makeRow_85 : decode b_Machine_makeRow 85 = .ok (.iload 5, 2) := by decide +kernel
theorem d_Machine_makeRow_87 : decode b_Machine_makeRow 87 = .ok (.iconst 1, 1) := by decide +kernel
theorem d_Machine_makeRow_88 : decode b_Machine_makeRow 88 = .ok (.iadd, 1) := by decide +kernel
theorem d_Machine_makeRow_89 : decode b_Machine_makeRow 89 = .ok (.invokevirtual 133, 3) := by decide +kernel
theorem d_Machine_makeRow_92 : decode b_Machine_makeRow 92 = .ok (.aload_n 0, 1) := by decide +kernel
theorem d_Machine_makeRow_93 : decode b_Machine_makeRow 93 = .ok (.iconst 0, 1) := by decide +kernel
theorem d_Machine_makeRow_94 : decode b_Machine_makeRow 94 = .ok (.invokevirtual 133, 3) := by decide +kernel
theorem d_Machine_makeRow_97 : decode b_Machine_makeRow 97 = .ok (.aload_n 0, 1) := by decide +kernel
theorem d_Machine_makeRow_98 : decode b_Machine_makeRow 98 = .ok (.iload 4, 2) := by decide +kernel
theorem d_Machine_makeRow_100 : decode b_Machine_makeRow 100 = .ok (.invokevirtual 133, 3) := by decide +kernel
theorem d_Machine_makeRow_103 : decode b_Machine_makeRow 103 = .ok (.return_, 1) := by decide +kernel
abbrev b_Memory_pageWords : ByteArray := prog_7_method_3_code
abbrev y_Memory_pageWords : MethodName := ⟨R_Memory, "pageWords", "()I"⟩
theorem co_Memory_pageWords : Cond.code y_Memory_pageWords b_Memory_pageWords 1 (some .int) ∈ lw_good := lg_in (tin_8 _ (List.mem_of_getElem? (i := 43) rfl)) rfl
abbrev w_Memory_pageWords : List Cond := Cond.code y_Memory_pageWords b_Memory_pageWords 1 (some .int) :: lw_good
theorem im_Memory_pageWords : Cond.instanceMethod y_Memory_pageWords ∈ lw_good := lg_right (i := 1721) (by decide +kernel) rfl
theorem se_Memory_pageWords : Cond.selects R_Memory y_Memory_pageWords y_Memory_pageWords ∈ lw_good := lg_right (i := 1722) (by decide +kernel) rfl
theorem d_Memory_pageWords_0 : decode b_Memory_pageWords 0 = .ok (.aload_n 0, 1) := by decide +kernel
theorem d_Memory_pageWords_1 : decode b_Memory_pageWords 1 = .ok (.getfield 52, 3) := by decide +kernel
theorem d_Memory_pageWords_4 : decode b_Memory_pageWords 4 = .ok (.ireturn, 1) := by decide +kernel
abbrev b_Memory_make : ByteArray := prog_7_method_10_code
abbrev y_Memory_make : MethodName := ⟨R_Memory, "make", "(II)I"⟩
theorem co_Memory_make : Cond.code y_Memory_make b_Memory_make 4 (some .int) ∈ lw_good := lg_in (tin_8 _ (List.mem_of_getElem? (i := 47) rfl)) rfl
abbrev w_Memory_make : List Cond := Cond.code y_Memory_make b_Memory_make 4 (some .int) :: lw_good
theorem im_Memory_make : Cond.instanceMethod y_Memory_make ∈ lw_good := lg_right (i := 1725) (by decide +kernel) rfl
theorem se_Memory_make : Cond.selects R_Memory y_Memory_make y_Memory_make ∈ lw_good := lg_right (i := 1726) (by decide +kernel) rfl
theorem d_Memory_make_0 : decode b_Memory_make 0 = .ok (.iload_n 1, 1) := by decide +kernel
theorem d_Memory_make_1 : decode b_Memory_make 1 = .ok (.ifCond .lt 11, 3) := by decide +kernel
theorem d_Memory_make_4 : decode b_Memory_make 4 = .ok (.iload_n 1, 1) := by decide +kernel
theorem d_Memory_make_5 : decode b_Memory_make 5 = .ok (.aload_n 0, 1) := by decide +kernel
theorem d_Memory_make_6 : decode b_Memory_make 6 = .ok (.getfield 64, 3) := by decide +kernel
theorem d_Memory_make_9 : decode b_Memory_make 9 = .ok (.if_icmp .lt 5, 3) := by decide +kernel
theorem d_Memory_make_12 : decode b_Memory_make 12 = .ok (.iconst (-1), 1) := by decide +kernel
theorem d_Memory_make_13 : decode b_Memory_make 13 = .ok (.ireturn, 1) := by decide +kernel
theorem d_Memory_make_14 : decode b_Memory_make 14 = .ok (.iload_n 2, 1) := by decide +kernel
theorem d_Memory_make_15 : decode b_Memory_make 15 = .ok (.aload_n 0, 1) := by decide +kernel
theorem d_Memory_make_16 : decode b_Memory_make 16 = .ok (.getfield 36, 3) := by decide +kernel
theorem fl_Memory_36 : Cond.fieldLink R_Memory 36 "PointerHouse$Memory" "leftOf" "[I" ∈ lw_good := lg_right (i := 612) (by decide +kernel) rfl
theorem d_Memory_make_19 : decode b_Memory_make 19 = .ok (.iload_n 1, 1) := by decide +kernel
theorem d_Memory_make_20 : decode b_Memory_make 20 = .ok (.iaload, 1) := by decide +kernel
theorem d_Memory_make_21 : decode b_Memory_make 21 = .ok (.if_icmp .le 21, 3) := by decide +kernel
theorem d_Memory_make_24 : decode b_Memory_make 24 = .ok (.aload_n 0, 1) := by decide +kernel
theorem d_Memory_make_25 : decode b_Memory_make 25 = .ok (.invokevirtual 77, 3) := by decide +kernel
theorem ml_Memory_77 : Cond.methodLink R_Memory 77 ⟨"PointerHouse$Memory", "freePage", "()I"⟩ ∈ lw_good := lg_right (i := 1728) (by decide +kernel) rfl
theorem d_Memory_make_28 : decode b_Memory_make 28 = .ok (.istore_n 3, 1) := by decide +kernel
theorem d_Memory_make_29 : decode b_Memory_make 29 = .ok (.iload_n 3, 1) := by decide +kernel
theorem d_Memory_make_30 : decode b_Memory_make 30 = .ok (.iconst (-1), 1) := by decide +kernel
theorem d_Memory_make_31 : decode b_Memory_make 31 = .ok (.if_icmp .ne 5, 3) := by decide +kernel
theorem d_Memory_make_34 : decode b_Memory_make 34 = .ok (.iconst (-1), 1) := by decide +kernel
theorem d_Memory_make_35 : decode b_Memory_make 35 = .ok (.ireturn, 1) := by decide +kernel
theorem d_Memory_make_36 : decode b_Memory_make 36 = .ok (.aload_n 0, 1) := by decide +kernel
theorem d_Memory_make_37 : decode b_Memory_make 37 = .ok (.iload_n 1, 1) := by decide +kernel
theorem d_Memory_make_38 : decode b_Memory_make 38 = .ok (.iload_n 3, 1) := by decide +kernel
theorem d_Memory_make_39 : decode b_Memory_make 39 = .ok (.invokevirtual 80, 3) := by decide +kernel
theorem ml_Memory_80 : Cond.methodLink R_Memory 80 ⟨"PointerHouse$Memory", "takePage", "(II)V"⟩ ∈ lw_good := lg_right (i := 1732) (by decide +kernel) rfl
theorem d_Memory_make_42 : decode b_Memory_make 42 = .ok (.aload_n 0, 1) := by decide +kernel
theorem d_Memory_make_43 : decode b_Memory_make 43 = .ok (.getfield 33, 3) := by decide +kernel
theorem fl_Memory_33 : Cond.fieldLink R_Memory 33 "PointerHouse$Memory" "nextOf" "[I" ∈ lw_good := lg_right (i := 611) (by decide +kernel) rfl
theorem d_Memory_make_46 : decode b_Memory_make 46 = .ok (.iload_n 1, 1) := by decide +kernel
theorem d_Memory_make_47 : decode b_Memory_make 47 = .ok (.iaload, 1) := by decide +kernel
theorem d_Memory_make_48 : decode b_Memory_make 48 = .ok (.istore_n 3, 1) := by decide +kernel
theorem d_Memory_make_49 : decode b_Memory_make 49 = .ok (.aload_n 0, 1) := by decide +kernel
theorem d_Memory_make_50 : decode b_Memory_make 50 = .ok (.getfield 33, 3) := by decide +kernel
theorem d_Memory_make_53 : decode b_Memory_make 53 = .ok (.iload_n 1, 1) := by decide +kernel
theorem d_Memory_make_54 : decode b_Memory_make 54 = .ok (.dup2, 1) := by decide +kernel
theorem d_Memory_make_55 : decode b_Memory_make 55 = .ok (.iaload, 1) := by decide +kernel
theorem d_Memory_make_56 : decode b_Memory_make 56 = .ok (.iload_n 2, 1) := by decide +kernel
theorem d_Memory_make_57 : decode b_Memory_make 57 = .ok (.iadd, 1) := by decide +kernel
theorem d_Memory_make_58 : decode b_Memory_make 58 = .ok (.iastore, 1) := by decide +kernel
theorem d_Memory_make_59 : decode b_Memory_make 59 = .ok (.aload_n 0, 1) := by decide +kernel
theorem d_Memory_make_60 : decode b_Memory_make 60 = .ok (.getfield 36, 3) := by decide +kernel
theorem d_Memory_make_63 : decode b_Memory_make 63 = .ok (.iload_n 1, 1) := by decide +kernel
theorem d_Memory_make_64 : decode b_Memory_make 64 = .ok (.dup2, 1) := by decide +kernel
theorem d_Memory_make_65 : decode b_Memory_make 65 = .ok (.iaload, 1) := by decide +kernel
theorem d_Memory_make_66 : decode b_Memory_make 66 = .ok (.iload_n 2, 1) := by decide +kernel
theorem d_Memory_make_67 : decode b_Memory_make 67 = .ok (.isub, 1) := by decide +kernel
theorem d_Memory_make_68 : decode b_Memory_make 68 = .ok (.iastore, 1) := by decide +kernel
theorem d_Memory_make_69 : decode b_Memory_make 69 = .ok (.aload_n 0, 1) := by decide +kernel
theorem d_Memory_make_70 : decode b_Memory_make 70 = .ok (.getfield 27, 3) := by decide +kernel
theorem d_Memory_make_73 : decode b_Memory_make 73 = .ok (.iload_n 1, 1) := by decide +kernel
theorem d_Memory_make_74 : decode b_Memory_make 74 = .ok (.dup2, 1) := by decide +kernel
theorem d_Memory_make_75 : decode b_Memory_make 75 = .ok (.iaload, 1) := by decide +kernel
theorem d_Memory_make_76 : decode b_Memory_make 76 = .ok (.iload_n 2, 1) := by decide +kernel
theorem d_Memory_make_77 : decode b_Memory_make 77 = .ok (.iadd, 1) := by decide +kernel
theorem d_Memory_make_78 : decode b_Memory_make 78 = .ok (.iastore, 1) := by decide +kernel
theorem d_Memory_make_79 : decode b_Memory_make 79 = .ok (.aload_n 0, 1) := by decide +kernel
theorem d_Memory_make_80 : decode b_Memory_make 80 = .ok (.getfield 30, 3) := by decide +kernel
theorem d_Memory_make_83 : decode b_Memory_make 83 = .ok (.iload_n 1, 1) := by decide +kernel
theorem d_Memory_make_84 : decode b_Memory_make 84 = .ok (.dup2, 1) := by decide +kernel
theorem d_Memory_make_85 : decode b_Memory_make 85 = .ok (.iaload, 1) := by decide +kernel
theorem d_Memory_make_86 : decode b_Memory_make 86 = .ok (.iconst 1, 1) := by decide +kernel
theorem d_Memory_make_87 : decode b_Memory_make 87 = .ok (.iadd, 1) := by decide +kernel
theorem d_Memory_make_88 : decode b_Memory_make 88 = .ok (.iastore, 1) := by decide +kernel
theorem d_Memory_make_89 : decode b_Memory_make 89 = .ok (.aload_n 0, 1) := by decide +kernel
theorem d_Memory_make_90 : decode b_Memory_make 90 = .ok (.dup, 1) := by decide +kernel
theorem d_Memory_make_91 : decode b_Memory_make 91 = .ok (.getfield 58, 3) := by decide +kernel
theorem d_Memory_make_94 : decode b_Memory_make 94 = .ok (.iconst 1, 1) := by decide +kernel
theorem d_Memory_make_95 : decode b_Memory_make 95 = .ok (.iadd, 1) := by decide +kernel
theorem d_Memory_make_96 : decode b_Memory_make 96 = .ok (.putfield 58, 3) := by decide +kernel
theorem d_Memory_make_99 : decode b_Memory_make 99 = .ok (.iload_n 3, 1) := by decide +kernel
theorem d_Memory_make_100 : decode b_Memory_make 100 = .ok (.ireturn, 1) := by decide +kernel
abbrev b_Memory_open : ByteArray := prog_7_method_8_code
abbrev y_Memory_open : MethodName := ⟨R_Memory, "open", "()I"⟩
theorem co_Memory_open : Cond.code y_Memory_open b_Memory_open 1 (some .int) ∈ lw_good := lg_in (tin_7 _ (List.mem_of_getElem? (i := 164) rfl)) rfl
abbrev w_Memory_open : List Cond := Cond.code y_Memory_open b_Memory_open 1 (some .int) :: lw_good
theorem im_Memory_open : Cond.instanceMethod y_Memory_open ∈ lw_good := lg_right (i := 1602) (by decide +kernel) rfl
theorem se_Memory_open : Cond.selects R_Memory y_Memory_open y_Memory_open ∈ lw_good := lg_right (i := 1603) (by decide +kernel) rfl
theorem d_Memory_open_0 : decode b_Memory_open 0 = .ok (.aload_n 0, 1) := by decide +kernel
theorem d_Memory_open_1 : decode b_Memory_open 1 = .ok (.getfield 64, 3) := by decide +kernel
theorem d_Memory_open_4 : decode b_Memory_open 4 = .ok (.sipush 321, 3) := by decide +kernel
theorem d_Memory_open_7 : decode b_Memory_open 7 = .ok (.if_icmp .lt 5, 3) := by decide +kernel
theorem d_Memory_open_10 : decode b_Memory_open 10 = .ok (.iconst 0, 1) := by decide +kernel
theorem d_Memory_open_11 : decode b_Memory_open 11 = .ok (.ireturn, 1) := by decide +kernel
theorem d_Memory_open_12 : decode b_Memory_open 12 = .ok (.aload_n 0, 1) := by decide +kernel
theorem d_Memory_open_13 : decode b_Memory_open 13 = .ok (.getfield 24, 3) := by decide +kernel
theorem d_Memory_open_16 : decode b_Memory_open 16 = .ok (.aload_n 0, 1) := by decide +kernel
theorem d_Memory_open_17 : decode b_Memory_open 17 = .ok (.getfield 64, 3) := by decide +kernel
theorem d_Memory_open_20 : decode b_Memory_open 20 = .ok (.iconst 0, 1) := by decide +kernel
theorem d_Memory_open_21 : decode b_Memory_open 21 = .ok (.iastore, 1) := by decide +kernel
theorem d_Memory_open_22 : decode b_Memory_open 22 = .ok (.aload_n 0, 1) := by decide +kernel
theorem d_Memory_open_23 : decode b_Memory_open 23 = .ok (.getfield 27, 3) := by decide +kernel
theorem d_Memory_open_26 : decode b_Memory_open 26 = .ok (.aload_n 0, 1) := by decide +kernel
theorem d_Memory_open_27 : decode b_Memory_open 27 = .ok (.getfield 64, 3) := by decide +kernel
theorem d_Memory_open_30 : decode b_Memory_open 30 = .ok (.iconst 0, 1) := by decide +kernel
theorem d_Memory_open_31 : decode b_Memory_open 31 = .ok (.iastore, 1) := by decide +kernel
theorem d_Memory_open_32 : decode b_Memory_open 32 = .ok (.aload_n 0, 1) := by decide +kernel
theorem d_Memory_open_33 : decode b_Memory_open 33 = .ok (.getfield 30, 3) := by decide +kernel
theorem d_Memory_open_36 : decode b_Memory_open 36 = .ok (.aload_n 0, 1) := by decide +kernel
theorem d_Memory_open_37 : decode b_Memory_open 37 = .ok (.getfield 64, 3) := by decide +kernel
theorem d_Memory_open_40 : decode b_Memory_open 40 = .ok (.iconst 0, 1) := by decide +kernel
theorem d_Memory_open_41 : decode b_Memory_open 41 = .ok (.iastore, 1) := by decide +kernel
theorem d_Memory_open_42 : decode b_Memory_open 42 = .ok (.aload_n 0, 1) := by decide +kernel
theorem d_Memory_open_43 : decode b_Memory_open 43 = .ok (.getfield 33, 3) := by decide +kernel
theorem d_Memory_open_46 : decode b_Memory_open 46 = .ok (.aload_n 0, 1) := by decide +kernel
theorem d_Memory_open_47 : decode b_Memory_open 47 = .ok (.getfield 64, 3) := by decide +kernel
theorem d_Memory_open_50 : decode b_Memory_open 50 = .ok (.iconst 0, 1) := by decide +kernel
theorem d_Memory_open_51 : decode b_Memory_open 51 = .ok (.iastore, 1) := by decide +kernel
theorem d_Memory_open_52 : decode b_Memory_open 52 = .ok (.aload_n 0, 1) := by decide +kernel
theorem d_Memory_open_53 : decode b_Memory_open 53 = .ok (.getfield 36, 3) := by decide +kernel
theorem d_Memory_open_56 : decode b_Memory_open 56 = .ok (.aload_n 0, 1) := by decide +kernel
theorem d_Memory_open_57 : decode b_Memory_open 57 = .ok (.getfield 64, 3) := by decide +kernel
theorem d_Memory_open_60 : decode b_Memory_open 60 = .ok (.iconst 0, 1) := by decide +kernel
theorem d_Memory_open_61 : decode b_Memory_open 61 = .ok (.iastore, 1) := by decide +kernel
theorem d_Memory_open_62 : decode b_Memory_open 62 = .ok (.aload_n 0, 1) := by decide +kernel
theorem d_Memory_open_63 : decode b_Memory_open 63 = .ok (.dup, 1) := by decide +kernel
theorem d_Memory_open_64 : decode b_Memory_open 64 = .ok (.getfield 64, 3) := by decide +kernel
theorem d_Memory_open_67 : decode b_Memory_open 67 = .ok (.iconst 1, 1) := by decide +kernel
theorem d_Memory_open_68 : decode b_Memory_open 68 = .ok (.iadd, 1) := by decide +kernel
theorem d_Memory_open_69 : decode b_Memory_open 69 = .ok (.putfield 64, 3) := by decide +kernel
theorem d_Memory_open_72 : decode b_Memory_open 72 = .ok (.aload_n 0, 1) := by decide +kernel
theorem d_Memory_open_73 : decode b_Memory_open 73 = .ok (.getfield 64, 3) := by decide +kernel
theorem d_Memory_open_76 : decode b_Memory_open 76 = .ok (.iconst 1, 1) := by decide +kernel
theorem d_Memory_open_77 : decode b_Memory_open 77 = .ok (.isub, 1) := by decide +kernel
theorem d_Memory_open_78 : decode b_Memory_open 78 = .ok (.ireturn, 1) := by decide +kernel
abbrev b_Memory_closeFrom : ByteArray := prog_7_method_9_code
abbrev y_Memory_closeFrom : MethodName := ⟨R_Memory, "closeFrom", "(I)V"⟩
theorem co_Memory_closeFrom : Cond.code y_Memory_closeFrom b_Memory_closeFrom 3 none ∈ lw_good := lg_in (tin_8 _ (List.mem_of_getElem? (i := 3) rfl)) rfl
abbrev w_Memory_closeFrom : List Cond := Cond.code y_Memory_closeFrom b_Memory_closeFrom 3 none :: lw_good
theorem im_Memory_closeFrom : Cond.instanceMethod y_Memory_closeFrom ∈ lw_good := lg_right (i := 1681) (by decide +kernel) rfl
theorem se_Memory_closeFrom : Cond.selects R_Memory y_Memory_closeFrom y_Memory_closeFrom ∈ lw_good := lg_right (i := 1682) (by decide +kernel) rfl
theorem d_Memory_closeFrom_0 : decode b_Memory_closeFrom 0 = .ok (.iload_n 1, 1) := by decide +kernel
theorem d_Memory_closeFrom_1 : decode b_Memory_closeFrom 1 = .ok (.iconst 1, 1) := by decide +kernel
theorem d_Memory_closeFrom_2 : decode b_Memory_closeFrom 2 = .ok (.if_icmp .lt 11, 3) := by decide +kernel
theorem d_Memory_closeFrom_5 : decode b_Memory_closeFrom 5 = .ok (.iload_n 1, 1) := by decide +kernel
theorem d_Memory_closeFrom_6 : decode b_Memory_closeFrom 6 = .ok (.aload_n 0, 1) := by decide +kernel
theorem d_Memory_closeFrom_7 : decode b_Memory_closeFrom 7 = .ok (.getfield 64, 3) := by decide +kernel
theorem d_Memory_closeFrom_10 : decode b_Memory_closeFrom 10 = .ok (.if_icmp .lt 4, 3) := by decide +kernel
theorem d_Memory_closeFrom_13 : decode b_Memory_closeFrom 13 = .ok (.return_, 1) := by decide +kernel
theorem d_Memory_closeFrom_14 : decode b_Memory_closeFrom 14 = .ok (.iconst 0, 1) := by decide +kernel
theorem d_Memory_closeFrom_15 : decode b_Memory_closeFrom 15 = .ok (.istore_n 2, 1) := by decide +kernel
theorem d_Memory_closeFrom_16 : decode b_Memory_closeFrom 16 = .ok (.iload_n 2, 1) := by decide +kernel
theorem d_Memory_closeFrom_17 : decode b_Memory_closeFrom 17 = .ok (.aload_n 0, 1) := by decide +kernel
theorem d_Memory_closeFrom_18 : decode b_Memory_closeFrom 18 = .ok (.getfield 48, 3) := by decide +kernel
theorem d_Memory_closeFrom_21 : decode b_Memory_closeFrom 21 = .ok (.if_icmp .ge 36, 3) := by decide +kernel
theorem d_Memory_closeFrom_24 : decode b_Memory_closeFrom 24 = .ok (.aload_n 0, 1) := by decide +kernel
theorem d_Memory_closeFrom_25 : decode b_Memory_closeFrom 25 = .ok (.getfield 21, 3) := by decide +kernel
theorem d_Memory_closeFrom_28 : decode b_Memory_closeFrom 28 = .ok (.iload_n 2, 1) := by decide +kernel
theorem d_Memory_closeFrom_29 : decode b_Memory_closeFrom 29 = .ok (.iaload, 1) := by decide +kernel
theorem d_Memory_closeFrom_30 : decode b_Memory_closeFrom 30 = .ok (.iload_n 1, 1) := by decide +kernel
theorem d_Memory_closeFrom_31 : decode b_Memory_closeFrom 31 = .ok (.if_icmp .lt 20, 3) := by decide +kernel
theorem d_Memory_closeFrom_34 : decode b_Memory_closeFrom 34 = .ok (.aload_n 0, 1) := by decide +kernel
theorem d_Memory_closeFrom_35 : decode b_Memory_closeFrom 35 = .ok (.getfield 21, 3) := by decide +kernel
theorem d_Memory_closeFrom_38 : decode b_Memory_closeFrom 38 = .ok (.iload_n 2, 1) := by decide +kernel
theorem d_Memory_closeFrom_39 : decode b_Memory_closeFrom 39 = .ok (.iconst (-1), 1) := by decide +kernel
theorem d_Memory_closeFrom_40 : decode b_Memory_closeFrom 40 = .ok (.iastore, 1) := by decide +kernel
theorem d_Memory_closeFrom_41 : decode b_Memory_closeFrom 41 = .ok (.aload_n 0, 1) := by decide +kernel
theorem d_Memory_closeFrom_42 : decode b_Memory_closeFrom 42 = .ok (.dup, 1) := by decide +kernel
theorem d_Memory_closeFrom_43 : decode b_Memory_closeFrom 43 = .ok (.getfield 55, 3) := by decide +kernel
theorem d_Memory_closeFrom_46 : decode b_Memory_closeFrom 46 = .ok (.iconst 1, 1) := by decide +kernel
theorem d_Memory_closeFrom_47 : decode b_Memory_closeFrom 47 = .ok (.isub, 1) := by decide +kernel
theorem d_Memory_closeFrom_48 : decode b_Memory_closeFrom 48 = .ok (.putfield 55, 3) := by decide +kernel
theorem d_Memory_closeFrom_51 : decode b_Memory_closeFrom 51 = .ok (.iinc 2 1, 3) := by decide +kernel
theorem d_Memory_closeFrom_54 : decode b_Memory_closeFrom 54 = .ok (.goto (-38), 3) := by decide +kernel
theorem d_Memory_closeFrom_57 : decode b_Memory_closeFrom 57 = .ok (.aload_n 0, 1) := by decide +kernel
theorem d_Memory_closeFrom_58 : decode b_Memory_closeFrom 58 = .ok (.iload_n 1, 1) := by decide +kernel
theorem d_Memory_closeFrom_59 : decode b_Memory_closeFrom 59 = .ok (.putfield 64, 3) := by decide +kernel
theorem d_Memory_closeFrom_62 : decode b_Memory_closeFrom 62 = .ok (.return_, 1) := by decide +kernel
abbrev b_Machine_pushTry : ByteArray := prog_6_method_25_code
abbrev y_Machine_pushTry : MethodName := ⟨R_Machine, "pushTry", "(I)V"⟩
theorem co_Machine_pushTry : Cond.code y_Machine_pushTry b_Machine_pushTry 3 none ∈ lw_good := lg_in (tin_8 _ (List.mem_of_getElem? (i := 68) rfl)) rfl
abbrev w_Machine_pushTry : List Cond := Cond.code y_Machine_pushTry b_Machine_pushTry 3 none :: lw_good
theorem im_Machine_pushTry : Cond.instanceMethod y_Machine_pushTry ∈ lw_good := lg_right (i := 1747) (by decide +kernel) rfl
theorem se_Machine_pushTry : Cond.selects R_Machine y_Machine_pushTry y_Machine_pushTry ∈ lw_good := lg_left (i := 112) (by decide +kernel) rfl
theorem d_Machine_pushTry_0 : decode b_Machine_pushTry 0 = .ok (.aload_n 0, 1) := by decide +kernel
theorem d_Machine_pushTry_1 : decode b_Machine_pushTry 1 = .ok (.getfield 58, 3) := by decide +kernel
theorem d_Machine_pushTry_4 : decode b_Machine_pushTry 4 = .ok (.iconst 4, 1) := by decide +kernel
theorem d_Machine_pushTry_5 : decode b_Machine_pushTry 5 = .ok (.imul, 1) := by decide +kernel
theorem d_Machine_pushTry_6 : decode b_Machine_pushTry 6 = .ok (.istore_n 2, 1) := by decide +kernel
theorem d_Machine_pushTry_7 : decode b_Machine_pushTry 7 = .ok (.iload_n 2, 1) := by decide +kernel
theorem d_Machine_pushTry_8 : decode b_Machine_pushTry 8 = .ok (.ifCond .lt 70, 3) := by decide +kernel
theorem d_Machine_pushTry_11 : decode b_Machine_pushTry 11 = .ok (.iload_n 2, 1) := by decide +kernel
theorem d_Machine_pushTry_12 : decode b_Machine_pushTry 12 = .ok (.iconst 4, 1) := by decide +kernel
theorem d_Machine_pushTry_13 : decode b_Machine_pushTry 13 = .ok (.iadd, 1) := by decide +kernel
theorem d_Machine_pushTry_14 : decode b_Machine_pushTry 14 = .ok (.aload_n 0, 1) := by decide +kernel
theorem d_Machine_pushTry_15 : decode b_Machine_pushTry 15 = .ok (.getfield 27, 3) := by decide +kernel
theorem d_Machine_pushTry_18 : decode b_Machine_pushTry 18 = .ok (.arraylength, 1) := by decide +kernel
theorem d_Machine_pushTry_19 : decode b_Machine_pushTry 19 = .ok (.if_icmp .gt 59, 3) := by decide +kernel
theorem d_Machine_pushTry_22 : decode b_Machine_pushTry 22 = .ok (.aload_n 0, 1) := by decide +kernel
theorem d_Machine_pushTry_23 : decode b_Machine_pushTry 23 = .ok (.getfield 27, 3) := by decide +kernel
theorem d_Machine_pushTry_26 : decode b_Machine_pushTry 26 = .ok (.iload_n 2, 1) := by decide +kernel
theorem d_Machine_pushTry_27 : decode b_Machine_pushTry 27 = .ok (.iload_n 1, 1) := by decide +kernel
theorem d_Machine_pushTry_28 : decode b_Machine_pushTry 28 = .ok (.iastore, 1) := by decide +kernel
theorem d_Machine_pushTry_29 : decode b_Machine_pushTry 29 = .ok (.aload_n 0, 1) := by decide +kernel
theorem d_Machine_pushTry_30 : decode b_Machine_pushTry 30 = .ok (.getfield 27, 3) := by decide +kernel
theorem d_Machine_pushTry_33 : decode b_Machine_pushTry 33 = .ok (.iload_n 2, 1) := by decide +kernel
theorem d_Machine_pushTry_34 : decode b_Machine_pushTry 34 = .ok (.iconst 1, 1) := by decide +kernel
theorem d_Machine_pushTry_35 : decode b_Machine_pushTry 35 = .ok (.iadd, 1) := by decide +kernel
theorem d_Machine_pushTry_36 : decode b_Machine_pushTry 36 = .ok (.aload_n 0, 1) := by decide +kernel
theorem d_Machine_pushTry_37 : decode b_Machine_pushTry 37 = .ok (.getfield 55, 3) := by decide +kernel
theorem d_Machine_pushTry_40 : decode b_Machine_pushTry 40 = .ok (.iastore, 1) := by decide +kernel
theorem d_Machine_pushTry_41 : decode b_Machine_pushTry 41 = .ok (.aload_n 0, 1) := by decide +kernel
theorem d_Machine_pushTry_42 : decode b_Machine_pushTry 42 = .ok (.getfield 27, 3) := by decide +kernel
theorem d_Machine_pushTry_45 : decode b_Machine_pushTry 45 = .ok (.iload_n 2, 1) := by decide +kernel
theorem d_Machine_pushTry_46 : decode b_Machine_pushTry 46 = .ok (.iconst 2, 1) := by decide +kernel
theorem d_Machine_pushTry_47 : decode b_Machine_pushTry 47 = .ok (.iadd, 1) := by decide +kernel
theorem d_Machine_pushTry_48 : decode b_Machine_pushTry 48 = .ok (.aload_n 0, 1) := by decide +kernel
theorem d_Machine_pushTry_49 : decode b_Machine_pushTry 49 = .ok (.getfield 52, 3) := by decide +kernel
theorem d_Machine_pushTry_52 : decode b_Machine_pushTry 52 = .ok (.iastore, 1) := by decide +kernel
theorem d_Machine_pushTry_53 : decode b_Machine_pushTry 53 = .ok (.aload_n 0, 1) := by decide +kernel
theorem d_Machine_pushTry_54 : decode b_Machine_pushTry 54 = .ok (.getfield 27, 3) := by decide +kernel
theorem d_Machine_pushTry_57 : decode b_Machine_pushTry 57 = .ok (.iload_n 2, 1) := by decide +kernel
theorem d_Machine_pushTry_58 : decode b_Machine_pushTry 58 = .ok (.iconst 3, 1) := by decide +kernel
theorem d_Machine_pushTry_59 : decode b_Machine_pushTry 59 = .ok (.iadd, 1) := by decide +kernel
theorem d_Machine_pushTry_60 : decode b_Machine_pushTry 60 = .ok (.aload_n 0, 1) := by decide +kernel
theorem d_Machine_pushTry_61 : decode b_Machine_pushTry 61 = .ok (.getfield 16, 3) := by decide +kernel
theorem d_Machine_pushTry_64 : decode b_Machine_pushTry 64 = .ok (.invokevirtual 207, 3) := by decide +kernel
theorem d_Machine_pushTry_67 : decode b_Machine_pushTry 67 = .ok (.iastore, 1) := by decide +kernel
theorem d_Machine_pushTry_68 : decode b_Machine_pushTry 68 = .ok (.aload_n 0, 1) := by decide +kernel
theorem d_Machine_pushTry_69 : decode b_Machine_pushTry 69 = .ok (.dup, 1) := by decide +kernel
theorem d_Machine_pushTry_70 : decode b_Machine_pushTry 70 = .ok (.getfield 58, 3) := by decide +kernel
theorem d_Machine_pushTry_73 : decode b_Machine_pushTry 73 = .ok (.iconst 1, 1) := by decide +kernel
theorem d_Machine_pushTry_74 : decode b_Machine_pushTry 74 = .ok (.iadd, 1) := by decide +kernel
theorem d_Machine_pushTry_75 : decode b_Machine_pushTry 75 = .ok (.putfield 58, 3) := by decide +kernel
theorem d_Machine_pushTry_78 : decode b_Machine_pushTry 78 = .ok (.return_, 1) := by decide +kernel
abbrev b_Machine_leave : ByteArray := prog_6_method_28_code
abbrev y_Machine_leave : MethodName := ⟨R_Machine, "leave", "(I)V"⟩
theorem co_Machine_leave : Cond.code y_Machine_leave b_Machine_leave 5 none ∈ lw_good := lg_in (tin_8 _ (List.mem_of_getElem? (i := 72) rfl)) rfl
abbrev w_Machine_leave : List Cond := Cond.code y_Machine_leave b_Machine_leave 5 none :: lw_good
theorem im_Machine_leave : Cond.instanceMethod y_Machine_leave ∈ lw_good := lg_right (i := 1751) (by decide +kernel) rfl
theorem se_Machine_leave : Cond.selects R_Machine y_Machine_leave y_Machine_leave ∈ lw_good := lg_left (i := 113) (by decide +kernel) rfl
theorem d_Machine_leave_0 : decode b_Machine_leave 0 = .ok (.aload_n 0, 1) := by decide +kernel
theorem d_Machine_leave_1 : decode b_Machine_leave 1 = .ok (.iconst 1, 1) := by decide +kernel
theorem d_Machine_leave_2 : decode b_Machine_leave 2 = .ok (.invokevirtual 136, 3) := by decide +kernel
theorem d_Machine_leave_5 : decode b_Machine_leave 5 = .ok (.istore_n 2, 1) := by decide +kernel
theorem d_Machine_leave_6 : decode b_Machine_leave 6 = .ok (.aload_n 0, 1) := by decide +kernel
theorem d_Machine_leave_7 : decode b_Machine_leave 7 = .ok (.getfield 52, 3) := by decide +kernel
theorem d_Machine_leave_10 : decode b_Machine_leave 10 = .ok (.iload_n 1, 1) := by decide +kernel
theorem d_Machine_leave_11 : decode b_Machine_leave 11 = .ok (.isub, 1) := by decide +kernel
theorem d_Machine_leave_12 : decode b_Machine_leave 12 = .ok (.istore_n 3, 1) := by decide +kernel
theorem d_Machine_leave_13 : decode b_Machine_leave 13 = .ok (.iconst 0, 1) := by decide +kernel
theorem d_Machine_leave_14 : decode b_Machine_leave 14 = .ok (.istore 4, 2) := by decide +kernel
theorem d_Machine_leave_16 : decode b_Machine_leave 16 = .ok (.iload 4, 2) := by decide +kernel
theorem d_Machine_leave_18 : decode b_Machine_leave 18 = .ok (.iload_n 1, 1) := by decide +kernel
theorem d_Machine_leave_19 : decode b_Machine_leave 19 = .ok (.if_icmp .ge 25, 3) := by decide +kernel
theorem d_Machine_leave_22 : decode b_Machine_leave 22 = .ok (.aload_n 0, 1) := by decide +kernel
theorem d_Machine_leave_23 : decode b_Machine_leave 23 = .ok (.iload_n 2, 1) := by decide +kernel
theorem d_Machine_leave_24 : decode b_Machine_leave 24 = .ok (.iload 4, 2) := by decide +kernel
theorem d_Machine_leave_26 : decode b_Machine_leave 26 = .ok (.iadd, 1) := by decide +kernel
theorem d_Machine_leave_27 : decode b_Machine_leave 27 = .ok (.aload_n 0, 1) := by decide +kernel
theorem d_Machine_leave_28 : decode b_Machine_leave 28 = .ok (.iload_n 3, 1) := by decide +kernel
theorem d_Machine_leave_29 : decode b_Machine_leave 29 = .ok (.iload 4, 2) := by decide +kernel
theorem d_Machine_leave_31 : decode b_Machine_leave 31 = .ok (.iadd, 1) := by decide +kernel
theorem d_Machine_leave_32 : decode b_Machine_leave 32 = .ok (.invokevirtual 139, 3) := by decide +kernel
theorem d_Machine_leave_35 : decode b_Machine_leave 35 = .ok (.invokevirtual 146, 3) := by decide +kernel
theorem d_Machine_leave_38 : decode b_Machine_leave 38 = .ok (.iinc 4 1, 3) := by decide +kernel
theorem d_Machine_leave_41 : decode b_Machine_leave 41 = .ok (.goto (-25), 3) := by decide +kernel
theorem d_Machine_leave_44 : decode b_Machine_leave 44 = .ok (.aload_n 0, 1) := by decide +kernel
theorem d_Machine_leave_45 : decode b_Machine_leave 45 = .ok (.iload_n 2, 1) := by decide +kernel
theorem d_Machine_leave_46 : decode b_Machine_leave 46 = .ok (.iload_n 1, 1) := by decide +kernel
theorem d_Machine_leave_47 : decode b_Machine_leave 47 = .ok (.iadd, 1) := by decide +kernel
theorem d_Machine_leave_48 : decode b_Machine_leave 48 = .ok (.putfield 52, 3) := by decide +kernel
theorem d_Machine_leave_51 : decode b_Machine_leave 51 = .ok (.aload_n 0, 1) := by decide +kernel
theorem d_Machine_leave_52 : decode b_Machine_leave 52 = .ok (.getfield 16, 3) := by decide +kernel
theorem d_Machine_leave_55 : decode b_Machine_leave 55 = .ok (.aload_n 0, 1) := by decide +kernel
theorem d_Machine_leave_56 : decode b_Machine_leave 56 = .ok (.iconst 3, 1) := by decide +kernel
theorem d_Machine_leave_57 : decode b_Machine_leave 57 = .ok (.invokevirtual 136, 3) := by decide +kernel
theorem d_Machine_leave_60 : decode b_Machine_leave 60 = .ok (.invokevirtual 198, 3) := by decide +kernel
theorem d_Machine_leave_63 : decode b_Machine_leave 63 = .ok (.aload_n 0, 1) := by decide +kernel
theorem d_Machine_leave_64 : decode b_Machine_leave 64 = .ok (.aload_n 0, 1) := by decide +kernel
theorem d_Machine_leave_65 : decode b_Machine_leave 65 = .ok (.iconst 4, 1) := by decide +kernel
theorem d_Machine_leave_66 : decode b_Machine_leave 66 = .ok (.invokevirtual 136, 3) := by decide +kernel
theorem d_Machine_leave_69 : decode b_Machine_leave 69 = .ok (.putfield 58, 3) := by decide +kernel
theorem d_Machine_leave_72 : decode b_Machine_leave 72 = .ok (.aload_n 0, 1) := by decide +kernel
theorem d_Machine_leave_73 : decode b_Machine_leave 73 = .ok (.aload_n 0, 1) := by decide +kernel
theorem d_Machine_leave_74 : decode b_Machine_leave 74 = .ok (.iconst 0, 1) := by decide +kernel
theorem d_Machine_leave_75 : decode b_Machine_leave 75 = .ok (.invokevirtual 136, 3) := by decide +kernel
theorem d_Machine_leave_78 : decode b_Machine_leave 78 = .ok (.putfield 61, 3) := by decide +kernel
theorem d_Machine_leave_81 : decode b_Machine_leave 81 = .ok (.aload_n 0, 1) := by decide +kernel
theorem d_Machine_leave_82 : decode b_Machine_leave 82 = .ok (.iconst 0, 1) := by decide +kernel
theorem d_Machine_leave_83 : decode b_Machine_leave 83 = .ok (.aload_n 0, 1) := by decide +kernel
theorem d_Machine_leave_84 : decode b_Machine_leave 84 = .ok (.getfield 55, 3) := by decide +kernel
theorem d_Machine_leave_87 : decode b_Machine_leave 87 = .ok (.iconst 1, 1) := by decide +kernel
theorem d_Machine_leave_88 : decode b_Machine_leave 88 = .ok (.isub, 1) := by decide +kernel
theorem d_Machine_leave_89 : decode b_Machine_leave 89 = .ok (.invokestatic 149, 3) := by decide +kernel
theorem d_Machine_leave_92 : decode b_Machine_leave 92 = .ok (.putfield 55, 3) := by decide +kernel
theorem d_Machine_leave_95 : decode b_Machine_leave 95 = .ok (.aload_n 0, 1) := by decide +kernel
theorem d_Machine_leave_96 : decode b_Machine_leave 96 = .ok (.getfield 55, 3) := by decide +kernel
theorem d_Machine_leave_99 : decode b_Machine_leave 99 = .ok (.ifCond .ne 8, 3) := by decide +kernel
theorem d_Machine_leave_102 : decode b_Machine_leave 102 = .ok (.aload_n 0, 1) := by decide +kernel
theorem d_Machine_leave_103 : decode b_Machine_leave 103 = .ok (.iconst 2, 1) := by decide +kernel
theorem d_Machine_leave_104 : decode b_Machine_leave 104 = .ok (.putfield 44, 3) := by decide +kernel
theorem d_Machine_leave_107 : decode b_Machine_leave 107 = .ok (.return_, 1) := by decide +kernel
section GV
variable {p : Program} {l : Launch} {e : Env} {R : Room} {s : State} {m : MethodId} {args : Array Value} {below : List Frame} {meth : Method} {c : Code} {H : Heap} {locs : List Loc} {cells slots : Nat} {Q : State → Prop}
variable {cc : ByteArray} {pc : Nat} {ls : Array Slot} {rest st0 : List Value} {dC : Nat → ClassId} {dI : Nat → Nat → Nat} {A : Nat → Prop} {ad ea ev : Nat → Nat} {km : Nat → ClassId} {T T' : gSt} {H0 : Heap}
theorem rd_Steps_266 (hx : p.tables.exec = Jvm.exec) (hb : c.code = cc) (hT : ∀ w ∈ lw_good, w.before args s = true) (hown : s.vm.findClass R_Steps = some m.cls) (hK : va_K (dC, dI) cls_all (gT LH km) s) (hP : va_P (dC, dI) cls_all (gW LH ad km T) H) (hdg : decode cc pc = .ok (.getfield 266, 3)) (kk : W p l e R s m args below meth c H locs cells slots Q (F0 m (pc + 3) ls (.int (T.1 75 0) :: rest))) : W p l e R s m args below meth c H locs cells slots Q (F0 m pc ls (.ref (ad 6) :: rest)) := gw_get hx hb hT i_Scope hown hK hP 6 11 75 (Nat.le_of_ble_eq_true rfl) rfl rfl (Nat.le_of_ble_eq_true rfl) rfl (gv_i rfl) (hT _ fl_Steps_266) (fun _ h9 => h9) hdg kk
theorem wr_Steps_266 (hx : p.tables.exec = Jvm.exec) (hb : c.code = cc) (hT : ∀ w ∈ lw_good, w.before args s = true) (hown : s.vm.findClass R_Steps = some m.cls) (hK : va_K (dC, dI) cls_all (gT LH km) s) (hP : va_P (dC, dI) cls_all (gW LH ad km T) H) (hD : va_D A (gW LH ad km T)) (hS : va_S A H0 H locs) {v : Int32} (hdg : decode cc pc = .ok (.putfield 266, 3)) (kk : ∀ (T1 : gSt), T1 = sI T 75 0 v → ∀ (H1 : Heap) (locs1 : List Loc), va_P (dC, dI) cls_all (gW LH ad km T1) H1 → va_D A (gW LH ad km T1) → va_S A H0 H1 locs1 → W p l e R s m args below meth c H1 locs1 cells slots Q (F0 m (pc + 3) ls rest)) : W p l e R s m args below meth c H locs cells slots Q (F0 m pc ls (.int v :: .ref (ad 6) :: rest)) := gw_puti okH hx hb hT i_Scope t_Scope t_Scope_ok n_Scope hown hK hP hD hS 6 11 75 (Nat.le_of_ble_eq_true rfl) rfl rfl (Nat.le_of_ble_eq_true rfl) rfl rfl (hT _ fl_Steps_266) (fun _ h9 => h9) rfl (ty := .int) (by decide +kernel) rfl rfl hdg kk
theorem rd_Steps_269 (hx : p.tables.exec = Jvm.exec) (hb : c.code = cc) (hT : ∀ w ∈ lw_good, w.before args s = true) (hown : s.vm.findClass R_Steps = some m.cls) (hK : va_K (dC, dI) cls_all (gT LH km) s) (hP : va_P (dC, dI) cls_all (gW LH ad km T) H) (hdg : decode cc pc = .ok (.getfield 269, 3)) (kk : W p l e R s m args below meth c H locs cells slots Q (F0 m (pc + 3) ls (.int (T.1 76 0) :: rest))) : W p l e R s m args below meth c H locs cells slots Q (F0 m pc ls (.ref (ad 6) :: rest)) := gw_get hx hb hT i_Scope hown hK hP 6 12 76 (Nat.le_of_ble_eq_true rfl) rfl rfl (Nat.le_of_ble_eq_true rfl) rfl (gv_i rfl) (hT _ fl_Steps_269) (fun _ h9 => h9) hdg kk
theorem wr_Steps_269 (hx : p.tables.exec = Jvm.exec) (hb : c.code = cc) (hT : ∀ w ∈ lw_good, w.before args s = true) (hown : s.vm.findClass R_Steps = some m.cls) (hK : va_K (dC, dI) cls_all (gT LH km) s) (hP : va_P (dC, dI) cls_all (gW LH ad km T) H) (hD : va_D A (gW LH ad km T)) (hS : va_S A H0 H locs) {v : Int32} (hdg : decode cc pc = .ok (.putfield 269, 3)) (kk : ∀ (T1 : gSt), T1 = sI T 76 0 v → ∀ (H1 : Heap) (locs1 : List Loc), va_P (dC, dI) cls_all (gW LH ad km T1) H1 → va_D A (gW LH ad km T1) → va_S A H0 H1 locs1 → W p l e R s m args below meth c H1 locs1 cells slots Q (F0 m (pc + 3) ls rest)) : W p l e R s m args below meth c H locs cells slots Q (F0 m pc ls (.int v :: .ref (ad 6) :: rest)) := gw_puti okH hx hb hT i_Scope t_Scope t_Scope_ok n_Scope hown hK hP hD hS 6 12 76 (Nat.le_of_ble_eq_true rfl) rfl rfl (Nat.le_of_ble_eq_true rfl) rfl rfl (hT _ fl_Steps_269) (fun _ h9 => h9) rfl (ty := .int) (by decide +kernel) rfl rfl hdg kk
theorem wr_Machine_44 (hx : p.tables.exec = Jvm.exec) (hb : c.code = cc) (hT : ∀ w ∈ lw_good, w.before args s = true) (hown : s.vm.findClass R_Machine = some m.cls) (hK : va_K (dC, dI) cls_all (gT LH km) s) (hP : va_P (dC, dI) cls_all (gW LH ad km T) H) (hD : va_D A (gW LH ad km T)) (hS : va_S A H0 H locs) {v : Int32} (hdg : decode cc pc = .ok (.putfield 44, 3)) (kk : ∀ (T1 : gSt), T1 = sI T 106 0 v → ∀ (H1 : Heap) (locs1 : List Loc), va_P (dC, dI) cls_all (gW LH ad km T1) H1 → va_D A (gW LH ad km T1) → va_S A H0 H1 locs1 → W p l e R s m args below meth c H1 locs1 cells slots Q (F0 m (pc + 3) ls rest)) : W p l e R s m args below meth c H locs cells slots Q (F0 m pc ls (.int v :: .ref (ad 10) :: rest)) := gw_puti okH hx hb hT i_Machine t_Machine t_Machine_ok n_Machine hown hK hP hD hS 10 10 106 (Nat.le_of_ble_eq_true rfl) rfl rfl (Nat.le_of_ble_eq_true rfl) rfl rfl (hT _ fl_Machine_44) (fun _ h9 => h9) rfl (ty := .int) (by decide +kernel) rfl rfl hdg kk
theorem rd_Machine_16 (hx : p.tables.exec = Jvm.exec) (hb : c.code = cc) (hT : ∀ w ∈ lw_good, w.before args s = true) (hown : s.vm.findClass R_Machine = some m.cls) (hK : va_K (dC, dI) cls_all (gT LH km) s) (hP : va_P (dC, dI) cls_all (gW LH ad km T) H) (hdg : decode cc pc = .ok (.getfield 16, 3)) (kk : W p l e R s m args below meth c H locs cells slots Q (F0 m (pc + 3) ls (.ref (ad 11) :: rest))) : W p l e R s m args below meth c H locs cells slots Q (F0 m pc ls (.ref (ad 10) :: rest)) := gw_get hx hb hT i_Machine hown hK hP 10 2 98 (Nat.le_of_ble_eq_true rfl) rfl rfl (Nat.le_of_ble_eq_true rfl) rfl (gv_o rfl) (hT _ fl_Machine_16) (fun _ h9 => h9) hdg kk
theorem wr_Machine_52 (hx : p.tables.exec = Jvm.exec) (hb : c.code = cc) (hT : ∀ w ∈ lw_good, w.before args s = true) (hown : s.vm.findClass R_Machine = some m.cls) (hK : va_K (dC, dI) cls_all (gT LH km) s) (hP : va_P (dC, dI) cls_all (gW LH ad km T) H) (hD : va_D A (gW LH ad km T)) (hS : va_S A H0 H locs) {v : Int32} (hdg : decode cc pc = .ok (.putfield 52, 3)) (kk : ∀ (T1 : gSt), T1 = sI T 100 0 v → ∀ (H1 : Heap) (locs1 : List Loc), va_P (dC, dI) cls_all (gW LH ad km T1) H1 → va_D A (gW LH ad km T1) → va_S A H0 H1 locs1 → W p l e R s m args below meth c H1 locs1 cells slots Q (F0 m (pc + 3) ls rest)) : W p l e R s m args below meth c H locs cells slots Q (F0 m pc ls (.int v :: .ref (ad 10) :: rest)) := gw_puti okH hx hb hT i_Machine t_Machine t_Machine_ok n_Machine hown hK hP hD hS 10 4 100 (Nat.le_of_ble_eq_true rfl) rfl rfl (Nat.le_of_ble_eq_true rfl) rfl rfl (hT _ fl_Machine_52) (fun _ h9 => h9) rfl (ty := .int) (by decide +kernel) rfl rfl hdg kk
theorem wr_Machine_55 (hx : p.tables.exec = Jvm.exec) (hb : c.code = cc) (hT : ∀ w ∈ lw_good, w.before args s = true) (hown : s.vm.findClass R_Machine = some m.cls) (hK : va_K (dC, dI) cls_all (gT LH km) s) (hP : va_P (dC, dI) cls_all (gW LH ad km T) H) (hD : va_D A (gW LH ad km T)) (hS : va_S A H0 H locs) {v : Int32} (hdg : decode cc pc = .ok (.putfield 55, 3)) (kk : ∀ (T1 : gSt), T1 = sI T 102 0 v → ∀ (H1 : Heap) (locs1 : List Loc), va_P (dC, dI) cls_all (gW LH ad km T1) H1 → va_D A (gW LH ad km T1) → va_S A H0 H1 locs1 → W p l e R s m args below meth c H1 locs1 cells slots Q (F0 m (pc + 3) ls rest)) : W p l e R s m args below meth c H locs cells slots Q (F0 m pc ls (.int v :: .ref (ad 10) :: rest)) := gw_puti okH hx hb hT i_Machine t_Machine t_Machine_ok n_Machine hown hK hP hD hS 10 6 102 (Nat.le_of_ble_eq_true rfl) rfl rfl (Nat.le_of_ble_eq_true rfl) rfl rfl (hT _ fl_Machine_55) (fun _ h9 => h9) rfl (ty := .int) (by decide +kernel) rfl rfl hdg kk
theorem wr_Machine_58 (hx : p.tables.exec = Jvm.exec) (hb : c.code = cc) (hT : ∀ w ∈ lw_good, w.before args s = true) (hown : s.vm.findClass R_Machine = some m.cls) (hK : va_K (dC, dI) cls_all (gT LH km) s) (hP : va_P (dC, dI) cls_all (gW LH ad km T) H) (hD : va_D A (gW LH ad km T)) (hS : va_S A H0 H locs) {v : Int32} (hdg : decode cc pc = .ok (.putfield 58, 3)) (kk : ∀ (T1 : gSt), T1 = sI T 104 0 v → ∀ (H1 : Heap) (locs1 : List Loc), va_P (dC, dI) cls_all (gW LH ad km T1) H1 → va_D A (gW LH ad km T1) → va_S A H0 H1 locs1 → W p l e R s m args below meth c H1 locs1 cells slots Q (F0 m (pc + 3) ls rest)) : W p l e R s m args below meth c H locs cells slots Q (F0 m pc ls (.int v :: .ref (ad 10) :: rest)) := gw_puti okH hx hb hT i_Machine t_Machine t_Machine_ok n_Machine hown hK hP hD hS 10 8 104 (Nat.le_of_ble_eq_true rfl) rfl rfl (Nat.le_of_ble_eq_true rfl) rfl rfl (hT _ fl_Machine_58) (fun _ h9 => h9) rfl (ty := .int) (by decide +kernel) rfl rfl hdg kk
theorem wr_Machine_61 (hx : p.tables.exec = Jvm.exec) (hb : c.code = cc) (hT : ∀ w ∈ lw_good, w.before args s = true) (hown : s.vm.findClass R_Machine = some m.cls) (hK : va_K (dC, dI) cls_all (gT LH km) s) (hP : va_P (dC, dI) cls_all (gW LH ad km T) H) (hD : va_D A (gW LH ad km T)) (hS : va_S A H0 H locs) {v : Int32} (hdg : decode cc pc = .ok (.putfield 61, 3)) (kk : ∀ (T1 : gSt), T1 = sI T 105 0 v → ∀ (H1 : Heap) (locs1 : List Loc), va_P (dC, dI) cls_all (gW LH ad km T1) H1 → va_D A (gW LH ad km T1) → va_S A H0 H1 locs1 → W p l e R s m args below meth c H1 locs1 cells slots Q (F0 m (pc + 3) ls rest)) : W p l e R s m args below meth c H locs cells slots Q (F0 m pc ls (.int v :: .ref (ad 10) :: rest)) := gw_puti okH hx hb hT i_Machine t_Machine t_Machine_ok n_Machine hown hK hP hD hS 10 9 105 (Nat.le_of_ble_eq_true rfl) rfl rfl (Nat.le_of_ble_eq_true rfl) rfl rfl (hT _ fl_Machine_61) (fun _ h9 => h9) rfl (ty := .int) (by decide +kernel) rfl rfl hdg kk
theorem wr_Machine_64 (hx : p.tables.exec = Jvm.exec) (hb : c.code = cc) (hT : ∀ w ∈ lw_good, w.before args s = true) (hown : s.vm.findClass R_Machine = some m.cls) (hK : va_K (dC, dI) cls_all (gT LH km) s) (hP : va_P (dC, dI) cls_all (gW LH ad km T) H) (hD : va_D A (gW LH ad km T)) (hS : va_S A H0 H locs) {v : Int32} (hdg : decode cc pc = .ok (.putfield 64, 3)) (kk : ∀ (T1 : gSt), T1 = sI T 107 0 v → ∀ (H1 : Heap) (locs1 : List Loc), va_P (dC, dI) cls_all (gW LH ad km T1) H1 → va_D A (gW LH ad km T1) → va_S A H0 H1 locs1 → W p l e R s m args below meth c H1 locs1 cells slots Q (F0 m (pc + 3) ls rest)) : W p l e R s m args below meth c H locs cells slots Q (F0 m pc ls (.int v :: .ref (ad 10) :: rest)) := gw_puti okH hx hb hT i_Machine t_Machine t_Machine_ok n_Machine hown hK hP hD hS 10 11 107 (Nat.le_of_ble_eq_true rfl) rfl rfl (Nat.le_of_ble_eq_true rfl) rfl rfl (hT _ fl_Machine_64) (fun _ h9 => h9) rfl (ty := .int) (by decide +kernel) rfl rfl hdg kk
theorem wr_Machine_67 (hx : p.tables.exec = Jvm.exec) (hb : c.code = cc) (hT : ∀ w ∈ lw_good, w.before args s = true) (hown : s.vm.findClass R_Machine = some m.cls) (hK : va_K (dC, dI) cls_all (gT LH km) s) (hP : va_P (dC, dI) cls_all (gW LH ad km T) H) (hD : va_D A (gW LH ad km T)) (hS : va_S A H0 H locs) {v : Int32} (hdg : decode cc pc = .ok (.putfield 67, 3)) (kk : ∀ (T1 : gSt), T1 = sI T 108 0 v → ∀ (H1 : Heap) (locs1 : List Loc), va_P (dC, dI) cls_all (gW LH ad km T1) H1 → va_D A (gW LH ad km T1) → va_S A H0 H1 locs1 → W p l e R s m args below meth c H1 locs1 cells slots Q (F0 m (pc + 3) ls rest)) : W p l e R s m args below meth c H locs cells slots Q (F0 m pc ls (.int v :: .ref (ad 10) :: rest)) := gw_puti okH hx hb hT i_Machine t_Machine t_Machine_ok n_Machine hown hK hP hD hS 10 12 108 (Nat.le_of_ble_eq_true rfl) rfl rfl (Nat.le_of_ble_eq_true rfl) rfl rfl (hT _ fl_Machine_67) (fun _ h9 => h9) rfl (ty := .int) (by decide +kernel) rfl rfl hdg kk
theorem wr_Machine_70 (hx : p.tables.exec = Jvm.exec) (hb : c.code = cc) (hT : ∀ w ∈ lw_good, w.before args s = true) (hown : s.vm.findClass R_Machine = some m.cls) (hK : va_K (dC, dI) cls_all (gT LH km) s) (hP : va_P (dC, dI) cls_all (gW LH ad km T) H) (hD : va_D A (gW LH ad km T)) (hS : va_S A H0 H locs) {v : Int32} (hdg : decode cc pc = .ok (.putfield 70, 3)) (kk : ∀ (T1 : gSt), T1 = sI T 109 0 v → ∀ (H1 : Heap) (locs1 : List Loc), va_P (dC, dI) cls_all (gW LH ad km T1) H1 → va_D A (gW LH ad km T1) → va_S A H0 H1 locs1 → W p l e R s m args below meth c H1 locs1 cells slots Q (F0 m (pc + 3) ls rest)) : W p l e R s m args below meth c H locs cells slots Q (F0 m pc ls (.int v :: .ref (ad 10) :: rest)) := gw_puti okH hx hb hT i_Machine t_Machine t_Machine_ok n_Machine hown hK hP hD hS 10 13 109 (Nat.le_of_ble_eq_true rfl) rfl rfl (Nat.le_of_ble_eq_true rfl) rfl rfl (hT _ fl_Machine_70) (fun _ h9 => h9) rfl (ty := .int) (by decide +kernel) rfl rfl hdg kk
theorem wr_Machine_73 (hx : p.tables.exec = Jvm.exec) (hb : c.code = cc) (hT : ∀ w ∈ lw_good, w.before args s = true) (hown : s.vm.findClass R_Machine = some m.cls) (hK : va_K (dC, dI) cls_all (gT LH km) s) (hP : va_P (dC, dI) cls_all (gW LH ad km T) H) (hD : va_D A (gW LH ad km T)) (hS : va_S A H0 H locs) {v : Int32} (hdg : decode cc pc = .ok (.putfield 73, 3)) (kk : ∀ (T1 : gSt), T1 = sI T 111 0 v → ∀ (H1 : Heap) (locs1 : List Loc), va_P (dC, dI) cls_all (gW LH ad km T1) H1 → va_D A (gW LH ad km T1) → va_S A H0 H1 locs1 → W p l e R s m args below meth c H1 locs1 cells slots Q (F0 m (pc + 3) ls rest)) : W p l e R s m args below meth c H locs cells slots Q (F0 m pc ls (.int v :: .ref (ad 10) :: rest)) := gw_puti okH hx hb hT i_Machine t_Machine t_Machine_ok n_Machine hown hK hP hD hS 10 15 111 (Nat.le_of_ble_eq_true rfl) rfl rfl (Nat.le_of_ble_eq_true rfl) rfl rfl (hT _ fl_Machine_73) (fun _ h9 => h9) rfl (ty := .int) (by decide +kernel) rfl rfl hdg kk
theorem wr_Machine_76 (hx : p.tables.exec = Jvm.exec) (hb : c.code = cc) (hT : ∀ w ∈ lw_good, w.before args s = true) (hown : s.vm.findClass R_Machine = some m.cls) (hK : va_K (dC, dI) cls_all (gT LH km) s) (hP : va_P (dC, dI) cls_all (gW LH ad km T) H) (hD : va_D A (gW LH ad km T)) (hS : va_S A H0 H locs) {v : Int32} (hdg : decode cc pc = .ok (.putfield 76, 3)) (kk : ∀ (T1 : gSt), T1 = sI T 113 0 v → ∀ (H1 : Heap) (locs1 : List Loc), va_P (dC, dI) cls_all (gW LH ad km T1) H1 → va_D A (gW LH ad km T1) → va_S A H0 H1 locs1 → W p l e R s m args below meth c H1 locs1 cells slots Q (F0 m (pc + 3) ls rest)) : W p l e R s m args below meth c H locs cells slots Q (F0 m pc ls (.int v :: .ref (ad 10) :: rest)) := gw_puti okH hx hb hT i_Machine t_Machine t_Machine_ok n_Machine hown hK hP hD hS 10 17 113 (Nat.le_of_ble_eq_true rfl) rfl rfl (Nat.le_of_ble_eq_true rfl) rfl rfl (hT _ fl_Machine_76) (fun _ h9 => h9) rfl (ty := .int) (by decide +kernel) rfl rfl hdg kk
theorem rd_Machine_40 (hx : p.tables.exec = Jvm.exec) (hb : c.code = cc) (hT : ∀ w ∈ lw_good, w.before args s = true) (hown : s.vm.findClass R_Machine = some m.cls) (hK : va_K (dC, dI) cls_all (gT LH km) s) (hP : va_P (dC, dI) cls_all (gW LH ad km T) H) (hdg : decode cc pc = .ok (.getfield 40, 3)) (kk : W p l e R s m args below meth c H locs cells slots Q (F0 m (pc + 3) ls (.ref (ad 2) :: rest))) : W p l e R s m args below meth c H locs cells slots Q (F0 m pc ls (.ref (ad 10) :: rest)) := gw_get hx hb hT i_Machine hown hK hP 10 1 97 (Nat.le_of_ble_eq_true rfl) rfl rfl (Nat.le_of_ble_eq_true rfl) rfl (gv_o rfl) (hT _ fl_Machine_40) (fun _ h9 => h9) hdg kk
theorem rd_Machine_44 (hx : p.tables.exec = Jvm.exec) (hb : c.code = cc) (hT : ∀ w ∈ lw_good, w.before args s = true) (hown : s.vm.findClass R_Machine = some m.cls) (hK : va_K (dC, dI) cls_all (gT LH km) s) (hP : va_P (dC, dI) cls_all (gW LH ad km T) H) (hdg : decode cc pc = .ok (.getfield 44, 3)) (kk : W p l e R s m args below meth c H locs cells slots Q (F0 m (pc + 3) ls (.int (T.1 106 0) :: rest))) : W p l e R s m args below meth c H locs cells slots Q (F0 m pc ls (.ref (ad 10) :: rest)) := gw_get hx hb hT i_Machine hown hK hP 10 10 106 (Nat.le_of_ble_eq_true rfl) rfl rfl (Nat.le_of_ble_eq_true rfl) rfl (gv_i rfl) (hT _ fl_Machine_44) (fun _ h9 => h9) hdg kk
theorem rd_Machine_73 (hx : p.tables.exec = Jvm.exec) (hb : c.code = cc) (hT : ∀ w ∈ lw_good, w.before args s = true) (hown : s.vm.findClass R_Machine = some m.cls) (hK : va_K (dC, dI) cls_all (gT LH km) s) (hP : va_P (dC, dI) cls_all (gW LH ad km T) H) (hdg : decode cc pc = .ok (.getfield 73, 3)) (kk : W p l e R s m args below meth c H locs cells slots Q (F0 m (pc + 3) ls (.int (T.1 111 0) :: rest))) : W p l e R s m args below meth c H locs cells slots Q (F0 m pc ls (.ref (ad 10) :: rest)) := gw_get hx hb hT i_Machine hown hK hP 10 15 111 (Nat.le_of_ble_eq_true rfl) rfl rfl (Nat.le_of_ble_eq_true rfl) rfl (gv_i rfl) (hT _ fl_Machine_73) (fun _ h9 => h9) hdg kk
theorem rd_Machine_30 (hx : p.tables.exec = Jvm.exec) (hb : c.code = cc) (hT : ∀ w ∈ lw_good, w.before args s = true) (hown : s.vm.findClass R_Machine = some m.cls) (hK : va_K (dC, dI) cls_all (gT LH km) s) (hP : va_P (dC, dI) cls_all (gW LH ad km T) H) (hdg : decode cc pc = .ok (.getfield 30, 3)) (kk : W p l e R s m args below meth c H locs cells slots Q (F0 m (pc + 3) ls (.ref (ad 58) :: rest))) : W p l e R s m args below meth c H locs cells slots Q (F0 m pc ls (.ref (ad 10) :: rest)) := gw_get hx hb hT i_Machine hown hK hP 10 14 110 (Nat.le_of_ble_eq_true rfl) rfl rfl (Nat.le_of_ble_eq_true rfl) rfl (gv_a rfl) (hT _ fl_Machine_30) (fun _ h9 => h9) hdg kk
theorem laH_46 (hx : p.tables.exec = Jvm.exec) (hb : c.code = cc) (hK : va_K (dC, dI) cls_all (gT LH km) s) (hP : va_P (dC, dI) cls_all (gW LH ad km T) H) {x : Int32} (hin : inb x 100) (hdg : decode cc pc = .ok (.iaload, 1)) (kk : W p l e R s m args below meth c H locs cells slots Q (F0 m (pc + 1) ls (.int (T.1 110 x.toNatClampNeg) :: rest))) : W p l e R s m args below meth c H locs cells slots Q (F0 m pc ls (.int x :: .ref (ad 58) :: rest)) := gw_iald hx hb hK hP 46 110 100 58 (Nat.le_of_ble_eq_true rfl) rfl rfl rfl rfl rfl hin hdg kk
theorem saH_46 (hx : p.tables.exec = Jvm.exec) (hb : c.code = cc) (hK : va_K (dC, dI) cls_all (gT LH km) s) (hP : va_P (dC, dI) cls_all (gW LH ad km T) H) (hD : va_D A (gW LH ad km T)) (hS : va_S A H0 H locs) {x : Int32} {v : Int32} (hin : inb x 100) (hdg : decode cc pc = .ok (.iastore, 1)) (kk : ∀ (T1 : gSt), T1 = sI T 110 x.toNatClampNeg v → ∀ (H1 : Heap) (locs1 : List Loc), va_P (dC, dI) cls_all (gW LH ad km T1) H1 → va_D A (gW LH ad km T1) → va_S A H0 H1 locs1 → W p l e R s m args below meth c H1 locs1 cells slots Q (F0 m (pc + 1) ls rest)) : W p l e R s m args below meth c H locs cells slots Q (F0 m pc ls (.int v :: .int x :: .ref (ad 58) :: rest)) := gw_iast okH hx hb hK hP hD hS 46 110 100 58 (Nat.le_of_ble_eq_true rfl) rfl rfl rfl rfl rfl hin hdg kk
theorem rd_Machine_36 (hx : p.tables.exec = Jvm.exec) (hb : c.code = cc) (hT : ∀ w ∈ lw_good, w.before args s = true) (hown : s.vm.findClass R_Machine = some m.cls) (hK : va_K (dC, dI) cls_all (gT LH km) s) (hP : va_P (dC, dI) cls_all (gW LH ad km T) H) (hdg : decode cc pc = .ok (.getfield 36, 3)) (kk : W p l e R s m args below meth c H locs cells slots Q (F0 m (pc + 3) ls (.ref (ad 3) :: rest))) : W p l e R s m args below meth c H locs cells slots Q (F0 m pc ls (.ref (ad 10) :: rest)) := gw_get hx hb hT i_Machine hown hK hP 10 0 96 (Nat.le_of_ble_eq_true rfl) rfl rfl (Nat.le_of_ble_eq_true rfl) rfl (gv_o rfl) (hT _ fl_Machine_36) (fun _ h9 => h9) hdg kk
theorem rd_Machine_61 (hx : p.tables.exec = Jvm.exec) (hb : c.code = cc) (hT : ∀ w ∈ lw_good, w.before args s = true) (hown : s.vm.findClass R_Machine = some m.cls) (hK : va_K (dC, dI) cls_all (gT LH km) s) (hP : va_P (dC, dI) cls_all (gW LH ad km T) H) (hdg : decode cc pc = .ok (.getfield 61, 3)) (kk : W p l e R s m args below meth c H locs cells slots Q (F0 m (pc + 3) ls (.int (T.1 105 0) :: rest))) : W p l e R s m args below meth c H locs cells slots Q (F0 m pc ls (.ref (ad 10) :: rest)) := gw_get hx hb hT i_Machine hown hK hP 10 9 105 (Nat.le_of_ble_eq_true rfl) rfl rfl (Nat.le_of_ble_eq_true rfl) rfl (gv_i rfl) (hT _ fl_Machine_61) (fun _ h9 => h9) hdg kk
theorem rd_Machine_67 (hx : p.tables.exec = Jvm.exec) (hb : c.code = cc) (hT : ∀ w ∈ lw_good, w.before args s = true) (hown : s.vm.findClass R_Machine = some m.cls) (hK : va_K (dC, dI) cls_all (gT LH km) s) (hP : va_P (dC, dI) cls_all (gW LH ad km T) H) (hdg : decode cc pc = .ok (.getfield 67, 3)) (kk : W p l e R s m args below meth c H locs cells slots Q (F0 m (pc + 3) ls (.int (T.1 108 0) :: rest))) : W p l e R s m args below meth c H locs cells slots Q (F0 m pc ls (.ref (ad 10) :: rest)) := gw_get hx hb hT i_Machine hown hK hP 10 12 108 (Nat.le_of_ble_eq_true rfl) rfl rfl (Nat.le_of_ble_eq_true rfl) rfl (gv_i rfl) (hT _ fl_Machine_67) (fun _ h9 => h9) hdg kk
theorem rd_Machine_52 (hx : p.tables.exec = Jvm.exec) (hb : c.code = cc) (hT : ∀ w ∈ lw_good, w.before args s = true) (hown : s.vm.findClass R_Machine = some m.cls) (hK : va_K (dC, dI) cls_all (gT LH km) s) (hP : va_P (dC, dI) cls_all (gW LH ad km T) H) (hdg : decode cc pc = .ok (.getfield 52, 3)) (kk : W p l e R s m args below meth c H locs cells slots Q (F0 m (pc + 3) ls (.int (T.1 100 0) :: rest))) : W p l e R s m args below meth c H locs cells slots Q (F0 m pc ls (.ref (ad 10) :: rest)) := gw_get hx hb hT i_Machine hown hK hP 10 4 100 (Nat.le_of_ble_eq_true rfl) rfl rfl (Nat.le_of_ble_eq_true rfl) rfl (gv_i rfl) (hT _ fl_Machine_52) (fun _ h9 => h9) hdg kk
theorem rd_Machine_20 (hx : p.tables.exec = Jvm.exec) (hb : c.code = cc) (hT : ∀ w ∈ lw_good, w.before args s = true) (hown : s.vm.findClass R_Machine = some m.cls) (hK : va_K (dC, dI) cls_all (gT LH km) s) (hP : va_P (dC, dI) cls_all (gW LH ad km T) H) (hdg : decode cc pc = .ok (.getfield 20, 3)) (kk : W p l e R s m args below meth c H locs cells slots Q (F0 m (pc + 3) ls (.ref (ad 55) :: rest))) : W p l e R s m args below meth c H locs cells slots Q (F0 m pc ls (.ref (ad 10) :: rest)) := gw_get hx hb hT i_Machine hown hK hP 10 3 99 (Nat.le_of_ble_eq_true rfl) rfl rfl (Nat.le_of_ble_eq_true rfl) rfl (gv_a rfl) (hT _ fl_Machine_20) (fun _ h9 => h9) hdg kk
theorem laH_43 (hx : p.tables.exec = Jvm.exec) (hb : c.code = cc) (hK : va_K (dC, dI) cls_all (gT LH km) s) (hP : va_P (dC, dI) cls_all (gW LH ad km T) H) {x : Int32} (hin : inb x 23200) (hdg : decode cc pc = .ok (.iaload, 1)) (kk : W p l e R s m args below meth c H locs cells slots Q (F0 m (pc + 1) ls (.int (T.1 99 x.toNatClampNeg) :: rest))) : W p l e R s m args below meth c H locs cells slots Q (F0 m pc ls (.int x :: .ref (ad 55) :: rest)) := gw_iald hx hb hK hP 43 99 23200 55 (Nat.le_of_ble_eq_true rfl) rfl rfl rfl rfl rfl hin hdg kk
theorem saH_43 (hx : p.tables.exec = Jvm.exec) (hb : c.code = cc) (hK : va_K (dC, dI) cls_all (gT LH km) s) (hP : va_P (dC, dI) cls_all (gW LH ad km T) H) (hD : va_D A (gW LH ad km T)) (hS : va_S A H0 H locs) {x : Int32} {v : Int32} (hin : inb x 23200) (hdg : decode cc pc = .ok (.iastore, 1)) (kk : ∀ (T1 : gSt), T1 = sI T 99 x.toNatClampNeg v → ∀ (H1 : Heap) (locs1 : List Loc), va_P (dC, dI) cls_all (gW LH ad km T1) H1 → va_D A (gW LH ad km T1) → va_S A H0 H1 locs1 → W p l e R s m args below meth c H1 locs1 cells slots Q (F0 m (pc + 1) ls rest)) : W p l e R s m args below meth c H locs cells slots Q (F0 m pc ls (.int v :: .int x :: .ref (ad 55) :: rest)) := gw_iast okH hx hb hK hP hD hS 43 99 23200 55 (Nat.le_of_ble_eq_true rfl) rfl rfl rfl rfl rfl hin hdg kk
theorem rd_Machine_55 (hx : p.tables.exec = Jvm.exec) (hb : c.code = cc) (hT : ∀ w ∈ lw_good, w.before args s = true) (hown : s.vm.findClass R_Machine = some m.cls) (hK : va_K (dC, dI) cls_all (gT LH km) s) (hP : va_P (dC, dI) cls_all (gW LH ad km T) H) (hdg : decode cc pc = .ok (.getfield 55, 3)) (kk : W p l e R s m args below meth c H locs cells slots Q (F0 m (pc + 3) ls (.int (T.1 102 0) :: rest))) : W p l e R s m args below meth c H locs cells slots Q (F0 m pc ls (.ref (ad 10) :: rest)) := gw_get hx hb hT i_Machine hown hK hP 10 6 102 (Nat.le_of_ble_eq_true rfl) rfl rfl (Nat.le_of_ble_eq_true rfl) rfl (gv_i rfl) (hT _ fl_Machine_55) (fun _ h9 => h9) hdg kk
theorem rd_Machine_24 (hx : p.tables.exec = Jvm.exec) (hb : c.code = cc) (hT : ∀ w ∈ lw_good, w.before args s = true) (hown : s.vm.findClass R_Machine = some m.cls) (hK : va_K (dC, dI) cls_all (gT LH km) s) (hP : va_P (dC, dI) cls_all (gW LH ad km T) H) (hdg : decode cc pc = .ok (.getfield 24, 3)) (kk : W p l e R s m args below meth c H locs cells slots Q (F0 m (pc + 3) ls (.ref (ad 56) :: rest))) : W p l e R s m args below meth c H locs cells slots Q (F0 m pc ls (.ref (ad 10) :: rest)) := gw_get hx hb hT i_Machine hown hK hP 10 5 101 (Nat.le_of_ble_eq_true rfl) rfl rfl (Nat.le_of_ble_eq_true rfl) rfl (gv_a rfl) (hT _ fl_Machine_24) (fun _ h9 => h9) hdg kk
theorem laH_44 (hx : p.tables.exec = Jvm.exec) (hb : c.code = cc) (hK : va_K (dC, dI) cls_all (gT LH km) s) (hP : va_P (dC, dI) cls_all (gW LH ad km T) H) {x : Int32} (hin : inb x 697) (hdg : decode cc pc = .ok (.iaload, 1)) (kk : W p l e R s m args below meth c H locs cells slots Q (F0 m (pc + 1) ls (.int (T.1 101 x.toNatClampNeg) :: rest))) : W p l e R s m args below meth c H locs cells slots Q (F0 m pc ls (.int x :: .ref (ad 56) :: rest)) := gw_iald hx hb hK hP 44 101 697 56 (Nat.le_of_ble_eq_true rfl) rfl rfl rfl rfl rfl hin hdg kk
theorem saH_44 (hx : p.tables.exec = Jvm.exec) (hb : c.code = cc) (hK : va_K (dC, dI) cls_all (gT LH km) s) (hP : va_P (dC, dI) cls_all (gW LH ad km T) H) (hD : va_D A (gW LH ad km T)) (hS : va_S A H0 H locs) {x : Int32} {v : Int32} (hin : inb x 697) (hdg : decode cc pc = .ok (.iastore, 1)) (kk : ∀ (T1 : gSt), T1 = sI T 101 x.toNatClampNeg v → ∀ (H1 : Heap) (locs1 : List Loc), va_P (dC, dI) cls_all (gW LH ad km T1) H1 → va_D A (gW LH ad km T1) → va_S A H0 H1 locs1 → W p l e R s m args below meth c H1 locs1 cells slots Q (F0 m (pc + 1) ls rest)) : W p l e R s m args below meth c H locs cells slots Q (F0 m pc ls (.int v :: .int x :: .ref (ad 56) :: rest)) := gw_iast okH hx hb hK hP hD hS 44 101 697 56 (Nat.le_of_ble_eq_true rfl) rfl rfl rfl rfl rfl hin hdg kk
theorem rd_Machine_76 (hx : p.tables.exec = Jvm.exec) (hb : c.code = cc) (hT : ∀ w ∈ lw_good, w.before args s = true) (hown : s.vm.findClass R_Machine = some m.cls) (hK : va_K (dC, dI) cls_all (gT LH km) s) (hP : va_P (dC, dI) cls_all (gW LH ad km T) H) (hdg : decode cc pc = .ok (.getfield 76, 3)) (kk : W p l e R s m args below meth c H locs cells slots Q (F0 m (pc + 3) ls (.int (T.1 113 0) :: rest))) : W p l e R s m args below meth c H locs cells slots Q (F0 m pc ls (.ref (ad 10) :: rest)) := gw_get hx hb hT i_Machine hown hK hP 10 17 113 (Nat.le_of_ble_eq_true rfl) rfl rfl (Nat.le_of_ble_eq_true rfl) rfl (gv_i rfl) (hT _ fl_Machine_76) (fun _ h9 => h9) hdg kk
theorem rd_Machine_33 (hx : p.tables.exec = Jvm.exec) (hb : c.code = cc) (hT : ∀ w ∈ lw_good, w.before args s = true) (hown : s.vm.findClass R_Machine = some m.cls) (hK : va_K (dC, dI) cls_all (gT LH km) s) (hP : va_P (dC, dI) cls_all (gW LH ad km T) H) (hdg : decode cc pc = .ok (.getfield 33, 3)) (kk : W p l e R s m args below meth c H locs cells slots Q (F0 m (pc + 3) ls (.ref (ad 59) :: rest))) : W p l e R s m args below meth c H locs cells slots Q (F0 m pc ls (.ref (ad 10) :: rest)) := gw_get hx hb hT i_Machine hown hK hP 10 16 112 (Nat.le_of_ble_eq_true rfl) rfl rfl (Nat.le_of_ble_eq_true rfl) rfl (gv_a rfl) (hT _ fl_Machine_33) (fun _ h9 => h9) hdg kk
theorem laH_47 (hx : p.tables.exec = Jvm.exec) (hb : c.code = cc) (hK : va_K (dC, dI) cls_all (gT LH km) s) (hP : va_P (dC, dI) cls_all (gW LH ad km T) H) {x : Int32} (hin : inb x 300) (hdg : decode cc pc = .ok (.iaload, 1)) (kk : W p l e R s m args below meth c H locs cells slots Q (F0 m (pc + 1) ls (.int (T.1 112 x.toNatClampNeg) :: rest))) : W p l e R s m args below meth c H locs cells slots Q (F0 m pc ls (.int x :: .ref (ad 59) :: rest)) := gw_iald hx hb hK hP 47 112 300 59 (Nat.le_of_ble_eq_true rfl) rfl rfl rfl rfl rfl hin hdg kk
theorem saH_47 (hx : p.tables.exec = Jvm.exec) (hb : c.code = cc) (hK : va_K (dC, dI) cls_all (gT LH km) s) (hP : va_P (dC, dI) cls_all (gW LH ad km T) H) (hD : va_D A (gW LH ad km T)) (hS : va_S A H0 H locs) {x : Int32} {v : Int32} (hin : inb x 300) (hdg : decode cc pc = .ok (.iastore, 1)) (kk : ∀ (T1 : gSt), T1 = sI T 112 x.toNatClampNeg v → ∀ (H1 : Heap) (locs1 : List Loc), va_P (dC, dI) cls_all (gW LH ad km T1) H1 → va_D A (gW LH ad km T1) → va_S A H0 H1 locs1 → W p l e R s m args below meth c H1 locs1 cells slots Q (F0 m (pc + 1) ls rest)) : W p l e R s m args below meth c H locs cells slots Q (F0 m pc ls (.int v :: .int x :: .ref (ad 59) :: rest)) := gw_iast okH hx hb hK hP hD hS 47 112 300 59 (Nat.le_of_ble_eq_true rfl) rfl rfl rfl rfl rfl hin hdg kk
theorem rd_Machine_58 (hx : p.tables.exec = Jvm.exec) (hb : c.code = cc) (hT : ∀ w ∈ lw_good, w.before args s = true) (hown : s.vm.findClass R_Machine = some m.cls) (hK : va_K (dC, dI) cls_all (gT LH km) s) (hP : va_P (dC, dI) cls_all (gW LH ad km T) H) (hdg : decode cc pc = .ok (.getfield 58, 3)) (kk : W p l e R s m args below meth c H locs cells slots Q (F0 m (pc + 3) ls (.int (T.1 104 0) :: rest))) : W p l e R s m args below meth c H locs cells slots Q (F0 m pc ls (.ref (ad 10) :: rest)) := gw_get hx hb hT i_Machine hown hK hP 10 8 104 (Nat.le_of_ble_eq_true rfl) rfl rfl (Nat.le_of_ble_eq_true rfl) rfl (gv_i rfl) (hT _ fl_Machine_58) (fun _ h9 => h9) hdg kk
end GV
def mt_Memory_begin (l : Launch) (dC : Nat → ClassId) (dI : Nat → Nat → Nat) (ea ev ad : Nat → Nat) (km : Nat → ClassId) (F : gF) (d : Nat) : Prop := ∀ (T : gSt) (p1 : Int32) (p2 : Int32) (r : Int32) (rl : Int64) (T' : gSt), F 222 T [p1, p2] [] = some (r, rl, T') → GMv l dC dI LH ad km ea ev y_Memory_begin w_Memory_begin (rmD d) [.ref (ad 11), .int p1, .int p2] T T'
theorem pd_Memory_begin : (y_Memory_begin).cls = R_Memory ∧ (y_Memory_begin).cls ≠ "java/lang/invoke/MethodHandle" ∧ (y_Memory_begin).cls ≠ "java/lang/invoke/VarHandle" ∧ (parseMethodDescriptor (y_Memory_begin).desc).map (fun d => d.parameters.length) = some 2 := by decide +kernel
def mt_Machine_enter (l : Launch) (dC : Nat → ClassId) (dI : Nat → Nat → Nat) (ea ev ad : Nat → Nat) (km : Nat → ClassId) (F : gF) (d : Nat) : Prop := ∀ (T : gSt) (p1 : Int32) (p2 : Int32) (r : Int32) (rl : Int64) (T' : gSt), F 217 T [p1, p2] [] = some (r, rl, T') → GMv l dC dI LH ad km ea ev y_Machine_enter w_Machine_enter (rmD d) [.ref (ad 10), .int p1, .int p2] T T'
theorem pd_Machine_enter : (y_Machine_enter).cls = R_Machine ∧ (y_Machine_enter).cls ≠ "java/lang/invoke/MethodHandle" ∧ (y_Machine_enter).cls ≠ "java/lang/invoke/VarHandle" ∧ (parseMethodDescriptor (y_Machine_enter).desc).map (fun d => d.parameters.length) = some 2 := by decide +kernel
def mt_Machine_goOn (l : Launch) (dC : Nat → ClassId) (dI : Nat → Nat → Nat) (ea ev ad : Nat → Nat) (km : Nat → ClassId) (F : gF) (d : Nat) : Prop := ∀ (T : gSt)  (r : Int32) (rl : Int64) (T' : gSt), F 196 T [] [] = some (r, rl, T') → GMv l dC dI LH ad km ea ev y_Machine_goOn w_Machine_goOn (rmD d) [.ref (ad 10)] T T'
theorem pd_Machine_goOn : (y_Machine_goOn).cls = R_Machine ∧ (y_Machine_goOn).cls ≠ "java/lang/invoke/MethodHandle" ∧ (y_Machine_goOn).cls ≠ "java/lang/invoke/VarHandle" ∧ (parseMethodDescriptor (y_Machine_goOn).desc).map (fun d => d.parameters.length) = some 0 := by decide +kernel
def mt_Machine_setFrame (l : Launch) (dC : Nat → ClassId) (dI : Nat → Nat → Nat) (ea ev ad : Nat → Nat) (km : Nat → ClassId) (F : gF) (d : Nat) : Prop := ∀ (T : gSt) (p1 : Int32) (p2 : Int32) (r : Int32) (rl : Int64) (T' : gSt), F 202 T [p1, p2] [] = some (r, rl, T') → GMv l dC dI LH ad km ea ev y_Machine_setFrame w_Machine_setFrame (rmD d) [.ref (ad 10), .int p1, .int p2] T T'
theorem pd_Machine_setFrame : (y_Machine_setFrame).cls = R_Machine ∧ (y_Machine_setFrame).cls ≠ "java/lang/invoke/MethodHandle" ∧ (y_Machine_setFrame).cls ≠ "java/lang/invoke/VarHandle" ∧ (parseMethodDescriptor (y_Machine_setFrame).desc).map (fun d => d.parameters.length) = some 2 := by decide +kernel
def mt_Machine_doControl (l : Launch) (dC : Nat → ClassId) (dI : Nat → Nat → Nat) (ea ev ad : Nat → Nat) (km : Nat → ClassId) (F : gF) (d : Nat) : Prop := ∀ (T : gSt) (p1 : Int32) (p2 : Int32) (p3 : Int32) (r : Int32) (rl : Int64) (T' : gSt), F 214 T [p1, p2, p3] [] = some (r, rl, T') → GMv l dC dI LH ad km ea ev y_Machine_doControl w_Machine_doControl (rmD d) [.ref (ad 10), .int p1, .int p2, .int p3] T T'
theorem pd_Machine_doControl : (y_Machine_doControl).cls = R_Machine ∧ (y_Machine_doControl).cls ≠ "java/lang/invoke/MethodHandle" ∧ (y_Machine_doControl).cls ≠ "java/lang/invoke/VarHandle" ∧ (parseMethodDescriptor (y_Machine_doControl).desc).map (fun d => d.parameters.length) = some 3 := by decide +kernel
def mt_Machine_doMaking (l : Launch) (dC : Nat → ClassId) (dI : Nat → Nat → Nat) (ea ev ad : Nat → Nat) (km : Nat → ClassId) (F : gF) (d : Nat) : Prop := ∀ (T : gSt) (p1 : Int32) (p2 : Int32) (p3 : Int32) (r : Int32) (rl : Int64) (T' : gSt), F 211 T [p1, p2, p3] [] = some (r, rl, T') → GMv l dC dI LH ad km ea ev y_Machine_doMaking w_Machine_doMaking (rmD d) [.ref (ad 10), .int p1, .int p2, .int p3] T T'
theorem pd_Machine_doMaking : (y_Machine_doMaking).cls = R_Machine ∧ (y_Machine_doMaking).cls ≠ "java/lang/invoke/MethodHandle" ∧ (y_Machine_doMaking).cls ≠ "java/lang/invoke/VarHandle" ∧ (parseMethodDescriptor (y_Machine_doMaking).desc).map (fun d => d.parameters.length) = some 3 := by decide +kernel
def mt_Machine_doIndexed (l : Launch) (dC : Nat → ClassId) (dI : Nat → Nat → Nat) (ea ev ad : Nat → Nat) (km : Nat → ClassId) (F : gF) (d : Nat) : Prop := ∀ (T : gSt) (p1 : Int32) (p2 : Int32) (r : Int32) (rl : Int64) (T' : gSt), F 210 T [p1, p2] [] = some (r, rl, T') → GMv l dC dI LH ad km ea ev y_Machine_doIndexed w_Machine_doIndexed (rmD d) [.ref (ad 10), .int p1, .int p2] T T'
theorem pd_Machine_doIndexed : (y_Machine_doIndexed).cls = R_Machine ∧ (y_Machine_doIndexed).cls ≠ "java/lang/invoke/MethodHandle" ∧ (y_Machine_doIndexed).cls ≠ "java/lang/invoke/VarHandle" ∧ (parseMethodDescriptor (y_Machine_doIndexed).desc).map (fun d => d.parameters.length) = some 2 := by decide +kernel
def mt_Machine_doPointed (l : Launch) (dC : Nat → ClassId) (dI : Nat → Nat → Nat) (ea ev ad : Nat → Nat) (km : Nat → ClassId) (F : gF) (d : Nat) : Prop := ∀ (T : gSt) (p1 : Int32) (p2 : Int32) (p3 : Int32) (r : Int32) (rl : Int64) (T' : gSt), F 207 T [p1, p2, p3] [] = some (r, rl, T') → GMv l dC dI LH ad km ea ev y_Machine_doPointed w_Machine_doPointed (rmD d) [.ref (ad 10), .int p1, .int p2, .int p3] T T'
theorem pd_Machine_doPointed : (y_Machine_doPointed).cls = R_Machine ∧ (y_Machine_doPointed).cls ≠ "java/lang/invoke/MethodHandle" ∧ (y_Machine_doPointed).cls ≠ "java/lang/invoke/VarHandle" ∧ (parseMethodDescriptor (y_Machine_doPointed).desc).map (fun d => d.parameters.length) = some 3 := by decide +kernel
def mt_Machine_doNumeric (l : Launch) (dC : Nat → ClassId) (dI : Nat → Nat → Nat) (ea ev ad : Nat → Nat) (km : Nat → ClassId) (F : gF) (d : Nat) : Prop := ∀ (T : gSt) (p1 : Int32) (r : Int32) (rl : Int64) (T' : gSt), F 206 T [p1] [] = some (r, rl, T') → GMv l dC dI LH ad km ea ev y_Machine_doNumeric w_Machine_doNumeric (rmD d) [.ref (ad 10), .int p1] T T'
theorem pd_Machine_doNumeric : (y_Machine_doNumeric).cls = R_Machine ∧ (y_Machine_doNumeric).cls ≠ "java/lang/invoke/MethodHandle" ∧ (y_Machine_doNumeric).cls ≠ "java/lang/invoke/VarHandle" ∧ (parseMethodDescriptor (y_Machine_doNumeric).desc).map (fun d => d.parameters.length) = some 1 := by decide +kernel
def mt_Machine_doSimple (l : Launch) (dC : Nat → ClassId) (dI : Nat → Nat → Nat) (ea ev ad : Nat → Nat) (km : Nat → ClassId) (F : gF) (d : Nat) : Prop := ∀ (T : gSt) (p1 : Int32) (p2 : Int32) (p3 : Int32) (r : Int32) (rl : Int64) (T' : gSt), F 203 T [p1, p2, p3] [] = some (r, rl, T') → GMv l dC dI LH ad km ea ev y_Machine_doSimple w_Machine_doSimple (rmD d) [.ref (ad 10), .int p1, .int p2, .int p3] T T'
theorem pd_Machine_doSimple : (y_Machine_doSimple).cls = R_Machine ∧ (y_Machine_doSimple).cls ≠ "java/lang/invoke/MethodHandle" ∧ (y_Machine_doSimple).cls ≠ "java/lang/invoke/VarHandle" ∧ (parseMethodDescriptor (y_Machine_doSimple).desc).map (fun d => d.parameters.length) = some 3 := by decide +kernel
def mt_Machine_push (l : Launch) (dC : Nat → ClassId) (dI : Nat → Nat → Nat) (ea ev ad : Nat → Nat) (km : Nat → ClassId) (F : gF) (d : Nat) : Prop := ∀ (T : gSt) (p1 : Int32) (r : Int32) (rl : Int64) (T' : gSt), F 197 T [p1] [] = some (r, rl, T') → GMv l dC dI LH ad km ea ev y_Machine_push w_Machine_push (rmD d) [.ref (ad 10), .int p1] T T'
theorem pd_Machine_push : (y_Machine_push).cls = R_Machine ∧ (y_Machine_push).cls ≠ "java/lang/invoke/MethodHandle" ∧ (y_Machine_push).cls ≠ "java/lang/invoke/VarHandle" ∧ (parseMethodDescriptor (y_Machine_push).desc).map (fun d => d.parameters.length) = some 1 := by decide +kernel
def mt_Machine_pop (l : Launch) (dC : Nat → ClassId) (dI : Nat → Nat → Nat) (ea ev ad : Nat → Nat) (km : Nat → ClassId) (F : gF) (d : Nat) : Prop := ∀ (T : gSt)  (r : Int32) (rl : Int64) (T' : gSt), F 198 T [] [] = some (r, rl, T') → GMi l dC dI LH ad km ea ev y_Machine_pop w_Machine_pop (rmD d) [.ref (ad 10)] T r T'
theorem pd_Machine_pop : (y_Machine_pop).cls = R_Machine ∧ (y_Machine_pop).cls ≠ "java/lang/invoke/MethodHandle" ∧ (y_Machine_pop).cls ≠ "java/lang/invoke/VarHandle" ∧ (parseMethodDescriptor (y_Machine_pop).desc).map (fun d => d.parameters.length) = some 0 := by decide +kernel
def mt_Machine_wordAt (l : Launch) (dC : Nat → ClassId) (dI : Nat → Nat → Nat) (ea ev ad : Nat → Nat) (km : Nat → ClassId) (F : gF) (d : Nat) : Prop := ∀ (T : gSt) (p1 : Int32) (r : Int32) (rl : Int64) (T' : gSt), F 199 T [p1] [] = some (r, rl, T') → GMi l dC dI LH ad km ea ev y_Machine_wordAt w_Machine_wordAt (rmD d) [.ref (ad 10), .int p1] T r T'
theorem pd_Machine_wordAt : (y_Machine_wordAt).cls = R_Machine ∧ (y_Machine_wordAt).cls ≠ "java/lang/invoke/MethodHandle" ∧ (y_Machine_wordAt).cls ≠ "java/lang/invoke/VarHandle" ∧ (parseMethodDescriptor (y_Machine_wordAt).desc).map (fun d => d.parameters.length) = some 1 := by decide +kernel
def mt_Machine_setWord (l : Launch) (dC : Nat → ClassId) (dI : Nat → Nat → Nat) (ea ev ad : Nat → Nat) (km : Nat → ClassId) (F : gF) (d : Nat) : Prop := ∀ (T : gSt) (p1 : Int32) (p2 : Int32) (r : Int32) (rl : Int64) (T' : gSt), F 200 T [p1, p2] [] = some (r, rl, T') → GMv l dC dI LH ad km ea ev y_Machine_setWord w_Machine_setWord (rmD d) [.ref (ad 10), .int p1, .int p2] T T'
theorem pd_Machine_setWord : (y_Machine_setWord).cls = R_Machine ∧ (y_Machine_setWord).cls ≠ "java/lang/invoke/MethodHandle" ∧ (y_Machine_setWord).cls ≠ "java/lang/invoke/VarHandle" ∧ (parseMethodDescriptor (y_Machine_setWord).desc).map (fun d => d.parameters.length) = some 2 := by decide +kernel
def mt_Machine_frame (l : Launch) (dC : Nat → ClassId) (dI : Nat → Nat → Nat) (ea ev ad : Nat → Nat) (km : Nat → ClassId) (F : gF) (d : Nat) : Prop := ∀ (T : gSt) (p1 : Int32) (r : Int32) (rl : Int64) (T' : gSt), F 201 T [p1] [] = some (r, rl, T') → GMi l dC dI LH ad km ea ev y_Machine_frame w_Machine_frame (rmD d) [.ref (ad 10), .int p1] T r T'
theorem pd_Machine_frame : (y_Machine_frame).cls = R_Machine ∧ (y_Machine_frame).cls ≠ "java/lang/invoke/MethodHandle" ∧ (y_Machine_frame).cls ≠ "java/lang/invoke/VarHandle" ∧ (parseMethodDescriptor (y_Machine_frame).desc).map (fun d => d.parameters.length) = some 1 := by decide +kernel
def mt_Machine_nextInput (l : Launch) (dC : Nat → ClassId) (dI : Nat → Nat → Nat) (ea ev ad : Nat → Nat) (km : Nat → ClassId) (F : gF) (d : Nat) : Prop := ∀ (T : gSt)  (r : Int32) (rl : Int64) (T' : gSt), F 204 T [] [] = some (r, rl, T') → GMi l dC dI LH ad km ea ev y_Machine_nextInput w_Machine_nextInput (rmD d) [.ref (ad 10)] T r T'
theorem pd_Machine_nextInput : (y_Machine_nextInput).cls = R_Machine ∧ (y_Machine_nextInput).cls ≠ "java/lang/invoke/MethodHandle" ∧ (y_Machine_nextInput).cls ≠ "java/lang/invoke/VarHandle" ∧ (parseMethodDescriptor (y_Machine_nextInput).desc).map (fun d => d.parameters.length) = some 0 := by decide +kernel
def mt_Machine_keepPrinted (l : Launch) (dC : Nat → ClassId) (dI : Nat → Nat → Nat) (ea ev ad : Nat → Nat) (km : Nat → ClassId) (F : gF) (d : Nat) : Prop := ∀ (T : gSt) (p1 : Int32) (r : Int32) (rl : Int64) (T' : gSt), F 205 T [p1] [] = some (r, rl, T') → GMv l dC dI LH ad km ea ev y_Machine_keepPrinted w_Machine_keepPrinted (rmD d) [.ref (ad 10), .int p1] T T'
theorem pd_Machine_keepPrinted : (y_Machine_keepPrinted).cls = R_Machine ∧ (y_Machine_keepPrinted).cls ≠ "java/lang/invoke/MethodHandle" ∧ (y_Machine_keepPrinted).cls ≠ "java/lang/invoke/VarHandle" ∧ (parseMethodDescriptor (y_Machine_keepPrinted).desc).map (fun d => d.parameters.length) = some 1 := by decide +kernel
def mt_Machine_raise (l : Launch) (dC : Nat → ClassId) (dI : Nat → Nat → Nat) (ea ev ad : Nat → Nat) (km : Nat → ClassId) (F : gF) (d : Nat) : Prop := ∀ (T : gSt) (p1 : Int32) (r : Int32) (rl : Int64) (T' : gSt), F 216 T [p1] [] = some (r, rl, T') → GMv l dC dI LH ad km ea ev y_Machine_raise w_Machine_raise (rmD d) [.ref (ad 10), .int p1] T T'
theorem pd_Machine_raise : (y_Machine_raise).cls = R_Machine ∧ (y_Machine_raise).cls ≠ "java/lang/invoke/MethodHandle" ∧ (y_Machine_raise).cls ≠ "java/lang/invoke/VarHandle" ∧ (parseMethodDescriptor (y_Machine_raise).desc).map (fun d => d.parameters.length) = some 1 := by decide +kernel
def mt_Machine_fetch (l : Launch) (dC : Nat → ClassId) (dI : Nat → Nat → Nat) (ea ev ad : Nat → Nat) (km : Nat → ClassId) (F : gF) (d : Nat) : Prop := ∀ (T : gSt) (p1 : Int32) (p2 : Int32) (r : Int32) (rl : Int64) (T' : gSt), F 208 T [p1, p2] [] = some (r, rl, T') → GMv l dC dI LH ad km ea ev y_Machine_fetch w_Machine_fetch (rmD d) [.ref (ad 10), .int p1, .int p2] T T'
theorem pd_Machine_fetch : (y_Machine_fetch).cls = R_Machine ∧ (y_Machine_fetch).cls ≠ "java/lang/invoke/MethodHandle" ∧ (y_Machine_fetch).cls ≠ "java/lang/invoke/VarHandle" ∧ (parseMethodDescriptor (y_Machine_fetch).desc).map (fun d => d.parameters.length) = some 2 := by decide +kernel
def mt_Memory_get (l : Launch) (dC : Nat → ClassId) (dI : Nat → Nat → Nat) (ea ev ad : Nat → Nat) (km : Nat → ClassId) (F : gF) (d : Nat) : Prop := ∀ (T : gSt) (p1 : Int32) (r : Int32) (rl : Int64) (T' : gSt), F 233 T [p1] [] = some (r, rl, T') → GMi l dC dI LH ad km ea ev y_Memory_get w_Memory_get (rmD d) [.ref (ad 11), .int p1] T r T'
theorem pd_Memory_get : (y_Memory_get).cls = R_Memory ∧ (y_Memory_get).cls ≠ "java/lang/invoke/MethodHandle" ∧ (y_Memory_get).cls ≠ "java/lang/invoke/VarHandle" ∧ (parseMethodDescriptor (y_Memory_get).desc).map (fun d => d.parameters.length) = some 1 := by decide +kernel
def mt_Machine_store (l : Launch) (dC : Nat → ClassId) (dI : Nat → Nat → Nat) (ea ev ad : Nat → Nat) (km : Nat → ClassId) (F : gF) (d : Nat) : Prop := ∀ (T : gSt) (p1 : Int32) (p2 : Int32) (r : Int32) (rl : Int64) (T' : gSt), F 209 T [p1, p2] [] = some (r, rl, T') → GMv l dC dI LH ad km ea ev y_Machine_store w_Machine_store (rmD d) [.ref (ad 10), .int p1, .int p2] T T'
theorem pd_Machine_store : (y_Machine_store).cls = R_Machine ∧ (y_Machine_store).cls ≠ "java/lang/invoke/MethodHandle" ∧ (y_Machine_store).cls ≠ "java/lang/invoke/VarHandle" ∧ (parseMethodDescriptor (y_Machine_store).desc).map (fun d => d.parameters.length) = some 2 := by decide +kernel
def mt_Memory_put (l : Launch) (dC : Nat → ClassId) (dI : Nat → Nat → Nat) (ea ev ad : Nat → Nat) (km : Nat → ClassId) (F : gF) (d : Nat) : Prop := ∀ (T : gSt) (p1 : Int32) (p2 : Int32) (r : Int32) (rl : Int64) (T' : gSt), F 234 T [p1, p2] [] = some (r, rl, T') → GMv l dC dI LH ad km ea ev y_Memory_put w_Memory_put (rmD d) [.ref (ad 11), .int p1, .int p2] T T'
theorem pd_Memory_put : (y_Memory_put).cls = R_Memory ∧ (y_Memory_put).cls ≠ "java/lang/invoke/MethodHandle" ∧ (y_Memory_put).cls ≠ "java/lang/invoke/VarHandle" ∧ (parseMethodDescriptor (y_Memory_put).desc).map (fun d => d.parameters.length) = some 2 := by decide +kernel
def mt_Machine_placeFor (l : Launch) (dC : Nat → ClassId) (dI : Nat → Nat → Nat) (ea ev ad : Nat → Nat) (km : Nat → ClassId) (F : gF) (d : Nat) : Prop := ∀ (T : gSt) (p1 : Int32) (p2 : Int32) (p3 : Int32) (r : Int32) (rl : Int64) (T' : gSt), F 213 T [p1, p2, p3] [] = some (r, rl, T') → GMi l dC dI LH ad km ea ev y_Machine_placeFor w_Machine_placeFor (rmD d) [.ref (ad 10), .int p1, .int p2, .int p3] T r T'
theorem pd_Machine_placeFor : (y_Machine_placeFor).cls = R_Machine ∧ (y_Machine_placeFor).cls ≠ "java/lang/invoke/MethodHandle" ∧ (y_Machine_placeFor).cls ≠ "java/lang/invoke/VarHandle" ∧ (parseMethodDescriptor (y_Machine_placeFor).desc).map (fun d => d.parameters.length) = some 3 := by decide +kernel
def mt_Machine_makeRow (l : Launch) (dC : Nat → ClassId) (dI : Nat → Nat → Nat) (ea ev ad : Nat → Nat) (km : Nat → ClassId) (F : gF) (d : Nat) : Prop := ∀ (T : gSt) (p1 : Int32) (p2 : Int32) (r : Int32) (rl : Int64) (T' : gSt), F 212 T [p1, p2] [] = some (r, rl, T') → GMv l dC dI LH ad km ea ev y_Machine_makeRow w_Machine_makeRow (rmD d) [.ref (ad 10), .int p1, .int p2] T T'
theorem pd_Machine_makeRow : (y_Machine_makeRow).cls = R_Machine ∧ (y_Machine_makeRow).cls ≠ "java/lang/invoke/MethodHandle" ∧ (y_Machine_makeRow).cls ≠ "java/lang/invoke/VarHandle" ∧ (parseMethodDescriptor (y_Machine_makeRow).desc).map (fun d => d.parameters.length) = some 2 := by decide +kernel
def mt_Memory_pageWords (l : Launch) (dC : Nat → ClassId) (dI : Nat → Nat → Nat) (ea ev ad : Nat → Nat) (km : Nat → ClassId) (F : gF) (d : Nat) : Prop := ∀ (T : gSt)  (r : Int32) (rl : Int64) (T' : gSt), F 223 T [] [] = some (r, rl, T') → GMi l dC dI LH ad km ea ev y_Memory_pageWords w_Memory_pageWords (rmD d) [.ref (ad 11)] T r T'
theorem pd_Memory_pageWords : (y_Memory_pageWords).cls = R_Memory ∧ (y_Memory_pageWords).cls ≠ "java/lang/invoke/MethodHandle" ∧ (y_Memory_pageWords).cls ≠ "java/lang/invoke/VarHandle" ∧ (parseMethodDescriptor (y_Memory_pageWords).desc).map (fun d => d.parameters.length) = some 0 := by decide +kernel
def mt_Memory_make (l : Launch) (dC : Nat → ClassId) (dI : Nat → Nat → Nat) (ea ev ad : Nat → Nat) (km : Nat → ClassId) (F : gF) (d : Nat) : Prop := ∀ (T : gSt) (p1 : Int32) (p2 : Int32) (r : Int32) (rl : Int64) (T' : gSt), F 230 T [p1, p2] [] = some (r, rl, T') → GMi l dC dI LH ad km ea ev y_Memory_make w_Memory_make (rmD d) [.ref (ad 11), .int p1, .int p2] T r T'
theorem pd_Memory_make : (y_Memory_make).cls = R_Memory ∧ (y_Memory_make).cls ≠ "java/lang/invoke/MethodHandle" ∧ (y_Memory_make).cls ≠ "java/lang/invoke/VarHandle" ∧ (parseMethodDescriptor (y_Memory_make).desc).map (fun d => d.parameters.length) = some 2 := by decide +kernel
def mt_Memory_open (l : Launch) (dC : Nat → ClassId) (dI : Nat → Nat → Nat) (ea ev ad : Nat → Nat) (km : Nat → ClassId) (F : gF) (d : Nat) : Prop := ∀ (T : gSt)  (r : Int32) (rl : Int64) (T' : gSt), F 228 T [] [] = some (r, rl, T') → GMi l dC dI LH ad km ea ev y_Memory_open w_Memory_open (rmD d) [.ref (ad 11)] T r T'
theorem pd_Memory_open : (y_Memory_open).cls = R_Memory ∧ (y_Memory_open).cls ≠ "java/lang/invoke/MethodHandle" ∧ (y_Memory_open).cls ≠ "java/lang/invoke/VarHandle" ∧ (parseMethodDescriptor (y_Memory_open).desc).map (fun d => d.parameters.length) = some 0 := by decide +kernel
def mt_Memory_closeFrom (l : Launch) (dC : Nat → ClassId) (dI : Nat → Nat → Nat) (ea ev ad : Nat → Nat) (km : Nat → ClassId) (F : gF) (d : Nat) : Prop := ∀ (T : gSt) (p1 : Int32) (r : Int32) (rl : Int64) (T' : gSt), F 229 T [p1] [] = some (r, rl, T') → GMv l dC dI LH ad km ea ev y_Memory_closeFrom w_Memory_closeFrom (rmD d) [.ref (ad 11), .int p1] T T'
theorem pd_Memory_closeFrom : (y_Memory_closeFrom).cls = R_Memory ∧ (y_Memory_closeFrom).cls ≠ "java/lang/invoke/MethodHandle" ∧ (y_Memory_closeFrom).cls ≠ "java/lang/invoke/VarHandle" ∧ (parseMethodDescriptor (y_Memory_closeFrom).desc).map (fun d => d.parameters.length) = some 1 := by decide +kernel
def mt_Machine_pushTry (l : Launch) (dC : Nat → ClassId) (dI : Nat → Nat → Nat) (ea ev ad : Nat → Nat) (km : Nat → ClassId) (F : gF) (d : Nat) : Prop := ∀ (T : gSt) (p1 : Int32) (r : Int32) (rl : Int64) (T' : gSt), F 215 T [p1] [] = some (r, rl, T') → GMv l dC dI LH ad km ea ev y_Machine_pushTry w_Machine_pushTry (rmD d) [.ref (ad 10), .int p1] T T'
theorem pd_Machine_pushTry : (y_Machine_pushTry).cls = R_Machine ∧ (y_Machine_pushTry).cls ≠ "java/lang/invoke/MethodHandle" ∧ (y_Machine_pushTry).cls ≠ "java/lang/invoke/VarHandle" ∧ (parseMethodDescriptor (y_Machine_pushTry).desc).map (fun d => d.parameters.length) = some 1 := by decide +kernel
def mt_Machine_leave (l : Launch) (dC : Nat → ClassId) (dI : Nat → Nat → Nat) (ea ev ad : Nat → Nat) (km : Nat → ClassId) (F : gF) (d : Nat) : Prop := ∀ (T : gSt) (p1 : Int32) (r : Int32) (rl : Int64) (T' : gSt), F 218 T [p1] [] = some (r, rl, T') → GMv l dC dI LH ad km ea ev y_Machine_leave w_Machine_leave (rmD d) [.ref (ad 10), .int p1] T T'
theorem pd_Machine_leave : (y_Machine_leave).cls = R_Machine ∧ (y_Machine_leave).cls ≠ "java/lang/invoke/MethodHandle" ∧ (y_Machine_leave).cls ≠ "java/lang/invoke/VarHandle" ∧ (parseMethodDescriptor (y_Machine_leave).desc).map (fun d => d.parameters.length) = some 1 := by decide +kernel
set_option maxHeartbeats 4000000 in
set_option maxRecDepth 100000 in
theorem sp_Steps_checkTry (l : Launch) (dC : Nat → ClassId) (dI : Nat → Nat → Nat) (ea ev ad : Nat → Nat) (km : Nat → ClassId) (F : gF) (nf d : Nat) (h_Code_emit : mt_Code_emit l dC dI ea ev ad km F d) (h_Steps_checkBlock : mt_Steps_checkBlock l dC dI ea ev ad km F d) (h_Code_aim : mt_Code_aim l dC dI ea ev ad km F d) (h_Steps_varsGiven : mt_Steps_varsGiven l dC dI ea ev ad km F d) (h_Scope_forgetKnown : mt_Scope_forgetKnown l dC dI ea ev ad km F d) (h_Scope_meet : mt_Scope_meet l dC dI ea ev ad km F d) (h_Source_startOf : mt_Source_startOf l dC dI ea ev ad km F d) (h_Exprs_demand : mt_Exprs_demand l dC dI ea ev ad km F d) (T0 : gSt) (p1 : Int32) (p2 : Int32) (r0 : Int32) (rl0 : Int64) (T9 : gSt) (hR : rb_Steps_checkTry F nf T0 p1 p2 = some (r0, rl0, T9)) : GMv l dC dI LH ad km ea ev y_Steps_checkTry w_Steps_checkTry (rmD (d + 1)) [.ref (ad 9), .int p1, .int p2] T0 T9 := by
  intro sz
  refine Met.ofW (cc := b_Steps_checkTry) (maxL := 9) (ret := none) (by decide) rfl ?_
  intro p e s m args below meth c s₁ B hml hv
  obtain ⟨rfl, hsz, hP, hK, hD0, hnw, henv⟩ := hv
  have hx := B.exec
  have hb := B.bytes
  have hr := B.returns
  have hT : ∀ w ∈ lw_good, w.before _ s = true := fun w h => atoms_spec (ws := w_Steps_checkTry) B.pre w (List.mem_cons_of_mem _ h)
  have hown : s.vm.findClass R_Steps = some m.cls := findClass_of_methodNamed B.named
  subst hsz
  have hD := hD0.self (sz := s.heap.size)
  clear hD0
  generalize hAe : va_A (gW LH ad km T0) s.heap.size = A at hD henv ⊢
  have hA : ∀ q : Nat, s.heap.size ≤ q → A q := fun q h => by rw [← hAe]; exact Or.inr h
  have hS : va_S A s.heap s.heap [] := va_S.rf
  have hl := lv_entry ([.ref (ad 9), .int p1, .int p2]) (n := 9) (Nat.le_of_ble_eq_true rfl)
  rw [lg_entry_eq]
  generalize (lg_sl ([.ref (ad 9), .int p1, .int p2]) ++ List.replicate (9 - (lg_sl ([.ref (ad 9), .int p1, .int p2])).length) Slot.unset).toArray = ls at hl ⊢
  have hl : lv_has ls 9 [(0, .ref (ad 9)), (1, .int p1), (2, .int p2)] := hl
  unfold rb_Steps_checkTry at hR
  refine lv_aload_n hx hb d_Steps_checkTry_0 rfl (lv_at hl 0 rfl) ?_
  refine rd_Steps_34 hx hb hT hown hK hP d_Steps_checkTry_1 ?_
  refine rd_Steps_215 hx hb hT hown hK hP d_Steps_checkTry_4 ?_
  refine lv_topl (fun z1 e1 => ?_)
  replace hR := lK_e e1 hR
  refine lv_lstore_n (lv' := [(3, .long z1), (0, .ref (ad 9)), (1, .int p1), (2, .int p2)]) hx hb d_Steps_checkTry_7 rfl hl (by decide) rfl (fun ls hl => ?_)
  refine lv_aload_n hx hb d_Steps_checkTry_8 rfl (lv_at hl 1 rfl) ?_
  refine rd_Steps_39 hx hb hT hown hK hP d_Steps_checkTry_9 ?_
  refine lv_bipush (v := 54) hx hb d_Steps_checkTry_12 (by decide) ?_
  refine lv_iconst (v := 0) hx hb d_Steps_checkTry_14 (by decide) ?_
  refine lv_iconst (v := 0) hx hb d_Steps_checkTry_15 (by decide) ?_
  replace hR := bi_e hR
  obtain ⟨r2, l2, T2, hc2, hR⟩ := hR
  refine gcV_i (rest := []) ⟨hx, hb, hml, hown, hT⟩ (h_Code_emit _ _ _ _ _ _ _ hc2) (cwV 3 hT (gV ml_Steps_96 im_Code_emit se_Code_emit ini_Code co_Code_emit) rfl rfl rfl pd_Code_emit ⟨rm_hi, rm_lo (Nat.le_of_ble_eq_true rfl)⟩) hK hP hD hS hA hnw henv (Nat.le_of_ble_eq_true rfl) rfl rfl hl.1 rfl (Nat.le_of_ble_eq_true rfl) d_Steps_checkTry_16 ⟨Nat.le_refl _, Nat.le_refl _⟩ (fun H locs hP hD hS => ?_)
  clear hc2
  refine lv_istore (lv' := [(5, .int r2), (3, .long z1), (0, .ref (ad 9)), (1, .int p1), (2, .int p2)]) hx hb d_Steps_checkTry_19 hl (by decide) rfl (fun ls hl => ?_)
  refine lv_aload_n hx hb d_Steps_checkTry_21 rfl (lv_at hl 2 rfl) ?_
  refine rd_Steps_34 hx hb hT hown hK hP d_Steps_checkTry_22 ?_
  refine lv_dup hx hb d_Steps_checkTry_25 rfl ?_
  refine rd_Steps_266 hx hb hT hown hK hP d_Steps_checkTry_26 ?_
  refine lv_iconst (v := 1) hx hb d_Steps_checkTry_29 (by decide) ?_
  refine lv_iadd hx hb d_Steps_checkTry_30 ?_
  refine wr_Steps_266 hx hb hT hown hK hP hD hS d_Steps_checkTry_31 (fun T3 eT H locs hP hD hS => ?_)
  replace hR := stK_e eT hR
  clear eT
  refine lv_aload_n hx hb d_Steps_checkTry_34 rfl (lv_at hl 2 rfl) ?_
  refine lv_aload_n hx hb d_Steps_checkTry_35 rfl (lv_at hl 2 rfl) ?_
  refine rd_Steps_9 hx hb hT hown hK hP d_Steps_checkTry_36 ?_
  refine rd_Steps_128 hx hb hT hown hK hP d_Steps_checkTry_39 ?_
  refine lv_iload_n hx hb d_Steps_checkTry_42 rfl (lv_at hl 3 rfl) ?_
  replace hR := gd_e hR
  obtain ⟨b4, hR⟩ := hR
  refine laH_7 hx hb hK hP b4 d_Steps_checkTry_43 ?_
  refine lv_iload_n hx hb d_Steps_checkTry_44 rfl (lv_at hl 4 rfl) ?_
  refine lv_iconst (v := 1) hx hb d_Steps_checkTry_45 (by decide) ?_
  refine lv_iadd hx hb d_Steps_checkTry_46 ?_
  replace hR := bi_e hR
  obtain ⟨r5, l5, T5, hc5, hR⟩ := hR
  refine gcV_v (rest := []) ⟨hx, hb, hml, hown, hT⟩ (h_Steps_checkBlock _ _ _ _ _ _ hc5) (cwV 2 hT (gV ml_Steps_73 im_Steps_checkBlock se_Steps_checkBlock ini_Steps co_Steps_checkBlock) rfl rfl rfl pd_Steps_checkBlock ⟨rm_hi, rm_lo (Nat.le_of_ble_eq_true rfl)⟩) hK hP hD hS hA hnw henv (Nat.le_of_ble_eq_true rfl) rfl rfl hl.1 rfl (Nat.le_of_ble_eq_true rfl) d_Steps_checkTry_47 ⟨Nat.le_refl _, Nat.le_refl _⟩ (fun H locs hP hD hS => ?_)
  clear hc5
  refine lv_aload_n hx hb d_Steps_checkTry_50 rfl (lv_at hl 2 rfl) ?_
  refine rd_Steps_34 hx hb hT hown hK hP d_Steps_checkTry_51 ?_
  refine lv_dup hx hb d_Steps_checkTry_54 rfl ?_
  refine rd_Steps_266 hx hb hT hown hK hP d_Steps_checkTry_55 ?_
  refine lv_iconst (v := 1) hx hb d_Steps_checkTry_58 (by decide) ?_
  refine lv_isub hx hb d_Steps_checkTry_59 ?_
  refine wr_Steps_266 hx hb hT hown hK hP hD hS d_Steps_checkTry_60 (fun T6 eT H locs hP hD hS => ?_)
  replace hR := stK_e eT hR
  clear eT
  refine lv_aload_n hx hb d_Steps_checkTry_63 rfl (lv_at hl 2 rfl) ?_
  refine rd_Steps_34 hx hb hT hown hK hP d_Steps_checkTry_64 ?_
  refine rd_Steps_215 hx hb hT hown hK hP d_Steps_checkTry_67 ?_
  refine lv_topl (fun z7 e7 => ?_)
  replace hR := lK_e e7 hR
  refine lv_lstore (lv' := [(6, .long z7), (5, .int r2), (3, .long z1), (0, .ref (ad 9)), (1, .int p1), (2, .int p2)]) hx hb d_Steps_checkTry_70 hl (by decide) rfl (fun ls hl => ?_)
  refine lv_aload_n hx hb d_Steps_checkTry_72 rfl (lv_at hl 3 rfl) ?_
  refine rd_Steps_39 hx hb hT hown hK hP d_Steps_checkTry_73 ?_
  refine lv_bipush (v := 55) hx hb d_Steps_checkTry_76 (by decide) ?_
  refine lv_iconst (v := 0) hx hb d_Steps_checkTry_78 (by decide) ?_
  refine lv_iconst (v := 0) hx hb d_Steps_checkTry_79 (by decide) ?_
  replace hR := bi_e hR
  obtain ⟨r8, l8, T8, hc8, hR⟩ := hR
  refine gcV_i (rest := []) ⟨hx, hb, hml, hown, hT⟩ (h_Code_emit _ _ _ _ _ _ _ hc8) (cwV 3 hT (gV ml_Steps_96 im_Code_emit se_Code_emit ini_Code co_Code_emit) rfl rfl rfl pd_Code_emit ⟨rm_hi, rm_lo (Nat.le_of_ble_eq_true rfl)⟩) hK hP hD hS hA hnw henv (Nat.le_of_ble_eq_true rfl) rfl rfl hl.1 rfl (Nat.le_of_ble_eq_true rfl) d_Steps_checkTry_80 ⟨Nat.le_refl _, Nat.le_refl _⟩ (fun H locs hP hD hS => ?_)
  clear hc8
  refine lv_pop hx hb d_Steps_checkTry_83 rfl ?_
  refine lv_aload_n hx hb d_Steps_checkTry_84 rfl (lv_at hl 3 rfl) ?_
  refine rd_Steps_39 hx hb hT hown hK hP d_Steps_checkTry_85 ?_
  refine lv_bipush (v := 50) hx hb d_Steps_checkTry_88 (by decide) ?_
  refine lv_iconst (v := 0) hx hb d_Steps_checkTry_90 (by decide) ?_
  refine lv_iconst (v := 0) hx hb d_Steps_checkTry_91 (by decide) ?_
  replace hR := bi_e hR
  obtain ⟨r9, l9, T9, hc9, hR⟩ := hR
  refine gcV_i (rest := []) ⟨hx, hb, hml, hown, hT⟩ (h_Code_emit _ _ _ _ _ _ _ hc9) (cwV 3 hT (gV ml_Steps_96 im_Code_emit se_Code_emit ini_Code co_Code_emit) rfl rfl rfl pd_Code_emit ⟨rm_hi, rm_lo (Nat.le_of_ble_eq_true rfl)⟩) hK hP hD hS hA hnw henv (Nat.le_of_ble_eq_true rfl) rfl rfl hl.1 rfl (Nat.le_of_ble_eq_true rfl) d_Steps_checkTry_92 ⟨Nat.le_refl _, Nat.le_refl _⟩ (fun H locs hP hD hS => ?_)
  clear hc9
  refine lv_istore (lv' := [(8, .int r9), (6, .long z7), (5, .int r2), (3, .long z1), (0, .ref (ad 9)), (1, .int p1), (2, .int p2)]) hx hb d_Steps_checkTry_95 hl (by decide) rfl (fun ls hl => ?_)
  refine lv_aload_n hx hb d_Steps_checkTry_97 rfl (lv_at hl 4 rfl) ?_
  refine rd_Steps_39 hx hb hT hown hK hP d_Steps_checkTry_98 ?_
  refine lv_iload hx hb d_Steps_checkTry_101 (lv_at hl 2 rfl) ?_
  replace hR := bi_e hR
  obtain ⟨r10, l10, T10, hc10, hR⟩ := hR
  refine gcV_v (rest := []) ⟨hx, hb, hml, hown, hT⟩ (h_Code_aim _ _ _ _ _ hc10) (cwV 1 hT (gV ml_Steps_231 im_Code_aim se_Code_aim ini_Code co_Code_aim) rfl rfl rfl pd_Code_aim ⟨rm_hi, rm_lo (Nat.le_of_ble_eq_true rfl)⟩) hK hP hD hS hA hnw henv (Nat.le_of_ble_eq_true rfl) rfl rfl hl.1 rfl (Nat.le_of_ble_eq_true rfl) d_Steps_checkTry_103 ⟨Nat.le_refl _, Nat.le_refl _⟩ (fun H locs hP hD hS => ?_)
  clear hc10
  refine lv_aload_n hx hb d_Steps_checkTry_106 rfl (lv_at hl 4 rfl) ?_
  refine rd_Steps_34 hx hb hT hown hK hP d_Steps_checkTry_107 ?_
  refine lv_lload_n hx hb d_Steps_checkTry_110 rfl (lv_at hl 3 rfl) ?_
  refine wr_Steps_215 hx hb hT hown hK hP hD hS d_Steps_checkTry_111 (fun T11 eT H locs hP hD hS => ?_)
  replace hR := stK_e eT hR
  clear eT
  refine lv_aload_n hx hb d_Steps_checkTry_114 rfl (lv_at hl 4 rfl) ?_
  refine rd_Steps_34 hx hb hT hown hK hP d_Steps_checkTry_115 ?_
  refine lv_aload_n hx hb d_Steps_checkTry_118 rfl (lv_at hl 4 rfl) ?_
  refine lv_aload_n hx hb d_Steps_checkTry_119 rfl (lv_at hl 4 rfl) ?_
  refine rd_Steps_9 hx hb hT hown hK hP d_Steps_checkTry_120 ?_
  refine rd_Steps_128 hx hb hT hown hK hP d_Steps_checkTry_123 ?_
  refine lv_iload_n hx hb d_Steps_checkTry_126 rfl (lv_at hl 5 rfl) ?_
  replace hR := gd_e hR
  obtain ⟨b12, hR⟩ := hR
  refine laH_7 hx hb hK hP b12 d_Steps_checkTry_127 ?_
  refine lv_iload_n hx hb d_Steps_checkTry_128 rfl (lv_at hl 6 rfl) ?_
  refine lv_iconst (v := 1) hx hb d_Steps_checkTry_129 (by decide) ?_
  refine lv_iadd hx hb d_Steps_checkTry_130 ?_
  replace hR := bi_e hR
  obtain ⟨r13, l13, T13, hc13, hR⟩ := hR
  refine gcV_i (rest := [.ref (ad 6)]) ⟨hx, hb, hml, hown, hT⟩ (h_Steps_varsGiven _ _ _ _ _ _ hc13) (cwV 2 hT (gV ml_Steps_238 im_Steps_varsGiven se_Steps_varsGiven ini_Steps co_Steps_varsGiven) rfl rfl rfl pd_Steps_varsGiven ⟨rm_hi, rm_lo (Nat.le_of_ble_eq_true rfl)⟩) hK hP hD hS hA hnw henv (Nat.le_of_ble_eq_true rfl) rfl rfl hl.1 rfl (Nat.le_of_ble_eq_true rfl) d_Steps_checkTry_131 ⟨Nat.le_refl _, Nat.le_refl _⟩ (fun H locs hP hD hS => ?_)
  clear hc13
  replace hR := bi_e hR
  obtain ⟨r14, l14, T14, hc14, hR⟩ := hR
  refine gcV_v (rest := []) ⟨hx, hb, hml, hown, hT⟩ (h_Scope_forgetKnown _ _ _ _ _ hc14) (cwV 1 hT (gV ml_Steps_241 im_Scope_forgetKnown se_Scope_forgetKnown ini_Scope co_Scope_forgetKnown) rfl rfl rfl pd_Scope_forgetKnown ⟨rm_hi, rm_lo (Nat.le_of_ble_eq_true rfl)⟩) hK hP hD hS hA hnw henv (Nat.le_of_ble_eq_true rfl) rfl rfl hl.1 rfl (Nat.le_of_ble_eq_true rfl) d_Steps_checkTry_134 ⟨Nat.le_refl _, Nat.le_refl _⟩ (fun H locs hP hD hS => ?_)
  clear hc14
  refine lv_aload_n hx hb d_Steps_checkTry_137 rfl (lv_at hl 4 rfl) ?_
  refine rd_Steps_39 hx hb hT hown hK hP d_Steps_checkTry_138 ?_
  refine lv_iconst (v := 4) hx hb d_Steps_checkTry_141 (by decide) ?_
  refine lv_bipush (v := 60) hx hb d_Steps_checkTry_142 (by decide) ?_
  refine lv_aload_n hx hb d_Steps_checkTry_144 rfl (lv_at hl 4 rfl) ?_
  refine rd_Steps_34 hx hb hT hown hK hP d_Steps_checkTry_145 ?_
  refine rd_Steps_269 hx hb hT hown hK hP d_Steps_checkTry_148 ?_
  refine lv_iadd hx hb d_Steps_checkTry_151 ?_
  refine lv_iconst (v := 1) hx hb d_Steps_checkTry_152 (by decide) ?_
  replace hR := bi_e hR
  obtain ⟨r15, l15, T15, hc15, hR⟩ := hR
  refine gcV_i (rest := []) ⟨hx, hb, hml, hown, hT⟩ (h_Code_emit _ _ _ _ _ _ _ hc15) (cwV 3 hT (gV ml_Steps_96 im_Code_emit se_Code_emit ini_Code co_Code_emit) rfl rfl rfl pd_Code_emit ⟨rm_hi, rm_lo (Nat.le_of_ble_eq_true rfl)⟩) hK hP hD hS hA hnw henv (Nat.le_of_ble_eq_true rfl) rfl rfl hl.1 rfl (Nat.le_of_ble_eq_true rfl) d_Steps_checkTry_153 ⟨Nat.le_refl _, Nat.le_refl _⟩ (fun H locs hP hD hS => ?_)
  clear hc15
  refine lv_pop hx hb d_Steps_checkTry_156 rfl ?_
  refine lv_aload_n hx hb d_Steps_checkTry_157 rfl (lv_at hl 4 rfl) ?_
  refine rd_Steps_34 hx hb hT hown hK hP d_Steps_checkTry_158 ?_
  refine lv_dup hx hb d_Steps_checkTry_161 rfl ?_
  refine rd_Steps_269 hx hb hT hown hK hP d_Steps_checkTry_162 ?_
  refine lv_iconst (v := 1) hx hb d_Steps_checkTry_165 (by decide) ?_
  refine lv_iadd hx hb d_Steps_checkTry_166 ?_
  refine wr_Steps_269 hx hb hT hown hK hP hD hS d_Steps_checkTry_167 (fun T16 eT H locs hP hD hS => ?_)
  replace hR := stK_e eT hR
  clear eT
  refine lv_aload_n hx hb d_Steps_checkTry_170 rfl (lv_at hl 4 rfl) ?_
  refine lv_aload_n hx hb d_Steps_checkTry_171 rfl (lv_at hl 4 rfl) ?_
  refine rd_Steps_9 hx hb hT hown hK hP d_Steps_checkTry_172 ?_
  refine rd_Steps_228 hx hb hT hown hK hP d_Steps_checkTry_175 ?_
  refine lv_iload_n hx hb d_Steps_checkTry_178 rfl (lv_at hl 5 rfl) ?_
  replace hR := gd_e hR
  obtain ⟨b17, hR⟩ := hR
  refine laH_8 hx hb hK hP b17 d_Steps_checkTry_179 ?_
  refine lv_iload_n hx hb d_Steps_checkTry_180 rfl (lv_at hl 6 rfl) ?_
  refine lv_iconst (v := 1) hx hb d_Steps_checkTry_181 (by decide) ?_
  refine lv_iadd hx hb d_Steps_checkTry_182 ?_
  replace hR := bi_e hR
  obtain ⟨r18, l18, T18, hc18, hR⟩ := hR
  refine gcV_v (rest := []) ⟨hx, hb, hml, hown, hT⟩ (h_Steps_checkBlock _ _ _ _ _ _ hc18) (cwV 2 hT (gV ml_Steps_73 im_Steps_checkBlock se_Steps_checkBlock ini_Steps co_Steps_checkBlock) rfl rfl rfl pd_Steps_checkBlock ⟨rm_hi, rm_lo (Nat.le_of_ble_eq_true rfl)⟩) hK hP hD hS hA hnw henv (Nat.le_of_ble_eq_true rfl) rfl rfl hl.1 rfl (Nat.le_of_ble_eq_true rfl) d_Steps_checkTry_183 ⟨Nat.le_refl _, Nat.le_refl _⟩ (fun H locs hP hD hS => ?_)
  clear hc18
  refine lv_aload_n hx hb d_Steps_checkTry_186 rfl (lv_at hl 4 rfl) ?_
  refine rd_Steps_34 hx hb hT hown hK hP d_Steps_checkTry_187 ?_
  refine lv_dup hx hb d_Steps_checkTry_190 rfl ?_
  refine rd_Steps_269 hx hb hT hown hK hP d_Steps_checkTry_191 ?_
  refine lv_iconst (v := 1) hx hb d_Steps_checkTry_194 (by decide) ?_
  refine lv_isub hx hb d_Steps_checkTry_195 ?_
  refine wr_Steps_269 hx hb hT hown hK hP hD hS d_Steps_checkTry_196 (fun T19 eT H locs hP hD hS => ?_)
  replace hR := stK_e eT hR
  clear eT
  refine lv_aload_n hx hb d_Steps_checkTry_199 rfl (lv_at hl 4 rfl) ?_
  refine rd_Steps_39 hx hb hT hown hK hP d_Steps_checkTry_200 ?_
  refine lv_iload hx hb d_Steps_checkTry_203 (lv_at hl 0 rfl) ?_
  replace hR := bi_e hR
  obtain ⟨r20, l20, T20, hc20, hR⟩ := hR
  refine gcV_v (rest := []) ⟨hx, hb, hml, hown, hT⟩ (h_Code_aim _ _ _ _ _ hc20) (cwV 1 hT (gV ml_Steps_231 im_Code_aim se_Code_aim ini_Code co_Code_aim) rfl rfl rfl pd_Code_aim ⟨rm_hi, rm_lo (Nat.le_of_ble_eq_true rfl)⟩) hK hP hD hS hA hnw henv (Nat.le_of_ble_eq_true rfl) rfl rfl hl.1 rfl (Nat.le_of_ble_eq_true rfl) d_Steps_checkTry_205 ⟨Nat.le_refl _, Nat.le_refl _⟩ (fun H locs hP hD hS => ?_)
  clear hc20
  refine lv_aload_n hx hb d_Steps_checkTry_208 rfl (lv_at hl 4 rfl) ?_
  refine rd_Steps_35 hx hb hT hown hK hP d_Steps_checkTry_209 ?_
  refine lv_aload_n hx hb d_Steps_checkTry_212 rfl (lv_at hl 4 rfl) ?_
  refine rd_Steps_34 hx hb hT hown hK hP d_Steps_checkTry_213 ?_
  refine lv_lload hx hb d_Steps_checkTry_216 (lv_at hl 1 rfl) ?_
  refine lv_aload_n hx hb d_Steps_checkTry_218 rfl (lv_at hl 4 rfl) ?_
  refine rd_Steps_34 hx hb hT hown hK hP d_Steps_checkTry_219 ?_
  refine rd_Steps_215 hx hb hT hown hK hP d_Steps_checkTry_222 ?_
  replace hR := bi_e hR
  obtain ⟨r21, l21, T21, hc21, hR⟩ := hR
  refine gcV_i (rest := [.ref (ad 8)]) ⟨hx, hb, hml, hown, hT⟩ (h_Scope_meet _ _ _ _ _ _ hc21) (cwV 2 hT (gV ml_Steps_234 im_Scope_meet se_Scope_meet ini_Scope co_Scope_meet) rfl rfl rfl pd_Scope_meet ⟨rm_hi, rm_lo (Nat.le_of_ble_eq_true rfl)⟩) hK hP hD hS hA hnw henv (Nat.le_of_ble_eq_true rfl) rfl rfl hl.1 rfl (Nat.le_of_ble_eq_true rfl) d_Steps_checkTry_225 ⟨Nat.le_refl _, Nat.le_refl _⟩ (fun H locs hP hD hS => ?_)
  clear hc21
  refine lv_bipush (v := 8) hx hb d_Steps_checkTry_228 (by decide) ?_
  refine lv_aload_n hx hb d_Steps_checkTry_230 rfl (lv_at hl 4 rfl) ?_
  refine rd_Steps_9 hx hb hT hown hK hP d_Steps_checkTry_231 ?_
  refine lv_aload_n hx hb d_Steps_checkTry_234 rfl (lv_at hl 4 rfl) ?_
  refine rd_Steps_9 hx hb hT hown hK hP d_Steps_checkTry_235 ?_
  refine rd_Steps_103 hx hb hT hown hK hP d_Steps_checkTry_238 ?_
  refine lv_iload_n hx hb d_Steps_checkTry_241 rfl (lv_at hl 5 rfl) ?_
  replace hR := gd_e hR
  obtain ⟨b22, hR⟩ := hR
  refine laH_2 hx hb hK hP b22 d_Steps_checkTry_242 ?_
  replace hR := bi_e hR
  obtain ⟨r23, l23, T23, hc23, hR⟩ := hR
  refine gcV_i (rest := [.int (8 : Int32), .int r21, .ref (ad 8)]) ⟨hx, hb, hml, hown, hT⟩ (h_Source_startOf _ _ _ _ _ hc23) (cwV 1 hT (gV ml_Steps_87 im_Source_startOf se_Source_startOf ini_Source co_Source_startOf) rfl rfl rfl pd_Source_startOf ⟨rm_hi, rm_lo (Nat.le_of_ble_eq_true rfl)⟩) hK hP hD hS hA hnw henv (Nat.le_of_ble_eq_true rfl) rfl rfl hl.1 rfl (Nat.le_of_ble_eq_true rfl) d_Steps_checkTry_243 ⟨Nat.le_refl _, Nat.le_refl _⟩ (fun H locs hP hD hS => ?_)
  clear hc23
  replace hR := bi_e hR
  obtain ⟨r24, l24, T24, hc24, hR⟩ := hR
  refine gcV_v (rest := []) ⟨hx, hb, hml, hown, hT⟩ (h_Exprs_demand _ _ _ _ _ _ _ hc24) (cwV 3 hT (gV ml_Steps_191 im_Exprs_demand se_Exprs_demand ini_Exprs co_Exprs_demand) rfl rfl rfl pd_Exprs_demand ⟨rm_hi, rm_lo (Nat.le_of_ble_eq_true rfl)⟩) hK hP hD hS hA hnw henv (Nat.le_of_ble_eq_true rfl) rfl rfl hl.1 rfl (Nat.le_of_ble_eq_true rfl) d_Steps_checkTry_246 ⟨Nat.le_refl _, Nat.le_refl _⟩ (fun H locs hP hD hS => ?_)
  clear hc24
  obtain ⟨-, -, e3⟩ := re_e hR
  subst e3
  exact W.vret hx hb hr (fun t ht hW => ⟨⟨(), rfl, trivial, by rw [ht]; exact hP, va_K.moved hW.alike hK, hD⟩, hS.F ht⟩) hS.2.2 d_Steps_checkTry_249
set_option maxHeartbeats 4000000 in
set_option maxRecDepth 100000 in
theorem sp_Steps_varsGiven (l : Launch) (dC : Nat → ClassId) (dI : Nat → Nat → Nat) (ea ev ad : Nat → Nat) (km : Nat → ClassId) (F : gF) (nf d : Nat) (h_Exprs_varAlone : mt_Exprs_varAlone l dC dI ea ev ad km F d) (h_Steps_varsGiven : mt_Steps_varsGiven l dC dI ea ev ad km F d) (T0 : gSt) (p1 : Int32) (p2 : Int32) (r0 : Int32) (rl0 : Int64) (T9 : gSt) (hR : rb_Steps_varsGiven F nf T0 p1 p2 = some (r0, rl0, T9)) : GMi l dC dI LH ad km ea ev y_Steps_varsGiven w_Steps_varsGiven (rmD (d + 1)) [.ref (ad 9), .int p1, .int p2] T0 r0 T9 := by
  intro sz
  refine Met.ofW (cc := b_Steps_varsGiven) (maxL := 8) (ret := (some .int)) (by decide) rfl ?_
  intro p e s m args below meth c s₁ B hml hv
  obtain ⟨rfl, hsz, hP, hK, hD0, hnw, henv⟩ := hv
  have hx := B.exec
  have hb := B.bytes
  have hr := B.returns
  have hT : ∀ w ∈ lw_good, w.before _ s = true := fun w h => atoms_spec (ws := w_Steps_varsGiven) B.pre w (List.mem_cons_of_mem _ h)
  have hown : s.vm.findClass R_Steps = some m.cls := findClass_of_methodNamed B.named
  subst hsz
  have hD := hD0.self (sz := s.heap.size)
  clear hD0
  generalize hAe : va_A (gW LH ad km T0) s.heap.size = A at hD henv ⊢
  have hA : ∀ q : Nat, s.heap.size ≤ q → A q := fun q h => by rw [← hAe]; exact Or.inr h
  have hS : va_S A s.heap s.heap [] := va_S.rf
  have hl := lv_entry ([.ref (ad 9), .int p1, .int p2]) (n := 8) (Nat.le_of_ble_eq_true rfl)
  rw [lg_entry_eq]
  generalize (lg_sl ([.ref (ad 9), .int p1, .int p2]) ++ List.replicate (8 - (lg_sl ([.ref (ad 9), .int p1, .int p2])).length) Slot.unset).toArray = ls at hl ⊢
  have hl : lv_has ls 8 [(0, .ref (ad 9)), (1, .int p1), (2, .int p2)] := hl
  obtain ⟨G, hG⟩ : ∃ G : Nat → List (Nat × Value) → List Value → gSt → Prop, G = (fun pc lv stk T => ∀ (H : Heap) (locs : List Loc), va_P (dC, dI) cls_all (gW LH ad km T) H → va_D A (gW LH ad km T) → va_S A s.heap H locs → ∀ (ls : Array Slot), lv_has ls 8 lv → W p l e (headSpec w_Steps_varsGiven (rmD (d + 1))).room s m ([.ref (ad 9), .int p1, .int p2] : List Value).toArray below meth c H locs 0 0 (MQ below (va_Qi (fun (z : Int32) (_ : Unit) => z = r0) (fun _ t => gPost dC dI LH ad km T9 A t) A) ([.ref (ad 9), .int p1, .int p2] : List Value).toArray s 0 0 A) (F0 m pc ls stk)) := ⟨_, rfl⟩
  have lb_115 : ∀ (rec_16 : gSt → Int32 → Int32 → Int32 → Int32 → gR) (hrec_16 : ∀ (T : gSt) (x2 : Int32) (x3 : Int32) (x4 : Int32) (x5 : Int32), rec_16 T x2 x3 x4 x5 = some (r0, rl0, T9) → G 16 [(0, .ref (ad 9)), (2, .int x2), (3, .int x3), (4, .int x4), (5, .int x5)] [] T) (T : gSt) (x2 : Int32) (x3 : Int32) (x4 : Int32) (x5 : Int32), rj_Steps_varsGiven_115 F nf rec_16 T x2 x3 x4 x5 = some (r0, rl0, T9) → G 115 [(0, .ref (ad 9)), (2, .int x2), (3, .int x3), (4, .int x4), (5, .int x5)] [] T := by
    intro rec_16 hrec_16 T x2 x3 x4 x5 hR; unfold rj_Steps_varsGiven_115 at hR; rw [hG]; intro H locs hP hD hS ls hl
    refine lv_iload_n hx hb d_Steps_varsGiven_115 rfl (lv_at hl 2 rfl) ?_
    refine lv_aload_n hx hb d_Steps_varsGiven_116 rfl (lv_at hl 0 rfl) ?_
    refine lv_aload_n hx hb d_Steps_varsGiven_117 rfl (lv_at hl 0 rfl) ?_
    refine rd_Steps_9 hx hb hT hown hK hP d_Steps_varsGiven_118 ?_
    refine rd_Steps_128 hx hb hT hown hK hP d_Steps_varsGiven_121 ?_
    refine lv_iload hx hb d_Steps_varsGiven_124 (lv_at hl 3 rfl) ?_
    replace hR := gd_e hR
    obtain ⟨b28, hR⟩ := hR
    refine laH_7 hx hb hK hP b28 d_Steps_varsGiven_126 ?_
    refine lv_iload_n hx hb d_Steps_varsGiven_127 rfl (lv_at hl 1 rfl) ?_
    refine lv_iconst (v := 1) hx hb d_Steps_varsGiven_128 (by decide) ?_
    refine lv_iadd hx hb d_Steps_varsGiven_129 ?_
    replace hR := bi_e hR
    obtain ⟨r29, l29, T29, hc29, hR⟩ := hR
    refine gcV_i (rest := [.int x3]) ⟨hx, hb, hml, hown, hT⟩ (h_Steps_varsGiven _ _ _ _ _ _ hc29) (cwV 2 hT (gV ml_Steps_238 im_Steps_varsGiven se_Steps_varsGiven ini_Steps co_Steps_varsGiven) rfl rfl rfl pd_Steps_varsGiven ⟨rm_hi, rm_lo (Nat.le_of_ble_eq_true rfl)⟩) hK hP hD hS hA hnw henv (Nat.le_of_ble_eq_true rfl) rfl rfl hl.1 rfl (Nat.le_of_ble_eq_true rfl) d_Steps_varsGiven_130 ⟨Nat.le_refl _, Nat.le_refl _⟩ (fun H locs hP hD hS => ?_)
    clear hc29
    refine lv_aload_n hx hb d_Steps_varsGiven_133 rfl (lv_at hl 0 rfl) ?_
    refine lv_aload_n hx hb d_Steps_varsGiven_134 rfl (lv_at hl 0 rfl) ?_
    refine rd_Steps_9 hx hb hT hown hK hP d_Steps_varsGiven_135 ?_
    refine rd_Steps_228 hx hb hT hown hK hP d_Steps_varsGiven_138 ?_
    refine lv_iload hx hb d_Steps_varsGiven_141 (lv_at hl 3 rfl) ?_
    replace hR := gd_e hR
    obtain ⟨b30, hR⟩ := hR
    refine laH_8 hx hb hK hP b30 d_Steps_varsGiven_143 ?_
    refine lv_iload_n hx hb d_Steps_varsGiven_144 rfl (lv_at hl 1 rfl) ?_
    refine lv_iconst (v := 1) hx hb d_Steps_varsGiven_145 (by decide) ?_
    refine lv_iadd hx hb d_Steps_varsGiven_146 ?_
    replace hR := bi_e hR
    obtain ⟨r31, l31, T31, hc31, hR⟩ := hR
    refine gcV_i (rest := [.int r29, .int x3]) ⟨hx, hb, hml, hown, hT⟩ (h_Steps_varsGiven _ _ _ _ _ _ hc31) (cwV 2 hT (gV ml_Steps_238 im_Steps_varsGiven se_Steps_varsGiven ini_Steps co_Steps_varsGiven) rfl rfl rfl pd_Steps_varsGiven ⟨rm_hi, rm_lo (Nat.le_of_ble_eq_true rfl)⟩) hK hP hD hS hA hnw henv (Nat.le_of_ble_eq_true rfl) rfl rfl hl.1 rfl (Nat.le_of_ble_eq_true rfl) d_Steps_varsGiven_147 ⟨Nat.le_refl _, Nat.le_refl _⟩ (fun H locs hP hD hS => ?_)
    clear hc31
    refine lv_ior hx hb d_Steps_varsGiven_150 ?_
    refine lv_ior hx hb d_Steps_varsGiven_151 ?_
    refine lv_topi (fun z32 e32 => ?_)
    replace hR := vK_e e32 hR
    refine lv_istore_n (lv' := [(3, .int z32), (0, .ref (ad 9)), (2, .int x2), (4, .int x4), (5, .int x5)]) hx hb d_Steps_varsGiven_152 rfl hl (by decide) rfl (fun ls hl => ?_)
    refine lv_aload_n hx hb d_Steps_varsGiven_153 rfl (lv_at hl 1 rfl) ?_
    refine rd_Steps_9 hx hb hT hown hK hP d_Steps_varsGiven_154 ?_
    refine rd_Steps_109 hx hb hT hown hK hP d_Steps_varsGiven_157 ?_
    refine lv_iload hx hb d_Steps_varsGiven_160 (lv_at hl 3 rfl) ?_
    replace hR := gd_e hR
    obtain ⟨b33, hR⟩ := hR
    refine laH_3 hx hb hK hP b33 d_Steps_varsGiven_162 ?_
    refine lv_topi (fun z34 e34 => ?_)
    replace hR := vK_e e34 hR
    refine lv_istore (lv' := [(4, .int z34), (3, .int z32), (0, .ref (ad 9)), (2, .int x2), (5, .int x5)]) hx hb d_Steps_varsGiven_163 hl (by decide) rfl (fun ls hl => ?_)
    obtain ⟨z35, e35⟩ : ∃ y : Int32, y = x5 + (1 : Int32) := ⟨_, rfl⟩
    replace hR := vK_e e35 hR
    refine lv_iinc (v := z35) (lv' := [(5, .int z35), (4, .int z34), (3, .int z32), (0, .ref (ad 9)), (2, .int x2)]) hx hb d_Steps_varsGiven_165 hl (k := 4) rfl (by rw [e35]; rfl) (by decide) rfl (fun ls hl => ?_)
    refine lv_goto (tgt := 16) hx hb d_Steps_varsGiven_168 (by decide) ?_
    have g := hrec_16 T31 x2 z32 z34 z35 hR
    rw [hG] at g
    exact g _ _ hP hD hS _ (lv_sub hl [3, 4, 2, 1, 0] rfl)
  have lb_16 : ∀ (n : Nat) (T : gSt) (x2 : Int32) (x3 : Int32) (x4 : Int32) (x5 : Int32), rl_Steps_varsGiven_16 F nf n T x2 x3 x4 x5 = some (r0, rl0, T9) → G 16 [(0, .ref (ad 9)), (2, .int x2), (3, .int x3), (4, .int x4), (5, .int x5)] [] T := by
    intro n
    induction n with
    | zero => intro T x2 x3 x4 x5 hR; rw [rl_Steps_varsGiven_16] at hR; cases hR
    | succ n ih =>
      intro T x2 x3 x4 x5 hR; rw [rl_Steps_varsGiven_16] at hR; rw [hG]; intro H locs hP hD hS ls hl
      refine lv_iload hx hb d_Steps_varsGiven_16 (lv_at hl 3 rfl) ?_
      refine lv_if_eq (tgt := 171) hx hb d_Steps_varsGiven_18 (by decide) (fun c3 => ?_) (fun c3 => ?_)
      · replace hR := if_p c3 hR
        refine lv_iload_n hx hb d_Steps_varsGiven_171 rfl (lv_at hl 2 rfl) ?_
        obtain ⟨e1, -, e3⟩ := re_e hR
        subst e1; subst e3
        exact W.iret (v := x3) hx hb hr (fun t ht hW => ⟨⟨x3, (), rfl, rfl, by rw [ht]; exact hP, va_K.moved hW.alike hK, hD⟩, hS.F ht⟩) hS.2.2 d_Steps_varsGiven_172
      · replace hR := if_n c3 hR
        refine lv_iload hx hb d_Steps_varsGiven_21 (lv_at hl 4 rfl) ?_
        refine lv_sipush (v := 4000) hx hb d_Steps_varsGiven_23 (by decide) ?_
        refine lv_icmp_ge (tgt := 171) hx hb d_Steps_varsGiven_26 (by decide) (fun c5 => ?_) (fun c5 => ?_)
        · replace hR := if_p c5 hR
          refine lv_iload_n hx hb d_Steps_varsGiven_171 rfl (lv_at hl 2 rfl) ?_
          obtain ⟨e1, -, e3⟩ := re_e hR
          subst e1; subst e3
          exact W.iret (v := x3) hx hb hr (fun t ht hW => ⟨⟨x3, (), rfl, rfl, by rw [ht]; exact hP, va_K.moved hW.alike hK, hD⟩, hS.F ht⟩) hS.2.2 d_Steps_varsGiven_172
        · replace hR := if_n c5 hR
          refine lv_aload_n hx hb d_Steps_varsGiven_29 rfl (lv_at hl 0 rfl) ?_
          refine rd_Steps_9 hx hb hT hown hK hP d_Steps_varsGiven_30 ?_
          refine rd_Steps_115 hx hb hT hown hK hP d_Steps_varsGiven_33 ?_
          refine lv_iload hx hb d_Steps_varsGiven_36 (lv_at hl 3 rfl) ?_
          replace hR := gd_e hR
          obtain ⟨b7, hR⟩ := hR
          refine laH_1 hx hb hK hP b7 d_Steps_varsGiven_38 ?_
          refine lv_topi (fun z8 e8 => ?_)
          replace hR := vK_e e8 hR
          refine lv_istore (lv' := [(6, .int z8), (0, .ref (ad 9)), (2, .int x2), (3, .int x3), (4, .int x4), (5, .int x5)]) hx hb d_Steps_varsGiven_39 hl (by decide) rfl (fun ls hl => ?_)
          refine lv_iload hx hb d_Steps_varsGiven_41 (lv_at hl 0 rfl) ?_
          refine lv_bipush (v := 50) hx hb d_Steps_varsGiven_43 (by decide) ?_
          refine lv_icmp_ne (tgt := 87) hx hb d_Steps_varsGiven_45 (by decide) (fun c9 => ?_) (fun c9 => ?_)
          · replace hR := if_n c9 hR
            refine lv_iload hx hb d_Steps_varsGiven_87 (lv_at hl 0 rfl) ?_
            refine lv_bipush (v := 16) hx hb d_Steps_varsGiven_89 (by decide) ?_
            refine lv_icmp_eq (tgt := 115) hx hb d_Steps_varsGiven_91 (by decide) (fun c10 => ?_) (fun c10 => ?_)
            · replace hR := if_p c10 hR
              have g := lb_115 (rl_Steps_varsGiven_16 F nf n) ih T x2 x3 x4 x5 hR
              rw [hG] at g
              exact g _ _ hP hD hS _ (lv_sub hl [1, 2, 3, 4, 5] rfl)
            · replace hR := if_n c10 hR
              refine lv_iload hx hb d_Steps_varsGiven_94 (lv_at hl 0 rfl) ?_
              refine lv_bipush (v := 18) hx hb d_Steps_varsGiven_96 (by decide) ?_
              refine lv_icmp_eq (tgt := 115) hx hb d_Steps_varsGiven_98 (by decide) (fun c11 => ?_) (fun c11 => ?_)
              · replace hR := if_p c11 hR
                have g := lb_115 (rl_Steps_varsGiven_16 F nf n) ih T x2 x3 x4 x5 hR
                rw [hG] at g
                exact g _ _ hP hD hS _ (lv_sub hl [1, 2, 3, 4, 5] rfl)
              · replace hR := if_n c11 hR
                refine lv_iload hx hb d_Steps_varsGiven_101 (lv_at hl 0 rfl) ?_
                refine lv_bipush (v := 21) hx hb d_Steps_varsGiven_103 (by decide) ?_
                refine lv_icmp_eq (tgt := 115) hx hb d_Steps_varsGiven_105 (by decide) (fun c12 => ?_) (fun c12 => ?_)
                · replace hR := if_p c12 hR
                  have g := lb_115 (rl_Steps_varsGiven_16 F nf n) ih T x2 x3 x4 x5 hR
                  rw [hG] at g
                  exact g _ _ hP hD hS _ (lv_sub hl [1, 2, 3, 4, 5] rfl)
                · replace hR := if_n c12 hR
                  refine lv_iload hx hb d_Steps_varsGiven_108 (lv_at hl 0 rfl) ?_
                  refine lv_bipush (v := 23) hx hb d_Steps_varsGiven_110 (by decide) ?_
                  refine lv_icmp_ne (tgt := 153) hx hb d_Steps_varsGiven_112 (by decide) (fun c13 => ?_) (fun c13 => ?_)
                  · replace hR := if_n c13 hR
                    refine lv_aload_n hx hb d_Steps_varsGiven_153 rfl (lv_at hl 1 rfl) ?_
                    refine rd_Steps_9 hx hb hT hown hK hP d_Steps_varsGiven_154 ?_
                    refine rd_Steps_109 hx hb hT hown hK hP d_Steps_varsGiven_157 ?_
                    refine lv_iload hx hb d_Steps_varsGiven_160 (lv_at hl 4 rfl) ?_
                    replace hR := gd_e hR
                    obtain ⟨b14, hR⟩ := hR
                    refine laH_3 hx hb hK hP b14 d_Steps_varsGiven_162 ?_
                    refine lv_topi (fun z15 e15 => ?_)
                    replace hR := vK_e e15 hR
                    refine lv_istore (lv' := [(4, .int z15), (6, .int z8), (0, .ref (ad 9)), (2, .int x2), (3, .int x3), (5, .int x5)]) hx hb d_Steps_varsGiven_163 hl (by decide) rfl (fun ls hl => ?_)
                    obtain ⟨z16, e16⟩ : ∃ y : Int32, y = x5 + (1 : Int32) := ⟨_, rfl⟩
                    replace hR := vK_e e16 hR
                    refine lv_iinc (v := z16) (lv' := [(5, .int z16), (4, .int z15), (6, .int z8), (0, .ref (ad 9)), (2, .int x2), (3, .int x3)]) hx hb d_Steps_varsGiven_165 hl (k := 5) rfl (by rw [e16]; rfl) (by decide) rfl (fun ls hl => ?_)
                    refine lv_goto (tgt := 16) hx hb d_Steps_varsGiven_168 (by decide) ?_
                    have g := ih T x2 x3 z15 z16 hR
                    rw [hG] at g
                    exact g _ _ hP hD hS _ (lv_sub hl [3, 4, 5, 1, 0] rfl)
                  · replace hR := if_p c13 hR
                    have g := lb_115 (rl_Steps_varsGiven_16 F nf n) ih T x2 x3 x4 x5 hR
                    rw [hG] at g
                    exact g _ _ hP hD hS _ (lv_sub hl [1, 2, 3, 4, 5] rfl)
          · replace hR := if_p c9 hR
            refine lv_aload_n hx hb d_Steps_varsGiven_48 rfl (lv_at hl 1 rfl) ?_
            refine rd_Steps_35 hx hb hT hown hK hP d_Steps_varsGiven_49 ?_
            refine lv_aload_n hx hb d_Steps_varsGiven_52 rfl (lv_at hl 1 rfl) ?_
            refine rd_Steps_9 hx hb hT hown hK hP d_Steps_varsGiven_53 ?_
            refine rd_Steps_152 hx hb hT hown hK hP d_Steps_varsGiven_56 ?_
            refine lv_iload hx hb d_Steps_varsGiven_59 (lv_at hl 4 rfl) ?_
            replace hR := gd_e hR
            obtain ⟨b17, hR⟩ := hR
            refine laH_6 hx hb hK hP b17 d_Steps_varsGiven_61 ?_
            replace hR := bi_e hR
            obtain ⟨r18, l18, T18, hc18, hR⟩ := hR
            refine gcV_i (rest := []) ⟨hx, hb, hml, hown, hT⟩ (h_Exprs_varAlone _ _ _ _ _ hc18) (cwV 1 hT (gV ml_Steps_219 im_Exprs_varAlone se_Exprs_varAlone ini_Exprs co_Exprs_varAlone) rfl rfl rfl pd_Exprs_varAlone ⟨rm_hi, rm_lo (Nat.le_of_ble_eq_true rfl)⟩) hK hP hD hS hA hnw henv (Nat.le_of_ble_eq_true rfl) rfl rfl hl.1 rfl (Nat.le_of_ble_eq_true rfl) d_Steps_varsGiven_62 ⟨Nat.le_refl _, Nat.le_refl _⟩ (fun H locs hP hD hS => ?_)
            clear hc18
            refine lv_istore (lv' := [(7, .int r18), (6, .int z8), (0, .ref (ad 9)), (2, .int x2), (3, .int x3), (4, .int x4), (5, .int x5)]) hx hb d_Steps_varsGiven_65 hl (by decide) rfl (fun ls hl => ?_)
            refine lv_iload_n hx hb d_Steps_varsGiven_67 rfl (lv_at hl 4 rfl) ?_
            refine lv_iload hx hb d_Steps_varsGiven_68 (lv_at hl 0 rfl) ?_
            refine lv_iconst (v := (-1)) hx hb d_Steps_varsGiven_70 (by decide) ?_
            refine lv_icmp_ne (tgt := 78) hx hb d_Steps_varsGiven_71 (by decide) (fun c19 => ?_) (fun c19 => ?_)
            · replace hR := if_n c19 hR
              refine lv_iconst (v := 1) hx hb d_Steps_varsGiven_78 (by decide) ?_
              refine lv_iload hx hb d_Steps_varsGiven_79 (lv_at hl 0 rfl) ?_
              refine lv_ishl hx hb d_Steps_varsGiven_81 ?_
              refine lv_ior hx hb d_Steps_varsGiven_82 ?_
              refine lv_topi (fun z20 e20 => ?_)
              replace hR := vK_e e20 hR
              refine lv_istore_n (lv' := [(3, .int z20), (7, .int r18), (6, .int z8), (0, .ref (ad 9)), (2, .int x2), (4, .int x4), (5, .int x5)]) hx hb d_Steps_varsGiven_83 rfl hl (by decide) rfl (fun ls hl => ?_)
              refine lv_goto (tgt := 153) hx hb d_Steps_varsGiven_84 (by decide) ?_
              refine lv_aload_n hx hb d_Steps_varsGiven_153 rfl (lv_at hl 3 rfl) ?_
              refine rd_Steps_9 hx hb hT hown hK hP d_Steps_varsGiven_154 ?_
              refine rd_Steps_109 hx hb hT hown hK hP d_Steps_varsGiven_157 ?_
              refine lv_iload hx hb d_Steps_varsGiven_160 (lv_at hl 5 rfl) ?_
              replace hR := gd_e hR
              obtain ⟨b21, hR⟩ := hR
              refine laH_3 hx hb hK hP b21 d_Steps_varsGiven_162 ?_
              refine lv_topi (fun z22 e22 => ?_)
              replace hR := vK_e e22 hR
              refine lv_istore (lv' := [(4, .int z22), (3, .int z20), (7, .int r18), (6, .int z8), (0, .ref (ad 9)), (2, .int x2), (5, .int x5)]) hx hb d_Steps_varsGiven_163 hl (by decide) rfl (fun ls hl => ?_)
              obtain ⟨z23, e23⟩ : ∃ y : Int32, y = x5 + (1 : Int32) := ⟨_, rfl⟩
              replace hR := vK_e e23 hR
              refine lv_iinc (v := z23) (lv' := [(5, .int z23), (4, .int z22), (3, .int z20), (7, .int r18), (6, .int z8), (0, .ref (ad 9)), (2, .int x2)]) hx hb d_Steps_varsGiven_165 hl (k := 6) rfl (by rw [e23]; rfl) (by decide) rfl (fun ls hl => ?_)
              refine lv_goto (tgt := 16) hx hb d_Steps_varsGiven_168 (by decide) ?_
              have g := ih T18 x2 z20 z22 z23 hR
              rw [hG] at g
              exact g _ _ hP hD hS _ (lv_sub hl [5, 6, 2, 1, 0] rfl)
            · replace hR := if_p c19 hR
              refine lv_iconst (v := 0) hx hb d_Steps_varsGiven_74 (by decide) ?_
              refine lv_goto (tgt := 82) hx hb d_Steps_varsGiven_75 (by decide) ?_
              refine lv_ior hx hb d_Steps_varsGiven_82 ?_
              refine lv_topi (fun z24 e24 => ?_)
              replace hR := vK_e e24 hR
              refine lv_istore_n (lv' := [(3, .int z24), (7, .int r18), (6, .int z8), (0, .ref (ad 9)), (2, .int x2), (4, .int x4), (5, .int x5)]) hx hb d_Steps_varsGiven_83 rfl hl (by decide) rfl (fun ls hl => ?_)
              refine lv_goto (tgt := 153) hx hb d_Steps_varsGiven_84 (by decide) ?_
              refine lv_aload_n hx hb d_Steps_varsGiven_153 rfl (lv_at hl 3 rfl) ?_
              refine rd_Steps_9 hx hb hT hown hK hP d_Steps_varsGiven_154 ?_
              refine rd_Steps_109 hx hb hT hown hK hP d_Steps_varsGiven_157 ?_
              refine lv_iload hx hb d_Steps_varsGiven_160 (lv_at hl 5 rfl) ?_
              replace hR := gd_e hR
              obtain ⟨b25, hR⟩ := hR
              refine laH_3 hx hb hK hP b25 d_Steps_varsGiven_162 ?_
              refine lv_topi (fun z26 e26 => ?_)
              replace hR := vK_e e26 hR
              refine lv_istore (lv' := [(4, .int z26), (3, .int z24), (7, .int r18), (6, .int z8), (0, .ref (ad 9)), (2, .int x2), (5, .int x5)]) hx hb d_Steps_varsGiven_163 hl (by decide) rfl (fun ls hl => ?_)
              obtain ⟨z27, e27⟩ : ∃ y : Int32, y = x5 + (1 : Int32) := ⟨_, rfl⟩
              replace hR := vK_e e27 hR
              refine lv_iinc (v := z27) (lv' := [(5, .int z27), (4, .int z26), (3, .int z24), (7, .int r18), (6, .int z8), (0, .ref (ad 9)), (2, .int x2)]) hx hb d_Steps_varsGiven_165 hl (k := 6) rfl (by rw [e27]; rfl) (by decide) rfl (fun ls hl => ?_)
              refine lv_goto (tgt := 16) hx hb d_Steps_varsGiven_168 (by decide) ?_
              have g := ih T18 x2 z24 z26 z27 hR
              rw [hG] at g
              exact g _ _ hP hD hS _ (lv_sub hl [5, 6, 2, 1, 0] rfl)
  unfold rb_Steps_varsGiven at hR
  refine lv_iload_n hx hb d_Steps_varsGiven_0 rfl (lv_at hl 2 rfl) ?_
  refine lv_bipush (v := 20) hx hb d_Steps_varsGiven_1 (by decide) ?_
  refine lv_icmp_le (tgt := 8) hx hb d_Steps_varsGiven_3 (by decide) (fun c1 => ?_) (fun c1 => ?_)
  · replace hR := if_p c1 hR
    refine lv_iconst (v := 0) hx hb d_Steps_varsGiven_8 (by decide) ?_
    refine lv_istore_n (lv' := [(3, .int (0 : Int32)), (0, .ref (ad 9)), (1, .int p1), (2, .int p2)]) hx hb d_Steps_varsGiven_9 rfl hl (by decide) rfl (fun ls hl => ?_)
    refine lv_iload_n hx hb d_Steps_varsGiven_10 rfl (lv_at hl 2 rfl) ?_
    refine lv_istore (lv' := [(4, .int p1), (3, .int (0 : Int32)), (0, .ref (ad 9)), (1, .int p1), (2, .int p2)]) hx hb d_Steps_varsGiven_11 hl (by decide) rfl (fun ls hl => ?_)
    refine lv_iconst (v := 0) hx hb d_Steps_varsGiven_13 (by decide) ?_
    refine lv_istore (lv' := [(5, .int (0 : Int32)), (4, .int p1), (3, .int (0 : Int32)), (0, .ref (ad 9)), (1, .int p1), (2, .int p2)]) hx hb d_Steps_varsGiven_14 hl (by decide) rfl (fun ls hl => ?_)
    have g := lb_16 nf T0 p2 (0 : Int32) p1 (0 : Int32) hR
    rw [hG] at g
    exact g _ _ hP hD hS _ (lv_sub hl [3, 5, 2, 1, 0] rfl)
  · replace hR := if_n c1 hR
    refine lv_iconst (v := 0) hx hb d_Steps_varsGiven_6 (by decide) ?_
    obtain ⟨e1, -, e3⟩ := re_e hR
    subst e1; subst e3
    exact W.iret (v := (0 : Int32)) hx hb hr (fun t ht hW => ⟨⟨(0 : Int32), (), rfl, rfl, by rw [ht]; exact hP, va_K.moved hW.alike hK, hD⟩, hS.F ht⟩) hS.2.2 d_Steps_varsGiven_7
set_option maxHeartbeats 4000000 in
set_option maxRecDepth 100000 in
theorem sp_Machine_halt (l : Launch) (dC : Nat → ClassId) (dI : Nat → Nat → Nat) (ea ev ad : Nat → Nat) (km : Nat → ClassId) (F : gF) (nf d : Nat) (T0 : gSt) (r0 : Int32) (rl0 : Int64) (T9 : gSt) (hR : rb_Machine_halt F nf T0 = some (r0, rl0, T9)) : GMv l dC dI LH ad km ea ev y_Machine_halt w_Machine_halt (rmD (d + 1)) [.ref (ad 10)] T0 T9 := by
  intro sz
  refine Met.ofW (cc := b_Machine_halt) (maxL := 1) (ret := none) (by decide) rfl ?_
  intro p e s m args below meth c s₁ B hml hv
  obtain ⟨rfl, hsz, hP, hK, hD0, hnw, henv⟩ := hv
  have hx := B.exec
  have hb := B.bytes
  have hr := B.returns
  have hT : ∀ w ∈ lw_good, w.before _ s = true := fun w h => atoms_spec (ws := w_Machine_halt) B.pre w (List.mem_cons_of_mem _ h)
  have hown : s.vm.findClass R_Machine = some m.cls := findClass_of_methodNamed B.named
  subst hsz
  have hD := hD0.self (sz := s.heap.size)
  clear hD0
  generalize hAe : va_A (gW LH ad km T0) s.heap.size = A at hD henv ⊢
  have hA : ∀ q : Nat, s.heap.size ≤ q → A q := fun q h => by rw [← hAe]; exact Or.inr h
  have hS : va_S A s.heap s.heap [] := va_S.rf
  have hl := lv_entry ([.ref (ad 10)]) (n := 1) (Nat.le_of_ble_eq_true rfl)
  rw [lg_entry_eq]
  generalize (lg_sl ([.ref (ad 10)]) ++ List.replicate (1 - (lg_sl ([.ref (ad 10)])).length) Slot.unset).toArray = ls at hl ⊢
  have hl : lv_has ls 1 [(0, .ref (ad 10))] := hl
  unfold rb_Machine_halt at hR
  refine lv_aload_n hx hb d_Machine_halt_0 rfl (lv_at hl 0 rfl) ?_
  refine lv_iconst (v := 0) hx hb d_Machine_halt_1 (by decide) ?_
  refine wr_Machine_44 hx hb hT hown hK hP hD hS d_Machine_halt_2 (fun T1 eT H locs hP hD hS => ?_)
  replace hR := stK_e eT hR
  clear eT
  obtain ⟨-, -, e3⟩ := re_e hR
  subst e3
  exact W.vret hx hb hr (fun t ht hW => ⟨⟨(), rfl, trivial, by rw [ht]; exact hP, va_K.moved hW.alike hK, hD⟩, hS.F ht⟩) hS.2.2 d_Machine_halt_5
set_option maxHeartbeats 4000000 in
set_option maxRecDepth 100000 in
theorem sp_Machine_begin (l : Launch) (dC : Nat → ClassId) (dI : Nat → Nat → Nat) (ea ev ad : Nat → Nat) (km : Nat → ClassId) (F : gF) (nf d : Nat) (h_Memory_begin : mt_Memory_begin l dC dI ea ev ad km F d) (h_Heads_mainName : mt_Heads_mainName l dC dI ea ev ad km F d) (h_Items_find : mt_Items_find l dC dI ea ev ad km F d) (h_Machine_enter : mt_Machine_enter l dC dI ea ev ad km F d) (h_Machine_goOn : mt_Machine_goOn l dC dI ea ev ad km F d) (T0 : gSt) (p1 : Int32) (p2 : Int32) (r0 : Int32) (rl0 : Int64) (T9 : gSt) (hR : rb_Machine_begin F nf T0 p1 p2 = some (r0, rl0, T9)) : GMv l dC dI LH ad km ea ev y_Machine_begin w_Machine_begin (rmD (d + 1)) [.ref (ad 10), .int p1, .int p2] T0 T9 := by
  intro sz
  refine Met.ofW (cc := b_Machine_begin) (maxL := 3) (ret := none) (by decide) rfl ?_
  intro p e s m args below meth c s₁ B hml hv
  obtain ⟨rfl, hsz, hP, hK, hD0, hnw, henv⟩ := hv
  have hx := B.exec
  have hb := B.bytes
  have hr := B.returns
  have hT : ∀ w ∈ lw_good, w.before _ s = true := fun w h => atoms_spec (ws := w_Machine_begin) B.pre w (List.mem_cons_of_mem _ h)
  have hown : s.vm.findClass R_Machine = some m.cls := findClass_of_methodNamed B.named
  subst hsz
  have hD := hD0.self (sz := s.heap.size)
  clear hD0
  generalize hAe : va_A (gW LH ad km T0) s.heap.size = A at hD henv ⊢
  have hA : ∀ q : Nat, s.heap.size ≤ q → A q := fun q h => by rw [← hAe]; exact Or.inr h
  have hS : va_S A s.heap s.heap [] := va_S.rf
  have hl := lv_entry ([.ref (ad 10), .int p1, .int p2]) (n := 3) (Nat.le_of_ble_eq_true rfl)
  rw [lg_entry_eq]
  generalize (lg_sl ([.ref (ad 10), .int p1, .int p2]) ++ List.replicate (3 - (lg_sl ([.ref (ad 10), .int p1, .int p2])).length) Slot.unset).toArray = ls at hl ⊢
  have hl : lv_has ls 3 [(0, .ref (ad 10)), (1, .int p1), (2, .int p2)] := hl
  unfold rb_Machine_begin at hR
  refine lv_aload_n hx hb d_Machine_begin_0 rfl (lv_at hl 0 rfl) ?_
  refine rd_Machine_16 hx hb hT hown hK hP d_Machine_begin_1 ?_
  refine lv_iload_n hx hb d_Machine_begin_4 rfl (lv_at hl 1 rfl) ?_
  refine lv_iload_n hx hb d_Machine_begin_5 rfl (lv_at hl 2 rfl) ?_
  replace hR := bi_e hR
  obtain ⟨r1, l1, T1, hc1, hR⟩ := hR
  refine gcV_v (rest := []) ⟨hx, hb, hml, hown, hT⟩ (h_Memory_begin _ _ _ _ _ _ hc1) (cwV 2 hT (gV ml_Machine_48 im_Memory_begin se_Memory_begin ini_Memory co_Memory_begin) rfl rfl rfl pd_Memory_begin ⟨rm_hi, rm_lo (Nat.le_of_ble_eq_true rfl)⟩) hK hP hD hS hA hnw henv (Nat.le_of_ble_eq_true rfl) rfl rfl hl.1 rfl (Nat.le_of_ble_eq_true rfl) d_Machine_begin_6 ⟨Nat.le_refl _, Nat.le_refl _⟩ (fun H locs hP hD hS => ?_)
  clear hc1
  refine lv_aload_n hx hb d_Machine_begin_9 rfl (lv_at hl 0 rfl) ?_
  refine lv_iconst (v := 0) hx hb d_Machine_begin_10 (by decide) ?_
  refine wr_Machine_52 hx hb hT hown hK hP hD hS d_Machine_begin_11 (fun T2 eT H locs hP hD hS => ?_)
  replace hR := stK_e eT hR
  clear eT
  refine lv_aload_n hx hb d_Machine_begin_14 rfl (lv_at hl 0 rfl) ?_
  refine lv_iconst (v := 0) hx hb d_Machine_begin_15 (by decide) ?_
  refine wr_Machine_55 hx hb hT hown hK hP hD hS d_Machine_begin_16 (fun T3 eT H locs hP hD hS => ?_)
  replace hR := stK_e eT hR
  clear eT
  refine lv_aload_n hx hb d_Machine_begin_19 rfl (lv_at hl 0 rfl) ?_
  refine lv_iconst (v := 0) hx hb d_Machine_begin_20 (by decide) ?_
  refine wr_Machine_58 hx hb hT hown hK hP hD hS d_Machine_begin_21 (fun T4 eT H locs hP hD hS => ?_)
  replace hR := stK_e eT hR
  clear eT
  refine lv_aload_n hx hb d_Machine_begin_24 rfl (lv_at hl 0 rfl) ?_
  refine lv_iconst (v := 0) hx hb d_Machine_begin_25 (by decide) ?_
  refine wr_Machine_61 hx hb hT hown hK hP hD hS d_Machine_begin_26 (fun T5 eT H locs hP hD hS => ?_)
  replace hR := stK_e eT hR
  clear eT
  refine lv_aload_n hx hb d_Machine_begin_29 rfl (lv_at hl 0 rfl) ?_
  refine lv_iconst (v := 0) hx hb d_Machine_begin_30 (by decide) ?_
  refine wr_Machine_64 hx hb hT hown hK hP hD hS d_Machine_begin_31 (fun T6 eT H locs hP hD hS => ?_)
  replace hR := stK_e eT hR
  clear eT
  refine lv_aload_n hx hb d_Machine_begin_34 rfl (lv_at hl 0 rfl) ?_
  refine lv_iconst (v := 0) hx hb d_Machine_begin_35 (by decide) ?_
  refine wr_Machine_67 hx hb hT hown hK hP hD hS d_Machine_begin_36 (fun T7 eT H locs hP hD hS => ?_)
  replace hR := stK_e eT hR
  clear eT
  refine lv_aload_n hx hb d_Machine_begin_39 rfl (lv_at hl 0 rfl) ?_
  refine lv_iconst (v := 0) hx hb d_Machine_begin_40 (by decide) ?_
  refine wr_Machine_70 hx hb hT hown hK hP hD hS d_Machine_begin_41 (fun T8 eT H locs hP hD hS => ?_)
  replace hR := stK_e eT hR
  clear eT
  refine lv_aload_n hx hb d_Machine_begin_44 rfl (lv_at hl 0 rfl) ?_
  refine lv_iconst (v := 0) hx hb d_Machine_begin_45 (by decide) ?_
  refine wr_Machine_73 hx hb hT hown hK hP hD hS d_Machine_begin_46 (fun T9 eT H locs hP hD hS => ?_)
  replace hR := stK_e eT hR
  clear eT
  refine lv_aload_n hx hb d_Machine_begin_49 rfl (lv_at hl 0 rfl) ?_
  refine lv_iconst (v := 0) hx hb d_Machine_begin_50 (by decide) ?_
  refine wr_Machine_76 hx hb hT hown hK hP hD hS d_Machine_begin_51 (fun T10 eT H locs hP hD hS => ?_)
  replace hR := stK_e eT hR
  clear eT
  refine lv_aload_n hx hb d_Machine_begin_54 rfl (lv_at hl 0 rfl) ?_
  refine lv_iconst (v := 1) hx hb d_Machine_begin_55 (by decide) ?_
  refine wr_Machine_44 hx hb hT hown hK hP hD hS d_Machine_begin_56 (fun T11 eT H locs hP hD hS => ?_)
  replace hR := stK_e eT hR
  clear eT
  refine lv_aload_n hx hb d_Machine_begin_59 rfl (lv_at hl 0 rfl) ?_
  refine lv_aload_n hx hb d_Machine_begin_60 rfl (lv_at hl 0 rfl) ?_
  refine rd_Machine_40 hx hb hT hown hK hP d_Machine_begin_61 ?_
  replace hR := bi_e hR
  obtain ⟨r12, l12, T12, hc12, hR⟩ := hR
  refine gcS_l (rest := [.ref (ad 2), .ref (ad 10)]) ⟨hx, hb, hml, hown, hT⟩ (h_Heads_mainName _ _ _ _ hc12) (va_cwS 0 hT (gS ml_Machine_79 st_Heads_mainName ini_Heads co_Heads_mainName) rfl rfl rfl pd_Heads_mainName ⟨rm_hi, rm_lo (Nat.le_of_ble_eq_true rfl)⟩) hK hP hD hS hA hnw henv rfl hl.1 rfl (Nat.le_of_ble_eq_true rfl) d_Machine_begin_64 ⟨Nat.le_refl _, Nat.le_refl _⟩ (fun H locs hP hD hS => ?_)
  clear hc12
  refine lv_iconst (v := 1) hx hb d_Machine_begin_67 (by decide) ?_
  replace hR := bi_e hR
  obtain ⟨r13, l13, T13, hc13, hR⟩ := hR
  refine gcV_i (rest := [.ref (ad 10)]) ⟨hx, hb, hml, hown, hT⟩ (h_Items_find _ _ _ _ _ _ hc13) (cwV 2 hT (gV ml_Machine_85 im_Items_find se_Items_find ini_Items co_Items_find) rfl rfl rfl pd_Items_find ⟨rm_hi, rm_lo (Nat.le_of_ble_eq_true rfl)⟩) hK hP hD hS hA hnw henv (Nat.le_of_ble_eq_true rfl) rfl rfl hl.1 rfl (Nat.le_of_ble_eq_true rfl) d_Machine_begin_68 ⟨Nat.le_refl _, Nat.le_refl _⟩ (fun H locs hP hD hS => ?_)
  clear hc13
  refine lv_iconst (v := 0) hx hb d_Machine_begin_71 (by decide) ?_
  replace hR := bi_e hR
  obtain ⟨r14, l14, T14, hc14, hR⟩ := hR
  refine gcV_v (rest := []) ⟨hx, hb, hml, hown, hT⟩ (h_Machine_enter _ _ _ _ _ _ hc14) (cwV 2 hT (gV ml_Machine_91 im_Machine_enter se_Machine_enter ini_Machine co_Machine_enter) rfl rfl rfl pd_Machine_enter ⟨rm_hi, rm_lo (Nat.le_of_ble_eq_true rfl)⟩) hK hP hD hS hA hnw henv (Nat.le_of_ble_eq_true rfl) rfl rfl hl.1 rfl (Nat.le_of_ble_eq_true rfl) d_Machine_begin_72 ⟨Nat.le_refl _, Nat.le_refl _⟩ (fun H locs hP hD hS => ?_)
  clear hc14
  refine lv_aload_n hx hb d_Machine_begin_75 rfl (lv_at hl 0 rfl) ?_
  replace hR := bi_e hR
  obtain ⟨r15, l15, T15, hc15, hR⟩ := hR
  refine gcV_v (rest := []) ⟨hx, hb, hml, hown, hT⟩ (h_Machine_goOn _ _ _ _ hc15) (cwV 0 hT (gV ml_Machine_94 im_Machine_goOn se_Machine_goOn ini_Machine co_Machine_goOn) rfl rfl rfl pd_Machine_goOn ⟨rm_hi, rm_lo (Nat.le_of_ble_eq_true rfl)⟩) hK hP hD hS hA hnw henv (Nat.le_of_ble_eq_true rfl) rfl rfl hl.1 rfl (Nat.le_of_ble_eq_true rfl) d_Machine_begin_76 ⟨Nat.le_refl _, Nat.le_refl _⟩ (fun H locs hP hD hS => ?_)
  clear hc15
  obtain ⟨-, -, e3⟩ := re_e hR
  subst e3
  exact W.vret hx hb hr (fun t ht hW => ⟨⟨(), rfl, trivial, by rw [ht]; exact hP, va_K.moved hW.alike hK, hD⟩, hS.F ht⟩) hS.2.2 d_Machine_begin_79
set_option maxHeartbeats 4000000 in
set_option maxRecDepth 100000 in
theorem sp_Machine_takeInput (l : Launch) (dC : Nat → ClassId) (dI : Nat → Nat → Nat) (ea ev ad : Nat → Nat) (km : Nat → ClassId) (F : gF) (nf d : Nat) (T0 : gSt) (p1 : Int32) (r0 : Int32) (rl0 : Int64) (T9 : gSt) (hR : rb_Machine_takeInput F nf T0 p1 = some (r0, rl0, T9)) : GMi l dC dI LH ad km ea ev y_Machine_takeInput w_Machine_takeInput (rmD (d + 1)) [.ref (ad 10), .int p1] T0 r0 T9 := by
  intro sz
  refine Met.ofW (cc := b_Machine_takeInput) (maxL := 2) (ret := (some .int)) (by decide) rfl ?_
  intro p e s m args below meth c s₁ B hml hv
  obtain ⟨rfl, hsz, hP, hK, hD0, hnw, henv⟩ := hv
  have hx := B.exec
  have hb := B.bytes
  have hr := B.returns
  have hT : ∀ w ∈ lw_good, w.before _ s = true := fun w h => atoms_spec (ws := w_Machine_takeInput) B.pre w (List.mem_cons_of_mem _ h)
  have hown : s.vm.findClass R_Machine = some m.cls := findClass_of_methodNamed B.named
  subst hsz
  have hD := hD0.self (sz := s.heap.size)
  clear hD0
  generalize hAe : va_A (gW LH ad km T0) s.heap.size = A at hD henv ⊢
  have hA : ∀ q : Nat, s.heap.size ≤ q → A q := fun q h => by rw [← hAe]; exact Or.inr h
  have hS : va_S A s.heap s.heap [] := va_S.rf
  have hl := lv_entry ([.ref (ad 10), .int p1]) (n := 2) (Nat.le_of_ble_eq_true rfl)
  rw [lg_entry_eq]
  generalize (lg_sl ([.ref (ad 10), .int p1]) ++ List.replicate (2 - (lg_sl ([.ref (ad 10), .int p1])).length) Slot.unset).toArray = ls at hl ⊢
  have hl : lv_has ls 2 [(0, .ref (ad 10)), (1, .int p1)] := hl
  unfold rb_Machine_takeInput at hR
  refine lv_aload_n hx hb d_Machine_takeInput_0 rfl (lv_at hl 0 rfl) ?_
  refine rd_Machine_44 hx hb hT hown hK hP d_Machine_takeInput_1 ?_
  refine lv_iconst (v := 1) hx hb d_Machine_takeInput_4 (by decide) ?_
  refine lv_icmp_ne (tgt := 20) hx hb d_Machine_takeInput_5 (by decide) (fun c1 => ?_) (fun c1 => ?_)
  · replace hR := if_n c1 hR
    refine lv_iconst (v := (-1)) hx hb d_Machine_takeInput_20 (by decide) ?_
    obtain ⟨e1, -, e3⟩ := re_e hR
    subst e1; subst e3
    exact W.iret (v := (-1 : Int32)) hx hb hr (fun t ht hW => ⟨⟨(-1 : Int32), (), rfl, rfl, by rw [ht]; exact hP, va_K.moved hW.alike hK, hD⟩, hS.F ht⟩) hS.2.2 d_Machine_takeInput_21
  · replace hR := if_p c1 hR
    refine lv_aload_n hx hb d_Machine_takeInput_8 rfl (lv_at hl 0 rfl) ?_
    refine rd_Machine_73 hx hb hT hown hK hP d_Machine_takeInput_9 ?_
    refine lv_aload_n hx hb d_Machine_takeInput_12 rfl (lv_at hl 0 rfl) ?_
    refine rd_Machine_30 hx hb hT hown hK hP d_Machine_takeInput_13 ?_
    refine gw_alen hx hb hK hP 46 100 58 (Nat.le_of_ble_eq_true rfl) rfl rfl d_Machine_takeInput_16 ?_
    refine W.eq (g2 := F0 m 17 ls [.int (100 : Int32), .int (T0.1 111 0)]) rfl ?_
    refine lv_icmp_lt (tgt := 22) hx hb d_Machine_takeInput_17 (by decide) (fun c3 => ?_) (fun c3 => ?_)
    · replace hR := if_p c3 hR
      refine lv_aload_n hx hb d_Machine_takeInput_22 rfl (lv_at hl 0 rfl) ?_
      refine rd_Machine_30 hx hb hT hown hK hP d_Machine_takeInput_23 ?_
      refine lv_aload_n hx hb d_Machine_takeInput_26 rfl (lv_at hl 0 rfl) ?_
      refine rd_Machine_73 hx hb hT hown hK hP d_Machine_takeInput_27 ?_
      refine lv_iload_n hx hb d_Machine_takeInput_30 rfl (lv_at hl 1 rfl) ?_
      replace hR := gd_e hR
      obtain ⟨b4, hR⟩ := hR
      refine saH_46 hx hb hK hP hD hS b4 d_Machine_takeInput_31 (fun T4 eT H locs hP hD hS => ?_)
      replace hR := stK_e eT hR
      clear eT
      refine lv_aload_n hx hb d_Machine_takeInput_32 rfl (lv_at hl 0 rfl) ?_
      refine lv_dup hx hb d_Machine_takeInput_33 rfl ?_
      refine rd_Machine_73 hx hb hT hown hK hP d_Machine_takeInput_34 ?_
      refine lv_iconst (v := 1) hx hb d_Machine_takeInput_37 (by decide) ?_
      refine lv_iadd hx hb d_Machine_takeInput_38 ?_
      refine wr_Machine_73 hx hb hT hown hK hP hD hS d_Machine_takeInput_39 (fun T5 eT H locs hP hD hS => ?_)
      replace hR := stK_e eT hR
      clear eT
      refine lv_aload_n hx hb d_Machine_takeInput_42 rfl (lv_at hl 0 rfl) ?_
      refine rd_Machine_73 hx hb hT hown hK hP d_Machine_takeInput_43 ?_
      obtain ⟨e1, -, e3⟩ := re_e hR
      subst e1; subst e3
      exact W.iret (v := T5.1 111 0) hx hb hr (fun t ht hW => ⟨⟨T5.1 111 0, (), rfl, rfl, by rw [ht]; exact hP, va_K.moved hW.alike hK, hD⟩, hS.F ht⟩) hS.2.2 d_Machine_takeInput_46
    · replace hR := if_n c3 hR
      refine lv_iconst (v := (-1)) hx hb d_Machine_takeInput_20 (by decide) ?_
      obtain ⟨e1, -, e3⟩ := re_e hR
      subst e1; subst e3
      exact W.iret (v := (-1 : Int32)) hx hb hr (fun t ht hW => ⟨⟨(-1 : Int32), (), rfl, rfl, by rw [ht]; exact hP, va_K.moved hW.alike hK, hD⟩, hS.F ht⟩) hS.2.2 d_Machine_takeInput_21
set_option maxHeartbeats 4000000 in
set_option maxRecDepth 100000 in
theorem sp_Machine_doSteps (l : Launch) (dC : Nat → ClassId) (dI : Nat → Nat → Nat) (ea ev ad : Nat → Nat) (km : Nat → ClassId) (F : gF) (nf d : Nat) (h_Code_firstAt : mt_Code_firstAt l dC dI ea ev ad km F d) (h_Machine_setFrame : mt_Machine_setFrame l dC dI ea ev ad km F d) (h_Machine_goOn : mt_Machine_goOn l dC dI ea ev ad km F d) (T0 : gSt) (p1 : Int32) (r0 : Int32) (rl0 : Int64) (T9 : gSt) (hR : rb_Machine_doSteps F nf T0 p1 = some (r0, rl0, T9)) : GMi l dC dI LH ad km ea ev y_Machine_doSteps w_Machine_doSteps (rmD (d + 1)) [.ref (ad 10), .int p1] T0 r0 T9 := by
  intro sz
  refine Met.ofW (cc := b_Machine_doSteps) (maxL := 3) (ret := (some .int)) (by decide) rfl ?_
  intro p e s m args below meth c s₁ B hml hv
  obtain ⟨rfl, hsz, hP, hK, hD0, hnw, henv⟩ := hv
  have hx := B.exec
  have hb := B.bytes
  have hr := B.returns
  have hT : ∀ w ∈ lw_good, w.before _ s = true := fun w h => atoms_spec (ws := w_Machine_doSteps) B.pre w (List.mem_cons_of_mem _ h)
  have hown : s.vm.findClass R_Machine = some m.cls := findClass_of_methodNamed B.named
  subst hsz
  have hD := hD0.self (sz := s.heap.size)
  clear hD0
  generalize hAe : va_A (gW LH ad km T0) s.heap.size = A at hD henv ⊢
  have hA : ∀ q : Nat, s.heap.size ≤ q → A q := fun q h => by rw [← hAe]; exact Or.inr h
  have hS : va_S A s.heap s.heap [] := va_S.rf
  have hl := lv_entry ([.ref (ad 10), .int p1]) (n := 3) (Nat.le_of_ble_eq_true rfl)
  rw [lg_entry_eq]
  generalize (lg_sl ([.ref (ad 10), .int p1]) ++ List.replicate (3 - (lg_sl ([.ref (ad 10), .int p1])).length) Slot.unset).toArray = ls at hl ⊢
  have hl : lv_has ls 3 [(0, .ref (ad 10)), (1, .int p1)] := hl
  obtain ⟨G, hG⟩ : ∃ G : Nat → List (Nat × Value) → List Value → gSt → Prop, G = (fun pc lv stk T => ∀ (H : Heap) (locs : List Loc), va_P (dC, dI) cls_all (gW LH ad km T) H → va_D A (gW LH ad km T) → va_S A s.heap H locs → ∀ (ls : Array Slot), lv_has ls 3 lv → W p l e (headSpec w_Machine_doSteps (rmD (d + 1))).room s m ([.ref (ad 10), .int p1] : List Value).toArray below meth c H locs 0 0 (MQ below (va_Qi (fun (z : Int32) (_ : Unit) => z = r0) (fun _ t => gPost dC dI LH ad km T9 A t) A) ([.ref (ad 10), .int p1] : List Value).toArray s 0 0 A) (F0 m pc ls stk)) := ⟨_, rfl⟩
  have lb_2 : ∀ (n : Nat) (T : gSt) (x1 : Int32) (x2 : Int32), rl_Machine_doSteps_2 F nf n T x1 x2 = some (r0, rl0, T9) → G 2 [(0, .ref (ad 10)), (1, .int x1), (2, .int x2)] [] T := by
    intro n
    induction n with
    | zero => intro T x1 x2 hR; rw [rl_Machine_doSteps_2] at hR; cases hR
    | succ n ih =>
      intro T x1 x2 hR; rw [rl_Machine_doSteps_2] at hR; rw [hG]; intro H locs hP hD hS ls hl
      refine lv_iload_n hx hb d_Machine_doSteps_2 rfl (lv_at hl 2 rfl) ?_
      refine lv_iload_n hx hb d_Machine_doSteps_3 rfl (lv_at hl 1 rfl) ?_
      refine lv_icmp_ge (tgt := 61) hx hb d_Machine_doSteps_4 (by decide) (fun c1 => ?_) (fun c1 => ?_)
      · replace hR := if_p c1 hR
        refine lv_iload_n hx hb d_Machine_doSteps_61 rfl (lv_at hl 2 rfl) ?_
        obtain ⟨e1, -, e3⟩ := re_e hR
        subst e1; subst e3
        exact W.iret (v := x2) hx hb hr (fun t ht hW => ⟨⟨x2, (), rfl, rfl, by rw [ht]; exact hP, va_K.moved hW.alike hK, hD⟩, hS.F ht⟩) hS.2.2 d_Machine_doSteps_62
      · replace hR := if_n c1 hR
        refine lv_aload_n hx hb d_Machine_doSteps_7 rfl (lv_at hl 0 rfl) ?_
        refine rd_Machine_44 hx hb hT hown hK hP d_Machine_doSteps_8 ?_
        refine lv_iconst (v := 1) hx hb d_Machine_doSteps_11 (by decide) ?_
        refine lv_icmp_ne (tgt := 61) hx hb d_Machine_doSteps_12 (by decide) (fun c3 => ?_) (fun c3 => ?_)
        · replace hR := if_n c3 hR
          refine lv_iload_n hx hb d_Machine_doSteps_61 rfl (lv_at hl 2 rfl) ?_
          obtain ⟨e1, -, e3⟩ := re_e hR
          subst e1; subst e3
          exact W.iret (v := x2) hx hb hr (fun t ht hW => ⟨⟨x2, (), rfl, rfl, by rw [ht]; exact hP, va_K.moved hW.alike hK, hD⟩, hS.F ht⟩) hS.2.2 d_Machine_doSteps_62
        · replace hR := if_p c3 hR
          refine lv_aload_n hx hb d_Machine_doSteps_15 rfl (lv_at hl 0 rfl) ?_
          refine lv_iconst (v := 2) hx hb d_Machine_doSteps_16 (by decide) ?_
          refine lv_aload_n hx hb d_Machine_doSteps_17 rfl (lv_at hl 0 rfl) ?_
          refine rd_Machine_36 hx hb hT hown hK hP d_Machine_doSteps_18 ?_
          refine lv_aload_n hx hb d_Machine_doSteps_21 rfl (lv_at hl 0 rfl) ?_
          refine rd_Machine_61 hx hb hT hown hK hP d_Machine_doSteps_22 ?_
          replace hR := bi_e hR
          obtain ⟨r5, l5, T5, hc5, hR⟩ := hR
          refine gcV_i (rest := [.int (2 : Int32), .ref (ad 10)]) ⟨hx, hb, hml, hown, hT⟩ (h_Code_firstAt _ _ _ _ _ hc5) (cwV 1 hT (gV ml_Machine_97 im_Code_firstAt se_Code_firstAt ini_Code co_Code_firstAt) rfl rfl rfl pd_Code_firstAt ⟨rm_hi, rm_lo (Nat.le_of_ble_eq_true rfl)⟩) hK hP hD hS hA hnw henv (Nat.le_of_ble_eq_true rfl) rfl rfl hl.1 rfl (Nat.le_of_ble_eq_true rfl) d_Machine_doSteps_25 ⟨Nat.le_refl _, Nat.le_refl _⟩ (fun H locs hP hD hS => ?_)
          clear hc5
          replace hR := bi_e hR
          obtain ⟨r6, l6, T6, hc6, hR⟩ := hR
          refine gcV_v (rest := []) ⟨hx, hb, hml, hown, hT⟩ (h_Machine_setFrame _ _ _ _ _ _ hc6) (cwV 2 hT (gV ml_Machine_103 im_Machine_setFrame se_Machine_setFrame ini_Machine co_Machine_setFrame) rfl rfl rfl pd_Machine_setFrame ⟨rm_hi, rm_lo (Nat.le_of_ble_eq_true rfl)⟩) hK hP hD hS hA hnw henv (Nat.le_of_ble_eq_true rfl) rfl rfl hl.1 rfl (Nat.le_of_ble_eq_true rfl) d_Machine_doSteps_28 ⟨Nat.le_refl _, Nat.le_refl _⟩ (fun H locs hP hD hS => ?_)
          clear hc6
          refine lv_aload_n hx hb d_Machine_doSteps_31 rfl (lv_at hl 0 rfl) ?_
          refine lv_dup hx hb d_Machine_doSteps_32 rfl ?_
          refine rd_Machine_61 hx hb hT hown hK hP d_Machine_doSteps_33 ?_
          refine lv_iconst (v := 1) hx hb d_Machine_doSteps_36 (by decide) ?_
          refine lv_iadd hx hb d_Machine_doSteps_37 ?_
          refine wr_Machine_61 hx hb hT hown hK hP hD hS d_Machine_doSteps_38 (fun T7 eT H locs hP hD hS => ?_)
          replace hR := stK_e eT hR
          clear eT
          refine lv_aload_n hx hb d_Machine_doSteps_41 rfl (lv_at hl 0 rfl) ?_
          refine lv_dup hx hb d_Machine_doSteps_42 rfl ?_
          refine rd_Machine_67 hx hb hT hown hK hP d_Machine_doSteps_43 ?_
          refine lv_iconst (v := 1) hx hb d_Machine_doSteps_46 (by decide) ?_
          refine lv_iadd hx hb d_Machine_doSteps_47 ?_
          refine wr_Machine_67 hx hb hT hown hK hP hD hS d_Machine_doSteps_48 (fun T8 eT H locs hP hD hS => ?_)
          replace hR := stK_e eT hR
          clear eT
          obtain ⟨z9, e9⟩ : ∃ y : Int32, y = x2 + (1 : Int32) := ⟨_, rfl⟩
          replace hR := vK_e e9 hR
          refine lv_iinc (v := z9) (lv' := [(2, .int z9), (0, .ref (ad 10)), (1, .int x1)]) hx hb d_Machine_doSteps_51 hl (k := 2) rfl (by rw [e9]; rfl) (by decide) rfl (fun ls hl => ?_)
          refine lv_aload_n hx hb d_Machine_doSteps_54 rfl (lv_at hl 1 rfl) ?_
          replace hR := bi_e hR
          obtain ⟨r10, l10, T10, hc10, hR⟩ := hR
          refine gcV_v (rest := []) ⟨hx, hb, hml, hown, hT⟩ (h_Machine_goOn _ _ _ _ hc10) (cwV 0 hT (gV ml_Machine_94 im_Machine_goOn se_Machine_goOn ini_Machine co_Machine_goOn) rfl rfl rfl pd_Machine_goOn ⟨rm_hi, rm_lo (Nat.le_of_ble_eq_true rfl)⟩) hK hP hD hS hA hnw henv (Nat.le_of_ble_eq_true rfl) rfl rfl hl.1 rfl (Nat.le_of_ble_eq_true rfl) d_Machine_doSteps_55 ⟨Nat.le_refl _, Nat.le_refl _⟩ (fun H locs hP hD hS => ?_)
          clear hc10
          refine lv_goto (tgt := 2) hx hb d_Machine_doSteps_58 (by decide) ?_
          have g := ih T10 x1 z9 hR
          rw [hG] at g
          exact g _ _ hP hD hS _ (lv_sub hl [1, 2, 0] rfl)
  unfold rb_Machine_doSteps at hR
  refine lv_iconst (v := 0) hx hb d_Machine_doSteps_0 (by decide) ?_
  refine lv_istore_n (lv' := [(2, .int (0 : Int32)), (0, .ref (ad 10)), (1, .int p1)]) hx hb d_Machine_doSteps_1 rfl hl (by decide) rfl (fun ls hl => ?_)
  have g := lb_2 nf T0 p1 (0 : Int32) hR
  rw [hG] at g
  exact g _ _ hP hD hS _ (lv_sub hl [1, 2, 0] rfl)
set_option maxHeartbeats 4000000 in
set_option maxRecDepth 100000 in
theorem sp_Machine_goOn (l : Launch) (dC : Nat → ClassId) (dI : Nat → Nat → Nat) (ea ev ad : Nat → Nat) (km : Nat → ClassId) (F : gF) (nf d : Nat) (h_Code_opAt : mt_Code_opAt l dC dI ea ev ad km F d) (h_Code_firstAt : mt_Code_firstAt l dC dI ea ev ad km F d) (h_Code_secondAt : mt_Code_secondAt l dC dI ea ev ad km F d) (h_Machine_doControl : mt_Machine_doControl l dC dI ea ev ad km F d) (h_Machine_doMaking : mt_Machine_doMaking l dC dI ea ev ad km F d) (h_Machine_doIndexed : mt_Machine_doIndexed l dC dI ea ev ad km F d) (h_Machine_doPointed : mt_Machine_doPointed l dC dI ea ev ad km F d) (h_Machine_doNumeric : mt_Machine_doNumeric l dC dI ea ev ad km F d) (h_Machine_doSimple : mt_Machine_doSimple l dC dI ea ev ad km F d) (T0 : gSt) (r0 : Int32) (rl0 : Int64) (T9 : gSt) (hR : rb_Machine_goOn F nf T0 = some (r0, rl0, T9)) : GMv l dC dI LH ad km ea ev y_Machine_goOn w_Machine_goOn (rmD (d + 1)) [.ref (ad 10)] T0 T9 := by
  intro sz
  refine Met.ofW (cc := b_Machine_goOn) (maxL := 5) (ret := none) (by decide) rfl ?_
  intro p e s m args below meth c s₁ B hml hv
  obtain ⟨rfl, hsz, hP, hK, hD0, hnw, henv⟩ := hv
  have hx := B.exec
  have hb := B.bytes
  have hr := B.returns
  have hT : ∀ w ∈ lw_good, w.before _ s = true := fun w h => atoms_spec (ws := w_Machine_goOn) B.pre w (List.mem_cons_of_mem _ h)
  have hown : s.vm.findClass R_Machine = some m.cls := findClass_of_methodNamed B.named
  subst hsz
  have hD := hD0.self (sz := s.heap.size)
  clear hD0
  generalize hAe : va_A (gW LH ad km T0) s.heap.size = A at hD henv ⊢
  have hA : ∀ q : Nat, s.heap.size ≤ q → A q := fun q h => by rw [← hAe]; exact Or.inr h
  have hS : va_S A s.heap s.heap [] := va_S.rf
  have hl := lv_entry ([.ref (ad 10)]) (n := 5) (Nat.le_of_ble_eq_true rfl)
  rw [lg_entry_eq]
  generalize (lg_sl ([.ref (ad 10)]) ++ List.replicate (5 - (lg_sl ([.ref (ad 10)])).length) Slot.unset).toArray = ls at hl ⊢
  have hl : lv_has ls 5 [(0, .ref (ad 10))] := hl
  obtain ⟨G, hG⟩ : ∃ G : Nat → List (Nat × Value) → List Value → gSt → Prop, G = (fun pc lv stk T => ∀ (H : Heap) (locs : List Loc), va_P (dC, dI) cls_all (gW LH ad km T) H → va_D A (gW LH ad km T) → va_S A s.heap H locs → ∀ (ls : Array Slot), lv_has ls 5 lv → W p l e (headSpec w_Machine_goOn (rmD (d + 1))).room s m ([.ref (ad 10)] : List Value).toArray below meth c H locs 0 0 (MQ below (va_Qv (fun (_ : Unit) => True) (fun _ t => gPost dC dI LH ad km T9 A t) A) ([.ref (ad 10)] : List Value).toArray s 0 0 A) (F0 m pc ls stk)) := ⟨_, rfl⟩
  have lb_2 : ∀ (n : Nat) (T : gSt) (x1 : Int32), rl_Machine_goOn_2 F nf n T x1 = some (r0, rl0, T9) → G 2 [(0, .ref (ad 10)), (1, .int x1)] [] T := by
    intro n
    induction n with
    | zero => intro T x1 hR; rw [rl_Machine_goOn_2] at hR; cases hR
    | succ n ih =>
      intro T x1 hR; rw [rl_Machine_goOn_2] at hR; rw [hG]; intro H locs hP hD hS ls hl
      refine lv_iload_n hx hb d_Machine_goOn_2 rfl (lv_at hl 1 rfl) ?_
      refine lv_ldc hx hb hown (hT _ k_Machine_106) d_Machine_goOn_3 ?_
      refine lv_icmp_ge (tgt := 173) hx hb d_Machine_goOn_5 (by decide) (fun c1 => ?_) (fun c1 => ?_)
      · replace hR := if_p c1 hR
        obtain ⟨-, -, e3⟩ := re_e hR
        subst e3
        exact W.vret hx hb hr (fun t ht hW => ⟨⟨(), rfl, trivial, by rw [ht]; exact hP, va_K.moved hW.alike hK, hD⟩, hS.F ht⟩) hS.2.2 d_Machine_goOn_173
      · replace hR := if_n c1 hR
        refine lv_aload_n hx hb d_Machine_goOn_8 rfl (lv_at hl 0 rfl) ?_
        refine rd_Machine_44 hx hb hT hown hK hP d_Machine_goOn_9 ?_
        refine lv_iconst (v := 1) hx hb d_Machine_goOn_12 (by decide) ?_
        refine lv_icmp_ne (tgt := 173) hx hb d_Machine_goOn_13 (by decide) (fun c2 => ?_) (fun c2 => ?_)
        · replace hR := if_n c2 hR
          obtain ⟨-, -, e3⟩ := re_e hR
          subst e3
          exact W.vret hx hb hr (fun t ht hW => ⟨⟨(), rfl, trivial, by rw [ht]; exact hP, va_K.moved hW.alike hK, hD⟩, hS.F ht⟩) hS.2.2 d_Machine_goOn_173
        · replace hR := if_p c2 hR
          refine lv_aload_n hx hb d_Machine_goOn_16 rfl (lv_at hl 0 rfl) ?_
          refine rd_Machine_36 hx hb hT hown hK hP d_Machine_goOn_17 ?_
          refine lv_aload_n hx hb d_Machine_goOn_20 rfl (lv_at hl 0 rfl) ?_
          refine rd_Machine_61 hx hb hT hown hK hP d_Machine_goOn_21 ?_
          replace hR := bi_e hR
          obtain ⟨r3, l3, T3, hc3, hR⟩ := hR
          refine gcV_i (rest := []) ⟨hx, hb, hml, hown, hT⟩ (h_Code_opAt _ _ _ _ _ hc3) (cwV 1 hT (gV ml_Machine_107 im_Code_opAt se_Code_opAt ini_Code co_Code_opAt) rfl rfl rfl pd_Code_opAt ⟨rm_hi, rm_lo (Nat.le_of_ble_eq_true rfl)⟩) hK hP hD hS hA hnw henv (Nat.le_of_ble_eq_true rfl) rfl rfl hl.1 rfl (Nat.le_of_ble_eq_true rfl) d_Machine_goOn_24 ⟨Nat.le_refl _, Nat.le_refl _⟩ (fun H locs hP hD hS => ?_)
          clear hc3
          refine lv_iconst (v := 1) hx hb d_Machine_goOn_27 (by decide) ?_
          refine lv_icmp_eq (tgt := 173) hx hb d_Machine_goOn_28 (by decide) (fun c4 => ?_) (fun c4 => ?_)
          · replace hR := if_p c4 hR
            obtain ⟨-, -, e3⟩ := re_e hR
            subst e3
            exact W.vret hx hb hr (fun t ht hW => ⟨⟨(), rfl, trivial, by rw [ht]; exact hP, va_K.moved hW.alike hK, hD⟩, hS.F ht⟩) hS.2.2 d_Machine_goOn_173
          · replace hR := if_n c4 hR
            refine lv_aload_n hx hb d_Machine_goOn_31 rfl (lv_at hl 0 rfl) ?_
            refine rd_Machine_36 hx hb hT hown hK hP d_Machine_goOn_32 ?_
            refine lv_aload_n hx hb d_Machine_goOn_35 rfl (lv_at hl 0 rfl) ?_
            refine rd_Machine_61 hx hb hT hown hK hP d_Machine_goOn_36 ?_
            replace hR := bi_e hR
            obtain ⟨r5, l5, T5, hc5, hR⟩ := hR
            refine gcV_i (rest := []) ⟨hx, hb, hml, hown, hT⟩ (h_Code_opAt _ _ _ _ _ hc5) (cwV 1 hT (gV ml_Machine_107 im_Code_opAt se_Code_opAt ini_Code co_Code_opAt) rfl rfl rfl pd_Code_opAt ⟨rm_hi, rm_lo (Nat.le_of_ble_eq_true rfl)⟩) hK hP hD hS hA hnw henv (Nat.le_of_ble_eq_true rfl) rfl rfl hl.1 rfl (Nat.le_of_ble_eq_true rfl) d_Machine_goOn_39 ⟨Nat.le_refl _, Nat.le_refl _⟩ (fun H locs hP hD hS => ?_)
            clear hc5
            refine lv_istore_n (lv' := [(2, .int r5), (0, .ref (ad 10)), (1, .int x1)]) hx hb d_Machine_goOn_42 rfl hl (by decide) rfl (fun ls hl => ?_)
            refine lv_aload_n hx hb d_Machine_goOn_43 rfl (lv_at hl 1 rfl) ?_
            refine rd_Machine_36 hx hb hT hown hK hP d_Machine_goOn_44 ?_
            refine lv_aload_n hx hb d_Machine_goOn_47 rfl (lv_at hl 1 rfl) ?_
            refine rd_Machine_61 hx hb hT hown hK hP d_Machine_goOn_48 ?_
            replace hR := bi_e hR
            obtain ⟨r6, l6, T6, hc6, hR⟩ := hR
            refine gcV_i (rest := []) ⟨hx, hb, hml, hown, hT⟩ (h_Code_firstAt _ _ _ _ _ hc6) (cwV 1 hT (gV ml_Machine_97 im_Code_firstAt se_Code_firstAt ini_Code co_Code_firstAt) rfl rfl rfl pd_Code_firstAt ⟨rm_hi, rm_lo (Nat.le_of_ble_eq_true rfl)⟩) hK hP hD hS hA hnw henv (Nat.le_of_ble_eq_true rfl) rfl rfl hl.1 rfl (Nat.le_of_ble_eq_true rfl) d_Machine_goOn_51 ⟨Nat.le_refl _, Nat.le_refl _⟩ (fun H locs hP hD hS => ?_)
            clear hc6
            refine lv_istore_n (lv' := [(3, .int r6), (2, .int r5), (0, .ref (ad 10)), (1, .int x1)]) hx hb d_Machine_goOn_54 rfl hl (by decide) rfl (fun ls hl => ?_)
            refine lv_aload_n hx hb d_Machine_goOn_55 rfl (lv_at hl 2 rfl) ?_
            refine rd_Machine_36 hx hb hT hown hK hP d_Machine_goOn_56 ?_
            refine lv_aload_n hx hb d_Machine_goOn_59 rfl (lv_at hl 2 rfl) ?_
            refine rd_Machine_61 hx hb hT hown hK hP d_Machine_goOn_60 ?_
            replace hR := bi_e hR
            obtain ⟨r7, l7, T7, hc7, hR⟩ := hR
            refine gcV_i (rest := []) ⟨hx, hb, hml, hown, hT⟩ (h_Code_secondAt _ _ _ _ _ hc7) (cwV 1 hT (gV ml_Machine_110 im_Code_secondAt se_Code_secondAt ini_Code co_Code_secondAt) rfl rfl rfl pd_Code_secondAt ⟨rm_hi, rm_lo (Nat.le_of_ble_eq_true rfl)⟩) hK hP hD hS hA hnw henv (Nat.le_of_ble_eq_true rfl) rfl rfl hl.1 rfl (Nat.le_of_ble_eq_true rfl) d_Machine_goOn_63 ⟨Nat.le_refl _, Nat.le_refl _⟩ (fun H locs hP hD hS => ?_)
            clear hc7
            refine lv_istore (lv' := [(4, .int r7), (3, .int r6), (2, .int r5), (0, .ref (ad 10)), (1, .int x1)]) hx hb d_Machine_goOn_66 hl (by decide) rfl (fun ls hl => ?_)
            refine lv_aload_n hx hb d_Machine_goOn_68 rfl (lv_at hl 3 rfl) ?_
            refine lv_dup hx hb d_Machine_goOn_69 rfl ?_
            refine rd_Machine_61 hx hb hT hown hK hP d_Machine_goOn_70 ?_
            refine lv_iconst (v := 1) hx hb d_Machine_goOn_73 (by decide) ?_
            refine lv_iadd hx hb d_Machine_goOn_74 ?_
            refine wr_Machine_61 hx hb hT hown hK hP hD hS d_Machine_goOn_75 (fun T8 eT H locs hP hD hS => ?_)
            replace hR := stK_e eT hR
            clear eT
            refine lv_iload_n hx hb d_Machine_goOn_78 rfl (lv_at hl 2 rfl) ?_
            refine lv_bipush (v := 9) hx hb d_Machine_goOn_79 (by decide) ?_
            refine lv_icmp_gt (tgt := 95) hx hb d_Machine_goOn_81 (by decide) (fun c9 => ?_) (fun c9 => ?_)
            · replace hR := if_p c9 hR
              refine lv_iload_n hx hb d_Machine_goOn_95 rfl (lv_at hl 2 rfl) ?_
              refine lv_bipush (v := 16) hx hb d_Machine_goOn_96 (by decide) ?_
              refine lv_icmp_gt (tgt := 109) hx hb d_Machine_goOn_98 (by decide) (fun c10 => ?_) (fun c10 => ?_)
              · replace hR := if_p c10 hR
                refine lv_iload_n hx hb d_Machine_goOn_109 rfl (lv_at hl 2 rfl) ?_
                refine lv_bipush (v := 26) hx hb d_Machine_goOn_110 (by decide) ?_
                refine lv_icmp_gt (tgt := 126) hx hb d_Machine_goOn_112 (by decide) (fun c11 => ?_) (fun c11 => ?_)
                · replace hR := if_p c11 hR
                  refine lv_iload_n hx hb d_Machine_goOn_126 rfl (lv_at hl 2 rfl) ?_
                  refine lv_bipush (v := 32) hx hb d_Machine_goOn_127 (by decide) ?_
                  refine lv_icmp_gt (tgt := 142) hx hb d_Machine_goOn_129 (by decide) (fun c12 => ?_) (fun c12 => ?_)
                  · replace hR := if_p c12 hR
                    refine lv_iload_n hx hb d_Machine_goOn_142 rfl (lv_at hl 2 rfl) ?_
                    refine lv_bipush (v := 42) hx hb d_Machine_goOn_143 (by decide) ?_
                    refine lv_icmp_gt (tgt := 159) hx hb d_Machine_goOn_145 (by decide) (fun c13 => ?_) (fun c13 => ?_)
                    · replace hR := if_p c13 hR
                      refine lv_aload_n hx hb d_Machine_goOn_159 rfl (lv_at hl 3 rfl) ?_
                      refine lv_iload_n hx hb d_Machine_goOn_160 rfl (lv_at hl 2 rfl) ?_
                      refine lv_iload_n hx hb d_Machine_goOn_161 rfl (lv_at hl 1 rfl) ?_
                      refine lv_iload hx hb d_Machine_goOn_162 (lv_at hl 0 rfl) ?_
                      replace hR := bi_e hR
                      obtain ⟨r14, l14, T14, hc14, hR⟩ := hR
                      refine gcV_v (rest := []) ⟨hx, hb, hml, hown, hT⟩ (h_Machine_doControl _ _ _ _ _ _ _ hc14) (cwV 3 hT (gV ml_Machine_130 im_Machine_doControl se_Machine_doControl ini_Machine co_Machine_doControl) rfl rfl rfl pd_Machine_doControl ⟨rm_hi, rm_lo (Nat.le_of_ble_eq_true rfl)⟩) hK hP hD hS hA hnw henv (Nat.le_of_ble_eq_true rfl) rfl rfl hl.1 rfl (Nat.le_of_ble_eq_true rfl) d_Machine_goOn_164 ⟨Nat.le_refl _, Nat.le_refl _⟩ (fun H locs hP hD hS => ?_)
                      clear hc14
                      obtain ⟨z15, e15⟩ : ∃ y : Int32, y = x1 + (1 : Int32) := ⟨_, rfl⟩
                      replace hR := vK_e e15 hR
                      refine lv_iinc (v := z15) (lv' := [(1, .int z15), (4, .int r7), (3, .int r6), (2, .int r5), (0, .ref (ad 10))]) hx hb d_Machine_goOn_167 hl (k := 4) rfl (by rw [e15]; rfl) (by decide) rfl (fun ls hl => ?_)
                      refine lv_goto (tgt := 2) hx hb d_Machine_goOn_170 (by decide) ?_
                      have g := ih T14 z15 hR
                      rw [hG] at g
                      exact g _ _ hP hD hS _ (lv_sub hl [4, 0] rfl)
                    · replace hR := if_n c13 hR
                      refine lv_aload_n hx hb d_Machine_goOn_148 rfl (lv_at hl 3 rfl) ?_
                      refine lv_iload_n hx hb d_Machine_goOn_149 rfl (lv_at hl 2 rfl) ?_
                      refine lv_iload_n hx hb d_Machine_goOn_150 rfl (lv_at hl 1 rfl) ?_
                      refine lv_iload hx hb d_Machine_goOn_151 (lv_at hl 0 rfl) ?_
                      replace hR := bi_e hR
                      obtain ⟨r16, l16, T16, hc16, hR⟩ := hR
                      refine gcV_v (rest := []) ⟨hx, hb, hml, hown, hT⟩ (h_Machine_doMaking _ _ _ _ _ _ _ hc16) (cwV 3 hT (gV ml_Machine_127 im_Machine_doMaking se_Machine_doMaking ini_Machine co_Machine_doMaking) rfl rfl rfl pd_Machine_doMaking ⟨rm_hi, rm_lo (Nat.le_of_ble_eq_true rfl)⟩) hK hP hD hS hA hnw henv (Nat.le_of_ble_eq_true rfl) rfl rfl hl.1 rfl (Nat.le_of_ble_eq_true rfl) d_Machine_goOn_153 ⟨Nat.le_refl _, Nat.le_refl _⟩ (fun H locs hP hD hS => ?_)
                      clear hc16
                      refine lv_goto (tgt := 167) hx hb d_Machine_goOn_156 (by decide) ?_
                      obtain ⟨z17, e17⟩ : ∃ y : Int32, y = x1 + (1 : Int32) := ⟨_, rfl⟩
                      replace hR := vK_e e17 hR
                      refine lv_iinc (v := z17) (lv' := [(1, .int z17), (4, .int r7), (3, .int r6), (2, .int r5), (0, .ref (ad 10))]) hx hb d_Machine_goOn_167 hl (k := 4) rfl (by rw [e17]; rfl) (by decide) rfl (fun ls hl => ?_)
                      refine lv_goto (tgt := 2) hx hb d_Machine_goOn_170 (by decide) ?_
                      have g := ih T16 z17 hR
                      rw [hG] at g
                      exact g _ _ hP hD hS _ (lv_sub hl [4, 0] rfl)
                  · replace hR := if_n c12 hR
                    refine lv_aload_n hx hb d_Machine_goOn_132 rfl (lv_at hl 3 rfl) ?_
                    refine lv_iload_n hx hb d_Machine_goOn_133 rfl (lv_at hl 2 rfl) ?_
                    refine lv_iload hx hb d_Machine_goOn_134 (lv_at hl 0 rfl) ?_
                    replace hR := bi_e hR
                    obtain ⟨r18, l18, T18, hc18, hR⟩ := hR
                    refine gcV_v (rest := []) ⟨hx, hb, hml, hown, hT⟩ (h_Machine_doIndexed _ _ _ _ _ _ hc18) (cwV 2 hT (gV ml_Machine_124 im_Machine_doIndexed se_Machine_doIndexed ini_Machine co_Machine_doIndexed) rfl rfl rfl pd_Machine_doIndexed ⟨rm_hi, rm_lo (Nat.le_of_ble_eq_true rfl)⟩) hK hP hD hS hA hnw henv (Nat.le_of_ble_eq_true rfl) rfl rfl hl.1 rfl (Nat.le_of_ble_eq_true rfl) d_Machine_goOn_136 ⟨Nat.le_refl _, Nat.le_refl _⟩ (fun H locs hP hD hS => ?_)
                    clear hc18
                    refine lv_goto (tgt := 167) hx hb d_Machine_goOn_139 (by decide) ?_
                    obtain ⟨z19, e19⟩ : ∃ y : Int32, y = x1 + (1 : Int32) := ⟨_, rfl⟩
                    replace hR := vK_e e19 hR
                    refine lv_iinc (v := z19) (lv' := [(1, .int z19), (4, .int r7), (3, .int r6), (2, .int r5), (0, .ref (ad 10))]) hx hb d_Machine_goOn_167 hl (k := 4) rfl (by rw [e19]; rfl) (by decide) rfl (fun ls hl => ?_)
                    refine lv_goto (tgt := 2) hx hb d_Machine_goOn_170 (by decide) ?_
                    have g := ih T18 z19 hR
                    rw [hG] at g
                    exact g _ _ hP hD hS _ (lv_sub hl [4, 0] rfl)
                · replace hR := if_n c11 hR
                  refine lv_aload_n hx hb d_Machine_goOn_115 rfl (lv_at hl 3 rfl) ?_
                  refine lv_iload_n hx hb d_Machine_goOn_116 rfl (lv_at hl 2 rfl) ?_
                  refine lv_iload_n hx hb d_Machine_goOn_117 rfl (lv_at hl 1 rfl) ?_
                  refine lv_iload hx hb d_Machine_goOn_118 (lv_at hl 0 rfl) ?_
                  replace hR := bi_e hR
                  obtain ⟨r20, l20, T20, hc20, hR⟩ := hR
                  refine gcV_v (rest := []) ⟨hx, hb, hml, hown, hT⟩ (h_Machine_doPointed _ _ _ _ _ _ _ hc20) (cwV 3 hT (gV ml_Machine_121 im_Machine_doPointed se_Machine_doPointed ini_Machine co_Machine_doPointed) rfl rfl rfl pd_Machine_doPointed ⟨rm_hi, rm_lo (Nat.le_of_ble_eq_true rfl)⟩) hK hP hD hS hA hnw henv (Nat.le_of_ble_eq_true rfl) rfl rfl hl.1 rfl (Nat.le_of_ble_eq_true rfl) d_Machine_goOn_120 ⟨Nat.le_refl _, Nat.le_refl _⟩ (fun H locs hP hD hS => ?_)
                  clear hc20
                  refine lv_goto (tgt := 167) hx hb d_Machine_goOn_123 (by decide) ?_
                  obtain ⟨z21, e21⟩ : ∃ y : Int32, y = x1 + (1 : Int32) := ⟨_, rfl⟩
                  replace hR := vK_e e21 hR
                  refine lv_iinc (v := z21) (lv' := [(1, .int z21), (4, .int r7), (3, .int r6), (2, .int r5), (0, .ref (ad 10))]) hx hb d_Machine_goOn_167 hl (k := 4) rfl (by rw [e21]; rfl) (by decide) rfl (fun ls hl => ?_)
                  refine lv_goto (tgt := 2) hx hb d_Machine_goOn_170 (by decide) ?_
                  have g := ih T20 z21 hR
                  rw [hG] at g
                  exact g _ _ hP hD hS _ (lv_sub hl [4, 0] rfl)
              · replace hR := if_n c10 hR
                refine lv_aload_n hx hb d_Machine_goOn_101 rfl (lv_at hl 3 rfl) ?_
                refine lv_iload_n hx hb d_Machine_goOn_102 rfl (lv_at hl 2 rfl) ?_
                replace hR := bi_e hR
                obtain ⟨r22, l22, T22, hc22, hR⟩ := hR
                refine gcV_v (rest := []) ⟨hx, hb, hml, hown, hT⟩ (h_Machine_doNumeric _ _ _ _ _ hc22) (cwV 1 hT (gV ml_Machine_117 im_Machine_doNumeric se_Machine_doNumeric ini_Machine co_Machine_doNumeric) rfl rfl rfl pd_Machine_doNumeric ⟨rm_hi, rm_lo (Nat.le_of_ble_eq_true rfl)⟩) hK hP hD hS hA hnw henv (Nat.le_of_ble_eq_true rfl) rfl rfl hl.1 rfl (Nat.le_of_ble_eq_true rfl) d_Machine_goOn_103 ⟨Nat.le_refl _, Nat.le_refl _⟩ (fun H locs hP hD hS => ?_)
                clear hc22
                refine lv_goto (tgt := 167) hx hb d_Machine_goOn_106 (by decide) ?_
                obtain ⟨z23, e23⟩ : ∃ y : Int32, y = x1 + (1 : Int32) := ⟨_, rfl⟩
                replace hR := vK_e e23 hR
                refine lv_iinc (v := z23) (lv' := [(1, .int z23), (4, .int r7), (3, .int r6), (2, .int r5), (0, .ref (ad 10))]) hx hb d_Machine_goOn_167 hl (k := 4) rfl (by rw [e23]; rfl) (by decide) rfl (fun ls hl => ?_)
                refine lv_goto (tgt := 2) hx hb d_Machine_goOn_170 (by decide) ?_
                have g := ih T22 z23 hR
                rw [hG] at g
                exact g _ _ hP hD hS _ (lv_sub hl [4, 0] rfl)
            · replace hR := if_n c9 hR
              refine lv_aload_n hx hb d_Machine_goOn_84 rfl (lv_at hl 3 rfl) ?_
              refine lv_iload_n hx hb d_Machine_goOn_85 rfl (lv_at hl 2 rfl) ?_
              refine lv_iload_n hx hb d_Machine_goOn_86 rfl (lv_at hl 1 rfl) ?_
              refine lv_iload hx hb d_Machine_goOn_87 (lv_at hl 0 rfl) ?_
              replace hR := bi_e hR
              obtain ⟨r24, l24, T24, hc24, hR⟩ := hR
              refine gcV_v (rest := []) ⟨hx, hb, hml, hown, hT⟩ (h_Machine_doSimple _ _ _ _ _ _ _ hc24) (cwV 3 hT (gV ml_Machine_113 im_Machine_doSimple se_Machine_doSimple ini_Machine co_Machine_doSimple) rfl rfl rfl pd_Machine_doSimple ⟨rm_hi, rm_lo (Nat.le_of_ble_eq_true rfl)⟩) hK hP hD hS hA hnw henv (Nat.le_of_ble_eq_true rfl) rfl rfl hl.1 rfl (Nat.le_of_ble_eq_true rfl) d_Machine_goOn_89 ⟨Nat.le_refl _, Nat.le_refl _⟩ (fun H locs hP hD hS => ?_)
              clear hc24
              refine lv_goto (tgt := 167) hx hb d_Machine_goOn_92 (by decide) ?_
              obtain ⟨z25, e25⟩ : ∃ y : Int32, y = x1 + (1 : Int32) := ⟨_, rfl⟩
              replace hR := vK_e e25 hR
              refine lv_iinc (v := z25) (lv' := [(1, .int z25), (4, .int r7), (3, .int r6), (2, .int r5), (0, .ref (ad 10))]) hx hb d_Machine_goOn_167 hl (k := 4) rfl (by rw [e25]; rfl) (by decide) rfl (fun ls hl => ?_)
              refine lv_goto (tgt := 2) hx hb d_Machine_goOn_170 (by decide) ?_
              have g := ih T24 z25 hR
              rw [hG] at g
              exact g _ _ hP hD hS _ (lv_sub hl [4, 0] rfl)
  unfold rb_Machine_goOn at hR
  refine lv_iconst (v := 0) hx hb d_Machine_goOn_0 (by decide) ?_
  refine lv_istore_n (lv' := [(1, .int (0 : Int32)), (0, .ref (ad 10))]) hx hb d_Machine_goOn_1 rfl hl (by decide) rfl (fun ls hl => ?_)
  have g := lb_2 nf T0 (0 : Int32) hR
  rw [hG] at g
  exact g _ _ hP hD hS _ (lv_sub hl [1, 0] rfl)
set_option maxHeartbeats 4000000 in
set_option maxRecDepth 100000 in
theorem sp_Machine_push (l : Launch) (dC : Nat → ClassId) (dI : Nat → Nat → Nat) (ea ev ad : Nat → Nat) (km : Nat → ClassId) (F : gF) (nf d : Nat) (T0 : gSt) (p1 : Int32) (r0 : Int32) (rl0 : Int64) (T9 : gSt) (hR : rb_Machine_push F nf T0 p1 = some (r0, rl0, T9)) : GMv l dC dI LH ad km ea ev y_Machine_push w_Machine_push (rmD (d + 1)) [.ref (ad 10), .int p1] T0 T9 := by
  intro sz
  refine Met.ofW (cc := b_Machine_push) (maxL := 2) (ret := none) (by decide) rfl ?_
  intro p e s m args below meth c s₁ B hml hv
  obtain ⟨rfl, hsz, hP, hK, hD0, hnw, henv⟩ := hv
  have hx := B.exec
  have hb := B.bytes
  have hr := B.returns
  have hT : ∀ w ∈ lw_good, w.before _ s = true := fun w h => atoms_spec (ws := w_Machine_push) B.pre w (List.mem_cons_of_mem _ h)
  have hown : s.vm.findClass R_Machine = some m.cls := findClass_of_methodNamed B.named
  subst hsz
  have hD := hD0.self (sz := s.heap.size)
  clear hD0
  generalize hAe : va_A (gW LH ad km T0) s.heap.size = A at hD henv ⊢
  have hA : ∀ q : Nat, s.heap.size ≤ q → A q := fun q h => by rw [← hAe]; exact Or.inr h
  have hS : va_S A s.heap s.heap [] := va_S.rf
  have hl := lv_entry ([.ref (ad 10), .int p1]) (n := 2) (Nat.le_of_ble_eq_true rfl)
  rw [lg_entry_eq]
  generalize (lg_sl ([.ref (ad 10), .int p1]) ++ List.replicate (2 - (lg_sl ([.ref (ad 10), .int p1])).length) Slot.unset).toArray = ls at hl ⊢
  have hl : lv_has ls 2 [(0, .ref (ad 10)), (1, .int p1)] := hl
  unfold rb_Machine_push at hR
  refine lv_aload_n hx hb d_Machine_push_0 rfl (lv_at hl 0 rfl) ?_
  refine rd_Machine_52 hx hb hT hown hK hP d_Machine_push_1 ?_
  refine lv_if_lt (tgt := 39) hx hb d_Machine_push_4 (by decide) (fun c1 => ?_) (fun c1 => ?_)
  · replace hR := if_p c1 hR
    obtain ⟨-, -, e3⟩ := re_e hR
    subst e3
    exact W.vret hx hb hr (fun t ht hW => ⟨⟨(), rfl, trivial, by rw [ht]; exact hP, va_K.moved hW.alike hK, hD⟩, hS.F ht⟩) hS.2.2 d_Machine_push_39
  · replace hR := if_n c1 hR
    refine lv_aload_n hx hb d_Machine_push_7 rfl (lv_at hl 0 rfl) ?_
    refine rd_Machine_52 hx hb hT hown hK hP d_Machine_push_8 ?_
    refine lv_aload_n hx hb d_Machine_push_11 rfl (lv_at hl 0 rfl) ?_
    refine rd_Machine_20 hx hb hT hown hK hP d_Machine_push_12 ?_
    refine gw_alen hx hb hK hP 43 23200 55 (Nat.le_of_ble_eq_true rfl) rfl rfl d_Machine_push_15 ?_
    refine W.eq (g2 := F0 m 16 ls [.int (23200 : Int32), .int (T0.1 100 0)]) rfl ?_
    refine lv_icmp_ge (tgt := 39) hx hb d_Machine_push_16 (by decide) (fun c2 => ?_) (fun c2 => ?_)
    · replace hR := if_p c2 hR
      obtain ⟨-, -, e3⟩ := re_e hR
      subst e3
      exact W.vret hx hb hr (fun t ht hW => ⟨⟨(), rfl, trivial, by rw [ht]; exact hP, va_K.moved hW.alike hK, hD⟩, hS.F ht⟩) hS.2.2 d_Machine_push_39
    · replace hR := if_n c2 hR
      refine lv_aload_n hx hb d_Machine_push_19 rfl (lv_at hl 0 rfl) ?_
      refine rd_Machine_20 hx hb hT hown hK hP d_Machine_push_20 ?_
      refine lv_aload_n hx hb d_Machine_push_23 rfl (lv_at hl 0 rfl) ?_
      refine rd_Machine_52 hx hb hT hown hK hP d_Machine_push_24 ?_
      refine lv_iload_n hx hb d_Machine_push_27 rfl (lv_at hl 1 rfl) ?_
      replace hR := gd_e hR
      obtain ⟨b3, hR⟩ := hR
      refine saH_43 hx hb hK hP hD hS b3 d_Machine_push_28 (fun T3 eT H locs hP hD hS => ?_)
      replace hR := stK_e eT hR
      clear eT
      refine lv_aload_n hx hb d_Machine_push_29 rfl (lv_at hl 0 rfl) ?_
      refine lv_dup hx hb d_Machine_push_30 rfl ?_
      refine rd_Machine_52 hx hb hT hown hK hP d_Machine_push_31 ?_
      refine lv_iconst (v := 1) hx hb d_Machine_push_34 (by decide) ?_
      refine lv_iadd hx hb d_Machine_push_35 ?_
      refine wr_Machine_52 hx hb hT hown hK hP hD hS d_Machine_push_36 (fun T4 eT H locs hP hD hS => ?_)
      replace hR := stK_e eT hR
      clear eT
      obtain ⟨-, -, e3⟩ := re_e hR
      subst e3
      exact W.vret hx hb hr (fun t ht hW => ⟨⟨(), rfl, trivial, by rw [ht]; exact hP, va_K.moved hW.alike hK, hD⟩, hS.F ht⟩) hS.2.2 d_Machine_push_39
set_option maxHeartbeats 4000000 in
set_option maxRecDepth 100000 in
theorem sp_Machine_pop (l : Launch) (dC : Nat → ClassId) (dI : Nat → Nat → Nat) (ea ev ad : Nat → Nat) (km : Nat → ClassId) (F : gF) (nf d : Nat) (T0 : gSt) (r0 : Int32) (rl0 : Int64) (T9 : gSt) (hR : rb_Machine_pop F nf T0 = some (r0, rl0, T9)) : GMi l dC dI LH ad km ea ev y_Machine_pop w_Machine_pop (rmD (d + 1)) [.ref (ad 10)] T0 r0 T9 := by
  intro sz
  refine Met.ofW (cc := b_Machine_pop) (maxL := 1) (ret := (some .int)) (by decide) rfl ?_
  intro p e s m args below meth c s₁ B hml hv
  obtain ⟨rfl, hsz, hP, hK, hD0, hnw, henv⟩ := hv
  have hx := B.exec
  have hb := B.bytes
  have hr := B.returns
  have hT : ∀ w ∈ lw_good, w.before _ s = true := fun w h => atoms_spec (ws := w_Machine_pop) B.pre w (List.mem_cons_of_mem _ h)
  have hown : s.vm.findClass R_Machine = some m.cls := findClass_of_methodNamed B.named
  subst hsz
  have hD := hD0.self (sz := s.heap.size)
  clear hD0
  generalize hAe : va_A (gW LH ad km T0) s.heap.size = A at hD henv ⊢
  have hA : ∀ q : Nat, s.heap.size ≤ q → A q := fun q h => by rw [← hAe]; exact Or.inr h
  have hS : va_S A s.heap s.heap [] := va_S.rf
  have hl := lv_entry ([.ref (ad 10)]) (n := 1) (Nat.le_of_ble_eq_true rfl)
  rw [lg_entry_eq]
  generalize (lg_sl ([.ref (ad 10)]) ++ List.replicate (1 - (lg_sl ([.ref (ad 10)])).length) Slot.unset).toArray = ls at hl ⊢
  have hl : lv_has ls 1 [(0, .ref (ad 10))] := hl
  unfold rb_Machine_pop at hR
  refine lv_aload_n hx hb d_Machine_pop_0 rfl (lv_at hl 0 rfl) ?_
  refine rd_Machine_52 hx hb hT hown hK hP d_Machine_pop_1 ?_
  refine lv_if_le (tgt := 19) hx hb d_Machine_pop_4 (by decide) (fun c1 => ?_) (fun c1 => ?_)
  · replace hR := if_p c1 hR
    refine lv_iconst (v := 0) hx hb d_Machine_pop_19 (by decide) ?_
    obtain ⟨e1, -, e3⟩ := re_e hR
    subst e1; subst e3
    exact W.iret (v := (0 : Int32)) hx hb hr (fun t ht hW => ⟨⟨(0 : Int32), (), rfl, rfl, by rw [ht]; exact hP, va_K.moved hW.alike hK, hD⟩, hS.F ht⟩) hS.2.2 d_Machine_pop_20
  · replace hR := if_n c1 hR
    refine lv_aload_n hx hb d_Machine_pop_7 rfl (lv_at hl 0 rfl) ?_
    refine rd_Machine_52 hx hb hT hown hK hP d_Machine_pop_8 ?_
    refine lv_aload_n hx hb d_Machine_pop_11 rfl (lv_at hl 0 rfl) ?_
    refine rd_Machine_20 hx hb hT hown hK hP d_Machine_pop_12 ?_
    refine gw_alen hx hb hK hP 43 23200 55 (Nat.le_of_ble_eq_true rfl) rfl rfl d_Machine_pop_15 ?_
    refine W.eq (g2 := F0 m 16 ls [.int (23200 : Int32), .int (T0.1 100 0)]) rfl ?_
    refine lv_icmp_le (tgt := 21) hx hb d_Machine_pop_16 (by decide) (fun c3 => ?_) (fun c3 => ?_)
    · replace hR := if_p c3 hR
      refine lv_aload_n hx hb d_Machine_pop_21 rfl (lv_at hl 0 rfl) ?_
      refine lv_dup hx hb d_Machine_pop_22 rfl ?_
      refine rd_Machine_52 hx hb hT hown hK hP d_Machine_pop_23 ?_
      refine lv_iconst (v := 1) hx hb d_Machine_pop_26 (by decide) ?_
      refine lv_isub hx hb d_Machine_pop_27 ?_
      refine wr_Machine_52 hx hb hT hown hK hP hD hS d_Machine_pop_28 (fun T4 eT H locs hP hD hS => ?_)
      replace hR := stK_e eT hR
      clear eT
      refine lv_aload_n hx hb d_Machine_pop_31 rfl (lv_at hl 0 rfl) ?_
      refine rd_Machine_20 hx hb hT hown hK hP d_Machine_pop_32 ?_
      refine lv_aload_n hx hb d_Machine_pop_35 rfl (lv_at hl 0 rfl) ?_
      refine rd_Machine_52 hx hb hT hown hK hP d_Machine_pop_36 ?_
      replace hR := gd_e hR
      obtain ⟨b5, hR⟩ := hR
      refine laH_43 hx hb hK hP b5 d_Machine_pop_39 ?_
      obtain ⟨e1, -, e3⟩ := re_e hR
      subst e1; subst e3
      exact W.iret (v := T4.1 99 (T4.1 100 0).toNatClampNeg) hx hb hr (fun t ht hW => ⟨⟨T4.1 99 (T4.1 100 0).toNatClampNeg, (), rfl, rfl, by rw [ht]; exact hP, va_K.moved hW.alike hK, hD⟩, hS.F ht⟩) hS.2.2 d_Machine_pop_40
    · replace hR := if_n c3 hR
      refine lv_iconst (v := 0) hx hb d_Machine_pop_19 (by decide) ?_
      obtain ⟨e1, -, e3⟩ := re_e hR
      subst e1; subst e3
      exact W.iret (v := (0 : Int32)) hx hb hr (fun t ht hW => ⟨⟨(0 : Int32), (), rfl, rfl, by rw [ht]; exact hP, va_K.moved hW.alike hK, hD⟩, hS.F ht⟩) hS.2.2 d_Machine_pop_20
set_option maxHeartbeats 4000000 in
set_option maxRecDepth 100000 in
theorem sp_Machine_wordAt (l : Launch) (dC : Nat → ClassId) (dI : Nat → Nat → Nat) (ea ev ad : Nat → Nat) (km : Nat → ClassId) (F : gF) (nf d : Nat) (T0 : gSt) (p1 : Int32) (r0 : Int32) (rl0 : Int64) (T9 : gSt) (hR : rb_Machine_wordAt F nf T0 p1 = some (r0, rl0, T9)) : GMi l dC dI LH ad km ea ev y_Machine_wordAt w_Machine_wordAt (rmD (d + 1)) [.ref (ad 10), .int p1] T0 r0 T9 := by
  intro sz
  refine Met.ofW (cc := b_Machine_wordAt) (maxL := 2) (ret := (some .int)) (by decide) rfl ?_
  intro p e s m args below meth c s₁ B hml hv
  obtain ⟨rfl, hsz, hP, hK, hD0, hnw, henv⟩ := hv
  have hx := B.exec
  have hb := B.bytes
  have hr := B.returns
  have hT : ∀ w ∈ lw_good, w.before _ s = true := fun w h => atoms_spec (ws := w_Machine_wordAt) B.pre w (List.mem_cons_of_mem _ h)
  have hown : s.vm.findClass R_Machine = some m.cls := findClass_of_methodNamed B.named
  subst hsz
  have hD := hD0.self (sz := s.heap.size)
  clear hD0
  generalize hAe : va_A (gW LH ad km T0) s.heap.size = A at hD henv ⊢
  have hA : ∀ q : Nat, s.heap.size ≤ q → A q := fun q h => by rw [← hAe]; exact Or.inr h
  have hS : va_S A s.heap s.heap [] := va_S.rf
  have hl := lv_entry ([.ref (ad 10), .int p1]) (n := 2) (Nat.le_of_ble_eq_true rfl)
  rw [lg_entry_eq]
  generalize (lg_sl ([.ref (ad 10), .int p1]) ++ List.replicate (2 - (lg_sl ([.ref (ad 10), .int p1])).length) Slot.unset).toArray = ls at hl ⊢
  have hl : lv_has ls 2 [(0, .ref (ad 10)), (1, .int p1)] := hl
  unfold rb_Machine_wordAt at hR
  refine lv_iload_n hx hb d_Machine_wordAt_0 rfl (lv_at hl 1 rfl) ?_
  refine lv_if_lt (tgt := 13) hx hb d_Machine_wordAt_1 (by decide) (fun c1 => ?_) (fun c1 => ?_)
  · replace hR := if_p c1 hR
    refine lv_iconst (v := 0) hx hb d_Machine_wordAt_13 (by decide) ?_
    refine lv_goto (tgt := 23) hx hb d_Machine_wordAt_14 (by decide) ?_
    obtain ⟨e1, -, e3⟩ := re_e hR
    subst e1; subst e3
    exact W.iret (v := (0 : Int32)) hx hb hr (fun t ht hW => ⟨⟨(0 : Int32), (), rfl, rfl, by rw [ht]; exact hP, va_K.moved hW.alike hK, hD⟩, hS.F ht⟩) hS.2.2 d_Machine_wordAt_23
  · replace hR := if_n c1 hR
    refine lv_iload_n hx hb d_Machine_wordAt_4 rfl (lv_at hl 1 rfl) ?_
    refine lv_aload_n hx hb d_Machine_wordAt_5 rfl (lv_at hl 0 rfl) ?_
    refine rd_Machine_20 hx hb hT hown hK hP d_Machine_wordAt_6 ?_
    refine gw_alen hx hb hK hP 43 23200 55 (Nat.le_of_ble_eq_true rfl) rfl rfl d_Machine_wordAt_9 ?_
    refine W.eq (g2 := F0 m 10 ls [.int (23200 : Int32), .int p1]) rfl ?_
    refine lv_icmp_lt (tgt := 17) hx hb d_Machine_wordAt_10 (by decide) (fun c3 => ?_) (fun c3 => ?_)
    · replace hR := if_p c3 hR
      refine lv_aload_n hx hb d_Machine_wordAt_17 rfl (lv_at hl 0 rfl) ?_
      refine rd_Machine_20 hx hb hT hown hK hP d_Machine_wordAt_18 ?_
      refine lv_iload_n hx hb d_Machine_wordAt_21 rfl (lv_at hl 1 rfl) ?_
      replace hR := gd_e hR
      obtain ⟨b4, hR⟩ := hR
      refine laH_43 hx hb hK hP b4 d_Machine_wordAt_22 ?_
      obtain ⟨e1, -, e3⟩ := re_e hR
      subst e1; subst e3
      exact W.iret (v := T0.1 99 p1.toNatClampNeg) hx hb hr (fun t ht hW => ⟨⟨T0.1 99 p1.toNatClampNeg, (), rfl, rfl, by rw [ht]; exact hP, va_K.moved hW.alike hK, hD⟩, hS.F ht⟩) hS.2.2 d_Machine_wordAt_23
    · replace hR := if_n c3 hR
      refine lv_iconst (v := 0) hx hb d_Machine_wordAt_13 (by decide) ?_
      refine lv_goto (tgt := 23) hx hb d_Machine_wordAt_14 (by decide) ?_
      obtain ⟨e1, -, e3⟩ := re_e hR
      subst e1; subst e3
      exact W.iret (v := (0 : Int32)) hx hb hr (fun t ht hW => ⟨⟨(0 : Int32), (), rfl, rfl, by rw [ht]; exact hP, va_K.moved hW.alike hK, hD⟩, hS.F ht⟩) hS.2.2 d_Machine_wordAt_23
set_option maxHeartbeats 4000000 in
set_option maxRecDepth 100000 in
theorem sp_Machine_setWord (l : Launch) (dC : Nat → ClassId) (dI : Nat → Nat → Nat) (ea ev ad : Nat → Nat) (km : Nat → ClassId) (F : gF) (nf d : Nat) (T0 : gSt) (p1 : Int32) (p2 : Int32) (r0 : Int32) (rl0 : Int64) (T9 : gSt) (hR : rb_Machine_setWord F nf T0 p1 p2 = some (r0, rl0, T9)) : GMv l dC dI LH ad km ea ev y_Machine_setWord w_Machine_setWord (rmD (d + 1)) [.ref (ad 10), .int p1, .int p2] T0 T9 := by
  intro sz
  refine Met.ofW (cc := b_Machine_setWord) (maxL := 3) (ret := none) (by decide) rfl ?_
  intro p e s m args below meth c s₁ B hml hv
  obtain ⟨rfl, hsz, hP, hK, hD0, hnw, henv⟩ := hv
  have hx := B.exec
  have hb := B.bytes
  have hr := B.returns
  have hT : ∀ w ∈ lw_good, w.before _ s = true := fun w h => atoms_spec (ws := w_Machine_setWord) B.pre w (List.mem_cons_of_mem _ h)
  have hown : s.vm.findClass R_Machine = some m.cls := findClass_of_methodNamed B.named
  subst hsz
  have hD := hD0.self (sz := s.heap.size)
  clear hD0
  generalize hAe : va_A (gW LH ad km T0) s.heap.size = A at hD henv ⊢
  have hA : ∀ q : Nat, s.heap.size ≤ q → A q := fun q h => by rw [← hAe]; exact Or.inr h
  have hS : va_S A s.heap s.heap [] := va_S.rf
  have hl := lv_entry ([.ref (ad 10), .int p1, .int p2]) (n := 3) (Nat.le_of_ble_eq_true rfl)
  rw [lg_entry_eq]
  generalize (lg_sl ([.ref (ad 10), .int p1, .int p2]) ++ List.replicate (3 - (lg_sl ([.ref (ad 10), .int p1, .int p2])).length) Slot.unset).toArray = ls at hl ⊢
  have hl : lv_has ls 3 [(0, .ref (ad 10)), (1, .int p1), (2, .int p2)] := hl
  unfold rb_Machine_setWord at hR
  refine lv_iload_n hx hb d_Machine_setWord_0 rfl (lv_at hl 1 rfl) ?_
  refine lv_if_lt (tgt := 20) hx hb d_Machine_setWord_1 (by decide) (fun c1 => ?_) (fun c1 => ?_)
  · replace hR := if_p c1 hR
    obtain ⟨-, -, e3⟩ := re_e hR
    subst e3
    exact W.vret hx hb hr (fun t ht hW => ⟨⟨(), rfl, trivial, by rw [ht]; exact hP, va_K.moved hW.alike hK, hD⟩, hS.F ht⟩) hS.2.2 d_Machine_setWord_20
  · replace hR := if_n c1 hR
    refine lv_iload_n hx hb d_Machine_setWord_4 rfl (lv_at hl 1 rfl) ?_
    refine lv_aload_n hx hb d_Machine_setWord_5 rfl (lv_at hl 0 rfl) ?_
    refine rd_Machine_20 hx hb hT hown hK hP d_Machine_setWord_6 ?_
    refine gw_alen hx hb hK hP 43 23200 55 (Nat.le_of_ble_eq_true rfl) rfl rfl d_Machine_setWord_9 ?_
    refine W.eq (g2 := F0 m 10 ls [.int (23200 : Int32), .int p1]) rfl ?_
    refine lv_icmp_ge (tgt := 20) hx hb d_Machine_setWord_10 (by decide) (fun c2 => ?_) (fun c2 => ?_)
    · replace hR := if_p c2 hR
      obtain ⟨-, -, e3⟩ := re_e hR
      subst e3
      exact W.vret hx hb hr (fun t ht hW => ⟨⟨(), rfl, trivial, by rw [ht]; exact hP, va_K.moved hW.alike hK, hD⟩, hS.F ht⟩) hS.2.2 d_Machine_setWord_20
    · replace hR := if_n c2 hR
      refine lv_aload_n hx hb d_Machine_setWord_13 rfl (lv_at hl 0 rfl) ?_
      refine rd_Machine_20 hx hb hT hown hK hP d_Machine_setWord_14 ?_
      refine lv_iload_n hx hb d_Machine_setWord_17 rfl (lv_at hl 1 rfl) ?_
      refine lv_iload_n hx hb d_Machine_setWord_18 rfl (lv_at hl 2 rfl) ?_
      replace hR := gd_e hR
      obtain ⟨b3, hR⟩ := hR
      refine saH_43 hx hb hK hP hD hS b3 d_Machine_setWord_19 (fun T3 eT H locs hP hD hS => ?_)
      replace hR := stK_e eT hR
      clear eT
      obtain ⟨-, -, e3⟩ := re_e hR
      subst e3
      exact W.vret hx hb hr (fun t ht hW => ⟨⟨(), rfl, trivial, by rw [ht]; exact hP, va_K.moved hW.alike hK, hD⟩, hS.F ht⟩) hS.2.2 d_Machine_setWord_20
set_option maxHeartbeats 4000000 in
set_option maxRecDepth 100000 in
theorem sp_Machine_frame (l : Launch) (dC : Nat → ClassId) (dI : Nat → Nat → Nat) (ea ev ad : Nat → Nat) (km : Nat → ClassId) (F : gF) (nf d : Nat) (T0 : gSt) (p1 : Int32) (r0 : Int32) (rl0 : Int64) (T9 : gSt) (hR : rb_Machine_frame F nf T0 p1 = some (r0, rl0, T9)) : GMi l dC dI LH ad km ea ev y_Machine_frame w_Machine_frame (rmD (d + 1)) [.ref (ad 10), .int p1] T0 r0 T9 := by
  intro sz
  refine Met.ofW (cc := b_Machine_frame) (maxL := 3) (ret := (some .int)) (by decide) rfl ?_
  intro p e s m args below meth c s₁ B hml hv
  obtain ⟨rfl, hsz, hP, hK, hD0, hnw, henv⟩ := hv
  have hx := B.exec
  have hb := B.bytes
  have hr := B.returns
  have hT : ∀ w ∈ lw_good, w.before _ s = true := fun w h => atoms_spec (ws := w_Machine_frame) B.pre w (List.mem_cons_of_mem _ h)
  have hown : s.vm.findClass R_Machine = some m.cls := findClass_of_methodNamed B.named
  subst hsz
  have hD := hD0.self (sz := s.heap.size)
  clear hD0
  generalize hAe : va_A (gW LH ad km T0) s.heap.size = A at hD henv ⊢
  have hA : ∀ q : Nat, s.heap.size ≤ q → A q := fun q h => by rw [← hAe]; exact Or.inr h
  have hS : va_S A s.heap s.heap [] := va_S.rf
  have hl := lv_entry ([.ref (ad 10), .int p1]) (n := 3) (Nat.le_of_ble_eq_true rfl)
  rw [lg_entry_eq]
  generalize (lg_sl ([.ref (ad 10), .int p1]) ++ List.replicate (3 - (lg_sl ([.ref (ad 10), .int p1])).length) Slot.unset).toArray = ls at hl ⊢
  have hl : lv_has ls 3 [(0, .ref (ad 10)), (1, .int p1)] := hl
  unfold rb_Machine_frame at hR
  refine lv_aload_n hx hb d_Machine_frame_0 rfl (lv_at hl 0 rfl) ?_
  refine rd_Machine_55 hx hb hT hown hK hP d_Machine_frame_1 ?_
  refine lv_bipush (v := 17) hx hb d_Machine_frame_4 (by decide) ?_
  refine lv_imul hx hb d_Machine_frame_6 ?_
  refine lv_iload_n hx hb d_Machine_frame_7 rfl (lv_at hl 1 rfl) ?_
  refine lv_iadd hx hb d_Machine_frame_8 ?_
  refine lv_topi (fun z1 e1 => ?_)
  replace hR := vK_e e1 hR
  refine lv_istore_n (lv' := [(2, .int z1), (0, .ref (ad 10)), (1, .int p1)]) hx hb d_Machine_frame_9 rfl hl (by decide) rfl (fun ls hl => ?_)
  refine lv_iload_n hx hb d_Machine_frame_10 rfl (lv_at hl 0 rfl) ?_
  refine lv_if_lt (tgt := 23) hx hb d_Machine_frame_11 (by decide) (fun c2 => ?_) (fun c2 => ?_)
  · replace hR := if_p c2 hR
    refine lv_iconst (v := 0) hx hb d_Machine_frame_23 (by decide) ?_
    refine lv_goto (tgt := 33) hx hb d_Machine_frame_24 (by decide) ?_
    obtain ⟨e1, -, e3⟩ := re_e hR
    subst e1; subst e3
    exact W.iret (v := (0 : Int32)) hx hb hr (fun t ht hW => ⟨⟨(0 : Int32), (), rfl, rfl, by rw [ht]; exact hP, va_K.moved hW.alike hK, hD⟩, hS.F ht⟩) hS.2.2 d_Machine_frame_33
  · replace hR := if_n c2 hR
    refine lv_iload_n hx hb d_Machine_frame_14 rfl (lv_at hl 0 rfl) ?_
    refine lv_aload_n hx hb d_Machine_frame_15 rfl (lv_at hl 1 rfl) ?_
    refine rd_Machine_24 hx hb hT hown hK hP d_Machine_frame_16 ?_
    refine gw_alen hx hb hK hP 44 697 56 (Nat.le_of_ble_eq_true rfl) rfl rfl d_Machine_frame_19 ?_
    refine W.eq (g2 := F0 m 20 ls [.int (697 : Int32), .int z1]) rfl ?_
    refine lv_icmp_lt (tgt := 27) hx hb d_Machine_frame_20 (by decide) (fun c4 => ?_) (fun c4 => ?_)
    · replace hR := if_p c4 hR
      refine lv_aload_n hx hb d_Machine_frame_27 rfl (lv_at hl 1 rfl) ?_
      refine rd_Machine_24 hx hb hT hown hK hP d_Machine_frame_28 ?_
      refine lv_iload_n hx hb d_Machine_frame_31 rfl (lv_at hl 0 rfl) ?_
      replace hR := gd_e hR
      obtain ⟨b5, hR⟩ := hR
      refine laH_44 hx hb hK hP b5 d_Machine_frame_32 ?_
      obtain ⟨e1, -, e3⟩ := re_e hR
      subst e1; subst e3
      exact W.iret (v := T0.1 101 z1.toNatClampNeg) hx hb hr (fun t ht hW => ⟨⟨T0.1 101 z1.toNatClampNeg, (), rfl, rfl, by rw [ht]; exact hP, va_K.moved hW.alike hK, hD⟩, hS.F ht⟩) hS.2.2 d_Machine_frame_33
    · replace hR := if_n c4 hR
      refine lv_iconst (v := 0) hx hb d_Machine_frame_23 (by decide) ?_
      refine lv_goto (tgt := 33) hx hb d_Machine_frame_24 (by decide) ?_
      obtain ⟨e1, -, e3⟩ := re_e hR
      subst e1; subst e3
      exact W.iret (v := (0 : Int32)) hx hb hr (fun t ht hW => ⟨⟨(0 : Int32), (), rfl, rfl, by rw [ht]; exact hP, va_K.moved hW.alike hK, hD⟩, hS.F ht⟩) hS.2.2 d_Machine_frame_33
set_option maxHeartbeats 4000000 in
set_option maxRecDepth 100000 in
theorem sp_Machine_setFrame (l : Launch) (dC : Nat → ClassId) (dI : Nat → Nat → Nat) (ea ev ad : Nat → Nat) (km : Nat → ClassId) (F : gF) (nf d : Nat) (T0 : gSt) (p1 : Int32) (p2 : Int32) (r0 : Int32) (rl0 : Int64) (T9 : gSt) (hR : rb_Machine_setFrame F nf T0 p1 p2 = some (r0, rl0, T9)) : GMv l dC dI LH ad km ea ev y_Machine_setFrame w_Machine_setFrame (rmD (d + 1)) [.ref (ad 10), .int p1, .int p2] T0 T9 := by
  intro sz
  refine Met.ofW (cc := b_Machine_setFrame) (maxL := 4) (ret := none) (by decide) rfl ?_
  intro p e s m args below meth c s₁ B hml hv
  obtain ⟨rfl, hsz, hP, hK, hD0, hnw, henv⟩ := hv
  have hx := B.exec
  have hb := B.bytes
  have hr := B.returns
  have hT : ∀ w ∈ lw_good, w.before _ s = true := fun w h => atoms_spec (ws := w_Machine_setFrame) B.pre w (List.mem_cons_of_mem _ h)
  have hown : s.vm.findClass R_Machine = some m.cls := findClass_of_methodNamed B.named
  subst hsz
  have hD := hD0.self (sz := s.heap.size)
  clear hD0
  generalize hAe : va_A (gW LH ad km T0) s.heap.size = A at hD henv ⊢
  have hA : ∀ q : Nat, s.heap.size ≤ q → A q := fun q h => by rw [← hAe]; exact Or.inr h
  have hS : va_S A s.heap s.heap [] := va_S.rf
  have hl := lv_entry ([.ref (ad 10), .int p1, .int p2]) (n := 4) (Nat.le_of_ble_eq_true rfl)
  rw [lg_entry_eq]
  generalize (lg_sl ([.ref (ad 10), .int p1, .int p2]) ++ List.replicate (4 - (lg_sl ([.ref (ad 10), .int p1, .int p2])).length) Slot.unset).toArray = ls at hl ⊢
  have hl : lv_has ls 4 [(0, .ref (ad 10)), (1, .int p1), (2, .int p2)] := hl
  unfold rb_Machine_setFrame at hR
  refine lv_aload_n hx hb d_Machine_setFrame_0 rfl (lv_at hl 0 rfl) ?_
  refine rd_Machine_55 hx hb hT hown hK hP d_Machine_setFrame_1 ?_
  refine lv_bipush (v := 17) hx hb d_Machine_setFrame_4 (by decide) ?_
  refine lv_imul hx hb d_Machine_setFrame_6 ?_
  refine lv_iload_n hx hb d_Machine_setFrame_7 rfl (lv_at hl 1 rfl) ?_
  refine lv_iadd hx hb d_Machine_setFrame_8 ?_
  refine lv_topi (fun z1 e1 => ?_)
  replace hR := vK_e e1 hR
  refine lv_istore_n (lv' := [(3, .int z1), (0, .ref (ad 10)), (1, .int p1), (2, .int p2)]) hx hb d_Machine_setFrame_9 rfl hl (by decide) rfl (fun ls hl => ?_)
  refine lv_iload_n hx hb d_Machine_setFrame_10 rfl (lv_at hl 0 rfl) ?_
  refine lv_if_lt (tgt := 30) hx hb d_Machine_setFrame_11 (by decide) (fun c2 => ?_) (fun c2 => ?_)
  · replace hR := if_p c2 hR
    obtain ⟨-, -, e3⟩ := re_e hR
    subst e3
    exact W.vret hx hb hr (fun t ht hW => ⟨⟨(), rfl, trivial, by rw [ht]; exact hP, va_K.moved hW.alike hK, hD⟩, hS.F ht⟩) hS.2.2 d_Machine_setFrame_30
  · replace hR := if_n c2 hR
    refine lv_iload_n hx hb d_Machine_setFrame_14 rfl (lv_at hl 0 rfl) ?_
    refine lv_aload_n hx hb d_Machine_setFrame_15 rfl (lv_at hl 1 rfl) ?_
    refine rd_Machine_24 hx hb hT hown hK hP d_Machine_setFrame_16 ?_
    refine gw_alen hx hb hK hP 44 697 56 (Nat.le_of_ble_eq_true rfl) rfl rfl d_Machine_setFrame_19 ?_
    refine W.eq (g2 := F0 m 20 ls [.int (697 : Int32), .int z1]) rfl ?_
    refine lv_icmp_ge (tgt := 30) hx hb d_Machine_setFrame_20 (by decide) (fun c3 => ?_) (fun c3 => ?_)
    · replace hR := if_p c3 hR
      obtain ⟨-, -, e3⟩ := re_e hR
      subst e3
      exact W.vret hx hb hr (fun t ht hW => ⟨⟨(), rfl, trivial, by rw [ht]; exact hP, va_K.moved hW.alike hK, hD⟩, hS.F ht⟩) hS.2.2 d_Machine_setFrame_30
    · replace hR := if_n c3 hR
      refine lv_aload_n hx hb d_Machine_setFrame_23 rfl (lv_at hl 1 rfl) ?_
      refine rd_Machine_24 hx hb hT hown hK hP d_Machine_setFrame_24 ?_
      refine lv_iload_n hx hb d_Machine_setFrame_27 rfl (lv_at hl 0 rfl) ?_
      refine lv_iload_n hx hb d_Machine_setFrame_28 rfl (lv_at hl 3 rfl) ?_
      replace hR := gd_e hR
      obtain ⟨b4, hR⟩ := hR
      refine saH_44 hx hb hK hP hD hS b4 d_Machine_setFrame_29 (fun T4 eT H locs hP hD hS => ?_)
      replace hR := stK_e eT hR
      clear eT
      obtain ⟨-, -, e3⟩ := re_e hR
      subst e3
      exact W.vret hx hb hr (fun t ht hW => ⟨⟨(), rfl, trivial, by rw [ht]; exact hP, va_K.moved hW.alike hK, hD⟩, hS.F ht⟩) hS.2.2 d_Machine_setFrame_30
set_option maxHeartbeats 4000000 in
set_option maxRecDepth 100000 in
theorem sp_Machine_doSimple (l : Launch) (dC : Nat → ClassId) (dI : Nat → Nat → Nat) (ea ev ad : Nat → Nat) (km : Nat → ClassId) (F : gF) (nf d : Nat) (h_Machine_push : mt_Machine_push l dC dI ea ev ad km F d) (h_Machine_nextInput : mt_Machine_nextInput l dC dI ea ev ad km F d) (h_Machine_pop : mt_Machine_pop l dC dI ea ev ad km F d) (h_Machine_keepPrinted : mt_Machine_keepPrinted l dC dI ea ev ad km F d) (h_Machine_wordAt : mt_Machine_wordAt l dC dI ea ev ad km F d) (h_Machine_setWord : mt_Machine_setWord l dC dI ea ev ad km F d) (h_Machine_frame : mt_Machine_frame l dC dI ea ev ad km F d) (T0 : gSt) (p1 : Int32) (p2 : Int32) (p3 : Int32) (r0 : Int32) (rl0 : Int64) (T9 : gSt) (hR : rb_Machine_doSimple F nf T0 p1 p2 p3 = some (r0, rl0, T9)) : GMv l dC dI LH ad km ea ev y_Machine_doSimple w_Machine_doSimple (rmD (d + 1)) [.ref (ad 10), .int p1, .int p2, .int p3] T0 T9 := by
  intro sz
  refine Met.ofW (cc := b_Machine_doSimple) (maxL := 6) (ret := none) (by decide) rfl ?_
  intro p e s m args below meth c s₁ B hml hv
  obtain ⟨rfl, hsz, hP, hK, hD0, hnw, henv⟩ := hv
  have hx := B.exec
  have hb := B.bytes
  have hr := B.returns
  have hT : ∀ w ∈ lw_good, w.before _ s = true := fun w h => atoms_spec (ws := w_Machine_doSimple) B.pre w (List.mem_cons_of_mem _ h)
  have hown : s.vm.findClass R_Machine = some m.cls := findClass_of_methodNamed B.named
  subst hsz
  have hD := hD0.self (sz := s.heap.size)
  clear hD0
  generalize hAe : va_A (gW LH ad km T0) s.heap.size = A at hD henv ⊢
  have hA : ∀ q : Nat, s.heap.size ≤ q → A q := fun q h => by rw [← hAe]; exact Or.inr h
  have hS : va_S A s.heap s.heap [] := va_S.rf
  have hl := lv_entry ([.ref (ad 10), .int p1, .int p2, .int p3]) (n := 6) (Nat.le_of_ble_eq_true rfl)
  rw [lg_entry_eq]
  generalize (lg_sl ([.ref (ad 10), .int p1, .int p2, .int p3]) ++ List.replicate (6 - (lg_sl ([.ref (ad 10), .int p1, .int p2, .int p3])).length) Slot.unset).toArray = ls at hl ⊢
  have hl : lv_has ls 6 [(0, .ref (ad 10)), (1, .int p1), (2, .int p2), (3, .int p3)] := hl
  obtain ⟨G, hG⟩ : ∃ G : Nat → List (Nat × Value) → List Value → gSt → Prop, G = (fun pc lv stk T => ∀ (H : Heap) (locs : List Loc), va_P (dC, dI) cls_all (gW LH ad km T) H → va_D A (gW LH ad km T) → va_S A s.heap H locs → ∀ (ls : Array Slot), lv_has ls 6 lv → W p l e (headSpec w_Machine_doSimple (rmD (d + 1))).room s m ([.ref (ad 10), .int p1, .int p2, .int p3] : List Value).toArray below meth c H locs 0 0 (MQ below (va_Qv (fun (_ : Unit) => True) (fun _ t => gPost dC dI LH ad km T9 A t) A) ([.ref (ad 10), .int p1, .int p2, .int p3] : List Value).toArray s 0 0 A) (F0 m pc ls stk)) := ⟨_, rfl⟩
  have lb_93 : ∀ (n : Nat) (T : gSt) (x2 : Int32) (x4 : Int32), rl_Machine_doSimple_93 F nf n T x2 x4 = some (r0, rl0, T9) → G 93 [(0, .ref (ad 10)), (2, .int x2), (4, .int x4)] [] T := by
    intro n
    induction n with
    | zero => intro T x2 x4 hR; rw [rl_Machine_doSimple_93] at hR; cases hR
    | succ n ih =>
      intro T x2 x4 hR; rw [rl_Machine_doSimple_93] at hR; rw [hG]; intro H locs hP hD hS ls hl
      refine lv_iload hx hb d_Machine_doSimple_93 (lv_at hl 2 rfl) ?_
      refine lv_if_lt (tgt := 122) hx hb d_Machine_doSimple_95 (by decide) (fun c27 => ?_) (fun c27 => ?_)
      · replace hR := if_p c27 hR
        refine lv_goto (tgt := 222) hx hb d_Machine_doSimple_122 (by decide) ?_
        obtain ⟨-, -, e3⟩ := re_e hR
        subst e3
        exact W.vret hx hb hr (fun t ht hW => ⟨⟨(), rfl, trivial, by rw [ht]; exact hP, va_K.moved hW.alike hK, hD⟩, hS.F ht⟩) hS.2.2 d_Machine_doSimple_222
      · replace hR := if_n c27 hR
        refine lv_aload_n hx hb d_Machine_doSimple_98 rfl (lv_at hl 0 rfl) ?_
        refine lv_aload_n hx hb d_Machine_doSimple_99 rfl (lv_at hl 0 rfl) ?_
        refine lv_iconst (v := 1) hx hb d_Machine_doSimple_100 (by decide) ?_
        replace hR := bi_e hR
        obtain ⟨r28, l28, T28, hc28, hR⟩ := hR
        refine gcV_i (rest := [.ref (ad 10)]) ⟨hx, hb, hml, hown, hT⟩ (h_Machine_frame _ _ _ _ _ hc28) (cwV 1 hT (gV ml_Machine_136 im_Machine_frame se_Machine_frame ini_Machine co_Machine_frame) rfl rfl rfl pd_Machine_frame ⟨rm_hi, rm_lo (Nat.le_of_ble_eq_true rfl)⟩) hK hP hD hS hA hnw henv (Nat.le_of_ble_eq_true rfl) rfl rfl hl.1 rfl (Nat.le_of_ble_eq_true rfl) d_Machine_doSimple_101 ⟨Nat.le_refl _, Nat.le_refl _⟩ (fun H locs hP hD hS => ?_)
        clear hc28
        refine lv_iload_n hx hb d_Machine_doSimple_104 rfl (lv_at hl 1 rfl) ?_
        refine lv_iadd hx hb d_Machine_doSimple_105 ?_
        refine lv_iload hx hb d_Machine_doSimple_106 (lv_at hl 2 rfl) ?_
        refine lv_iadd hx hb d_Machine_doSimple_108 ?_
        refine lv_aload_n hx hb d_Machine_doSimple_109 rfl (lv_at hl 0 rfl) ?_
        replace hR := bi_e hR
        obtain ⟨r29, l29, T29, hc29, hR⟩ := hR
        refine gcV_i (rest := [.int ((r28 + x2) + x4), .ref (ad 10)]) ⟨hx, hb, hml, hown, hT⟩ (h_Machine_pop _ _ _ _ hc29) (cwV 0 hT (gV ml_Machine_142 im_Machine_pop se_Machine_pop ini_Machine co_Machine_pop) rfl rfl rfl pd_Machine_pop ⟨rm_hi, rm_lo (Nat.le_of_ble_eq_true rfl)⟩) hK hP hD hS hA hnw henv (Nat.le_of_ble_eq_true rfl) rfl rfl hl.1 rfl (Nat.le_of_ble_eq_true rfl) d_Machine_doSimple_110 ⟨Nat.le_refl _, Nat.le_refl _⟩ (fun H locs hP hD hS => ?_)
        clear hc29
        replace hR := bi_e hR
        obtain ⟨r30, l30, T30, hc30, hR⟩ := hR
        refine gcV_v (rest := []) ⟨hx, hb, hml, hown, hT⟩ (h_Machine_setWord _ _ _ _ _ _ hc30) (cwV 2 hT (gV ml_Machine_146 im_Machine_setWord se_Machine_setWord ini_Machine co_Machine_setWord) rfl rfl rfl pd_Machine_setWord ⟨rm_hi, rm_lo (Nat.le_of_ble_eq_true rfl)⟩) hK hP hD hS hA hnw henv (Nat.le_of_ble_eq_true rfl) rfl rfl hl.1 rfl (Nat.le_of_ble_eq_true rfl) d_Machine_doSimple_113 ⟨Nat.le_refl _, Nat.le_refl _⟩ (fun H locs hP hD hS => ?_)
        clear hc30
        obtain ⟨z31, e31⟩ : ∃ y : Int32, y = x4 + (-1 : Int32) := ⟨_, rfl⟩
        replace hR := vK_e e31 hR
        refine lv_iinc (v := z31) (lv' := [(4, .int z31), (0, .ref (ad 10)), (2, .int x2)]) hx hb d_Machine_doSimple_116 hl (k := 2) rfl (by rw [e31]; rfl) (by decide) rfl (fun ls hl => ?_)
        refine lv_goto (tgt := 93) hx hb d_Machine_doSimple_119 (by decide) ?_
        have g := ih T30 x2 z31 hR
        rw [hG] at g
        exact g _ _ hP hD hS _ (lv_sub hl [1, 2, 0] rfl)
  have lb_55 : ∀ (n : Nat) (T : gSt) (x2 : Int32) (x3 : Int32) (x4 : Int32), rl_Machine_doSimple_55 F nf n T x2 x3 x4 = some (r0, rl0, T9) → G 55 [(0, .ref (ad 10)), (2, .int x2), (3, .int x3), (4, .int x4)] [] T := by
    intro n
    induction n with
    | zero => intro T x2 x3 x4 hR; rw [rl_Machine_doSimple_55] at hR; cases hR
    | succ n ih =>
      intro T x2 x3 x4 hR; rw [rl_Machine_doSimple_55] at hR; rw [hG]; intro H locs hP hD hS ls hl
      refine lv_iload hx hb d_Machine_doSimple_55 (lv_at hl 3 rfl) ?_
      refine lv_iload_n hx hb d_Machine_doSimple_57 rfl (lv_at hl 2 rfl) ?_
      refine lv_icmp_ge (tgt := 85) hx hb d_Machine_doSimple_58 (by decide) (fun c22 => ?_) (fun c22 => ?_)
      · replace hR := if_p c22 hR
        refine lv_goto (tgt := 222) hx hb d_Machine_doSimple_85 (by decide) ?_
        obtain ⟨-, -, e3⟩ := re_e hR
        subst e3
        exact W.vret hx hb hr (fun t ht hW => ⟨⟨(), rfl, trivial, by rw [ht]; exact hP, va_K.moved hW.alike hK, hD⟩, hS.F ht⟩) hS.2.2 d_Machine_doSimple_222
      · replace hR := if_n c22 hR
        refine lv_aload_n hx hb d_Machine_doSimple_61 rfl (lv_at hl 0 rfl) ?_
        refine lv_aload_n hx hb d_Machine_doSimple_62 rfl (lv_at hl 0 rfl) ?_
        refine lv_aload_n hx hb d_Machine_doSimple_63 rfl (lv_at hl 0 rfl) ?_
        refine lv_iconst (v := 1) hx hb d_Machine_doSimple_64 (by decide) ?_
        replace hR := bi_e hR
        obtain ⟨r23, l23, T23, hc23, hR⟩ := hR
        refine gcV_i (rest := [.ref (ad 10), .ref (ad 10)]) ⟨hx, hb, hml, hown, hT⟩ (h_Machine_frame _ _ _ _ _ hc23) (cwV 1 hT (gV ml_Machine_136 im_Machine_frame se_Machine_frame ini_Machine co_Machine_frame) rfl rfl rfl pd_Machine_frame ⟨rm_hi, rm_lo (Nat.le_of_ble_eq_true rfl)⟩) hK hP hD hS hA hnw henv (Nat.le_of_ble_eq_true rfl) rfl rfl hl.1 rfl (Nat.le_of_ble_eq_true rfl) d_Machine_doSimple_65 ⟨Nat.le_refl _, Nat.le_refl _⟩ (fun H locs hP hD hS => ?_)
        clear hc23
        refine lv_iload_n hx hb d_Machine_doSimple_68 rfl (lv_at hl 1 rfl) ?_
        refine lv_iadd hx hb d_Machine_doSimple_69 ?_
        refine lv_iload hx hb d_Machine_doSimple_70 (lv_at hl 3 rfl) ?_
        refine lv_iadd hx hb d_Machine_doSimple_72 ?_
        replace hR := bi_e hR
        obtain ⟨r24, l24, T24, hc24, hR⟩ := hR
        refine gcV_i (rest := [.ref (ad 10)]) ⟨hx, hb, hml, hown, hT⟩ (h_Machine_wordAt _ _ _ _ _ hc24) (cwV 1 hT (gV ml_Machine_139 im_Machine_wordAt se_Machine_wordAt ini_Machine co_Machine_wordAt) rfl rfl rfl pd_Machine_wordAt ⟨rm_hi, rm_lo (Nat.le_of_ble_eq_true rfl)⟩) hK hP hD hS hA hnw henv (Nat.le_of_ble_eq_true rfl) rfl rfl hl.1 rfl (Nat.le_of_ble_eq_true rfl) d_Machine_doSimple_73 ⟨Nat.le_refl _, Nat.le_refl _⟩ (fun H locs hP hD hS => ?_)
        clear hc24
        replace hR := bi_e hR
        obtain ⟨r25, l25, T25, hc25, hR⟩ := hR
        refine gcV_v (rest := []) ⟨hx, hb, hml, hown, hT⟩ (h_Machine_push _ _ _ _ _ hc25) (cwV 1 hT (gV ml_Machine_133 im_Machine_push se_Machine_push ini_Machine co_Machine_push) rfl rfl rfl pd_Machine_push ⟨rm_hi, rm_lo (Nat.le_of_ble_eq_true rfl)⟩) hK hP hD hS hA hnw henv (Nat.le_of_ble_eq_true rfl) rfl rfl hl.1 rfl (Nat.le_of_ble_eq_true rfl) d_Machine_doSimple_76 ⟨Nat.le_refl _, Nat.le_refl _⟩ (fun H locs hP hD hS => ?_)
        clear hc25
        obtain ⟨z26, e26⟩ : ∃ y : Int32, y = x4 + (1 : Int32) := ⟨_, rfl⟩
        replace hR := vK_e e26 hR
        refine lv_iinc (v := z26) (lv' := [(4, .int z26), (0, .ref (ad 10)), (2, .int x2), (3, .int x3)]) hx hb d_Machine_doSimple_79 hl (k := 3) rfl (by rw [e26]; rfl) (by decide) rfl (fun ls hl => ?_)
        refine lv_goto (tgt := 55) hx hb d_Machine_doSimple_82 (by decide) ?_
        have g := ih T25 x2 x3 z26 hR
        rw [hG] at g
        exact g _ _ hP hD hS _ (lv_sub hl [1, 2, 3, 0] rfl)
  unfold rb_Machine_doSimple at hR
  refine lv_iload_n hx hb d_Machine_doSimple_0 rfl (lv_at hl 1 rfl) ?_
  by_cases c1 : p1 = (2 : Int32)
  · replace hR := if_p c1 hR
    refine lv_tableIn (off := 43) (tgt := 44) hx hb d_Machine_doSimple_1 (by rw [c1]; decide) (by rw [c1]; decide) (by rw [c1]; decide) (by decide) ?_
    refine lv_aload_n hx hb d_Machine_doSimple_44 rfl (lv_at hl 0 rfl) ?_
    refine lv_iload_n hx hb d_Machine_doSimple_45 rfl (lv_at hl 2 rfl) ?_
    replace hR := bi_e hR
    obtain ⟨r2, l2, T2, hc2, hR⟩ := hR
    refine gcV_v (rest := []) ⟨hx, hb, hml, hown, hT⟩ (h_Machine_push _ _ _ _ _ hc2) (cwV 1 hT (gV ml_Machine_133 im_Machine_push se_Machine_push ini_Machine co_Machine_push) rfl rfl rfl pd_Machine_push ⟨rm_hi, rm_lo (Nat.le_of_ble_eq_true rfl)⟩) hK hP hD hS hA hnw henv (Nat.le_of_ble_eq_true rfl) rfl rfl hl.1 rfl (Nat.le_of_ble_eq_true rfl) d_Machine_doSimple_46 ⟨Nat.le_refl _, Nat.le_refl _⟩ (fun H locs hP hD hS => ?_)
    clear hc2
    refine lv_goto (tgt := 222) hx hb d_Machine_doSimple_49 (by decide) ?_
    obtain ⟨-, -, e3⟩ := re_e hR
    subst e3
    exact W.vret hx hb hr (fun t ht hW => ⟨⟨(), rfl, trivial, by rw [ht]; exact hP, va_K.moved hW.alike hK, hD⟩, hS.F ht⟩) hS.2.2 d_Machine_doSimple_222
  replace hR := if_n c1 hR
  by_cases c3 : p1 = (3 : Int32)
  · replace hR := if_p c3 hR
    refine lv_tableIn (off := 51) (tgt := 52) hx hb d_Machine_doSimple_1 (by rw [c3]; decide) (by rw [c3]; decide) (by rw [c3]; decide) (by decide) ?_
    refine lv_iconst (v := 0) hx hb d_Machine_doSimple_52 (by decide) ?_
    refine lv_istore (lv' := [(4, .int (0 : Int32)), (0, .ref (ad 10)), (1, .int p1), (2, .int p2), (3, .int p3)]) hx hb d_Machine_doSimple_53 hl (by decide) rfl (fun ls hl => ?_)
    have g := lb_55 nf T0 p2 p3 (0 : Int32) hR
    rw [hG] at g
    exact g _ _ hP hD hS _ (lv_sub hl [1, 3, 4, 0] rfl)
  replace hR := if_n c3 hR
  by_cases c4 : p1 = (4 : Int32)
  · replace hR := if_p c4 hR
    refine lv_tableIn (off := 87) (tgt := 88) hx hb d_Machine_doSimple_1 (by rw [c4]; decide) (by rw [c4]; decide) (by rw [c4]; decide) (by decide) ?_
    refine lv_iload_n hx hb d_Machine_doSimple_88 rfl (lv_at hl 3 rfl) ?_
    refine lv_iconst (v := 1) hx hb d_Machine_doSimple_89 (by decide) ?_
    refine lv_isub hx hb d_Machine_doSimple_90 ?_
    refine lv_topi (fun z5 e5 => ?_)
    replace hR := vK_e e5 hR
    refine lv_istore (lv' := [(4, .int z5), (0, .ref (ad 10)), (1, .int p1), (2, .int p2), (3, .int p3)]) hx hb d_Machine_doSimple_91 hl (by decide) rfl (fun ls hl => ?_)
    have g := lb_93 nf T0 p2 z5 hR
    rw [hG] at g
    exact g _ _ hP hD hS _ (lv_sub hl [1, 3, 0] rfl)
  replace hR := if_n c4 hR
  by_cases c6 : p1 = (5 : Int32)
  · replace hR := if_p c6 hR
    refine lv_tableIn (off := 124) (tgt := 125) hx hb d_Machine_doSimple_1 (by rw [c6]; decide) (by rw [c6]; decide) (by rw [c6]; decide) (by decide) ?_
    refine lv_aload_n hx hb d_Machine_doSimple_125 rfl (lv_at hl 0 rfl) ?_
    refine lv_iconst (v := 0) hx hb d_Machine_doSimple_126 (by decide) ?_
    refine lv_aload_n hx hb d_Machine_doSimple_127 rfl (lv_at hl 0 rfl) ?_
    refine rd_Machine_52 hx hb hT hown hK hP d_Machine_doSimple_128 ?_
    refine lv_iload_n hx hb d_Machine_doSimple_131 rfl (lv_at hl 2 rfl) ?_
    refine lv_isub hx hb d_Machine_doSimple_132 ?_
    refine va_mmax hx hb (hml.trans hl.1.symm) hown (hT _ ml_Machine_149) (hT _ st_Math_max) (hT _ ini_Math) (hT _ co_Math_max) rm_f1 (rm_l1 (Nat.le_of_ble_eq_true rfl)) (Nat.le_refl _) (Nat.le_refl _) d_Machine_doSimple_133 ?_
    refine wr_Machine_52 hx hb hT hown hK hP hD hS d_Machine_doSimple_136 (fun T7 eT H locs hP hD hS => ?_)
    replace hR := stK_e eT hR
    clear eT
    refine lv_goto (tgt := 222) hx hb d_Machine_doSimple_139 (by decide) ?_
    obtain ⟨-, -, e3⟩ := re_e hR
    subst e3
    exact W.vret hx hb hr (fun t ht hW => ⟨⟨(), rfl, trivial, by rw [ht]; exact hP, va_K.moved hW.alike hK, hD⟩, hS.F ht⟩) hS.2.2 d_Machine_doSimple_222
  replace hR := if_n c6 hR
  by_cases c8 : p1 = (6 : Int32)
  · replace hR := if_p c8 hR
    refine lv_tableIn (off := 141) (tgt := 142) hx hb d_Machine_doSimple_1 (by rw [c8]; decide) (by rw [c8]; decide) (by rw [c8]; decide) (by decide) ?_
    refine lv_aload_n hx hb d_Machine_doSimple_142 rfl (lv_at hl 0 rfl) ?_
    refine lv_aload_n hx hb d_Machine_doSimple_143 rfl (lv_at hl 0 rfl) ?_
    replace hR := bi_e hR
    obtain ⟨r9, l9, T9, hc9, hR⟩ := hR
    refine gcV_i (rest := [.ref (ad 10)]) ⟨hx, hb, hml, hown, hT⟩ (h_Machine_nextInput _ _ _ _ hc9) (cwV 0 hT (gV ml_Machine_155 im_Machine_nextInput se_Machine_nextInput ini_Machine co_Machine_nextInput) rfl rfl rfl pd_Machine_nextInput ⟨rm_hi, rm_lo (Nat.le_of_ble_eq_true rfl)⟩) hK hP hD hS hA hnw henv (Nat.le_of_ble_eq_true rfl) rfl rfl hl.1 rfl (Nat.le_of_ble_eq_true rfl) d_Machine_doSimple_144 ⟨Nat.le_refl _, Nat.le_refl _⟩ (fun H locs hP hD hS => ?_)
    clear hc9
    replace hR := bi_e hR
    obtain ⟨r10, l10, T10, hc10, hR⟩ := hR
    refine gcV_v (rest := []) ⟨hx, hb, hml, hown, hT⟩ (h_Machine_push _ _ _ _ _ hc10) (cwV 1 hT (gV ml_Machine_133 im_Machine_push se_Machine_push ini_Machine co_Machine_push) rfl rfl rfl pd_Machine_push ⟨rm_hi, rm_lo (Nat.le_of_ble_eq_true rfl)⟩) hK hP hD hS hA hnw henv (Nat.le_of_ble_eq_true rfl) rfl rfl hl.1 rfl (Nat.le_of_ble_eq_true rfl) d_Machine_doSimple_147 ⟨Nat.le_refl _, Nat.le_refl _⟩ (fun H locs hP hD hS => ?_)
    clear hc10
    refine lv_goto (tgt := 222) hx hb d_Machine_doSimple_150 (by decide) ?_
    obtain ⟨-, -, e3⟩ := re_e hR
    subst e3
    exact W.vret hx hb hr (fun t ht hW => ⟨⟨(), rfl, trivial, by rw [ht]; exact hP, va_K.moved hW.alike hK, hD⟩, hS.F ht⟩) hS.2.2 d_Machine_doSimple_222
  replace hR := if_n c8 hR
  by_cases c11 : p1 = (7 : Int32)
  · replace hR := if_p c11 hR
    refine lv_tableIn (off := 152) (tgt := 153) hx hb d_Machine_doSimple_1 (by rw [c11]; decide) (by rw [c11]; decide) (by rw [c11]; decide) (by decide) ?_
    refine lv_aload_n hx hb d_Machine_doSimple_153 rfl (lv_at hl 0 rfl) ?_
    refine lv_aload_n hx hb d_Machine_doSimple_154 rfl (lv_at hl 0 rfl) ?_
    replace hR := bi_e hR
    obtain ⟨r12, l12, T12, hc12, hR⟩ := hR
    refine gcV_i (rest := [.ref (ad 10)]) ⟨hx, hb, hml, hown, hT⟩ (h_Machine_pop _ _ _ _ hc12) (cwV 0 hT (gV ml_Machine_142 im_Machine_pop se_Machine_pop ini_Machine co_Machine_pop) rfl rfl rfl pd_Machine_pop ⟨rm_hi, rm_lo (Nat.le_of_ble_eq_true rfl)⟩) hK hP hD hS hA hnw henv (Nat.le_of_ble_eq_true rfl) rfl rfl hl.1 rfl (Nat.le_of_ble_eq_true rfl) d_Machine_doSimple_155 ⟨Nat.le_refl _, Nat.le_refl _⟩ (fun H locs hP hD hS => ?_)
    clear hc12
    replace hR := bi_e hR
    obtain ⟨r13, l13, T13, hc13, hR⟩ := hR
    refine gcV_v (rest := []) ⟨hx, hb, hml, hown, hT⟩ (h_Machine_keepPrinted _ _ _ _ _ hc13) (cwV 1 hT (gV ml_Machine_158 im_Machine_keepPrinted se_Machine_keepPrinted ini_Machine co_Machine_keepPrinted) rfl rfl rfl pd_Machine_keepPrinted ⟨rm_hi, rm_lo (Nat.le_of_ble_eq_true rfl)⟩) hK hP hD hS hA hnw henv (Nat.le_of_ble_eq_true rfl) rfl rfl hl.1 rfl (Nat.le_of_ble_eq_true rfl) d_Machine_doSimple_158 ⟨Nat.le_refl _, Nat.le_refl _⟩ (fun H locs hP hD hS => ?_)
    clear hc13
    refine lv_goto (tgt := 222) hx hb d_Machine_doSimple_161 (by decide) ?_
    obtain ⟨-, -, e3⟩ := re_e hR
    subst e3
    exact W.vret hx hb hr (fun t ht hW => ⟨⟨(), rfl, trivial, by rw [ht]; exact hP, va_K.moved hW.alike hK, hD⟩, hS.F ht⟩) hS.2.2 d_Machine_doSimple_222
  replace hR := if_n c11 hR
  by_cases c14 : p1 = (8 : Int32)
  · replace hR := if_p c14 hR
    refine lv_tableIn (off := 163) (tgt := 164) hx hb d_Machine_doSimple_1 (by rw [c14]; decide) (by rw [c14]; decide) (by rw [c14]; decide) (by decide) ?_
    refine lv_aload_n hx hb d_Machine_doSimple_164 rfl (lv_at hl 0 rfl) ?_
    replace hR := bi_e hR
    obtain ⟨r15, l15, T15, hc15, hR⟩ := hR
    refine gcV_i (rest := []) ⟨hx, hb, hml, hown, hT⟩ (h_Machine_pop _ _ _ _ hc15) (cwV 0 hT (gV ml_Machine_142 im_Machine_pop se_Machine_pop ini_Machine co_Machine_pop) rfl rfl rfl pd_Machine_pop ⟨rm_hi, rm_lo (Nat.le_of_ble_eq_true rfl)⟩) hK hP hD hS hA hnw henv (Nat.le_of_ble_eq_true rfl) rfl rfl hl.1 rfl (Nat.le_of_ble_eq_true rfl) d_Machine_doSimple_165 ⟨Nat.le_refl _, Nat.le_refl _⟩ (fun H locs hP hD hS => ?_)
    clear hc15
    refine lv_istore (lv' := [(4, .int r15), (0, .ref (ad 10)), (1, .int p1), (2, .int p2), (3, .int p3)]) hx hb d_Machine_doSimple_168 hl (by decide) rfl (fun ls hl => ?_)
    refine lv_aload_n hx hb d_Machine_doSimple_170 rfl (lv_at hl 1 rfl) ?_
    refine lv_iconst (v := 0) hx hb d_Machine_doSimple_171 (by decide) ?_
    refine lv_aload_n hx hb d_Machine_doSimple_172 rfl (lv_at hl 1 rfl) ?_
    refine rd_Machine_52 hx hb hT hown hK hP d_Machine_doSimple_173 ?_
    refine lv_iconst (v := 2) hx hb d_Machine_doSimple_176 (by decide) ?_
    refine lv_isub hx hb d_Machine_doSimple_177 ?_
    refine va_mmax hx hb (hml.trans hl.1.symm) hown (hT _ ml_Machine_149) (hT _ st_Math_max) (hT _ ini_Math) (hT _ co_Math_max) rm_f1 (rm_l1 (Nat.le_of_ble_eq_true rfl)) (Nat.le_refl _) (Nat.le_refl _) d_Machine_doSimple_178 ?_
    refine wr_Machine_52 hx hb hT hown hK hP hD hS d_Machine_doSimple_181 (fun T16 eT H locs hP hD hS => ?_)
    replace hR := stK_e eT hR
    clear eT
    refine lv_aload_n hx hb d_Machine_doSimple_184 rfl (lv_at hl 1 rfl) ?_
    refine lv_iload hx hb d_Machine_doSimple_185 (lv_at hl 0 rfl) ?_
    replace hR := bi_e hR
    obtain ⟨r17, l17, T17, hc17, hR⟩ := hR
    refine gcV_v (rest := []) ⟨hx, hb, hml, hown, hT⟩ (h_Machine_push _ _ _ _ _ hc17) (cwV 1 hT (gV ml_Machine_133 im_Machine_push se_Machine_push ini_Machine co_Machine_push) rfl rfl rfl pd_Machine_push ⟨rm_hi, rm_lo (Nat.le_of_ble_eq_true rfl)⟩) hK hP hD hS hA hnw henv (Nat.le_of_ble_eq_true rfl) rfl rfl hl.1 rfl (Nat.le_of_ble_eq_true rfl) d_Machine_doSimple_187 ⟨Nat.le_refl _, Nat.le_refl _⟩ (fun H locs hP hD hS => ?_)
    clear hc17
    refine lv_goto (tgt := 222) hx hb d_Machine_doSimple_190 (by decide) ?_
    obtain ⟨-, -, e3⟩ := re_e hR
    subst e3
    exact W.vret hx hb hr (fun t ht hW => ⟨⟨(), rfl, trivial, by rw [ht]; exact hP, va_K.moved hW.alike hK, hD⟩, hS.F ht⟩) hS.2.2 d_Machine_doSimple_222
  replace hR := if_n c14 hR
  have h318 : (p1 : Int32).toInt < 2 ∨ 8 < (p1 : Int32).toInt := by
    simp only [i_eq, Int32.reduceToInt] at c1 c3 c4 c6 c8 c11 c14; omega
  refine lv_tableOut (tgt := 193) hx hb d_Machine_doSimple_1 h318 (by decide) ?_
  refine lv_aload_n hx hb d_Machine_doSimple_193 rfl (lv_at hl 0 rfl) ?_
  replace hR := bi_e hR
  obtain ⟨r19, l19, T19, hc19, hR⟩ := hR
  refine gcV_i (rest := []) ⟨hx, hb, hml, hown, hT⟩ (h_Machine_pop _ _ _ _ hc19) (cwV 0 hT (gV ml_Machine_142 im_Machine_pop se_Machine_pop ini_Machine co_Machine_pop) rfl rfl rfl pd_Machine_pop ⟨rm_hi, rm_lo (Nat.le_of_ble_eq_true rfl)⟩) hK hP hD hS hA hnw henv (Nat.le_of_ble_eq_true rfl) rfl rfl hl.1 rfl (Nat.le_of_ble_eq_true rfl) d_Machine_doSimple_194 ⟨Nat.le_refl _, Nat.le_refl _⟩ (fun H locs hP hD hS => ?_)
  clear hc19
  refine lv_istore (lv' := [(5, .int r19), (0, .ref (ad 10)), (1, .int p1), (2, .int p2), (3, .int p3)]) hx hb d_Machine_doSimple_197 hl (by decide) rfl (fun ls hl => ?_)
  refine lv_aload_n hx hb d_Machine_doSimple_199 rfl (lv_at hl 1 rfl) ?_
  refine lv_aload_n hx hb d_Machine_doSimple_200 rfl (lv_at hl 1 rfl) ?_
  refine rd_Machine_52 hx hb hT hown hK hP d_Machine_doSimple_201 ?_
  refine lv_iconst (v := 2) hx hb d_Machine_doSimple_204 (by decide) ?_
  refine lv_isub hx hb d_Machine_doSimple_205 ?_
  refine lv_aload_n hx hb d_Machine_doSimple_206 rfl (lv_at hl 1 rfl) ?_
  refine lv_aload_n hx hb d_Machine_doSimple_207 rfl (lv_at hl 1 rfl) ?_
  refine rd_Machine_52 hx hb hT hown hK hP d_Machine_doSimple_208 ?_
  refine lv_iconst (v := 2) hx hb d_Machine_doSimple_211 (by decide) ?_
  refine lv_isub hx hb d_Machine_doSimple_212 ?_
  replace hR := bi_e hR
  obtain ⟨r20, l20, T20, hc20, hR⟩ := hR
  refine gcV_i (rest := [.int ((T19.1 100 0) - (2 : Int32)), .ref (ad 10)]) ⟨hx, hb, hml, hown, hT⟩ (h_Machine_wordAt _ _ _ _ _ hc20) (cwV 1 hT (gV ml_Machine_139 im_Machine_wordAt se_Machine_wordAt ini_Machine co_Machine_wordAt) rfl rfl rfl pd_Machine_wordAt ⟨rm_hi, rm_lo (Nat.le_of_ble_eq_true rfl)⟩) hK hP hD hS hA hnw henv (Nat.le_of_ble_eq_true rfl) rfl rfl hl.1 rfl (Nat.le_of_ble_eq_true rfl) d_Machine_doSimple_213 ⟨Nat.le_refl _, Nat.le_refl _⟩ (fun H locs hP hD hS => ?_)
  clear hc20
  refine lv_iload hx hb d_Machine_doSimple_216 (lv_at hl 0 rfl) ?_
  refine lv_iadd hx hb d_Machine_doSimple_218 ?_
  replace hR := bi_e hR
  obtain ⟨r21, l21, T21, hc21, hR⟩ := hR
  refine gcV_v (rest := []) ⟨hx, hb, hml, hown, hT⟩ (h_Machine_setWord _ _ _ _ _ _ hc21) (cwV 2 hT (gV ml_Machine_146 im_Machine_setWord se_Machine_setWord ini_Machine co_Machine_setWord) rfl rfl rfl pd_Machine_setWord ⟨rm_hi, rm_lo (Nat.le_of_ble_eq_true rfl)⟩) hK hP hD hS hA hnw henv (Nat.le_of_ble_eq_true rfl) rfl rfl hl.1 rfl (Nat.le_of_ble_eq_true rfl) d_Machine_doSimple_219 ⟨Nat.le_refl _, Nat.le_refl _⟩ (fun H locs hP hD hS => ?_)
  clear hc21
  obtain ⟨-, -, e3⟩ := re_e hR
  subst e3
  exact W.vret hx hb hr (fun t ht hW => ⟨⟨(), rfl, trivial, by rw [ht]; exact hP, va_K.moved hW.alike hK, hD⟩, hS.F ht⟩) hS.2.2 d_Machine_doSimple_222
set_option maxHeartbeats 4000000 in
set_option maxRecDepth 100000 in
theorem sp_Machine_keepPrinted (l : Launch) (dC : Nat → ClassId) (dI : Nat → Nat → Nat) (ea ev ad : Nat → Nat) (km : Nat → ClassId) (F : gF) (nf d : Nat) (T0 : gSt) (p1 : Int32) (r0 : Int32) (rl0 : Int64) (T9 : gSt) (hR : rb_Machine_keepPrinted F nf T0 p1 = some (r0, rl0, T9)) : GMv l dC dI LH ad km ea ev y_Machine_keepPrinted w_Machine_keepPrinted (rmD (d + 1)) [.ref (ad 10), .int p1] T0 T9 := by
  intro sz
  refine Met.ofW (cc := b_Machine_keepPrinted) (maxL := 2) (ret := none) (by decide) rfl ?_
  intro p e s m args below meth c s₁ B hml hv
  obtain ⟨rfl, hsz, hP, hK, hD0, hnw, henv⟩ := hv
  have hx := B.exec
  have hb := B.bytes
  have hr := B.returns
  have hT : ∀ w ∈ lw_good, w.before _ s = true := fun w h => atoms_spec (ws := w_Machine_keepPrinted) B.pre w (List.mem_cons_of_mem _ h)
  have hown : s.vm.findClass R_Machine = some m.cls := findClass_of_methodNamed B.named
  subst hsz
  have hD := hD0.self (sz := s.heap.size)
  clear hD0
  generalize hAe : va_A (gW LH ad km T0) s.heap.size = A at hD henv ⊢
  have hA : ∀ q : Nat, s.heap.size ≤ q → A q := fun q h => by rw [← hAe]; exact Or.inr h
  have hS : va_S A s.heap s.heap [] := va_S.rf
  have hl := lv_entry ([.ref (ad 10), .int p1]) (n := 2) (Nat.le_of_ble_eq_true rfl)
  rw [lg_entry_eq]
  generalize (lg_sl ([.ref (ad 10), .int p1]) ++ List.replicate (2 - (lg_sl ([.ref (ad 10), .int p1])).length) Slot.unset).toArray = ls at hl ⊢
  have hl : lv_has ls 2 [(0, .ref (ad 10)), (1, .int p1)] := hl
  unfold rb_Machine_keepPrinted at hR
  refine lv_aload_n hx hb d_Machine_keepPrinted_0 rfl (lv_at hl 0 rfl) ?_
  refine rd_Machine_76 hx hb hT hown hK hP d_Machine_keepPrinted_1 ?_
  refine lv_aload_n hx hb d_Machine_keepPrinted_4 rfl (lv_at hl 0 rfl) ?_
  refine rd_Machine_33 hx hb hT hown hK hP d_Machine_keepPrinted_5 ?_
  refine gw_alen hx hb hK hP 47 300 59 (Nat.le_of_ble_eq_true rfl) rfl rfl d_Machine_keepPrinted_8 ?_
  refine W.eq (g2 := F0 m 9 ls [.int (300 : Int32), .int (T0.1 113 0)]) rfl ?_
  refine lv_icmp_ge (tgt := 22) hx hb d_Machine_keepPrinted_9 (by decide) (fun c1 => ?_) (fun c1 => ?_)
  · replace hR := if_p c1 hR
    refine lv_aload_n hx hb d_Machine_keepPrinted_22 rfl (lv_at hl 0 rfl) ?_
    refine lv_dup hx hb d_Machine_keepPrinted_23 rfl ?_
    refine rd_Machine_76 hx hb hT hown hK hP d_Machine_keepPrinted_24 ?_
    refine lv_iconst (v := 1) hx hb d_Machine_keepPrinted_27 (by decide) ?_
    refine lv_iadd hx hb d_Machine_keepPrinted_28 ?_
    refine wr_Machine_76 hx hb hT hown hK hP hD hS d_Machine_keepPrinted_29 (fun T2 eT H locs hP hD hS => ?_)
    replace hR := stK_e eT hR
    clear eT
    obtain ⟨-, -, e3⟩ := re_e hR
    subst e3
    exact W.vret hx hb hr (fun t ht hW => ⟨⟨(), rfl, trivial, by rw [ht]; exact hP, va_K.moved hW.alike hK, hD⟩, hS.F ht⟩) hS.2.2 d_Machine_keepPrinted_32
  · replace hR := if_n c1 hR
    refine lv_aload_n hx hb d_Machine_keepPrinted_12 rfl (lv_at hl 0 rfl) ?_
    refine rd_Machine_33 hx hb hT hown hK hP d_Machine_keepPrinted_13 ?_
    refine lv_aload_n hx hb d_Machine_keepPrinted_16 rfl (lv_at hl 0 rfl) ?_
    refine rd_Machine_76 hx hb hT hown hK hP d_Machine_keepPrinted_17 ?_
    refine lv_iload_n hx hb d_Machine_keepPrinted_20 rfl (lv_at hl 1 rfl) ?_
    replace hR := gd_e hR
    obtain ⟨b3, hR⟩ := hR
    refine saH_47 hx hb hK hP hD hS b3 d_Machine_keepPrinted_21 (fun T3 eT H locs hP hD hS => ?_)
    replace hR := stK_e eT hR
    clear eT
    refine lv_aload_n hx hb d_Machine_keepPrinted_22 rfl (lv_at hl 0 rfl) ?_
    refine lv_dup hx hb d_Machine_keepPrinted_23 rfl ?_
    refine rd_Machine_76 hx hb hT hown hK hP d_Machine_keepPrinted_24 ?_
    refine lv_iconst (v := 1) hx hb d_Machine_keepPrinted_27 (by decide) ?_
    refine lv_iadd hx hb d_Machine_keepPrinted_28 ?_
    refine wr_Machine_76 hx hb hT hown hK hP hD hS d_Machine_keepPrinted_29 (fun T4 eT H locs hP hD hS => ?_)
    replace hR := stK_e eT hR
    clear eT
    obtain ⟨-, -, e3⟩ := re_e hR
    subst e3
    exact W.vret hx hb hr (fun t ht hW => ⟨⟨(), rfl, trivial, by rw [ht]; exact hP, va_K.moved hW.alike hK, hD⟩, hS.F ht⟩) hS.2.2 d_Machine_keepPrinted_32
set_option maxHeartbeats 4000000 in
set_option maxRecDepth 100000 in
theorem sp_Machine_doNumeric (l : Launch) (dC : Nat → ClassId) (dI : Nat → Nat → Nat) (ea ev ad : Nat → Nat) (km : Nat → ClassId) (F : gF) (nf d : Nat) (h_Machine_pop : mt_Machine_pop l dC dI ea ev ad km F d) (h_Machine_push : mt_Machine_push l dC dI ea ev ad km F d) (h_Machine_raise : mt_Machine_raise l dC dI ea ev ad km F d) (T0 : gSt) (p1 : Int32) (r0 : Int32) (rl0 : Int64) (T9 : gSt) (hR : rb_Machine_doNumeric F nf T0 p1 = some (r0, rl0, T9)) : GMv l dC dI LH ad km ea ev y_Machine_doNumeric w_Machine_doNumeric (rmD (d + 1)) [.ref (ad 10), .int p1] T0 T9 := by
  intro sz
  refine Met.ofW (cc := b_Machine_doNumeric) (maxL := 4) (ret := none) (by decide) rfl ?_
  intro p e s m args below meth c s₁ B hml hv
  obtain ⟨rfl, hsz, hP, hK, hD0, hnw, henv⟩ := hv
  have hx := B.exec
  have hb := B.bytes
  have hr := B.returns
  have hT : ∀ w ∈ lw_good, w.before _ s = true := fun w h => atoms_spec (ws := w_Machine_doNumeric) B.pre w (List.mem_cons_of_mem _ h)
  have hown : s.vm.findClass R_Machine = some m.cls := findClass_of_methodNamed B.named
  subst hsz
  have hD := hD0.self (sz := s.heap.size)
  clear hD0
  generalize hAe : va_A (gW LH ad km T0) s.heap.size = A at hD henv ⊢
  have hA : ∀ q : Nat, s.heap.size ≤ q → A q := fun q h => by rw [← hAe]; exact Or.inr h
  have hS : va_S A s.heap s.heap [] := va_S.rf
  have hl := lv_entry ([.ref (ad 10), .int p1]) (n := 4) (Nat.le_of_ble_eq_true rfl)
  rw [lg_entry_eq]
  generalize (lg_sl ([.ref (ad 10), .int p1]) ++ List.replicate (4 - (lg_sl ([.ref (ad 10), .int p1])).length) Slot.unset).toArray = ls at hl ⊢
  have hl : lv_has ls 4 [(0, .ref (ad 10)), (1, .int p1)] := hl
  obtain ⟨G, hG⟩ : ∃ G : Nat → List (Nat × Value) → List Value → gSt → Prop, G = (fun pc lv stk T => ∀ (H : Heap) (locs : List Loc), va_P (dC, dI) cls_all (gW LH ad km T) H → va_D A (gW LH ad km T) → va_S A s.heap H locs → ∀ (ls : Array Slot), lv_has ls 4 lv → W p l e (headSpec w_Machine_doNumeric (rmD (d + 1))).room s m ([.ref (ad 10), .int p1] : List Value).toArray below meth c H locs 0 0 (MQ below (va_Qv (fun (_ : Unit) => True) (fun _ t => gPost dC dI LH ad km T9 A t) A) ([.ref (ad 10), .int p1] : List Value).toArray s 0 0 A) (F0 m pc ls stk)) := ⟨_, rfl⟩
  have lb_116 : ∀ (T : gSt) (x1 : Int32) (x2 : Int32) (x3 : Int32), rj_Machine_doNumeric_116 F nf T x1 x2 x3 = some (r0, rl0, T9) → G 116 [(0, .ref (ad 10)), (1, .int x1), (2, .int x2), (3, .int x3)] [] T := by
    intro T x1 x2 x3 hR; unfold rj_Machine_doNumeric_116 at hR; rw [hG]; intro H locs hP hD hS ls hl
    refine lv_iload_n hx hb d_Machine_doNumeric_116 rfl (lv_at hl 2 rfl) ?_
    refine lv_if_ne (tgt := 128) hx hb d_Machine_doNumeric_117 (by decide) (fun c20 => ?_) (fun c20 => ?_)
    · replace hR := if_n c20 hR
      refine lv_aload_n hx hb d_Machine_doNumeric_128 rfl (lv_at hl 0 rfl) ?_
      refine lv_iload_n hx hb d_Machine_doNumeric_129 rfl (lv_at hl 1 rfl) ?_
      refine lv_bipush (v := 13) hx hb d_Machine_doNumeric_130 (by decide) ?_
      refine lv_icmp_ne (tgt := 141) hx hb d_Machine_doNumeric_132 (by decide) (fun c21 => ?_) (fun c21 => ?_)
      · replace hR := if_n c21 hR
        refine lv_iload_n hx hb d_Machine_doNumeric_141 rfl (lv_at hl 3 rfl) ?_
        refine lv_iload_n hx hb d_Machine_doNumeric_142 rfl (lv_at hl 2 rfl) ?_
        replace hR := gd_e hR
        obtain ⟨b22, hR⟩ := hR
        refine lv_irem hx hb d_Machine_doNumeric_143 b22 ?_
        replace hR := bi_e hR
        obtain ⟨r23, l23, T23, hc23, hR⟩ := hR
        refine gcV_v (rest := []) ⟨hx, hb, hml, hown, hT⟩ (h_Machine_push _ _ _ _ _ hc23) (cwV 1 hT (gV ml_Machine_133 im_Machine_push se_Machine_push ini_Machine co_Machine_push) rfl rfl rfl pd_Machine_push ⟨rm_hi, rm_lo (Nat.le_of_ble_eq_true rfl)⟩) hK hP hD hS hA hnw henv (Nat.le_of_ble_eq_true rfl) rfl rfl hl.1 rfl (Nat.le_of_ble_eq_true rfl) d_Machine_doNumeric_144 ⟨Nat.le_refl _, Nat.le_refl _⟩ (fun H locs hP hD hS => ?_)
        clear hc23
        obtain ⟨-, -, e3⟩ := re_e hR
        subst e3
        exact W.vret hx hb hr (fun t ht hW => ⟨⟨(), rfl, trivial, by rw [ht]; exact hP, va_K.moved hW.alike hK, hD⟩, hS.F ht⟩) hS.2.2 d_Machine_doNumeric_147
      · replace hR := if_p c21 hR
        refine lv_iload_n hx hb d_Machine_doNumeric_135 rfl (lv_at hl 3 rfl) ?_
        refine lv_iload_n hx hb d_Machine_doNumeric_136 rfl (lv_at hl 2 rfl) ?_
        replace hR := gd_e hR
        obtain ⟨b24, hR⟩ := hR
        refine lv_idiv hx hb d_Machine_doNumeric_137 b24 ?_
        refine lv_goto (tgt := 144) hx hb d_Machine_doNumeric_138 (by decide) ?_
        replace hR := bi_e hR
        obtain ⟨r25, l25, T25, hc25, hR⟩ := hR
        refine gcV_v (rest := []) ⟨hx, hb, hml, hown, hT⟩ (h_Machine_push _ _ _ _ _ hc25) (cwV 1 hT (gV ml_Machine_133 im_Machine_push se_Machine_push ini_Machine co_Machine_push) rfl rfl rfl pd_Machine_push ⟨rm_hi, rm_lo (Nat.le_of_ble_eq_true rfl)⟩) hK hP hD hS hA hnw henv (Nat.le_of_ble_eq_true rfl) rfl rfl hl.1 rfl (Nat.le_of_ble_eq_true rfl) d_Machine_doNumeric_144 ⟨Nat.le_refl _, Nat.le_refl _⟩ (fun H locs hP hD hS => ?_)
        clear hc25
        obtain ⟨-, -, e3⟩ := re_e hR
        subst e3
        exact W.vret hx hb hr (fun t ht hW => ⟨⟨(), rfl, trivial, by rw [ht]; exact hP, va_K.moved hW.alike hK, hD⟩, hS.F ht⟩) hS.2.2 d_Machine_doNumeric_147
    · replace hR := if_p c20 hR
      refine lv_aload_n hx hb d_Machine_doNumeric_120 rfl (lv_at hl 0 rfl) ?_
      refine lv_iconst (v := 4) hx hb d_Machine_doNumeric_121 (by decide) ?_
      replace hR := bi_e hR
      obtain ⟨r26, l26, T26, hc26, hR⟩ := hR
      refine gcV_v (rest := []) ⟨hx, hb, hml, hown, hT⟩ (h_Machine_raise _ _ _ _ _ hc26) (cwV 1 hT (gV ml_Machine_167 im_Machine_raise se_Machine_raise ini_Machine co_Machine_raise) rfl rfl rfl pd_Machine_raise ⟨rm_hi, rm_lo (Nat.le_of_ble_eq_true rfl)⟩) hK hP hD hS hA hnw henv (Nat.le_of_ble_eq_true rfl) rfl rfl hl.1 rfl (Nat.le_of_ble_eq_true rfl) d_Machine_doNumeric_122 ⟨Nat.le_refl _, Nat.le_refl _⟩ (fun H locs hP hD hS => ?_)
      clear hc26
      refine lv_goto (tgt := 147) hx hb d_Machine_doNumeric_125 (by decide) ?_
      obtain ⟨-, -, e3⟩ := re_e hR
      subst e3
      exact W.vret hx hb hr (fun t ht hW => ⟨⟨(), rfl, trivial, by rw [ht]; exact hP, va_K.moved hW.alike hK, hD⟩, hS.F ht⟩) hS.2.2 d_Machine_doNumeric_147
  unfold rb_Machine_doNumeric at hR
  refine lv_aload_n hx hb d_Machine_doNumeric_0 rfl (lv_at hl 0 rfl) ?_
  replace hR := bi_e hR
  obtain ⟨r1, l1, T1, hc1, hR⟩ := hR
  refine gcV_i (rest := []) ⟨hx, hb, hml, hown, hT⟩ (h_Machine_pop _ _ _ _ hc1) (cwV 0 hT (gV ml_Machine_142 im_Machine_pop se_Machine_pop ini_Machine co_Machine_pop) rfl rfl rfl pd_Machine_pop ⟨rm_hi, rm_lo (Nat.le_of_ble_eq_true rfl)⟩) hK hP hD hS hA hnw henv (Nat.le_of_ble_eq_true rfl) rfl rfl hl.1 rfl (Nat.le_of_ble_eq_true rfl) d_Machine_doNumeric_1 ⟨Nat.le_refl _, Nat.le_refl _⟩ (fun H locs hP hD hS => ?_)
  clear hc1
  refine lv_istore_n (lv' := [(2, .int r1), (0, .ref (ad 10)), (1, .int p1)]) hx hb d_Machine_doNumeric_4 rfl hl (by decide) rfl (fun ls hl => ?_)
  refine lv_aload_n hx hb d_Machine_doNumeric_5 rfl (lv_at hl 1 rfl) ?_
  replace hR := bi_e hR
  obtain ⟨r2, l2, T2, hc2, hR⟩ := hR
  refine gcV_i (rest := []) ⟨hx, hb, hml, hown, hT⟩ (h_Machine_pop _ _ _ _ hc2) (cwV 0 hT (gV ml_Machine_142 im_Machine_pop se_Machine_pop ini_Machine co_Machine_pop) rfl rfl rfl pd_Machine_pop ⟨rm_hi, rm_lo (Nat.le_of_ble_eq_true rfl)⟩) hK hP hD hS hA hnw henv (Nat.le_of_ble_eq_true rfl) rfl rfl hl.1 rfl (Nat.le_of_ble_eq_true rfl) d_Machine_doNumeric_6 ⟨Nat.le_refl _, Nat.le_refl _⟩ (fun H locs hP hD hS => ?_)
  clear hc2
  refine lv_istore_n (lv' := [(3, .int r2), (2, .int r1), (0, .ref (ad 10)), (1, .int p1)]) hx hb d_Machine_doNumeric_9 rfl hl (by decide) rfl (fun ls hl => ?_)
  refine lv_iload_n hx hb d_Machine_doNumeric_10 rfl (lv_at hl 3 rfl) ?_
  by_cases c3 : p1 = (10 : Int32)
  · replace hR := if_p c3 hR
    refine lv_tableIn (off := 41) (tgt := 52) hx hb d_Machine_doNumeric_11 (by rw [c3]; decide) (by rw [c3]; decide) (by rw [c3]; decide) (by decide) ?_
    refine lv_aload_n hx hb d_Machine_doNumeric_52 rfl (lv_at hl 2 rfl) ?_
    refine lv_iload_n hx hb d_Machine_doNumeric_53 rfl (lv_at hl 0 rfl) ?_
    refine lv_iload_n hx hb d_Machine_doNumeric_54 rfl (lv_at hl 1 rfl) ?_
    refine lv_iadd hx hb d_Machine_doNumeric_55 ?_
    replace hR := bi_e hR
    obtain ⟨r4, l4, T4, hc4, hR⟩ := hR
    refine gcV_v (rest := []) ⟨hx, hb, hml, hown, hT⟩ (h_Machine_push _ _ _ _ _ hc4) (cwV 1 hT (gV ml_Machine_133 im_Machine_push se_Machine_push ini_Machine co_Machine_push) rfl rfl rfl pd_Machine_push ⟨rm_hi, rm_lo (Nat.le_of_ble_eq_true rfl)⟩) hK hP hD hS hA hnw henv (Nat.le_of_ble_eq_true rfl) rfl rfl hl.1 rfl (Nat.le_of_ble_eq_true rfl) d_Machine_doNumeric_56 ⟨Nat.le_refl _, Nat.le_refl _⟩ (fun H locs hP hD hS => ?_)
    clear hc4
    refine lv_goto (tgt := 147) hx hb d_Machine_doNumeric_59 (by decide) ?_
    obtain ⟨-, -, e3⟩ := re_e hR
    subst e3
    exact W.vret hx hb hr (fun t ht hW => ⟨⟨(), rfl, trivial, by rw [ht]; exact hP, va_K.moved hW.alike hK, hD⟩, hS.F ht⟩) hS.2.2 d_Machine_doNumeric_147
  replace hR := if_n c3 hR
  by_cases c5 : p1 = (11 : Int32)
  · replace hR := if_p c5 hR
    refine lv_tableIn (off := 51) (tgt := 62) hx hb d_Machine_doNumeric_11 (by rw [c5]; decide) (by rw [c5]; decide) (by rw [c5]; decide) (by decide) ?_
    refine lv_aload_n hx hb d_Machine_doNumeric_62 rfl (lv_at hl 2 rfl) ?_
    refine lv_iload_n hx hb d_Machine_doNumeric_63 rfl (lv_at hl 0 rfl) ?_
    refine lv_iload_n hx hb d_Machine_doNumeric_64 rfl (lv_at hl 1 rfl) ?_
    refine lv_isub hx hb d_Machine_doNumeric_65 ?_
    replace hR := bi_e hR
    obtain ⟨r6, l6, T6, hc6, hR⟩ := hR
    refine gcV_v (rest := []) ⟨hx, hb, hml, hown, hT⟩ (h_Machine_push _ _ _ _ _ hc6) (cwV 1 hT (gV ml_Machine_133 im_Machine_push se_Machine_push ini_Machine co_Machine_push) rfl rfl rfl pd_Machine_push ⟨rm_hi, rm_lo (Nat.le_of_ble_eq_true rfl)⟩) hK hP hD hS hA hnw henv (Nat.le_of_ble_eq_true rfl) rfl rfl hl.1 rfl (Nat.le_of_ble_eq_true rfl) d_Machine_doNumeric_66 ⟨Nat.le_refl _, Nat.le_refl _⟩ (fun H locs hP hD hS => ?_)
    clear hc6
    refine lv_goto (tgt := 147) hx hb d_Machine_doNumeric_69 (by decide) ?_
    obtain ⟨-, -, e3⟩ := re_e hR
    subst e3
    exact W.vret hx hb hr (fun t ht hW => ⟨⟨(), rfl, trivial, by rw [ht]; exact hP, va_K.moved hW.alike hK, hD⟩, hS.F ht⟩) hS.2.2 d_Machine_doNumeric_147
  replace hR := if_n c5 hR
  by_cases c7 : p1 = (12 : Int32)
  · replace hR := if_p c7 hR
    refine lv_tableIn (off := 61) (tgt := 72) hx hb d_Machine_doNumeric_11 (by rw [c7]; decide) (by rw [c7]; decide) (by rw [c7]; decide) (by decide) ?_
    refine lv_aload_n hx hb d_Machine_doNumeric_72 rfl (lv_at hl 2 rfl) ?_
    refine lv_iload_n hx hb d_Machine_doNumeric_73 rfl (lv_at hl 0 rfl) ?_
    refine lv_iload_n hx hb d_Machine_doNumeric_74 rfl (lv_at hl 1 rfl) ?_
    refine lv_imul hx hb d_Machine_doNumeric_75 ?_
    replace hR := bi_e hR
    obtain ⟨r8, l8, T8, hc8, hR⟩ := hR
    refine gcV_v (rest := []) ⟨hx, hb, hml, hown, hT⟩ (h_Machine_push _ _ _ _ _ hc8) (cwV 1 hT (gV ml_Machine_133 im_Machine_push se_Machine_push ini_Machine co_Machine_push) rfl rfl rfl pd_Machine_push ⟨rm_hi, rm_lo (Nat.le_of_ble_eq_true rfl)⟩) hK hP hD hS hA hnw henv (Nat.le_of_ble_eq_true rfl) rfl rfl hl.1 rfl (Nat.le_of_ble_eq_true rfl) d_Machine_doNumeric_76 ⟨Nat.le_refl _, Nat.le_refl _⟩ (fun H locs hP hD hS => ?_)
    clear hc8
    refine lv_goto (tgt := 147) hx hb d_Machine_doNumeric_79 (by decide) ?_
    obtain ⟨-, -, e3⟩ := re_e hR
    subst e3
    exact W.vret hx hb hr (fun t ht hW => ⟨⟨(), rfl, trivial, by rw [ht]; exact hP, va_K.moved hW.alike hK, hD⟩, hS.F ht⟩) hS.2.2 d_Machine_doNumeric_147
  replace hR := if_n c7 hR
  by_cases c9 : p1 = (13 : Int32)
  · replace hR := if_p c9 hR
    refine lv_tableIn (off := 105) (tgt := 116) hx hb d_Machine_doNumeric_11 (by rw [c9]; decide) (by rw [c9]; decide) (by rw [c9]; decide) (by decide) ?_
    have g := lb_116 T2 p1 r1 r2 hR
    rw [hG] at g
    exact g _ _ hP hD hS _ (lv_sub hl [2, 3, 1, 0] rfl)
  replace hR := if_n c9 hR
  by_cases c10 : p1 = (14 : Int32)
  · replace hR := if_p c10 hR
    refine lv_tableIn (off := 105) (tgt := 116) hx hb d_Machine_doNumeric_11 (by rw [c10]; decide) (by rw [c10]; decide) (by rw [c10]; decide) (by decide) ?_
    have g := lb_116 T2 p1 r1 r2 hR
    rw [hG] at g
    exact g _ _ hP hD hS _ (lv_sub hl [2, 3, 1, 0] rfl)
  replace hR := if_n c10 hR
  by_cases c11 : p1 = (15 : Int32)
  · replace hR := if_p c11 hR
    refine lv_tableIn (off := 71) (tgt := 82) hx hb d_Machine_doNumeric_11 (by rw [c11]; decide) (by rw [c11]; decide) (by rw [c11]; decide) (by decide) ?_
    refine lv_aload_n hx hb d_Machine_doNumeric_82 rfl (lv_at hl 2 rfl) ?_
    refine lv_iload_n hx hb d_Machine_doNumeric_83 rfl (lv_at hl 0 rfl) ?_
    refine lv_iload_n hx hb d_Machine_doNumeric_84 rfl (lv_at hl 1 rfl) ?_
    refine lv_icmp_ne (tgt := 92) hx hb d_Machine_doNumeric_85 (by decide) (fun c12 => ?_) (fun c12 => ?_)
    · replace hR := if_n c12 hR
      refine lv_iconst (v := 0) hx hb d_Machine_doNumeric_92 (by decide) ?_
      replace hR := bi_e hR
      obtain ⟨r13, l13, T13, hc13, hR⟩ := hR
      refine gcV_v (rest := []) ⟨hx, hb, hml, hown, hT⟩ (h_Machine_push _ _ _ _ _ hc13) (cwV 1 hT (gV ml_Machine_133 im_Machine_push se_Machine_push ini_Machine co_Machine_push) rfl rfl rfl pd_Machine_push ⟨rm_hi, rm_lo (Nat.le_of_ble_eq_true rfl)⟩) hK hP hD hS hA hnw henv (Nat.le_of_ble_eq_true rfl) rfl rfl hl.1 rfl (Nat.le_of_ble_eq_true rfl) d_Machine_doNumeric_93 ⟨Nat.le_refl _, Nat.le_refl _⟩ (fun H locs hP hD hS => ?_)
      clear hc13
      refine lv_goto (tgt := 147) hx hb d_Machine_doNumeric_96 (by decide) ?_
      obtain ⟨-, -, e3⟩ := re_e hR
      subst e3
      exact W.vret hx hb hr (fun t ht hW => ⟨⟨(), rfl, trivial, by rw [ht]; exact hP, va_K.moved hW.alike hK, hD⟩, hS.F ht⟩) hS.2.2 d_Machine_doNumeric_147
    · replace hR := if_p c12 hR
      refine lv_iconst (v := 1) hx hb d_Machine_doNumeric_88 (by decide) ?_
      refine lv_goto (tgt := 93) hx hb d_Machine_doNumeric_89 (by decide) ?_
      replace hR := bi_e hR
      obtain ⟨r14, l14, T14, hc14, hR⟩ := hR
      refine gcV_v (rest := []) ⟨hx, hb, hml, hown, hT⟩ (h_Machine_push _ _ _ _ _ hc14) (cwV 1 hT (gV ml_Machine_133 im_Machine_push se_Machine_push ini_Machine co_Machine_push) rfl rfl rfl pd_Machine_push ⟨rm_hi, rm_lo (Nat.le_of_ble_eq_true rfl)⟩) hK hP hD hS hA hnw henv (Nat.le_of_ble_eq_true rfl) rfl rfl hl.1 rfl (Nat.le_of_ble_eq_true rfl) d_Machine_doNumeric_93 ⟨Nat.le_refl _, Nat.le_refl _⟩ (fun H locs hP hD hS => ?_)
      clear hc14
      refine lv_goto (tgt := 147) hx hb d_Machine_doNumeric_96 (by decide) ?_
      obtain ⟨-, -, e3⟩ := re_e hR
      subst e3
      exact W.vret hx hb hr (fun t ht hW => ⟨⟨(), rfl, trivial, by rw [ht]; exact hP, va_K.moved hW.alike hK, hD⟩, hS.F ht⟩) hS.2.2 d_Machine_doNumeric_147
  replace hR := if_n c11 hR
  by_cases c15 : p1 = (16 : Int32)
  · replace hR := if_p c15 hR
    refine lv_tableIn (off := 88) (tgt := 99) hx hb d_Machine_doNumeric_11 (by rw [c15]; decide) (by rw [c15]; decide) (by rw [c15]; decide) (by decide) ?_
    refine lv_aload_n hx hb d_Machine_doNumeric_99 rfl (lv_at hl 2 rfl) ?_
    refine lv_iload_n hx hb d_Machine_doNumeric_100 rfl (lv_at hl 0 rfl) ?_
    refine lv_iload_n hx hb d_Machine_doNumeric_101 rfl (lv_at hl 1 rfl) ?_
    refine lv_icmp_ge (tgt := 109) hx hb d_Machine_doNumeric_102 (by decide) (fun c16 => ?_) (fun c16 => ?_)
    · replace hR := if_p c16 hR
      refine lv_iconst (v := 0) hx hb d_Machine_doNumeric_109 (by decide) ?_
      replace hR := bi_e hR
      obtain ⟨r17, l17, T17, hc17, hR⟩ := hR
      refine gcV_v (rest := []) ⟨hx, hb, hml, hown, hT⟩ (h_Machine_push _ _ _ _ _ hc17) (cwV 1 hT (gV ml_Machine_133 im_Machine_push se_Machine_push ini_Machine co_Machine_push) rfl rfl rfl pd_Machine_push ⟨rm_hi, rm_lo (Nat.le_of_ble_eq_true rfl)⟩) hK hP hD hS hA hnw henv (Nat.le_of_ble_eq_true rfl) rfl rfl hl.1 rfl (Nat.le_of_ble_eq_true rfl) d_Machine_doNumeric_110 ⟨Nat.le_refl _, Nat.le_refl _⟩ (fun H locs hP hD hS => ?_)
      clear hc17
      refine lv_goto (tgt := 147) hx hb d_Machine_doNumeric_113 (by decide) ?_
      obtain ⟨-, -, e3⟩ := re_e hR
      subst e3
      exact W.vret hx hb hr (fun t ht hW => ⟨⟨(), rfl, trivial, by rw [ht]; exact hP, va_K.moved hW.alike hK, hD⟩, hS.F ht⟩) hS.2.2 d_Machine_doNumeric_147
    · replace hR := if_n c16 hR
      refine lv_iconst (v := 1) hx hb d_Machine_doNumeric_105 (by decide) ?_
      refine lv_goto (tgt := 110) hx hb d_Machine_doNumeric_106 (by decide) ?_
      replace hR := bi_e hR
      obtain ⟨r18, l18, T18, hc18, hR⟩ := hR
      refine gcV_v (rest := []) ⟨hx, hb, hml, hown, hT⟩ (h_Machine_push _ _ _ _ _ hc18) (cwV 1 hT (gV ml_Machine_133 im_Machine_push se_Machine_push ini_Machine co_Machine_push) rfl rfl rfl pd_Machine_push ⟨rm_hi, rm_lo (Nat.le_of_ble_eq_true rfl)⟩) hK hP hD hS hA hnw henv (Nat.le_of_ble_eq_true rfl) rfl rfl hl.1 rfl (Nat.le_of_ble_eq_true rfl) d_Machine_doNumeric_110 ⟨Nat.le_refl _, Nat.le_refl _⟩ (fun H locs hP hD hS => ?_)
      clear hc18
      refine lv_goto (tgt := 147) hx hb d_Machine_doNumeric_113 (by decide) ?_
      obtain ⟨-, -, e3⟩ := re_e hR
      subst e3
      exact W.vret hx hb hr (fun t ht hW => ⟨⟨(), rfl, trivial, by rw [ht]; exact hP, va_K.moved hW.alike hK, hD⟩, hS.F ht⟩) hS.2.2 d_Machine_doNumeric_147
  replace hR := if_n c15 hR
  have h319 : (p1 : Int32).toInt < 10 ∨ 16 < (p1 : Int32).toInt := by
    simp only [i_eq, Int32.reduceToInt] at c3 c5 c7 c9 c10 c11 c15; omega
  refine lv_tableOut (tgt := 116) hx hb d_Machine_doNumeric_11 h319 (by decide) ?_
  have g := lb_116 T2 p1 r1 r2 hR
  rw [hG] at g
  exact g _ _ hP hD hS _ (lv_sub hl [2, 3, 1, 0] rfl)
set_option maxHeartbeats 4000000 in
set_option maxRecDepth 100000 in
theorem sp_Machine_doPointed (l : Launch) (dC : Nat → ClassId) (dI : Nat → Nat → Nat) (ea ev ad : Nat → Nat) (km : Nat → ClassId) (F : gF) (nf d : Nat) (h_Machine_pop : mt_Machine_pop l dC dI ea ev ad km F d) (h_Machine_fetch : mt_Machine_fetch l dC dI ea ev ad km F d) (h_Memory_get : mt_Memory_get l dC dI ea ev ad km F d) (h_Machine_raise : mt_Machine_raise l dC dI ea ev ad km F d) (h_Machine_push : mt_Machine_push l dC dI ea ev ad km F d) (h_Machine_store : mt_Machine_store l dC dI ea ev ad km F d) (h_Memory_put : mt_Memory_put l dC dI ea ev ad km F d) (T0 : gSt) (p1 : Int32) (p2 : Int32) (p3 : Int32) (r0 : Int32) (rl0 : Int64) (T9 : gSt) (hR : rb_Machine_doPointed F nf T0 p1 p2 p3 = some (r0, rl0, T9)) : GMv l dC dI LH ad km ea ev y_Machine_doPointed w_Machine_doPointed (rmD (d + 1)) [.ref (ad 10), .int p1, .int p2, .int p3] T0 T9 := by
  intro sz
  refine Met.ofW (cc := b_Machine_doPointed) (maxL := 6) (ret := none) (by decide) rfl ?_
  intro p e s m args below meth c s₁ B hml hv
  obtain ⟨rfl, hsz, hP, hK, hD0, hnw, henv⟩ := hv
  have hx := B.exec
  have hb := B.bytes
  have hr := B.returns
  have hT : ∀ w ∈ lw_good, w.before _ s = true := fun w h => atoms_spec (ws := w_Machine_doPointed) B.pre w (List.mem_cons_of_mem _ h)
  have hown : s.vm.findClass R_Machine = some m.cls := findClass_of_methodNamed B.named
  subst hsz
  have hD := hD0.self (sz := s.heap.size)
  clear hD0
  generalize hAe : va_A (gW LH ad km T0) s.heap.size = A at hD henv ⊢
  have hA : ∀ q : Nat, s.heap.size ≤ q → A q := fun q h => by rw [← hAe]; exact Or.inr h
  have hS : va_S A s.heap s.heap [] := va_S.rf
  have hl := lv_entry ([.ref (ad 10), .int p1, .int p2, .int p3]) (n := 6) (Nat.le_of_ble_eq_true rfl)
  rw [lg_entry_eq]
  generalize (lg_sl ([.ref (ad 10), .int p1, .int p2, .int p3]) ++ List.replicate (6 - (lg_sl ([.ref (ad 10), .int p1, .int p2, .int p3])).length) Slot.unset).toArray = ls at hl ⊢
  have hl : lv_has ls 6 [(0, .ref (ad 10)), (1, .int p1), (2, .int p2), (3, .int p3)] := hl
  unfold rb_Machine_doPointed at hR
  refine lv_aload_n hx hb d_Machine_doPointed_0 rfl (lv_at hl 0 rfl) ?_
  replace hR := bi_e hR
  obtain ⟨r1, l1, T1, hc1, hR⟩ := hR
  refine gcV_i (rest := []) ⟨hx, hb, hml, hown, hT⟩ (h_Machine_pop _ _ _ _ hc1) (cwV 0 hT (gV ml_Machine_142 im_Machine_pop se_Machine_pop ini_Machine co_Machine_pop) rfl rfl rfl pd_Machine_pop ⟨rm_hi, rm_lo (Nat.le_of_ble_eq_true rfl)⟩) hK hP hD hS hA hnw henv (Nat.le_of_ble_eq_true rfl) rfl rfl hl.1 rfl (Nat.le_of_ble_eq_true rfl) d_Machine_doPointed_1 ⟨Nat.le_refl _, Nat.le_refl _⟩ (fun H locs hP hD hS => ?_)
  clear hc1
  refine lv_istore (lv' := [(4, .int r1), (0, .ref (ad 10)), (1, .int p1), (2, .int p2), (3, .int p3)]) hx hb d_Machine_doPointed_4 hl (by decide) rfl (fun ls hl => ?_)
  refine lv_iload hx hb d_Machine_doPointed_6 (lv_at hl 0 rfl) ?_
  refine lv_if_ne (tgt := 17) hx hb d_Machine_doPointed_8 (by decide) (fun c2 => ?_) (fun c2 => ?_)
  · replace hR := if_n c2 hR
    refine lv_iload hx hb d_Machine_doPointed_17 (lv_at hl 0 rfl) ?_
    refine lv_iconst (v := 1) hx hb d_Machine_doPointed_19 (by decide) ?_
    refine lv_isub hx hb d_Machine_doPointed_20 ?_
    refine lv_topi (fun z3 e3 => ?_)
    replace hR := vK_e e3 hR
    refine lv_istore (lv' := [(5, .int z3), (4, .int r1), (0, .ref (ad 10)), (1, .int p1), (2, .int p2), (3, .int p3)]) hx hb d_Machine_doPointed_21 hl (by decide) rfl (fun ls hl => ?_)
    refine lv_iload_n hx hb d_Machine_doPointed_23 rfl (lv_at hl 3 rfl) ?_
    by_cases c4 : p1 = (20 : Int32)
    · replace hR := if_p c4 hR
      refine lv_tableIn (off := 40) (tgt := 64) hx hb d_Machine_doPointed_24 (by rw [c4]; decide) (by rw [c4]; decide) (by rw [c4]; decide) (by decide) ?_
      refine lv_aload_n hx hb d_Machine_doPointed_64 rfl (lv_at hl 2 rfl) ?_
      refine lv_iload hx hb d_Machine_doPointed_65 (lv_at hl 0 rfl) ?_
      refine lv_iload_n hx hb d_Machine_doPointed_67 rfl (lv_at hl 4 rfl) ?_
      refine lv_iadd hx hb d_Machine_doPointed_68 ?_
      refine lv_iload_n hx hb d_Machine_doPointed_69 rfl (lv_at hl 5 rfl) ?_
      replace hR := bi_e hR
      obtain ⟨r5, l5, T5, hc5, hR⟩ := hR
      refine gcV_v (rest := []) ⟨hx, hb, hml, hown, hT⟩ (h_Machine_fetch _ _ _ _ _ _ hc5) (cwV 2 hT (gV ml_Machine_170 im_Machine_fetch se_Machine_fetch ini_Machine co_Machine_fetch) rfl rfl rfl pd_Machine_fetch ⟨rm_hi, rm_lo (Nat.le_of_ble_eq_true rfl)⟩) hK hP hD hS hA hnw henv (Nat.le_of_ble_eq_true rfl) rfl rfl hl.1 rfl (Nat.le_of_ble_eq_true rfl) d_Machine_doPointed_70 ⟨Nat.le_refl _, Nat.le_refl _⟩ (fun H locs hP hD hS => ?_)
      clear hc5
      refine lv_goto (tgt := 185) hx hb d_Machine_doPointed_73 (by decide) ?_
      obtain ⟨-, -, e3⟩ := re_e hR
      subst e3
      exact W.vret hx hb hr (fun t ht hW => ⟨⟨(), rfl, trivial, by rw [ht]; exact hP, va_K.moved hW.alike hK, hD⟩, hS.F ht⟩) hS.2.2 d_Machine_doPointed_185
    replace hR := if_n c4 hR
    by_cases c6 : p1 = (21 : Int32)
    · replace hR := if_p c6 hR
      refine lv_tableIn (off := 52) (tgt := 76) hx hb d_Machine_doPointed_24 (by rw [c6]; decide) (by rw [c6]; decide) (by rw [c6]; decide) (by decide) ?_
      refine lv_aload_n hx hb d_Machine_doPointed_76 rfl (lv_at hl 2 rfl) ?_
      refine rd_Machine_16 hx hb hT hown hK hP d_Machine_doPointed_77 ?_
      refine lv_iload hx hb d_Machine_doPointed_80 (lv_at hl 0 rfl) ?_
      replace hR := bi_e hR
      obtain ⟨r7, l7, T7, hc7, hR⟩ := hR
      refine gcV_i (rest := []) ⟨hx, hb, hml, hown, hT⟩ (h_Memory_get _ _ _ _ _ hc7) (cwV 1 hT (gV ml_Machine_173 im_Memory_get se_Memory_get ini_Memory co_Memory_get) rfl rfl rfl pd_Memory_get ⟨rm_hi, rm_lo (Nat.le_of_ble_eq_true rfl)⟩) hK hP hD hS hA hnw henv (Nat.le_of_ble_eq_true rfl) rfl rfl hl.1 rfl (Nat.le_of_ble_eq_true rfl) d_Machine_doPointed_82 ⟨Nat.le_refl _, Nat.le_refl _⟩ (fun H locs hP hD hS => ?_)
      clear hc7
      refine lv_iload_n hx hb d_Machine_doPointed_85 rfl (lv_at hl 4 rfl) ?_
      refine lv_icmp_ne (tgt := 101) hx hb d_Machine_doPointed_86 (by decide) (fun c8 => ?_) (fun c8 => ?_)
      · replace hR := if_n c8 hR
        refine lv_aload_n hx hb d_Machine_doPointed_101 rfl (lv_at hl 2 rfl) ?_
        refine lv_iconst (v := 3) hx hb d_Machine_doPointed_102 (by decide) ?_
        replace hR := bi_e hR
        obtain ⟨r9, l9, T9, hc9, hR⟩ := hR
        refine gcV_v (rest := []) ⟨hx, hb, hml, hown, hT⟩ (h_Machine_raise _ _ _ _ _ hc9) (cwV 1 hT (gV ml_Machine_167 im_Machine_raise se_Machine_raise ini_Machine co_Machine_raise) rfl rfl rfl pd_Machine_raise ⟨rm_hi, rm_lo (Nat.le_of_ble_eq_true rfl)⟩) hK hP hD hS hA hnw henv (Nat.le_of_ble_eq_true rfl) rfl rfl hl.1 rfl (Nat.le_of_ble_eq_true rfl) d_Machine_doPointed_103 ⟨Nat.le_refl _, Nat.le_refl _⟩ (fun H locs hP hD hS => ?_)
        clear hc9
        refine lv_goto (tgt := 185) hx hb d_Machine_doPointed_106 (by decide) ?_
        obtain ⟨-, -, e3⟩ := re_e hR
        subst e3
        exact W.vret hx hb hr (fun t ht hW => ⟨⟨(), rfl, trivial, by rw [ht]; exact hP, va_K.moved hW.alike hK, hD⟩, hS.F ht⟩) hS.2.2 d_Machine_doPointed_185
      · replace hR := if_p c8 hR
        refine lv_aload_n hx hb d_Machine_doPointed_89 rfl (lv_at hl 2 rfl) ?_
        refine lv_iload hx hb d_Machine_doPointed_90 (lv_at hl 0 rfl) ?_
        refine lv_iconst (v := 1) hx hb d_Machine_doPointed_92 (by decide) ?_
        refine lv_iadd hx hb d_Machine_doPointed_93 ?_
        refine lv_iload_n hx hb d_Machine_doPointed_94 rfl (lv_at hl 5 rfl) ?_
        replace hR := bi_e hR
        obtain ⟨r10, l10, T10, hc10, hR⟩ := hR
        refine gcV_v (rest := []) ⟨hx, hb, hml, hown, hT⟩ (h_Machine_fetch _ _ _ _ _ _ hc10) (cwV 2 hT (gV ml_Machine_170 im_Machine_fetch se_Machine_fetch ini_Machine co_Machine_fetch) rfl rfl rfl pd_Machine_fetch ⟨rm_hi, rm_lo (Nat.le_of_ble_eq_true rfl)⟩) hK hP hD hS hA hnw henv (Nat.le_of_ble_eq_true rfl) rfl rfl hl.1 rfl (Nat.le_of_ble_eq_true rfl) d_Machine_doPointed_95 ⟨Nat.le_refl _, Nat.le_refl _⟩ (fun H locs hP hD hS => ?_)
        clear hc10
        refine lv_goto (tgt := 185) hx hb d_Machine_doPointed_98 (by decide) ?_
        obtain ⟨-, -, e3⟩ := re_e hR
        subst e3
        exact W.vret hx hb hr (fun t ht hW => ⟨⟨(), rfl, trivial, by rw [ht]; exact hP, va_K.moved hW.alike hK, hD⟩, hS.F ht⟩) hS.2.2 d_Machine_doPointed_185
    replace hR := if_n c6 hR
    by_cases c11 : p1 = (22 : Int32)
    · replace hR := if_p c11 hR
      refine lv_tableIn (off := 85) (tgt := 109) hx hb d_Machine_doPointed_24 (by rw [c11]; decide) (by rw [c11]; decide) (by rw [c11]; decide) (by decide) ?_
      refine lv_aload_n hx hb d_Machine_doPointed_109 rfl (lv_at hl 2 rfl) ?_
      refine lv_aload_n hx hb d_Machine_doPointed_110 rfl (lv_at hl 2 rfl) ?_
      refine rd_Machine_16 hx hb hT hown hK hP d_Machine_doPointed_111 ?_
      refine lv_iload hx hb d_Machine_doPointed_114 (lv_at hl 0 rfl) ?_
      replace hR := bi_e hR
      obtain ⟨r12, l12, T12, hc12, hR⟩ := hR
      refine gcV_i (rest := [.ref (ad 10)]) ⟨hx, hb, hml, hown, hT⟩ (h_Memory_get _ _ _ _ _ hc12) (cwV 1 hT (gV ml_Machine_173 im_Memory_get se_Memory_get ini_Memory co_Memory_get) rfl rfl rfl pd_Memory_get ⟨rm_hi, rm_lo (Nat.le_of_ble_eq_true rfl)⟩) hK hP hD hS hA hnw henv (Nat.le_of_ble_eq_true rfl) rfl rfl hl.1 rfl (Nat.le_of_ble_eq_true rfl) d_Machine_doPointed_116 ⟨Nat.le_refl _, Nat.le_refl _⟩ (fun H locs hP hD hS => ?_)
      clear hc12
      refine lv_iload_n hx hb d_Machine_doPointed_119 rfl (lv_at hl 4 rfl) ?_
      refine lv_icmp_ne (tgt := 127) hx hb d_Machine_doPointed_120 (by decide) (fun c13 => ?_) (fun c13 => ?_)
      · replace hR := if_n c13 hR
        refine lv_iconst (v := 0) hx hb d_Machine_doPointed_127 (by decide) ?_
        replace hR := bi_e hR
        obtain ⟨r14, l14, T14, hc14, hR⟩ := hR
        refine gcV_v (rest := []) ⟨hx, hb, hml, hown, hT⟩ (h_Machine_push _ _ _ _ _ hc14) (cwV 1 hT (gV ml_Machine_133 im_Machine_push se_Machine_push ini_Machine co_Machine_push) rfl rfl rfl pd_Machine_push ⟨rm_hi, rm_lo (Nat.le_of_ble_eq_true rfl)⟩) hK hP hD hS hA hnw henv (Nat.le_of_ble_eq_true rfl) rfl rfl hl.1 rfl (Nat.le_of_ble_eq_true rfl) d_Machine_doPointed_128 ⟨Nat.le_refl _, Nat.le_refl _⟩ (fun H locs hP hD hS => ?_)
        clear hc14
        refine lv_goto (tgt := 185) hx hb d_Machine_doPointed_131 (by decide) ?_
        obtain ⟨-, -, e3⟩ := re_e hR
        subst e3
        exact W.vret hx hb hr (fun t ht hW => ⟨⟨(), rfl, trivial, by rw [ht]; exact hP, va_K.moved hW.alike hK, hD⟩, hS.F ht⟩) hS.2.2 d_Machine_doPointed_185
      · replace hR := if_p c13 hR
        refine lv_iconst (v := 1) hx hb d_Machine_doPointed_123 (by decide) ?_
        refine lv_goto (tgt := 128) hx hb d_Machine_doPointed_124 (by decide) ?_
        replace hR := bi_e hR
        obtain ⟨r15, l15, T15, hc15, hR⟩ := hR
        refine gcV_v (rest := []) ⟨hx, hb, hml, hown, hT⟩ (h_Machine_push _ _ _ _ _ hc15) (cwV 1 hT (gV ml_Machine_133 im_Machine_push se_Machine_push ini_Machine co_Machine_push) rfl rfl rfl pd_Machine_push ⟨rm_hi, rm_lo (Nat.le_of_ble_eq_true rfl)⟩) hK hP hD hS hA hnw henv (Nat.le_of_ble_eq_true rfl) rfl rfl hl.1 rfl (Nat.le_of_ble_eq_true rfl) d_Machine_doPointed_128 ⟨Nat.le_refl _, Nat.le_refl _⟩ (fun H locs hP hD hS => ?_)
        clear hc15
        refine lv_goto (tgt := 185) hx hb d_Machine_doPointed_131 (by decide) ?_
        obtain ⟨-, -, e3⟩ := re_e hR
        subst e3
        exact W.vret hx hb hr (fun t ht hW => ⟨⟨(), rfl, trivial, by rw [ht]; exact hP, va_K.moved hW.alike hK, hD⟩, hS.F ht⟩) hS.2.2 d_Machine_doPointed_185
    replace hR := if_n c11 hR
    by_cases c16 : p1 = (23 : Int32)
    · replace hR := if_p c16 hR
      refine lv_tableIn (off := 110) (tgt := 134) hx hb d_Machine_doPointed_24 (by rw [c16]; decide) (by rw [c16]; decide) (by rw [c16]; decide) (by decide) ?_
      refine lv_aload_n hx hb d_Machine_doPointed_134 rfl (lv_at hl 2 rfl) ?_
      refine lv_iload hx hb d_Machine_doPointed_135 (lv_at hl 1 rfl) ?_
      replace hR := bi_e hR
      obtain ⟨r17, l17, T17, hc17, hR⟩ := hR
      refine gcV_v (rest := []) ⟨hx, hb, hml, hown, hT⟩ (h_Machine_push _ _ _ _ _ hc17) (cwV 1 hT (gV ml_Machine_133 im_Machine_push se_Machine_push ini_Machine co_Machine_push) rfl rfl rfl pd_Machine_push ⟨rm_hi, rm_lo (Nat.le_of_ble_eq_true rfl)⟩) hK hP hD hS hA hnw henv (Nat.le_of_ble_eq_true rfl) rfl rfl hl.1 rfl (Nat.le_of_ble_eq_true rfl) d_Machine_doPointed_137 ⟨Nat.le_refl _, Nat.le_refl _⟩ (fun H locs hP hD hS => ?_)
      clear hc17
      refine lv_goto (tgt := 185) hx hb d_Machine_doPointed_140 (by decide) ?_
      obtain ⟨-, -, e3⟩ := re_e hR
      subst e3
      exact W.vret hx hb hr (fun t ht hW => ⟨⟨(), rfl, trivial, by rw [ht]; exact hP, va_K.moved hW.alike hK, hD⟩, hS.F ht⟩) hS.2.2 d_Machine_doPointed_185
    replace hR := if_n c16 hR
    by_cases c18 : p1 = (24 : Int32)
    · replace hR := if_p c18 hR
      refine lv_tableIn (off := 119) (tgt := 143) hx hb d_Machine_doPointed_24 (by rw [c18]; decide) (by rw [c18]; decide) (by rw [c18]; decide) (by decide) ?_
      refine lv_aload_n hx hb d_Machine_doPointed_143 rfl (lv_at hl 2 rfl) ?_
      refine lv_iload hx hb d_Machine_doPointed_144 (lv_at hl 1 rfl) ?_
      refine lv_iload_n hx hb d_Machine_doPointed_146 rfl (lv_at hl 4 rfl) ?_
      refine lv_iadd hx hb d_Machine_doPointed_147 ?_
      replace hR := bi_e hR
      obtain ⟨r19, l19, T19, hc19, hR⟩ := hR
      refine gcV_v (rest := []) ⟨hx, hb, hml, hown, hT⟩ (h_Machine_push _ _ _ _ _ hc19) (cwV 1 hT (gV ml_Machine_133 im_Machine_push se_Machine_push ini_Machine co_Machine_push) rfl rfl rfl pd_Machine_push ⟨rm_hi, rm_lo (Nat.le_of_ble_eq_true rfl)⟩) hK hP hD hS hA hnw henv (Nat.le_of_ble_eq_true rfl) rfl rfl hl.1 rfl (Nat.le_of_ble_eq_true rfl) d_Machine_doPointed_148 ⟨Nat.le_refl _, Nat.le_refl _⟩ (fun H locs hP hD hS => ?_)
      clear hc19
      refine lv_goto (tgt := 185) hx hb d_Machine_doPointed_151 (by decide) ?_
      obtain ⟨-, -, e3⟩ := re_e hR
      subst e3
      exact W.vret hx hb hr (fun t ht hW => ⟨⟨(), rfl, trivial, by rw [ht]; exact hP, va_K.moved hW.alike hK, hD⟩, hS.F ht⟩) hS.2.2 d_Machine_doPointed_185
    replace hR := if_n c18 hR
    by_cases c20 : p1 = (25 : Int32)
    · replace hR := if_p c20 hR
      refine lv_tableIn (off := 130) (tgt := 154) hx hb d_Machine_doPointed_24 (by rw [c20]; decide) (by rw [c20]; decide) (by rw [c20]; decide) (by decide) ?_
      refine lv_aload_n hx hb d_Machine_doPointed_154 rfl (lv_at hl 2 rfl) ?_
      refine lv_iload hx hb d_Machine_doPointed_155 (lv_at hl 0 rfl) ?_
      refine lv_iload_n hx hb d_Machine_doPointed_157 rfl (lv_at hl 4 rfl) ?_
      refine lv_iadd hx hb d_Machine_doPointed_158 ?_
      refine lv_iload_n hx hb d_Machine_doPointed_159 rfl (lv_at hl 5 rfl) ?_
      replace hR := bi_e hR
      obtain ⟨r21, l21, T21, hc21, hR⟩ := hR
      refine gcV_v (rest := []) ⟨hx, hb, hml, hown, hT⟩ (h_Machine_store _ _ _ _ _ _ hc21) (cwV 2 hT (gV ml_Machine_176 im_Machine_store se_Machine_store ini_Machine co_Machine_store) rfl rfl rfl pd_Machine_store ⟨rm_hi, rm_lo (Nat.le_of_ble_eq_true rfl)⟩) hK hP hD hS hA hnw henv (Nat.le_of_ble_eq_true rfl) rfl rfl hl.1 rfl (Nat.le_of_ble_eq_true rfl) d_Machine_doPointed_160 ⟨Nat.le_refl _, Nat.le_refl _⟩ (fun H locs hP hD hS => ?_)
      clear hc21
      refine lv_goto (tgt := 185) hx hb d_Machine_doPointed_163 (by decide) ?_
      obtain ⟨-, -, e3⟩ := re_e hR
      subst e3
      exact W.vret hx hb hr (fun t ht hW => ⟨⟨(), rfl, trivial, by rw [ht]; exact hP, va_K.moved hW.alike hK, hD⟩, hS.F ht⟩) hS.2.2 d_Machine_doPointed_185
    replace hR := if_n c20 hR
    have h322 : (p1 : Int32).toInt < 20 ∨ 25 < (p1 : Int32).toInt := by
      simp only [i_eq, Int32.reduceToInt] at c4 c6 c11 c16 c18 c20; omega
    refine lv_tableOut (tgt := 166) hx hb d_Machine_doPointed_24 h322 (by decide) ?_
    refine lv_aload_n hx hb d_Machine_doPointed_166 rfl (lv_at hl 2 rfl) ?_
    refine rd_Machine_16 hx hb hT hown hK hP d_Machine_doPointed_167 ?_
    refine lv_iload hx hb d_Machine_doPointed_170 (lv_at hl 0 rfl) ?_
    refine lv_iload_n hx hb d_Machine_doPointed_172 rfl (lv_at hl 4 rfl) ?_
    replace hR := bi_e hR
    obtain ⟨r23, l23, T23, hc23, hR⟩ := hR
    refine gcV_v (rest := []) ⟨hx, hb, hml, hown, hT⟩ (h_Memory_put _ _ _ _ _ _ hc23) (cwV 2 hT (gV ml_Machine_179 im_Memory_put se_Memory_put ini_Memory co_Memory_put) rfl rfl rfl pd_Memory_put ⟨rm_hi, rm_lo (Nat.le_of_ble_eq_true rfl)⟩) hK hP hD hS hA hnw henv (Nat.le_of_ble_eq_true rfl) rfl rfl hl.1 rfl (Nat.le_of_ble_eq_true rfl) d_Machine_doPointed_173 ⟨Nat.le_refl _, Nat.le_refl _⟩ (fun H locs hP hD hS => ?_)
    clear hc23
    refine lv_aload_n hx hb d_Machine_doPointed_176 rfl (lv_at hl 2 rfl) ?_
    refine lv_iload hx hb d_Machine_doPointed_177 (lv_at hl 0 rfl) ?_
    refine lv_iconst (v := 1) hx hb d_Machine_doPointed_179 (by decide) ?_
    refine lv_iadd hx hb d_Machine_doPointed_180 ?_
    refine lv_iload_n hx hb d_Machine_doPointed_181 rfl (lv_at hl 5 rfl) ?_
    replace hR := bi_e hR
    obtain ⟨r24, l24, T24, hc24, hR⟩ := hR
    refine gcV_v (rest := []) ⟨hx, hb, hml, hown, hT⟩ (h_Machine_store _ _ _ _ _ _ hc24) (cwV 2 hT (gV ml_Machine_176 im_Machine_store se_Machine_store ini_Machine co_Machine_store) rfl rfl rfl pd_Machine_store ⟨rm_hi, rm_lo (Nat.le_of_ble_eq_true rfl)⟩) hK hP hD hS hA hnw henv (Nat.le_of_ble_eq_true rfl) rfl rfl hl.1 rfl (Nat.le_of_ble_eq_true rfl) d_Machine_doPointed_182 ⟨Nat.le_refl _, Nat.le_refl _⟩ (fun H locs hP hD hS => ?_)
    clear hc24
    obtain ⟨-, -, e3⟩ := re_e hR
    subst e3
    exact W.vret hx hb hr (fun t ht hW => ⟨⟨(), rfl, trivial, by rw [ht]; exact hP, va_K.moved hW.alike hK, hD⟩, hS.F ht⟩) hS.2.2 d_Machine_doPointed_185
  · replace hR := if_p c2 hR
    refine lv_aload_n hx hb d_Machine_doPointed_11 rfl (lv_at hl 1 rfl) ?_
    refine lv_iconst (v := 1) hx hb d_Machine_doPointed_12 (by decide) ?_
    replace hR := bi_e hR
    obtain ⟨r25, l25, T25, hc25, hR⟩ := hR
    refine gcV_v (rest := []) ⟨hx, hb, hml, hown, hT⟩ (h_Machine_raise _ _ _ _ _ hc25) (cwV 1 hT (gV ml_Machine_167 im_Machine_raise se_Machine_raise ini_Machine co_Machine_raise) rfl rfl rfl pd_Machine_raise ⟨rm_hi, rm_lo (Nat.le_of_ble_eq_true rfl)⟩) hK hP hD hS hA hnw henv (Nat.le_of_ble_eq_true rfl) rfl rfl hl.1 rfl (Nat.le_of_ble_eq_true rfl) d_Machine_doPointed_13 ⟨Nat.le_refl _, Nat.le_refl _⟩ (fun H locs hP hD hS => ?_)
    clear hc25
    obtain ⟨-, -, e3⟩ := re_e hR
    subst e3
    exact W.vret hx hb hr (fun t ht hW => ⟨⟨(), rfl, trivial, by rw [ht]; exact hP, va_K.moved hW.alike hK, hD⟩, hS.F ht⟩) hS.2.2 d_Machine_doPointed_16
set_option maxHeartbeats 4000000 in
set_option maxRecDepth 100000 in
theorem sp_Machine_fetch (l : Launch) (dC : Nat → ClassId) (dI : Nat → Nat → Nat) (ea ev ad : Nat → Nat) (km : Nat → ClassId) (F : gF) (nf d : Nat) (h_Memory_get : mt_Memory_get l dC dI ea ev ad km F d) (h_Machine_push : mt_Machine_push l dC dI ea ev ad km F d) (T0 : gSt) (p1 : Int32) (p2 : Int32) (r0 : Int32) (rl0 : Int64) (T9 : gSt) (hR : rb_Machine_fetch F nf T0 p1 p2 = some (r0, rl0, T9)) : GMv l dC dI LH ad km ea ev y_Machine_fetch w_Machine_fetch (rmD (d + 1)) [.ref (ad 10), .int p1, .int p2] T0 T9 := by
  intro sz
  refine Met.ofW (cc := b_Machine_fetch) (maxL := 4) (ret := none) (by decide) rfl ?_
  intro p e s m args below meth c s₁ B hml hv
  obtain ⟨rfl, hsz, hP, hK, hD0, hnw, henv⟩ := hv
  have hx := B.exec
  have hb := B.bytes
  have hr := B.returns
  have hT : ∀ w ∈ lw_good, w.before _ s = true := fun w h => atoms_spec (ws := w_Machine_fetch) B.pre w (List.mem_cons_of_mem _ h)
  have hown : s.vm.findClass R_Machine = some m.cls := findClass_of_methodNamed B.named
  subst hsz
  have hD := hD0.self (sz := s.heap.size)
  clear hD0
  generalize hAe : va_A (gW LH ad km T0) s.heap.size = A at hD henv ⊢
  have hA : ∀ q : Nat, s.heap.size ≤ q → A q := fun q h => by rw [← hAe]; exact Or.inr h
  have hS : va_S A s.heap s.heap [] := va_S.rf
  have hl := lv_entry ([.ref (ad 10), .int p1, .int p2]) (n := 4) (Nat.le_of_ble_eq_true rfl)
  rw [lg_entry_eq]
  generalize (lg_sl ([.ref (ad 10), .int p1, .int p2]) ++ List.replicate (4 - (lg_sl ([.ref (ad 10), .int p1, .int p2])).length) Slot.unset).toArray = ls at hl ⊢
  have hl : lv_has ls 4 [(0, .ref (ad 10)), (1, .int p1), (2, .int p2)] := hl
  obtain ⟨G, hG⟩ : ∃ G : Nat → List (Nat × Value) → List Value → gSt → Prop, G = (fun pc lv stk T => ∀ (H : Heap) (locs : List Loc), va_P (dC, dI) cls_all (gW LH ad km T) H → va_D A (gW LH ad km T) → va_S A s.heap H locs → ∀ (ls : Array Slot), lv_has ls 4 lv → W p l e (headSpec w_Machine_fetch (rmD (d + 1))).room s m ([.ref (ad 10), .int p1, .int p2] : List Value).toArray below meth c H locs 0 0 (MQ below (va_Qv (fun (_ : Unit) => True) (fun _ t => gPost dC dI LH ad km T9 A t) A) ([.ref (ad 10), .int p1, .int p2] : List Value).toArray s 0 0 A) (F0 m pc ls stk)) := ⟨_, rfl⟩
  have lb_2 : ∀ (n : Nat) (T : gSt) (x1 : Int32) (x2 : Int32) (x3 : Int32), rl_Machine_fetch_2 F nf n T x1 x2 x3 = some (r0, rl0, T9) → G 2 [(0, .ref (ad 10)), (1, .int x1), (2, .int x2), (3, .int x3)] [] T := by
    intro n
    induction n with
    | zero => intro T x1 x2 x3 hR; rw [rl_Machine_fetch_2] at hR; cases hR
    | succ n ih =>
      intro T x1 x2 x3 hR; rw [rl_Machine_fetch_2] at hR; rw [hG]; intro H locs hP hD hS ls hl
      refine lv_iload_n hx hb d_Machine_fetch_2 rfl (lv_at hl 3 rfl) ?_
      refine lv_iload_n hx hb d_Machine_fetch_3 rfl (lv_at hl 2 rfl) ?_
      refine lv_icmp_ge (tgt := 27) hx hb d_Machine_fetch_4 (by decide) (fun c1 => ?_) (fun c1 => ?_)
      · replace hR := if_p c1 hR
        obtain ⟨-, -, e3⟩ := re_e hR
        subst e3
        exact W.vret hx hb hr (fun t ht hW => ⟨⟨(), rfl, trivial, by rw [ht]; exact hP, va_K.moved hW.alike hK, hD⟩, hS.F ht⟩) hS.2.2 d_Machine_fetch_27
      · replace hR := if_n c1 hR
        refine lv_aload_n hx hb d_Machine_fetch_7 rfl (lv_at hl 0 rfl) ?_
        refine lv_aload_n hx hb d_Machine_fetch_8 rfl (lv_at hl 0 rfl) ?_
        refine rd_Machine_16 hx hb hT hown hK hP d_Machine_fetch_9 ?_
        refine lv_iload_n hx hb d_Machine_fetch_12 rfl (lv_at hl 1 rfl) ?_
        refine lv_iload_n hx hb d_Machine_fetch_13 rfl (lv_at hl 3 rfl) ?_
        refine lv_iadd hx hb d_Machine_fetch_14 ?_
        replace hR := bi_e hR
        obtain ⟨r2, l2, T2, hc2, hR⟩ := hR
        refine gcV_i (rest := [.ref (ad 10)]) ⟨hx, hb, hml, hown, hT⟩ (h_Memory_get _ _ _ _ _ hc2) (cwV 1 hT (gV ml_Machine_173 im_Memory_get se_Memory_get ini_Memory co_Memory_get) rfl rfl rfl pd_Memory_get ⟨rm_hi, rm_lo (Nat.le_of_ble_eq_true rfl)⟩) hK hP hD hS hA hnw henv (Nat.le_of_ble_eq_true rfl) rfl rfl hl.1 rfl (Nat.le_of_ble_eq_true rfl) d_Machine_fetch_15 ⟨Nat.le_refl _, Nat.le_refl _⟩ (fun H locs hP hD hS => ?_)
        clear hc2
        replace hR := bi_e hR
        obtain ⟨r3, l3, T3, hc3, hR⟩ := hR
        refine gcV_v (rest := []) ⟨hx, hb, hml, hown, hT⟩ (h_Machine_push _ _ _ _ _ hc3) (cwV 1 hT (gV ml_Machine_133 im_Machine_push se_Machine_push ini_Machine co_Machine_push) rfl rfl rfl pd_Machine_push ⟨rm_hi, rm_lo (Nat.le_of_ble_eq_true rfl)⟩) hK hP hD hS hA hnw henv (Nat.le_of_ble_eq_true rfl) rfl rfl hl.1 rfl (Nat.le_of_ble_eq_true rfl) d_Machine_fetch_18 ⟨Nat.le_refl _, Nat.le_refl _⟩ (fun H locs hP hD hS => ?_)
        clear hc3
        obtain ⟨z4, e4⟩ : ∃ y : Int32, y = x3 + (1 : Int32) := ⟨_, rfl⟩
        replace hR := vK_e e4 hR
        refine lv_iinc (v := z4) (lv' := [(3, .int z4), (0, .ref (ad 10)), (1, .int x1), (2, .int x2)]) hx hb d_Machine_fetch_21 hl (k := 3) rfl (by rw [e4]; rfl) (by decide) rfl (fun ls hl => ?_)
        refine lv_goto (tgt := 2) hx hb d_Machine_fetch_24 (by decide) ?_
        have g := ih T3 x1 x2 z4 hR
        rw [hG] at g
        exact g _ _ hP hD hS _ (lv_sub hl [1, 2, 3, 0] rfl)
  unfold rb_Machine_fetch at hR
  refine lv_iconst (v := 0) hx hb d_Machine_fetch_0 (by decide) ?_
  refine lv_istore_n (lv' := [(3, .int (0 : Int32)), (0, .ref (ad 10)), (1, .int p1), (2, .int p2)]) hx hb d_Machine_fetch_1 rfl hl (by decide) rfl (fun ls hl => ?_)
  have g := lb_2 nf T0 p1 p2 (0 : Int32) hR
  rw [hG] at g
  exact g _ _ hP hD hS _ (lv_sub hl [1, 2, 3, 0] rfl)
set_option maxHeartbeats 4000000 in
set_option maxRecDepth 100000 in
theorem sp_Machine_store (l : Launch) (dC : Nat → ClassId) (dI : Nat → Nat → Nat) (ea ev ad : Nat → Nat) (km : Nat → ClassId) (F : gF) (nf d : Nat) (h_Machine_pop : mt_Machine_pop l dC dI ea ev ad km F d) (h_Memory_put : mt_Memory_put l dC dI ea ev ad km F d) (T0 : gSt) (p1 : Int32) (p2 : Int32) (r0 : Int32) (rl0 : Int64) (T9 : gSt) (hR : rb_Machine_store F nf T0 p1 p2 = some (r0, rl0, T9)) : GMv l dC dI LH ad km ea ev y_Machine_store w_Machine_store (rmD (d + 1)) [.ref (ad 10), .int p1, .int p2] T0 T9 := by
  intro sz
  refine Met.ofW (cc := b_Machine_store) (maxL := 4) (ret := none) (by decide) rfl ?_
  intro p e s m args below meth c s₁ B hml hv
  obtain ⟨rfl, hsz, hP, hK, hD0, hnw, henv⟩ := hv
  have hx := B.exec
  have hb := B.bytes
  have hr := B.returns
  have hT : ∀ w ∈ lw_good, w.before _ s = true := fun w h => atoms_spec (ws := w_Machine_store) B.pre w (List.mem_cons_of_mem _ h)
  have hown : s.vm.findClass R_Machine = some m.cls := findClass_of_methodNamed B.named
  subst hsz
  have hD := hD0.self (sz := s.heap.size)
  clear hD0
  generalize hAe : va_A (gW LH ad km T0) s.heap.size = A at hD henv ⊢
  have hA : ∀ q : Nat, s.heap.size ≤ q → A q := fun q h => by rw [← hAe]; exact Or.inr h
  have hS : va_S A s.heap s.heap [] := va_S.rf
  have hl := lv_entry ([.ref (ad 10), .int p1, .int p2]) (n := 4) (Nat.le_of_ble_eq_true rfl)
  rw [lg_entry_eq]
  generalize (lg_sl ([.ref (ad 10), .int p1, .int p2]) ++ List.replicate (4 - (lg_sl ([.ref (ad 10), .int p1, .int p2])).length) Slot.unset).toArray = ls at hl ⊢
  have hl : lv_has ls 4 [(0, .ref (ad 10)), (1, .int p1), (2, .int p2)] := hl
  obtain ⟨G, hG⟩ : ∃ G : Nat → List (Nat × Value) → List Value → gSt → Prop, G = (fun pc lv stk T => ∀ (H : Heap) (locs : List Loc), va_P (dC, dI) cls_all (gW LH ad km T) H → va_D A (gW LH ad km T) → va_S A s.heap H locs → ∀ (ls : Array Slot), lv_has ls 4 lv → W p l e (headSpec w_Machine_store (rmD (d + 1))).room s m ([.ref (ad 10), .int p1, .int p2] : List Value).toArray below meth c H locs 0 0 (MQ below (va_Qv (fun (_ : Unit) => True) (fun _ t => gPost dC dI LH ad km T9 A t) A) ([.ref (ad 10), .int p1, .int p2] : List Value).toArray s 0 0 A) (F0 m pc ls stk)) := ⟨_, rfl⟩
  have lb_4 : ∀ (n : Nat) (T : gSt) (x1 : Int32) (x3 : Int32), rl_Machine_store_4 F nf n T x1 x3 = some (r0, rl0, T9) → G 4 [(0, .ref (ad 10)), (1, .int x1), (3, .int x3)] [] T := by
    intro n
    induction n with
    | zero => intro T x1 x3 hR; rw [rl_Machine_store_4] at hR; cases hR
    | succ n ih =>
      intro T x1 x3 hR; rw [rl_Machine_store_4] at hR; rw [hG]; intro H locs hP hD hS ls hl
      refine lv_iload_n hx hb d_Machine_store_4 rfl (lv_at hl 2 rfl) ?_
      refine lv_if_lt (tgt := 28) hx hb d_Machine_store_5 (by decide) (fun c2 => ?_) (fun c2 => ?_)
      · replace hR := if_p c2 hR
        obtain ⟨-, -, e3⟩ := re_e hR
        subst e3
        exact W.vret hx hb hr (fun t ht hW => ⟨⟨(), rfl, trivial, by rw [ht]; exact hP, va_K.moved hW.alike hK, hD⟩, hS.F ht⟩) hS.2.2 d_Machine_store_28
      · replace hR := if_n c2 hR
        refine lv_aload_n hx hb d_Machine_store_8 rfl (lv_at hl 0 rfl) ?_
        refine rd_Machine_16 hx hb hT hown hK hP d_Machine_store_9 ?_
        refine lv_iload_n hx hb d_Machine_store_12 rfl (lv_at hl 1 rfl) ?_
        refine lv_iload_n hx hb d_Machine_store_13 rfl (lv_at hl 2 rfl) ?_
        refine lv_iadd hx hb d_Machine_store_14 ?_
        refine lv_aload_n hx hb d_Machine_store_15 rfl (lv_at hl 0 rfl) ?_
        replace hR := bi_e hR
        obtain ⟨r3, l3, T3, hc3, hR⟩ := hR
        refine gcV_i (rest := [.int (x1 + x3), .ref (ad 11)]) ⟨hx, hb, hml, hown, hT⟩ (h_Machine_pop _ _ _ _ hc3) (cwV 0 hT (gV ml_Machine_142 im_Machine_pop se_Machine_pop ini_Machine co_Machine_pop) rfl rfl rfl pd_Machine_pop ⟨rm_hi, rm_lo (Nat.le_of_ble_eq_true rfl)⟩) hK hP hD hS hA hnw henv (Nat.le_of_ble_eq_true rfl) rfl rfl hl.1 rfl (Nat.le_of_ble_eq_true rfl) d_Machine_store_16 ⟨Nat.le_refl _, Nat.le_refl _⟩ (fun H locs hP hD hS => ?_)
        clear hc3
        replace hR := bi_e hR
        obtain ⟨r4, l4, T4, hc4, hR⟩ := hR
        refine gcV_v (rest := []) ⟨hx, hb, hml, hown, hT⟩ (h_Memory_put _ _ _ _ _ _ hc4) (cwV 2 hT (gV ml_Machine_179 im_Memory_put se_Memory_put ini_Memory co_Memory_put) rfl rfl rfl pd_Memory_put ⟨rm_hi, rm_lo (Nat.le_of_ble_eq_true rfl)⟩) hK hP hD hS hA hnw henv (Nat.le_of_ble_eq_true rfl) rfl rfl hl.1 rfl (Nat.le_of_ble_eq_true rfl) d_Machine_store_19 ⟨Nat.le_refl _, Nat.le_refl _⟩ (fun H locs hP hD hS => ?_)
        clear hc4
        obtain ⟨z5, e5⟩ : ∃ y : Int32, y = x3 + (-1 : Int32) := ⟨_, rfl⟩
        replace hR := vK_e e5 hR
        refine lv_iinc (v := z5) (lv' := [(3, .int z5), (0, .ref (ad 10)), (1, .int x1)]) hx hb d_Machine_store_22 hl (k := 2) rfl (by rw [e5]; rfl) (by decide) rfl (fun ls hl => ?_)
        refine lv_goto (tgt := 4) hx hb d_Machine_store_25 (by decide) ?_
        have g := ih T4 x1 z5 hR
        rw [hG] at g
        exact g _ _ hP hD hS _ (lv_sub hl [1, 2, 0] rfl)
  unfold rb_Machine_store at hR
  refine lv_iload_n hx hb d_Machine_store_0 rfl (lv_at hl 2 rfl) ?_
  refine lv_iconst (v := 1) hx hb d_Machine_store_1 (by decide) ?_
  refine lv_isub hx hb d_Machine_store_2 ?_
  refine lv_topi (fun z1 e1 => ?_)
  replace hR := vK_e e1 hR
  refine lv_istore_n (lv' := [(3, .int z1), (0, .ref (ad 10)), (1, .int p1), (2, .int p2)]) hx hb d_Machine_store_3 rfl hl (by decide) rfl (fun ls hl => ?_)
  have g := lb_4 nf T0 p1 z1 hR
  rw [hG] at g
  exact g _ _ hP hD hS _ (lv_sub hl [1, 2, 0] rfl)
set_option maxHeartbeats 4000000 in
set_option maxRecDepth 100000 in
theorem sp_Machine_doIndexed (l : Launch) (dC : Nat → ClassId) (dI : Nat → Nat → Nat) (ea ev ad : Nat → Nat) (km : Nat → ClassId) (F : gF) (nf d : Nat) (h_Machine_pop : mt_Machine_pop l dC dI ea ev ad km F d) (h_Machine_raise : mt_Machine_raise l dC dI ea ev ad km F d) (h_Machine_fetch : mt_Machine_fetch l dC dI ea ev ad km F d) (h_Machine_push : mt_Machine_push l dC dI ea ev ad km F d) (h_Machine_store : mt_Machine_store l dC dI ea ev ad km F d) (T0 : gSt) (p1 : Int32) (p2 : Int32) (r0 : Int32) (rl0 : Int64) (T9 : gSt) (hR : rb_Machine_doIndexed F nf T0 p1 p2 = some (r0, rl0, T9)) : GMv l dC dI LH ad km ea ev y_Machine_doIndexed w_Machine_doIndexed (rmD (d + 1)) [.ref (ad 10), .int p1, .int p2] T0 T9 := by
  intro sz
  refine Met.ofW (cc := b_Machine_doIndexed) (maxL := 7) (ret := none) (by decide) rfl ?_
  intro p e s m args below meth c s₁ B hml hv
  obtain ⟨rfl, hsz, hP, hK, hD0, hnw, henv⟩ := hv
  have hx := B.exec
  have hb := B.bytes
  have hr := B.returns
  have hT : ∀ w ∈ lw_good, w.before _ s = true := fun w h => atoms_spec (ws := w_Machine_doIndexed) B.pre w (List.mem_cons_of_mem _ h)
  have hown : s.vm.findClass R_Machine = some m.cls := findClass_of_methodNamed B.named
  subst hsz
  have hD := hD0.self (sz := s.heap.size)
  clear hD0
  generalize hAe : va_A (gW LH ad km T0) s.heap.size = A at hD henv ⊢
  have hA : ∀ q : Nat, s.heap.size ≤ q → A q := fun q h => by rw [← hAe]; exact Or.inr h
  have hS : va_S A s.heap s.heap [] := va_S.rf
  have hl := lv_entry ([.ref (ad 10), .int p1, .int p2]) (n := 7) (Nat.le_of_ble_eq_true rfl)
  rw [lg_entry_eq]
  generalize (lg_sl ([.ref (ad 10), .int p1, .int p2]) ++ List.replicate (7 - (lg_sl ([.ref (ad 10), .int p1, .int p2])).length) Slot.unset).toArray = ls at hl ⊢
  have hl : lv_has ls 7 [(0, .ref (ad 10)), (1, .int p1), (2, .int p2)] := hl
  unfold rb_Machine_doIndexed at hR
  refine lv_aload_n hx hb d_Machine_doIndexed_0 rfl (lv_at hl 0 rfl) ?_
  replace hR := bi_e hR
  obtain ⟨r1, l1, T1, hc1, hR⟩ := hR
  refine gcV_i (rest := []) ⟨hx, hb, hml, hown, hT⟩ (h_Machine_pop _ _ _ _ hc1) (cwV 0 hT (gV ml_Machine_142 im_Machine_pop se_Machine_pop ini_Machine co_Machine_pop) rfl rfl rfl pd_Machine_pop ⟨rm_hi, rm_lo (Nat.le_of_ble_eq_true rfl)⟩) hK hP hD hS hA hnw henv (Nat.le_of_ble_eq_true rfl) rfl rfl hl.1 rfl (Nat.le_of_ble_eq_true rfl) d_Machine_doIndexed_1 ⟨Nat.le_refl _, Nat.le_refl _⟩ (fun H locs hP hD hS => ?_)
  clear hc1
  refine lv_istore_n (lv' := [(3, .int r1), (0, .ref (ad 10)), (1, .int p1), (2, .int p2)]) hx hb d_Machine_doIndexed_4 rfl hl (by decide) rfl (fun ls hl => ?_)
  refine lv_aload_n hx hb d_Machine_doIndexed_5 rfl (lv_at hl 1 rfl) ?_
  replace hR := bi_e hR
  obtain ⟨r2, l2, T2, hc2, hR⟩ := hR
  refine gcV_i (rest := []) ⟨hx, hb, hml, hown, hT⟩ (h_Machine_pop _ _ _ _ hc2) (cwV 0 hT (gV ml_Machine_142 im_Machine_pop se_Machine_pop ini_Machine co_Machine_pop) rfl rfl rfl pd_Machine_pop ⟨rm_hi, rm_lo (Nat.le_of_ble_eq_true rfl)⟩) hK hP hD hS hA hnw henv (Nat.le_of_ble_eq_true rfl) rfl rfl hl.1 rfl (Nat.le_of_ble_eq_true rfl) d_Machine_doIndexed_6 ⟨Nat.le_refl _, Nat.le_refl _⟩ (fun H locs hP hD hS => ?_)
  clear hc2
  refine lv_istore (lv' := [(4, .int r2), (3, .int r1), (0, .ref (ad 10)), (1, .int p1), (2, .int p2)]) hx hb d_Machine_doIndexed_9 hl (by decide) rfl (fun ls hl => ?_)
  refine lv_aload_n hx hb d_Machine_doIndexed_11 rfl (lv_at hl 2 rfl) ?_
  replace hR := bi_e hR
  obtain ⟨r3, l3, T3, hc3, hR⟩ := hR
  refine gcV_i (rest := []) ⟨hx, hb, hml, hown, hT⟩ (h_Machine_pop _ _ _ _ hc3) (cwV 0 hT (gV ml_Machine_142 im_Machine_pop se_Machine_pop ini_Machine co_Machine_pop) rfl rfl rfl pd_Machine_pop ⟨rm_hi, rm_lo (Nat.le_of_ble_eq_true rfl)⟩) hK hP hD hS hA hnw henv (Nat.le_of_ble_eq_true rfl) rfl rfl hl.1 rfl (Nat.le_of_ble_eq_true rfl) d_Machine_doIndexed_12 ⟨Nat.le_refl _, Nat.le_refl _⟩ (fun H locs hP hD hS => ?_)
  clear hc3
  refine lv_iload_n hx hb d_Machine_doIndexed_15 rfl (lv_at hl 1 rfl) ?_
  refine lv_iadd hx hb d_Machine_doIndexed_16 ?_
  refine lv_topi (fun z4 e4 => ?_)
  replace hR := vK_e e4 hR
  refine lv_istore (lv' := [(5, .int z4), (4, .int r2), (3, .int r1), (0, .ref (ad 10)), (1, .int p1), (2, .int p2)]) hx hb d_Machine_doIndexed_17 hl (by decide) rfl (fun ls hl => ?_)
  refine lv_aload_n hx hb d_Machine_doIndexed_19 rfl (lv_at hl 3 rfl) ?_
  replace hR := bi_e hR
  obtain ⟨r5, l5, T5, hc5, hR⟩ := hR
  refine gcV_i (rest := []) ⟨hx, hb, hml, hown, hT⟩ (h_Machine_pop _ _ _ _ hc5) (cwV 0 hT (gV ml_Machine_142 im_Machine_pop se_Machine_pop ini_Machine co_Machine_pop) rfl rfl rfl pd_Machine_pop ⟨rm_hi, rm_lo (Nat.le_of_ble_eq_true rfl)⟩) hK hP hD hS hA hnw henv (Nat.le_of_ble_eq_true rfl) rfl rfl hl.1 rfl (Nat.le_of_ble_eq_true rfl) d_Machine_doIndexed_20 ⟨Nat.le_refl _, Nat.le_refl _⟩ (fun H locs hP hD hS => ?_)
  clear hc5
  refine lv_iconst (v := 1) hx hb d_Machine_doIndexed_23 (by decide) ?_
  refine lv_isub hx hb d_Machine_doIndexed_24 ?_
  refine lv_topi (fun z6 e6 => ?_)
  replace hR := vK_e e6 hR
  refine lv_istore (lv' := [(6, .int z6), (5, .int z4), (4, .int r2), (3, .int r1), (0, .ref (ad 10)), (1, .int p1), (2, .int p2)]) hx hb d_Machine_doIndexed_25 hl (by decide) rfl (fun ls hl => ?_)
  refine lv_iload hx hb d_Machine_doIndexed_27 (lv_at hl 1 rfl) ?_
  refine lv_if_lt (tgt := 39) hx hb d_Machine_doIndexed_29 (by decide) (fun c7 => ?_) (fun c7 => ?_)
  · replace hR := if_p c7 hR
    refine lv_aload_n hx hb d_Machine_doIndexed_39 rfl (lv_at hl 4 rfl) ?_
    refine lv_iconst (v := 2) hx hb d_Machine_doIndexed_40 (by decide) ?_
    replace hR := bi_e hR
    obtain ⟨r8, l8, T8, hc8, hR⟩ := hR
    refine gcV_v (rest := []) ⟨hx, hb, hml, hown, hT⟩ (h_Machine_raise _ _ _ _ _ hc8) (cwV 1 hT (gV ml_Machine_167 im_Machine_raise se_Machine_raise ini_Machine co_Machine_raise) rfl rfl rfl pd_Machine_raise ⟨rm_hi, rm_lo (Nat.le_of_ble_eq_true rfl)⟩) hK hP hD hS hA hnw henv (Nat.le_of_ble_eq_true rfl) rfl rfl hl.1 rfl (Nat.le_of_ble_eq_true rfl) d_Machine_doIndexed_41 ⟨Nat.le_refl _, Nat.le_refl _⟩ (fun H locs hP hD hS => ?_)
    clear hc8
    obtain ⟨-, -, e3⟩ := re_e hR
    subst e3
    exact W.vret hx hb hr (fun t ht hW => ⟨⟨(), rfl, trivial, by rw [ht]; exact hP, va_K.moved hW.alike hK, hD⟩, hS.F ht⟩) hS.2.2 d_Machine_doIndexed_44
  · replace hR := if_n c7 hR
    refine lv_iload hx hb d_Machine_doIndexed_32 (lv_at hl 1 rfl) ?_
    refine lv_iload hx hb d_Machine_doIndexed_34 (lv_at hl 2 rfl) ?_
    refine lv_icmp_lt (tgt := 45) hx hb d_Machine_doIndexed_36 (by decide) (fun c9 => ?_) (fun c9 => ?_)
    · replace hR := if_p c9 hR
      refine lv_iload hx hb d_Machine_doIndexed_45 (lv_at hl 0 rfl) ?_
      refine lv_iload hx hb d_Machine_doIndexed_47 (lv_at hl 1 rfl) ?_
      refine lv_iload_n hx hb d_Machine_doIndexed_49 rfl (lv_at hl 6 rfl) ?_
      refine lv_imul hx hb d_Machine_doIndexed_50 ?_
      refine lv_iadd hx hb d_Machine_doIndexed_51 ?_
      refine lv_topi (fun z10 e10 => ?_)
      replace hR := vK_e e10 hR
      refine lv_istore (lv' := [(6, .int z10), (5, .int z4), (4, .int r2), (3, .int r1), (0, .ref (ad 10)), (1, .int p1), (2, .int p2)]) hx hb d_Machine_doIndexed_52 hl (by decide) rfl (fun ls hl => ?_)
      refine lv_iload_n hx hb d_Machine_doIndexed_54 rfl (lv_at hl 5 rfl) ?_
      by_cases c11 : p1 = (30 : Int32)
      · replace hR := if_p c11 hR
        refine lv_lookup (off := 25) (tgt := 80) hx hb d_Machine_doIndexed_55 (by decide) (by rw [c11]; decide) (by decide) ?_
        refine lv_aload_n hx hb d_Machine_doIndexed_80 rfl (lv_at hl 4 rfl) ?_
        refine lv_iload hx hb d_Machine_doIndexed_81 (lv_at hl 0 rfl) ?_
        refine lv_iload_n hx hb d_Machine_doIndexed_83 rfl (lv_at hl 6 rfl) ?_
        replace hR := bi_e hR
        obtain ⟨r12, l12, T12, hc12, hR⟩ := hR
        refine gcV_v (rest := []) ⟨hx, hb, hml, hown, hT⟩ (h_Machine_fetch _ _ _ _ _ _ hc12) (cwV 2 hT (gV ml_Machine_170 im_Machine_fetch se_Machine_fetch ini_Machine co_Machine_fetch) rfl rfl rfl pd_Machine_fetch ⟨rm_hi, rm_lo (Nat.le_of_ble_eq_true rfl)⟩) hK hP hD hS hA hnw henv (Nat.le_of_ble_eq_true rfl) rfl rfl hl.1 rfl (Nat.le_of_ble_eq_true rfl) d_Machine_doIndexed_84 ⟨Nat.le_refl _, Nat.le_refl _⟩ (fun H locs hP hD hS => ?_)
        clear hc12
        refine lv_goto (tgt := 108) hx hb d_Machine_doIndexed_87 (by decide) ?_
        obtain ⟨-, -, e3⟩ := re_e hR
        subst e3
        exact W.vret hx hb hr (fun t ht hW => ⟨⟨(), rfl, trivial, by rw [ht]; exact hP, va_K.moved hW.alike hK, hD⟩, hS.F ht⟩) hS.2.2 d_Machine_doIndexed_108
      replace hR := if_n c11 hR
      by_cases c13 : p1 = (31 : Int32)
      · replace hR := if_p c13 hR
        refine lv_lookup (off := 35) (tgt := 90) hx hb d_Machine_doIndexed_55 (by decide) (by rw [c13]; decide) (by decide) ?_
        refine lv_aload_n hx hb d_Machine_doIndexed_90 rfl (lv_at hl 4 rfl) ?_
        refine lv_iload hx hb d_Machine_doIndexed_91 (lv_at hl 0 rfl) ?_
        refine lv_iconst (v := 1) hx hb d_Machine_doIndexed_93 (by decide) ?_
        refine lv_iadd hx hb d_Machine_doIndexed_94 ?_
        replace hR := bi_e hR
        obtain ⟨r14, l14, T14, hc14, hR⟩ := hR
        refine gcV_v (rest := []) ⟨hx, hb, hml, hown, hT⟩ (h_Machine_push _ _ _ _ _ hc14) (cwV 1 hT (gV ml_Machine_133 im_Machine_push se_Machine_push ini_Machine co_Machine_push) rfl rfl rfl pd_Machine_push ⟨rm_hi, rm_lo (Nat.le_of_ble_eq_true rfl)⟩) hK hP hD hS hA hnw henv (Nat.le_of_ble_eq_true rfl) rfl rfl hl.1 rfl (Nat.le_of_ble_eq_true rfl) d_Machine_doIndexed_95 ⟨Nat.le_refl _, Nat.le_refl _⟩ (fun H locs hP hD hS => ?_)
        clear hc14
        refine lv_goto (tgt := 108) hx hb d_Machine_doIndexed_98 (by decide) ?_
        obtain ⟨-, -, e3⟩ := re_e hR
        subst e3
        exact W.vret hx hb hr (fun t ht hW => ⟨⟨(), rfl, trivial, by rw [ht]; exact hP, va_K.moved hW.alike hK, hD⟩, hS.F ht⟩) hS.2.2 d_Machine_doIndexed_108
      replace hR := if_n c13 hR
      refine lv_lookup (off := 46) (tgt := 101) hx hb d_Machine_doIndexed_55 (by decide) ((lv_osw c11 rfl).trans ((lv_osw c13 rfl).trans rfl)) (by decide) ?_
      refine lv_aload_n hx hb d_Machine_doIndexed_101 rfl (lv_at hl 4 rfl) ?_
      refine lv_iload hx hb d_Machine_doIndexed_102 (lv_at hl 0 rfl) ?_
      refine lv_iload_n hx hb d_Machine_doIndexed_104 rfl (lv_at hl 6 rfl) ?_
      replace hR := bi_e hR
      obtain ⟨r16, l16, T16, hc16, hR⟩ := hR
      refine gcV_v (rest := []) ⟨hx, hb, hml, hown, hT⟩ (h_Machine_store _ _ _ _ _ _ hc16) (cwV 2 hT (gV ml_Machine_176 im_Machine_store se_Machine_store ini_Machine co_Machine_store) rfl rfl rfl pd_Machine_store ⟨rm_hi, rm_lo (Nat.le_of_ble_eq_true rfl)⟩) hK hP hD hS hA hnw henv (Nat.le_of_ble_eq_true rfl) rfl rfl hl.1 rfl (Nat.le_of_ble_eq_true rfl) d_Machine_doIndexed_105 ⟨Nat.le_refl _, Nat.le_refl _⟩ (fun H locs hP hD hS => ?_)
      clear hc16
      obtain ⟨-, -, e3⟩ := re_e hR
      subst e3
      exact W.vret hx hb hr (fun t ht hW => ⟨⟨(), rfl, trivial, by rw [ht]; exact hP, va_K.moved hW.alike hK, hD⟩, hS.F ht⟩) hS.2.2 d_Machine_doIndexed_108
    · replace hR := if_n c9 hR
      refine lv_aload_n hx hb d_Machine_doIndexed_39 rfl (lv_at hl 4 rfl) ?_
      refine lv_iconst (v := 2) hx hb d_Machine_doIndexed_40 (by decide) ?_
      replace hR := bi_e hR
      obtain ⟨r17, l17, T17, hc17, hR⟩ := hR
      refine gcV_v (rest := []) ⟨hx, hb, hml, hown, hT⟩ (h_Machine_raise _ _ _ _ _ hc17) (cwV 1 hT (gV ml_Machine_167 im_Machine_raise se_Machine_raise ini_Machine co_Machine_raise) rfl rfl rfl pd_Machine_raise ⟨rm_hi, rm_lo (Nat.le_of_ble_eq_true rfl)⟩) hK hP hD hS hA hnw henv (Nat.le_of_ble_eq_true rfl) rfl rfl hl.1 rfl (Nat.le_of_ble_eq_true rfl) d_Machine_doIndexed_41 ⟨Nat.le_refl _, Nat.le_refl _⟩ (fun H locs hP hD hS => ?_)
      clear hc17
      obtain ⟨-, -, e3⟩ := re_e hR
      subst e3
      exact W.vret hx hb hr (fun t ht hW => ⟨⟨(), rfl, trivial, by rw [ht]; exact hP, va_K.moved hW.alike hK, hD⟩, hS.F ht⟩) hS.2.2 d_Machine_doIndexed_44
set_option maxHeartbeats 4000000 in
set_option maxRecDepth 100000 in
theorem sp_Machine_doMaking (l : Launch) (dC : Nat → ClassId) (dI : Nat → Nat → Nat) (ea ev ad : Nat → Nat) (km : Nat → ClassId) (F : gF) (nf d : Nat) (h_Machine_placeFor : mt_Machine_placeFor l dC dI ea ev ad km F d) (h_Machine_store : mt_Machine_store l dC dI ea ev ad km F d) (h_Machine_push : mt_Machine_push l dC dI ea ev ad km F d) (h_Memory_put : mt_Memory_put l dC dI ea ev ad km F d) (h_Machine_makeRow : mt_Machine_makeRow l dC dI ea ev ad km F d) (T0 : gSt) (p1 : Int32) (p2 : Int32) (p3 : Int32) (r0 : Int32) (rl0 : Int64) (T9 : gSt) (hR : rb_Machine_doMaking F nf T0 p1 p2 p3 = some (r0, rl0, T9)) : GMv l dC dI LH ad km ea ev y_Machine_doMaking w_Machine_doMaking (rmD (d + 1)) [.ref (ad 10), .int p1, .int p2, .int p3] T0 T9 := by
  intro sz
  refine Met.ofW (cc := b_Machine_doMaking) (maxL := 6) (ret := none) (by decide) rfl ?_
  intro p e s m args below meth c s₁ B hml hv
  obtain ⟨rfl, hsz, hP, hK, hD0, hnw, henv⟩ := hv
  have hx := B.exec
  have hb := B.bytes
  have hr := B.returns
  have hT : ∀ w ∈ lw_good, w.before _ s = true := fun w h => atoms_spec (ws := w_Machine_doMaking) B.pre w (List.mem_cons_of_mem _ h)
  have hown : s.vm.findClass R_Machine = some m.cls := findClass_of_methodNamed B.named
  subst hsz
  have hD := hD0.self (sz := s.heap.size)
  clear hD0
  generalize hAe : va_A (gW LH ad km T0) s.heap.size = A at hD henv ⊢
  have hA : ∀ q : Nat, s.heap.size ≤ q → A q := fun q h => by rw [← hAe]; exact Or.inr h
  have hS : va_S A s.heap s.heap [] := va_S.rf
  have hl := lv_entry ([.ref (ad 10), .int p1, .int p2, .int p3]) (n := 6) (Nat.le_of_ble_eq_true rfl)
  rw [lg_entry_eq]
  generalize (lg_sl ([.ref (ad 10), .int p1, .int p2, .int p3]) ++ List.replicate (6 - (lg_sl ([.ref (ad 10), .int p1, .int p2, .int p3])).length) Slot.unset).toArray = ls at hl ⊢
  have hl : lv_has ls 6 [(0, .ref (ad 10)), (1, .int p1), (2, .int p2), (3, .int p3)] := hl
  unfold rb_Machine_doMaking at hR
  refine lv_iload_n hx hb d_Machine_doMaking_0 rfl (lv_at hl 1 rfl) ?_
  by_cases c1 : p1 = (40 : Int32)
  · replace hR := if_p c1 hR
    refine lv_lookup (off := 27) (tgt := 28) hx hb d_Machine_doMaking_1 (by decide) (by rw [c1]; decide) (by decide) ?_
    refine lv_aload_n hx hb d_Machine_doMaking_28 rfl (lv_at hl 0 rfl) ?_
    refine lv_iload_n hx hb d_Machine_doMaking_29 rfl (lv_at hl 2 rfl) ?_
    refine lv_iconst (v := 1) hx hb d_Machine_doMaking_30 (by decide) ?_
    refine lv_iload_n hx hb d_Machine_doMaking_31 rfl (lv_at hl 3 rfl) ?_
    replace hR := bi_e hR
    obtain ⟨r2, l2, T2, hc2, hR⟩ := hR
    refine gcV_i (rest := []) ⟨hx, hb, hml, hown, hT⟩ (h_Machine_placeFor _ _ _ _ _ _ _ hc2) (cwV 3 hT (gV ml_Machine_182 im_Machine_placeFor se_Machine_placeFor ini_Machine co_Machine_placeFor) rfl rfl rfl pd_Machine_placeFor ⟨rm_hi, rm_lo (Nat.le_of_ble_eq_true rfl)⟩) hK hP hD hS hA hnw henv (Nat.le_of_ble_eq_true rfl) rfl rfl hl.1 rfl (Nat.le_of_ble_eq_true rfl) d_Machine_doMaking_32 ⟨Nat.le_refl _, Nat.le_refl _⟩ (fun H locs hP hD hS => ?_)
    clear hc2
    refine lv_istore (lv' := [(4, .int r2), (0, .ref (ad 10)), (1, .int p1), (2, .int p2), (3, .int p3)]) hx hb d_Machine_doMaking_35 hl (by decide) rfl (fun ls hl => ?_)
    refine lv_iload hx hb d_Machine_doMaking_37 (lv_at hl 0 rfl) ?_
    refine lv_iconst (v := (-1)) hx hb d_Machine_doMaking_39 (by decide) ?_
    refine lv_icmp_eq (tgt := 124) hx hb d_Machine_doMaking_40 (by decide) (fun c3 => ?_) (fun c3 => ?_)
    · replace hR := if_p c3 hR
      obtain ⟨-, -, e3⟩ := re_e hR
      subst e3
      exact W.vret hx hb hr (fun t ht hW => ⟨⟨(), rfl, trivial, by rw [ht]; exact hP, va_K.moved hW.alike hK, hD⟩, hS.F ht⟩) hS.2.2 d_Machine_doMaking_124
    · replace hR := if_n c3 hR
      refine lv_aload_n hx hb d_Machine_doMaking_43 rfl (lv_at hl 1 rfl) ?_
      refine lv_iload hx hb d_Machine_doMaking_44 (lv_at hl 0 rfl) ?_
      refine lv_iload_n hx hb d_Machine_doMaking_46 rfl (lv_at hl 4 rfl) ?_
      replace hR := bi_e hR
      obtain ⟨r4, l4, T4, hc4, hR⟩ := hR
      refine gcV_v (rest := []) ⟨hx, hb, hml, hown, hT⟩ (h_Machine_store _ _ _ _ _ _ hc4) (cwV 2 hT (gV ml_Machine_176 im_Machine_store se_Machine_store ini_Machine co_Machine_store) rfl rfl rfl pd_Machine_store ⟨rm_hi, rm_lo (Nat.le_of_ble_eq_true rfl)⟩) hK hP hD hS hA hnw henv (Nat.le_of_ble_eq_true rfl) rfl rfl hl.1 rfl (Nat.le_of_ble_eq_true rfl) d_Machine_doMaking_47 ⟨Nat.le_refl _, Nat.le_refl _⟩ (fun H locs hP hD hS => ?_)
      clear hc4
      refine lv_aload_n hx hb d_Machine_doMaking_50 rfl (lv_at hl 1 rfl) ?_
      refine lv_iload hx hb d_Machine_doMaking_51 (lv_at hl 0 rfl) ?_
      refine lv_iconst (v := 1) hx hb d_Machine_doMaking_53 (by decide) ?_
      refine lv_iadd hx hb d_Machine_doMaking_54 ?_
      replace hR := bi_e hR
      obtain ⟨r5, l5, T5, hc5, hR⟩ := hR
      refine gcV_v (rest := []) ⟨hx, hb, hml, hown, hT⟩ (h_Machine_push _ _ _ _ _ hc5) (cwV 1 hT (gV ml_Machine_133 im_Machine_push se_Machine_push ini_Machine co_Machine_push) rfl rfl rfl pd_Machine_push ⟨rm_hi, rm_lo (Nat.le_of_ble_eq_true rfl)⟩) hK hP hD hS hA hnw henv (Nat.le_of_ble_eq_true rfl) rfl rfl hl.1 rfl (Nat.le_of_ble_eq_true rfl) d_Machine_doMaking_55 ⟨Nat.le_refl _, Nat.le_refl _⟩ (fun H locs hP hD hS => ?_)
      clear hc5
      refine lv_goto (tgt := 124) hx hb d_Machine_doMaking_58 (by decide) ?_
      obtain ⟨-, -, e3⟩ := re_e hR
      subst e3
      exact W.vret hx hb hr (fun t ht hW => ⟨⟨(), rfl, trivial, by rw [ht]; exact hP, va_K.moved hW.alike hK, hD⟩, hS.F ht⟩) hS.2.2 d_Machine_doMaking_124
  replace hR := if_n c1 hR
  by_cases c6 : p1 = (41 : Int32)
  · replace hR := if_p c6 hR
    refine lv_lookup (off := 60) (tgt := 61) hx hb d_Machine_doMaking_1 (by decide) (by rw [c6]; decide) (by decide) ?_
    refine lv_aload_n hx hb d_Machine_doMaking_61 rfl (lv_at hl 0 rfl) ?_
    refine lv_iload_n hx hb d_Machine_doMaking_62 rfl (lv_at hl 2 rfl) ?_
    refine lv_bipush (v := 15) hx hb d_Machine_doMaking_63 (by decide) ?_
    refine lv_iand hx hb d_Machine_doMaking_65 ?_
    refine lv_iconst (v := 1) hx hb d_Machine_doMaking_66 (by decide) ?_
    refine lv_iload_n hx hb d_Machine_doMaking_67 rfl (lv_at hl 3 rfl) ?_
    refine lv_bipush (v := 8) hx hb d_Machine_doMaking_68 (by decide) ?_
    refine lv_ishr hx hb d_Machine_doMaking_70 ?_
    replace hR := bi_e hR
    obtain ⟨r7, l7, T7, hc7, hR⟩ := hR
    refine gcV_i (rest := []) ⟨hx, hb, hml, hown, hT⟩ (h_Machine_placeFor _ _ _ _ _ _ _ hc7) (cwV 3 hT (gV ml_Machine_182 im_Machine_placeFor se_Machine_placeFor ini_Machine co_Machine_placeFor) rfl rfl rfl pd_Machine_placeFor ⟨rm_hi, rm_lo (Nat.le_of_ble_eq_true rfl)⟩) hK hP hD hS hA hnw henv (Nat.le_of_ble_eq_true rfl) rfl rfl hl.1 rfl (Nat.le_of_ble_eq_true rfl) d_Machine_doMaking_71 ⟨Nat.le_refl _, Nat.le_refl _⟩ (fun H locs hP hD hS => ?_)
    clear hc7
    refine lv_istore (lv' := [(5, .int r7), (0, .ref (ad 10)), (1, .int p1), (2, .int p2), (3, .int p3)]) hx hb d_Machine_doMaking_74 hl (by decide) rfl (fun ls hl => ?_)
    refine lv_iload hx hb d_Machine_doMaking_76 (lv_at hl 0 rfl) ?_
    refine lv_iconst (v := (-1)) hx hb d_Machine_doMaking_78 (by decide) ?_
    refine lv_icmp_eq (tgt := 124) hx hb d_Machine_doMaking_79 (by decide) (fun c8 => ?_) (fun c8 => ?_)
    · replace hR := if_p c8 hR
      obtain ⟨-, -, e3⟩ := re_e hR
      subst e3
      exact W.vret hx hb hr (fun t ht hW => ⟨⟨(), rfl, trivial, by rw [ht]; exact hP, va_K.moved hW.alike hK, hD⟩, hS.F ht⟩) hS.2.2 d_Machine_doMaking_124
    · replace hR := if_n c8 hR
      refine lv_aload_n hx hb d_Machine_doMaking_82 rfl (lv_at hl 1 rfl) ?_
      refine rd_Machine_16 hx hb hT hown hK hP d_Machine_doMaking_83 ?_
      refine lv_iload hx hb d_Machine_doMaking_86 (lv_at hl 0 rfl) ?_
      refine lv_iload_n hx hb d_Machine_doMaking_88 rfl (lv_at hl 3 rfl) ?_
      refine lv_iconst (v := 4) hx hb d_Machine_doMaking_89 (by decide) ?_
      refine lv_ishr hx hb d_Machine_doMaking_90 ?_
      replace hR := bi_e hR
      obtain ⟨r9, l9, T9, hc9, hR⟩ := hR
      refine gcV_v (rest := []) ⟨hx, hb, hml, hown, hT⟩ (h_Memory_put _ _ _ _ _ _ hc9) (cwV 2 hT (gV ml_Machine_179 im_Memory_put se_Memory_put ini_Memory co_Memory_put) rfl rfl rfl pd_Memory_put ⟨rm_hi, rm_lo (Nat.le_of_ble_eq_true rfl)⟩) hK hP hD hS hA hnw henv (Nat.le_of_ble_eq_true rfl) rfl rfl hl.1 rfl (Nat.le_of_ble_eq_true rfl) d_Machine_doMaking_91 ⟨Nat.le_refl _, Nat.le_refl _⟩ (fun H locs hP hD hS => ?_)
      clear hc9
      refine lv_aload_n hx hb d_Machine_doMaking_94 rfl (lv_at hl 1 rfl) ?_
      refine lv_iload hx hb d_Machine_doMaking_95 (lv_at hl 0 rfl) ?_
      refine lv_iconst (v := 1) hx hb d_Machine_doMaking_97 (by decide) ?_
      refine lv_iadd hx hb d_Machine_doMaking_98 ?_
      refine lv_iload_n hx hb d_Machine_doMaking_99 rfl (lv_at hl 4 rfl) ?_
      refine lv_sipush (v := 255) hx hb d_Machine_doMaking_100 (by decide) ?_
      refine lv_iand hx hb d_Machine_doMaking_103 ?_
      replace hR := bi_e hR
      obtain ⟨r10, l10, T10, hc10, hR⟩ := hR
      refine gcV_v (rest := []) ⟨hx, hb, hml, hown, hT⟩ (h_Machine_store _ _ _ _ _ _ hc10) (cwV 2 hT (gV ml_Machine_176 im_Machine_store se_Machine_store ini_Machine co_Machine_store) rfl rfl rfl pd_Machine_store ⟨rm_hi, rm_lo (Nat.le_of_ble_eq_true rfl)⟩) hK hP hD hS hA hnw henv (Nat.le_of_ble_eq_true rfl) rfl rfl hl.1 rfl (Nat.le_of_ble_eq_true rfl) d_Machine_doMaking_104 ⟨Nat.le_refl _, Nat.le_refl _⟩ (fun H locs hP hD hS => ?_)
      clear hc10
      refine lv_aload_n hx hb d_Machine_doMaking_107 rfl (lv_at hl 1 rfl) ?_
      refine lv_iload hx hb d_Machine_doMaking_108 (lv_at hl 0 rfl) ?_
      refine lv_iconst (v := 1) hx hb d_Machine_doMaking_110 (by decide) ?_
      refine lv_iadd hx hb d_Machine_doMaking_111 ?_
      replace hR := bi_e hR
      obtain ⟨r11, l11, T11, hc11, hR⟩ := hR
      refine gcV_v (rest := []) ⟨hx, hb, hml, hown, hT⟩ (h_Machine_push _ _ _ _ _ hc11) (cwV 1 hT (gV ml_Machine_133 im_Machine_push se_Machine_push ini_Machine co_Machine_push) rfl rfl rfl pd_Machine_push ⟨rm_hi, rm_lo (Nat.le_of_ble_eq_true rfl)⟩) hK hP hD hS hA hnw henv (Nat.le_of_ble_eq_true rfl) rfl rfl hl.1 rfl (Nat.le_of_ble_eq_true rfl) d_Machine_doMaking_112 ⟨Nat.le_refl _, Nat.le_refl _⟩ (fun H locs hP hD hS => ?_)
      clear hc11
      refine lv_goto (tgt := 124) hx hb d_Machine_doMaking_115 (by decide) ?_
      obtain ⟨-, -, e3⟩ := re_e hR
      subst e3
      exact W.vret hx hb hr (fun t ht hW => ⟨⟨(), rfl, trivial, by rw [ht]; exact hP, va_K.moved hW.alike hK, hD⟩, hS.F ht⟩) hS.2.2 d_Machine_doMaking_124
  replace hR := if_n c6 hR
  refine lv_lookup (off := 117) (tgt := 118) hx hb d_Machine_doMaking_1 (by decide) ((lv_osw c1 rfl).trans ((lv_osw c6 rfl).trans rfl)) (by decide) ?_
  refine lv_aload_n hx hb d_Machine_doMaking_118 rfl (lv_at hl 0 rfl) ?_
  refine lv_iload_n hx hb d_Machine_doMaking_119 rfl (lv_at hl 2 rfl) ?_
  refine lv_iload_n hx hb d_Machine_doMaking_120 rfl (lv_at hl 3 rfl) ?_
  replace hR := bi_e hR
  obtain ⟨r13, l13, T13, hc13, hR⟩ := hR
  refine gcV_v (rest := []) ⟨hx, hb, hml, hown, hT⟩ (h_Machine_makeRow _ _ _ _ _ _ hc13) (cwV 2 hT (gV ml_Machine_186 im_Machine_makeRow se_Machine_makeRow ini_Machine co_Machine_makeRow) rfl rfl rfl pd_Machine_makeRow ⟨rm_hi, rm_lo (Nat.le_of_ble_eq_true rfl)⟩) hK hP hD hS hA hnw henv (Nat.le_of_ble_eq_true rfl) rfl rfl hl.1 rfl (Nat.le_of_ble_eq_true rfl) d_Machine_doMaking_121 ⟨Nat.le_refl _, Nat.le_refl _⟩ (fun H locs hP hD hS => ?_)
  clear hc13
  obtain ⟨-, -, e3⟩ := re_e hR
  subst e3
  exact W.vret hx hb hr (fun t ht hW => ⟨⟨(), rfl, trivial, by rw [ht]; exact hP, va_K.moved hW.alike hK, hD⟩, hS.F ht⟩) hS.2.2 d_Machine_doMaking_124
set_option maxHeartbeats 4000000 in
set_option maxRecDepth 100000 in
theorem sp_Machine_makeRow (l : Launch) (dC : Nat → ClassId) (dI : Nat → Nat → Nat) (ea ev ad : Nat → Nat) (km : Nat → ClassId) (F : gF) (nf d : Nat) (h_Machine_wordAt : mt_Machine_wordAt l dC dI ea ev ad km F d) (h_Machine_placeFor : mt_Machine_placeFor l dC dI ea ev ad km F d) (h_Machine_push : mt_Machine_push l dC dI ea ev ad km F d) (h_Memory_put : mt_Memory_put l dC dI ea ev ad km F d) (T0 : gSt) (p1 : Int32) (p2 : Int32) (r0 : Int32) (rl0 : Int64) (T9 : gSt) (hR : rb_Machine_makeRow F nf T0 p1 p2 = some (r0, rl0, T9)) : GMv l dC dI LH ad km ea ev y_Machine_makeRow w_Machine_makeRow (rmD (d + 1)) [.ref (ad 10), .int p1, .int p2] T0 T9 := by
  intro sz
  refine Met.ofW (cc := b_Machine_makeRow) (maxL := 7) (ret := none) (by decide) rfl ?_
  intro p e s m args below meth c s₁ B hml hv
  obtain ⟨rfl, hsz, hP, hK, hD0, hnw, henv⟩ := hv
  have hx := B.exec
  have hb := B.bytes
  have hr := B.returns
  have hT : ∀ w ∈ lw_good, w.before _ s = true := fun w h => atoms_spec (ws := w_Machine_makeRow) B.pre w (List.mem_cons_of_mem _ h)
  have hown : s.vm.findClass R_Machine = some m.cls := findClass_of_methodNamed B.named
  subst hsz
  have hD := hD0.self (sz := s.heap.size)
  clear hD0
  generalize hAe : va_A (gW LH ad km T0) s.heap.size = A at hD henv ⊢
  have hA : ∀ q : Nat, s.heap.size ≤ q → A q := fun q h => by rw [← hAe]; exact Or.inr h
  have hS : va_S A s.heap s.heap [] := va_S.rf
  have hl := lv_entry ([.ref (ad 10), .int p1, .int p2]) (n := 7) (Nat.le_of_ble_eq_true rfl)
  rw [lg_entry_eq]
  generalize (lg_sl ([.ref (ad 10), .int p1, .int p2]) ++ List.replicate (7 - (lg_sl ([.ref (ad 10), .int p1, .int p2])).length) Slot.unset).toArray = ls at hl ⊢
  have hl : lv_has ls 7 [(0, .ref (ad 10)), (1, .int p1), (2, .int p2)] := hl
  obtain ⟨G, hG⟩ : ∃ G : Nat → List (Nat × Value) → List Value → gSt → Prop, G = (fun pc lv stk T => ∀ (H : Heap) (locs : List Loc), va_P (dC, dI) cls_all (gW LH ad km T) H → va_D A (gW LH ad km T) → va_S A s.heap H locs → ∀ (ls : Array Slot), lv_has ls 7 lv → W p l e (headSpec w_Machine_makeRow (rmD (d + 1))).room s m ([.ref (ad 10), .int p1, .int p2] : List Value).toArray below meth c H locs 0 0 (MQ below (va_Qv (fun (_ : Unit) => True) (fun _ t => gPost dC dI LH ad km T9 A t) A) ([.ref (ad 10), .int p1, .int p2] : List Value).toArray s 0 0 A) (F0 m pc ls stk)) := ⟨_, rfl⟩
  have lb_36 : ∀ (n : Nat) (T : gSt) (x2 : Int32) (x3 : Int32) (x4 : Int32) (x5 : Int32) (x6 : Int32), rl_Machine_makeRow_36 F nf n T x2 x3 x4 x5 x6 = some (r0, rl0, T9) → G 36 [(0, .ref (ad 10)), (2, .int x2), (3, .int x3), (4, .int x4), (5, .int x5), (6, .int x6)] [] T := by
    intro n
    induction n with
    | zero => intro T x2 x3 x4 x5 x6 hR; rw [rl_Machine_makeRow_36] at hR; cases hR
    | succ n ih =>
      intro T x2 x3 x4 x5 x6 hR; rw [rl_Machine_makeRow_36] at hR; rw [hG]; intro H locs hP hD hS ls hl
      refine lv_iload hx hb d_Machine_makeRow_36 (lv_at hl 5 rfl) ?_
      refine lv_iload hx hb d_Machine_makeRow_38 (lv_at hl 3 rfl) ?_
      refine lv_iload_n hx hb d_Machine_makeRow_40 rfl (lv_at hl 1 rfl) ?_
      refine lv_imul hx hb d_Machine_makeRow_41 ?_
      refine lv_icmp_ge (tgt := 73) hx hb d_Machine_makeRow_42 (by decide) (fun c5 => ?_) (fun c5 => ?_)
      · replace hR := if_p c5 hR
        refine lv_aload_n hx hb d_Machine_makeRow_73 rfl (lv_at hl 0 rfl) ?_
        refine lv_iconst (v := 0) hx hb d_Machine_makeRow_74 (by decide) ?_
        refine lv_iload_n hx hb d_Machine_makeRow_75 rfl (lv_at hl 2 rfl) ?_
        refine lv_iconst (v := 1) hx hb d_Machine_makeRow_76 (by decide) ?_
        refine lv_isub hx hb d_Machine_makeRow_77 ?_
        refine va_mmax hx hb (hml.trans hl.1.symm) hown (hT _ ml_Machine_149) (hT _ st_Math_max) (hT _ ini_Math) (hT _ co_Math_max) rm_f1 (rm_l1 (Nat.le_of_ble_eq_true rfl)) (Nat.le_refl _) (Nat.le_refl _) d_Machine_makeRow_78 ?_
        refine wr_Machine_52 hx hb hT hown hK hP hD hS d_Machine_makeRow_81 (fun T6 eT H locs hP hD hS => ?_)
        replace hR := stK_e eT hR
        clear eT
        refine lv_aload_n hx hb d_Machine_makeRow_84 rfl (lv_at hl 0 rfl) ?_
        refine lv_iload hx hb d_Machine_makeRow_85 (lv_at hl 4 rfl) ?_
        refine lv_iconst (v := 1) hx hb d_Machine_makeRow_87 (by decide) ?_
        refine lv_iadd hx hb d_Machine_makeRow_88 ?_
        replace hR := bi_e hR
        obtain ⟨r7, l7, T7, hc7, hR⟩ := hR
        refine gcV_v (rest := []) ⟨hx, hb, hml, hown, hT⟩ (h_Machine_push _ _ _ _ _ hc7) (cwV 1 hT (gV ml_Machine_133 im_Machine_push se_Machine_push ini_Machine co_Machine_push) rfl rfl rfl pd_Machine_push ⟨rm_hi, rm_lo (Nat.le_of_ble_eq_true rfl)⟩) hK hP hD hS hA hnw henv (Nat.le_of_ble_eq_true rfl) rfl rfl hl.1 rfl (Nat.le_of_ble_eq_true rfl) d_Machine_makeRow_89 ⟨Nat.le_refl _, Nat.le_refl _⟩ (fun H locs hP hD hS => ?_)
        clear hc7
        refine lv_aload_n hx hb d_Machine_makeRow_92 rfl (lv_at hl 0 rfl) ?_
        refine lv_iconst (v := 0) hx hb d_Machine_makeRow_93 (by decide) ?_
        replace hR := bi_e hR
        obtain ⟨r8, l8, T8, hc8, hR⟩ := hR
        refine gcV_v (rest := []) ⟨hx, hb, hml, hown, hT⟩ (h_Machine_push _ _ _ _ _ hc8) (cwV 1 hT (gV ml_Machine_133 im_Machine_push se_Machine_push ini_Machine co_Machine_push) rfl rfl rfl pd_Machine_push ⟨rm_hi, rm_lo (Nat.le_of_ble_eq_true rfl)⟩) hK hP hD hS hA hnw henv (Nat.le_of_ble_eq_true rfl) rfl rfl hl.1 rfl (Nat.le_of_ble_eq_true rfl) d_Machine_makeRow_94 ⟨Nat.le_refl _, Nat.le_refl _⟩ (fun H locs hP hD hS => ?_)
        clear hc8
        refine lv_aload_n hx hb d_Machine_makeRow_97 rfl (lv_at hl 0 rfl) ?_
        refine lv_iload hx hb d_Machine_makeRow_98 (lv_at hl 3 rfl) ?_
        replace hR := bi_e hR
        obtain ⟨r9, l9, T9, hc9, hR⟩ := hR
        refine gcV_v (rest := []) ⟨hx, hb, hml, hown, hT⟩ (h_Machine_push _ _ _ _ _ hc9) (cwV 1 hT (gV ml_Machine_133 im_Machine_push se_Machine_push ini_Machine co_Machine_push) rfl rfl rfl pd_Machine_push ⟨rm_hi, rm_lo (Nat.le_of_ble_eq_true rfl)⟩) hK hP hD hS hA hnw henv (Nat.le_of_ble_eq_true rfl) rfl rfl hl.1 rfl (Nat.le_of_ble_eq_true rfl) d_Machine_makeRow_100 ⟨Nat.le_refl _, Nat.le_refl _⟩ (fun H locs hP hD hS => ?_)
        clear hc9
        obtain ⟨-, -, e3⟩ := re_e hR
        subst e3
        exact W.vret hx hb hr (fun t ht hW => ⟨⟨(), rfl, trivial, by rw [ht]; exact hP, va_K.moved hW.alike hK, hD⟩, hS.F ht⟩) hS.2.2 d_Machine_makeRow_103
      · replace hR := if_n c5 hR
        refine lv_aload_n hx hb d_Machine_makeRow_45 rfl (lv_at hl 0 rfl) ?_
        refine rd_Machine_16 hx hb hT hown hK hP d_Machine_makeRow_46 ?_
        refine lv_iload hx hb d_Machine_makeRow_49 (lv_at hl 4 rfl) ?_
        refine lv_iload hx hb d_Machine_makeRow_51 (lv_at hl 5 rfl) ?_
        refine lv_iadd hx hb d_Machine_makeRow_53 ?_
        refine lv_aload_n hx hb d_Machine_makeRow_54 rfl (lv_at hl 0 rfl) ?_
        refine lv_iload_n hx hb d_Machine_makeRow_55 rfl (lv_at hl 2 rfl) ?_
        refine lv_iload hx hb d_Machine_makeRow_56 (lv_at hl 5 rfl) ?_
        refine lv_iload_n hx hb d_Machine_makeRow_58 rfl (lv_at hl 1 rfl) ?_
        replace hR := gd_e hR
        obtain ⟨b10, hR⟩ := hR
        refine lv_irem hx hb d_Machine_makeRow_59 b10 ?_
        refine lv_iadd hx hb d_Machine_makeRow_60 ?_
        replace hR := bi_e hR
        obtain ⟨r11, l11, T11, hc11, hR⟩ := hR
        refine gcV_i (rest := [.int (x5 + x6), .ref (ad 11)]) ⟨hx, hb, hml, hown, hT⟩ (h_Machine_wordAt _ _ _ _ _ hc11) (cwV 1 hT (gV ml_Machine_139 im_Machine_wordAt se_Machine_wordAt ini_Machine co_Machine_wordAt) rfl rfl rfl pd_Machine_wordAt ⟨rm_hi, rm_lo (Nat.le_of_ble_eq_true rfl)⟩) hK hP hD hS hA hnw henv (Nat.le_of_ble_eq_true rfl) rfl rfl hl.1 rfl (Nat.le_of_ble_eq_true rfl) d_Machine_makeRow_61 ⟨Nat.le_refl _, Nat.le_refl _⟩ (fun H locs hP hD hS => ?_)
        clear hc11
        replace hR := bi_e hR
        obtain ⟨r12, l12, T12, hc12, hR⟩ := hR
        refine gcV_v (rest := []) ⟨hx, hb, hml, hown, hT⟩ (h_Memory_put _ _ _ _ _ _ hc12) (cwV 2 hT (gV ml_Machine_179 im_Memory_put se_Memory_put ini_Memory co_Memory_put) rfl rfl rfl pd_Memory_put ⟨rm_hi, rm_lo (Nat.le_of_ble_eq_true rfl)⟩) hK hP hD hS hA hnw henv (Nat.le_of_ble_eq_true rfl) rfl rfl hl.1 rfl (Nat.le_of_ble_eq_true rfl) d_Machine_makeRow_64 ⟨Nat.le_refl _, Nat.le_refl _⟩ (fun H locs hP hD hS => ?_)
        clear hc12
        obtain ⟨z13, e13⟩ : ∃ y : Int32, y = x6 + (1 : Int32) := ⟨_, rfl⟩
        replace hR := vK_e e13 hR
        refine lv_iinc (v := z13) (lv' := [(6, .int z13), (0, .ref (ad 10)), (2, .int x2), (3, .int x3), (4, .int x4), (5, .int x5)]) hx hb d_Machine_makeRow_67 hl (k := 5) rfl (by rw [e13]; rfl) (by decide) rfl (fun ls hl => ?_)
        refine lv_goto (tgt := 36) hx hb d_Machine_makeRow_70 (by decide) ?_
        have g := ih T12 x2 x3 x4 x5 z13 hR
        rw [hG] at g
        exact g _ _ hP hD hS _ (lv_sub hl [1, 2, 3, 4, 5, 0] rfl)
  unfold rb_Machine_makeRow at hR
  refine lv_aload_n hx hb d_Machine_makeRow_0 rfl (lv_at hl 0 rfl) ?_
  refine rd_Machine_52 hx hb hT hown hK hP d_Machine_makeRow_1 ?_
  refine lv_iload_n hx hb d_Machine_makeRow_4 rfl (lv_at hl 2 rfl) ?_
  refine lv_isub hx hb d_Machine_makeRow_5 ?_
  refine lv_topi (fun z1 e1 => ?_)
  replace hR := vK_e e1 hR
  refine lv_istore_n (lv' := [(3, .int z1), (0, .ref (ad 10)), (1, .int p1), (2, .int p2)]) hx hb d_Machine_makeRow_6 rfl hl (by decide) rfl (fun ls hl => ?_)
  refine lv_aload_n hx hb d_Machine_makeRow_7 rfl (lv_at hl 1 rfl) ?_
  refine lv_iload_n hx hb d_Machine_makeRow_8 rfl (lv_at hl 0 rfl) ?_
  refine lv_iconst (v := 1) hx hb d_Machine_makeRow_9 (by decide) ?_
  refine lv_isub hx hb d_Machine_makeRow_10 ?_
  replace hR := bi_e hR
  obtain ⟨r2, l2, T2, hc2, hR⟩ := hR
  refine gcV_i (rest := []) ⟨hx, hb, hml, hown, hT⟩ (h_Machine_wordAt _ _ _ _ _ hc2) (cwV 1 hT (gV ml_Machine_139 im_Machine_wordAt se_Machine_wordAt ini_Machine co_Machine_wordAt) rfl rfl rfl pd_Machine_wordAt ⟨rm_hi, rm_lo (Nat.le_of_ble_eq_true rfl)⟩) hK hP hD hS hA hnw henv (Nat.le_of_ble_eq_true rfl) rfl rfl hl.1 rfl (Nat.le_of_ble_eq_true rfl) d_Machine_makeRow_11 ⟨Nat.le_refl _, Nat.le_refl _⟩ (fun H locs hP hD hS => ?_)
  clear hc2
  refine lv_istore (lv' := [(4, .int r2), (3, .int z1), (0, .ref (ad 10)), (1, .int p1), (2, .int p2)]) hx hb d_Machine_makeRow_14 hl (by decide) rfl (fun ls hl => ?_)
  refine lv_aload_n hx hb d_Machine_makeRow_16 rfl (lv_at hl 2 rfl) ?_
  refine lv_iload_n hx hb d_Machine_makeRow_17 rfl (lv_at hl 3 rfl) ?_
  refine lv_iload hx hb d_Machine_makeRow_18 (lv_at hl 0 rfl) ?_
  refine lv_iload_n hx hb d_Machine_makeRow_20 rfl (lv_at hl 4 rfl) ?_
  replace hR := bi_e hR
  obtain ⟨r3, l3, T3, hc3, hR⟩ := hR
  refine gcV_i (rest := []) ⟨hx, hb, hml, hown, hT⟩ (h_Machine_placeFor _ _ _ _ _ _ _ hc3) (cwV 3 hT (gV ml_Machine_182 im_Machine_placeFor se_Machine_placeFor ini_Machine co_Machine_placeFor) rfl rfl rfl pd_Machine_placeFor ⟨rm_hi, rm_lo (Nat.le_of_ble_eq_true rfl)⟩) hK hP hD hS hA hnw henv (Nat.le_of_ble_eq_true rfl) rfl rfl hl.1 rfl (Nat.le_of_ble_eq_true rfl) d_Machine_makeRow_21 ⟨Nat.le_refl _, Nat.le_refl _⟩ (fun H locs hP hD hS => ?_)
  clear hc3
  refine lv_istore (lv' := [(5, .int r3), (4, .int r2), (3, .int z1), (0, .ref (ad 10)), (1, .int p1), (2, .int p2)]) hx hb d_Machine_makeRow_24 hl (by decide) rfl (fun ls hl => ?_)
  refine lv_iload hx hb d_Machine_makeRow_26 (lv_at hl 0 rfl) ?_
  refine lv_iconst (v := (-1)) hx hb d_Machine_makeRow_28 (by decide) ?_
  refine lv_icmp_ne (tgt := 33) hx hb d_Machine_makeRow_29 (by decide) (fun c4 => ?_) (fun c4 => ?_)
  · replace hR := if_n c4 hR
    refine lv_iconst (v := 0) hx hb d_Machine_makeRow_33 (by decide) ?_
    refine lv_istore (lv' := [(6, .int (0 : Int32)), (5, .int r3), (4, .int r2), (3, .int z1), (0, .ref (ad 10)), (1, .int p1), (2, .int p2)]) hx hb d_Machine_makeRow_34 hl (by decide) rfl (fun ls hl => ?_)
    have g := lb_36 nf T3 p2 z1 r2 r3 (0 : Int32) hR
    rw [hG] at g
    exact g _ _ hP hD hS _ (lv_sub hl [4, 6, 3, 2, 1, 0] rfl)
  · replace hR := if_p c4 hR
    obtain ⟨-, -, e3⟩ := re_e hR
    subst e3
    exact W.vret hx hb hr (fun t ht hW => ⟨⟨(), rfl, trivial, by rw [ht]; exact hP, va_K.moved hW.alike hK, hD⟩, hS.F ht⟩) hS.2.2 d_Machine_makeRow_32
set_option maxHeartbeats 4000000 in
set_option maxRecDepth 100000 in
theorem sp_Machine_placeFor (l : Launch) (dC : Nat → ClassId) (dI : Nat → Nat → Nat) (ea ev ad : Nat → Nat) (km : Nat → ClassId) (F : gF) (nf d : Nat) (h_Machine_raise : mt_Machine_raise l dC dI ea ev ad km F d) (h_Memory_pageWords : mt_Memory_pageWords l dC dI ea ev ad km F d) (h_Machine_frame : mt_Machine_frame l dC dI ea ev ad km F d) (h_Memory_make : mt_Memory_make l dC dI ea ev ad km F d) (T0 : gSt) (p1 : Int32) (p2 : Int32) (p3 : Int32) (r0 : Int32) (rl0 : Int64) (T9 : gSt) (hR : rb_Machine_placeFor F nf T0 p1 p2 p3 = some (r0, rl0, T9)) : GMi l dC dI LH ad km ea ev y_Machine_placeFor w_Machine_placeFor (rmD (d + 1)) [.ref (ad 10), .int p1, .int p2, .int p3] T0 r0 T9 := by
  intro sz
  refine Met.ofW (cc := b_Machine_placeFor) (maxL := 5) (ret := (some .int)) (by decide) rfl ?_
  intro p e s m args below meth c s₁ B hml hv
  obtain ⟨rfl, hsz, hP, hK, hD0, hnw, henv⟩ := hv
  have hx := B.exec
  have hb := B.bytes
  have hr := B.returns
  have hT : ∀ w ∈ lw_good, w.before _ s = true := fun w h => atoms_spec (ws := w_Machine_placeFor) B.pre w (List.mem_cons_of_mem _ h)
  have hown : s.vm.findClass R_Machine = some m.cls := findClass_of_methodNamed B.named
  subst hsz
  have hD := hD0.self (sz := s.heap.size)
  clear hD0
  generalize hAe : va_A (gW LH ad km T0) s.heap.size = A at hD henv ⊢
  have hA : ∀ q : Nat, s.heap.size ≤ q → A q := fun q h => by rw [← hAe]; exact Or.inr h
  have hS : va_S A s.heap s.heap [] := va_S.rf
  have hl := lv_entry ([.ref (ad 10), .int p1, .int p2, .int p3]) (n := 5) (Nat.le_of_ble_eq_true rfl)
  rw [lg_entry_eq]
  generalize (lg_sl ([.ref (ad 10), .int p1, .int p2, .int p3]) ++ List.replicate (5 - (lg_sl ([.ref (ad 10), .int p1, .int p2, .int p3])).length) Slot.unset).toArray = ls at hl ⊢
  have hl : lv_has ls 5 [(0, .ref (ad 10)), (1, .int p1), (2, .int p2), (3, .int p3)] := hl
  unfold rb_Machine_placeFor at hR
  refine lv_iload_n hx hb d_Machine_placeFor_0 rfl (lv_at hl 2 rfl) ?_
  refine lv_if_lt (tgt := 21) hx hb d_Machine_placeFor_1 (by decide) (fun c1 => ?_) (fun c1 => ?_)
  · replace hR := if_p c1 hR
    refine lv_aload_n hx hb d_Machine_placeFor_21 rfl (lv_at hl 0 rfl) ?_
    refine lv_iconst (v := 5) hx hb d_Machine_placeFor_22 (by decide) ?_
    replace hR := bi_e hR
    obtain ⟨r2, l2, T2, hc2, hR⟩ := hR
    refine gcV_v (rest := []) ⟨hx, hb, hml, hown, hT⟩ (h_Machine_raise _ _ _ _ _ hc2) (cwV 1 hT (gV ml_Machine_167 im_Machine_raise se_Machine_raise ini_Machine co_Machine_raise) rfl rfl rfl pd_Machine_raise ⟨rm_hi, rm_lo (Nat.le_of_ble_eq_true rfl)⟩) hK hP hD hS hA hnw henv (Nat.le_of_ble_eq_true rfl) rfl rfl hl.1 rfl (Nat.le_of_ble_eq_true rfl) d_Machine_placeFor_23 ⟨Nat.le_refl _, Nat.le_refl _⟩ (fun H locs hP hD hS => ?_)
    clear hc2
    refine lv_iconst (v := (-1)) hx hb d_Machine_placeFor_26 (by decide) ?_
    obtain ⟨e1, -, e3⟩ := re_e hR
    subst e1; subst e3
    exact W.iret (v := (-1 : Int32)) hx hb hr (fun t ht hW => ⟨⟨(-1 : Int32), (), rfl, rfl, by rw [ht]; exact hP, va_K.moved hW.alike hK, hD⟩, hS.F ht⟩) hS.2.2 d_Machine_placeFor_27
  · replace hR := if_n c1 hR
    refine lv_iload_n hx hb d_Machine_placeFor_4 rfl (lv_at hl 2 rfl) ?_
    refine lv_i2l (v := (p2 : Int32).toInt64) hx hb d_Machine_placeFor_5 rfl ?_
    refine lv_iload_n hx hb d_Machine_placeFor_6 rfl (lv_at hl 3 rfl) ?_
    refine lv_i2l (v := (p3 : Int32).toInt64) hx hb d_Machine_placeFor_7 rfl ?_
    refine lv_lmul hx hb d_Machine_placeFor_8 ?_
    refine lv_aload_n hx hb d_Machine_placeFor_9 rfl (lv_at hl 0 rfl) ?_
    refine rd_Machine_16 hx hb hT hown hK hP d_Machine_placeFor_10 ?_
    replace hR := bi_e hR
    obtain ⟨r4, l4, T4, hc4, hR⟩ := hR
    refine gcV_i (rest := [.long (((p2 : Int32).toInt64) * ((p3 : Int32).toInt64))]) ⟨hx, hb, hml, hown, hT⟩ (h_Memory_pageWords _ _ _ _ hc4) (cwV 0 hT (gV ml_Machine_189 im_Memory_pageWords se_Memory_pageWords ini_Memory co_Memory_pageWords) rfl rfl rfl pd_Memory_pageWords ⟨rm_hi, rm_lo (Nat.le_of_ble_eq_true rfl)⟩) hK hP hD hS hA hnw henv (Nat.le_of_ble_eq_true rfl) rfl rfl hl.1 rfl (Nat.le_of_ble_eq_true rfl) d_Machine_placeFor_13 ⟨Nat.le_refl _, Nat.le_refl _⟩ (fun H locs hP hD hS => ?_)
    clear hc4
    refine lv_i2l (v := (r4 : Int32).toInt64) hx hb d_Machine_placeFor_16 rfl ?_
    refine W.lcmp hx hb d_Machine_placeFor_17 ?_
    refine lv_if_le (tgt := 28) hx hb d_Machine_placeFor_18 (by decide) (fun c5 => ?_) (fun c5 => ?_)
    · replace hR := if_p c5 hR
      refine lv_aload_n hx hb d_Machine_placeFor_28 rfl (lv_at hl 0 rfl) ?_
      refine rd_Machine_16 hx hb hT hown hK hP d_Machine_placeFor_29 ?_
      refine lv_aload_n hx hb d_Machine_placeFor_32 rfl (lv_at hl 0 rfl) ?_
      refine lv_iconst (v := 5) hx hb d_Machine_placeFor_33 (by decide) ?_
      refine lv_iload_n hx hb d_Machine_placeFor_34 rfl (lv_at hl 1 rfl) ?_
      refine lv_iadd hx hb d_Machine_placeFor_35 ?_
      replace hR := bi_e hR
      obtain ⟨r6, l6, T6, hc6, hR⟩ := hR
      refine gcV_i (rest := [.ref (ad 11)]) ⟨hx, hb, hml, hown, hT⟩ (h_Machine_frame _ _ _ _ _ hc6) (cwV 1 hT (gV ml_Machine_136 im_Machine_frame se_Machine_frame ini_Machine co_Machine_frame) rfl rfl rfl pd_Machine_frame ⟨rm_hi, rm_lo (Nat.le_of_ble_eq_true rfl)⟩) hK hP hD hS hA hnw henv (Nat.le_of_ble_eq_true rfl) rfl rfl hl.1 rfl (Nat.le_of_ble_eq_true rfl) d_Machine_placeFor_36 ⟨Nat.le_refl _, Nat.le_refl _⟩ (fun H locs hP hD hS => ?_)
      clear hc6
      refine lv_iload_n hx hb d_Machine_placeFor_39 rfl (lv_at hl 2 rfl) ?_
      refine lv_iload_n hx hb d_Machine_placeFor_40 rfl (lv_at hl 3 rfl) ?_
      refine lv_imul hx hb d_Machine_placeFor_41 ?_
      replace hR := bi_e hR
      obtain ⟨r7, l7, T7, hc7, hR⟩ := hR
      refine gcV_i (rest := []) ⟨hx, hb, hml, hown, hT⟩ (h_Memory_make _ _ _ _ _ _ hc7) (cwV 2 hT (gV ml_Machine_192 im_Memory_make se_Memory_make ini_Memory co_Memory_make) rfl rfl rfl pd_Memory_make ⟨rm_hi, rm_lo (Nat.le_of_ble_eq_true rfl)⟩) hK hP hD hS hA hnw henv (Nat.le_of_ble_eq_true rfl) rfl rfl hl.1 rfl (Nat.le_of_ble_eq_true rfl) d_Machine_placeFor_42 ⟨Nat.le_refl _, Nat.le_refl _⟩ (fun H locs hP hD hS => ?_)
      clear hc7
      refine lv_istore (lv' := [(4, .int r7), (0, .ref (ad 10)), (1, .int p1), (2, .int p2), (3, .int p3)]) hx hb d_Machine_placeFor_45 hl (by decide) rfl (fun ls hl => ?_)
      refine lv_iload hx hb d_Machine_placeFor_47 (lv_at hl 0 rfl) ?_
      refine lv_iconst (v := (-1)) hx hb d_Machine_placeFor_49 (by decide) ?_
      refine lv_icmp_ne (tgt := 58) hx hb d_Machine_placeFor_50 (by decide) (fun c8 => ?_) (fun c8 => ?_)
      · replace hR := if_n c8 hR
        refine lv_iload hx hb d_Machine_placeFor_58 (lv_at hl 0 rfl) ?_
        obtain ⟨e1, -, e3⟩ := re_e hR
        subst e1; subst e3
        exact W.iret (v := r7) hx hb hr (fun t ht hW => ⟨⟨r7, (), rfl, rfl, by rw [ht]; exact hP, va_K.moved hW.alike hK, hD⟩, hS.F ht⟩) hS.2.2 d_Machine_placeFor_60
      · replace hR := if_p c8 hR
        refine lv_aload_n hx hb d_Machine_placeFor_53 rfl (lv_at hl 1 rfl) ?_
        refine lv_iconst (v := 4) hx hb d_Machine_placeFor_54 (by decide) ?_
        refine wr_Machine_44 hx hb hT hown hK hP hD hS d_Machine_placeFor_55 (fun T10 eT H locs hP hD hS => ?_)
        replace hR := stK_e eT hR
        clear eT
        refine lv_iload hx hb d_Machine_placeFor_58 (lv_at hl 0 rfl) ?_
        obtain ⟨e1, -, e3⟩ := re_e hR
        subst e1; subst e3
        exact W.iret (v := r7) hx hb hr (fun t ht hW => ⟨⟨r7, (), rfl, rfl, by rw [ht]; exact hP, va_K.moved hW.alike hK, hD⟩, hS.F ht⟩) hS.2.2 d_Machine_placeFor_60
    · replace hR := if_n c5 hR
      refine lv_aload_n hx hb d_Machine_placeFor_21 rfl (lv_at hl 0 rfl) ?_
      refine lv_iconst (v := 5) hx hb d_Machine_placeFor_22 (by decide) ?_
      replace hR := bi_e hR
      obtain ⟨r12, l12, T12, hc12, hR⟩ := hR
      refine gcV_v (rest := []) ⟨hx, hb, hml, hown, hT⟩ (h_Machine_raise _ _ _ _ _ hc12) (cwV 1 hT (gV ml_Machine_167 im_Machine_raise se_Machine_raise ini_Machine co_Machine_raise) rfl rfl rfl pd_Machine_raise ⟨rm_hi, rm_lo (Nat.le_of_ble_eq_true rfl)⟩) hK hP hD hS hA hnw henv (Nat.le_of_ble_eq_true rfl) rfl rfl hl.1 rfl (Nat.le_of_ble_eq_true rfl) d_Machine_placeFor_23 ⟨Nat.le_refl _, Nat.le_refl _⟩ (fun H locs hP hD hS => ?_)
      clear hc12
      refine lv_iconst (v := (-1)) hx hb d_Machine_placeFor_26 (by decide) ?_
      obtain ⟨e1, -, e3⟩ := re_e hR
      subst e1; subst e3
      exact W.iret (v := (-1 : Int32)) hx hb hr (fun t ht hW => ⟨⟨(-1 : Int32), (), rfl, rfl, by rw [ht]; exact hP, va_K.moved hW.alike hK, hD⟩, hS.F ht⟩) hS.2.2 d_Machine_placeFor_27
set_option maxHeartbeats 4000000 in
set_option maxRecDepth 100000 in
theorem sp_Machine_doControl (l : Launch) (dC : Nat → ClassId) (dI : Nat → Nat → Nat) (ea ev ad : Nat → Nat) (km : Nat → ClassId) (F : gF) (nf d : Nat) (h_Machine_pop : mt_Machine_pop l dC dI ea ev ad km F d) (h_Memory_open : mt_Memory_open l dC dI ea ev ad km F d) (h_Machine_setFrame : mt_Machine_setFrame l dC dI ea ev ad km F d) (h_Machine_frame : mt_Machine_frame l dC dI ea ev ad km F d) (h_Memory_closeFrom : mt_Memory_closeFrom l dC dI ea ev ad km F d) (h_Machine_pushTry : mt_Machine_pushTry l dC dI ea ev ad km F d) (h_Machine_raise : mt_Machine_raise l dC dI ea ev ad km F d) (h_Machine_enter : mt_Machine_enter l dC dI ea ev ad km F d) (h_Machine_leave : mt_Machine_leave l dC dI ea ev ad km F d) (T0 : gSt) (p1 : Int32) (p2 : Int32) (p3 : Int32) (r0 : Int32) (rl0 : Int64) (T9 : gSt) (hR : rb_Machine_doControl F nf T0 p1 p2 p3 = some (r0, rl0, T9)) : GMv l dC dI LH ad km ea ev y_Machine_doControl w_Machine_doControl (rmD (d + 1)) [.ref (ad 10), .int p1, .int p2, .int p3] T0 T9 := by
  intro sz
  refine Met.ofW (cc := b_Machine_doControl) (maxL := 4) (ret := none) (by decide) rfl ?_
  intro p e s m args below meth c s₁ B hml hv
  obtain ⟨rfl, hsz, hP, hK, hD0, hnw, henv⟩ := hv
  have hx := B.exec
  have hb := B.bytes
  have hr := B.returns
  have hT : ∀ w ∈ lw_good, w.before _ s = true := fun w h => atoms_spec (ws := w_Machine_doControl) B.pre w (List.mem_cons_of_mem _ h)
  have hown : s.vm.findClass R_Machine = some m.cls := findClass_of_methodNamed B.named
  subst hsz
  have hD := hD0.self (sz := s.heap.size)
  clear hD0
  generalize hAe : va_A (gW LH ad km T0) s.heap.size = A at hD henv ⊢
  have hA : ∀ q : Nat, s.heap.size ≤ q → A q := fun q h => by rw [← hAe]; exact Or.inr h
  have hS : va_S A s.heap s.heap [] := va_S.rf
  have hl := lv_entry ([.ref (ad 10), .int p1, .int p2, .int p3]) (n := 4) (Nat.le_of_ble_eq_true rfl)
  rw [lg_entry_eq]
  generalize (lg_sl ([.ref (ad 10), .int p1, .int p2, .int p3]) ++ List.replicate (4 - (lg_sl ([.ref (ad 10), .int p1, .int p2, .int p3])).length) Slot.unset).toArray = ls at hl ⊢
  have hl : lv_has ls 4 [(0, .ref (ad 10)), (1, .int p1), (2, .int p2), (3, .int p3)] := hl
  unfold rb_Machine_doControl at hR
  refine lv_iload_n hx hb d_Machine_doControl_0 rfl (lv_at hl 1 rfl) ?_
  by_cases c1 : p1 = (50 : Int32)
  · replace hR := if_p c1 hR
    refine lv_tableIn (off := 47) (tgt := 48) hx hb d_Machine_doControl_1 (by rw [c1]; decide) (by rw [c1]; decide) (by rw [c1]; decide) (by decide) ?_
    refine lv_aload_n hx hb d_Machine_doControl_48 rfl (lv_at hl 0 rfl) ?_
    refine lv_iload_n hx hb d_Machine_doControl_49 rfl (lv_at hl 2 rfl) ?_
    refine wr_Machine_61 hx hb hT hown hK hP hD hS d_Machine_doControl_50 (fun T2 eT H locs hP hD hS => ?_)
    replace hR := stK_e eT hR
    clear eT
    refine lv_goto (tgt := 155) hx hb d_Machine_doControl_53 (by decide) ?_
    obtain ⟨-, -, e3⟩ := re_e hR
    subst e3
    exact W.vret hx hb hr (fun t ht hW => ⟨⟨(), rfl, trivial, by rw [ht]; exact hP, va_K.moved hW.alike hK, hD⟩, hS.F ht⟩) hS.2.2 d_Machine_doControl_155
  replace hR := if_n c1 hR
  by_cases c3 : p1 = (51 : Int32)
  · replace hR := if_p c3 hR
    refine lv_tableIn (off := 55) (tgt := 56) hx hb d_Machine_doControl_1 (by rw [c3]; decide) (by rw [c3]; decide) (by rw [c3]; decide) (by decide) ?_
    refine lv_aload_n hx hb d_Machine_doControl_56 rfl (lv_at hl 0 rfl) ?_
    replace hR := bi_e hR
    obtain ⟨r4, l4, T4, hc4, hR⟩ := hR
    refine gcV_i (rest := []) ⟨hx, hb, hml, hown, hT⟩ (h_Machine_pop _ _ _ _ hc4) (cwV 0 hT (gV ml_Machine_142 im_Machine_pop se_Machine_pop ini_Machine co_Machine_pop) rfl rfl rfl pd_Machine_pop ⟨rm_hi, rm_lo (Nat.le_of_ble_eq_true rfl)⟩) hK hP hD hS hA hnw henv (Nat.le_of_ble_eq_true rfl) rfl rfl hl.1 rfl (Nat.le_of_ble_eq_true rfl) d_Machine_doControl_57 ⟨Nat.le_refl _, Nat.le_refl _⟩ (fun H locs hP hD hS => ?_)
    clear hc4
    refine lv_if_ne (tgt := 155) hx hb d_Machine_doControl_60 (by decide) (fun c5 => ?_) (fun c5 => ?_)
    · replace hR := if_n c5 hR
      obtain ⟨-, -, e3⟩ := re_e hR
      subst e3
      exact W.vret hx hb hr (fun t ht hW => ⟨⟨(), rfl, trivial, by rw [ht]; exact hP, va_K.moved hW.alike hK, hD⟩, hS.F ht⟩) hS.2.2 d_Machine_doControl_155
    · replace hR := if_p c5 hR
      refine lv_aload_n hx hb d_Machine_doControl_63 rfl (lv_at hl 0 rfl) ?_
      refine lv_iload_n hx hb d_Machine_doControl_64 rfl (lv_at hl 2 rfl) ?_
      refine wr_Machine_61 hx hb hT hown hK hP hD hS d_Machine_doControl_65 (fun T6 eT H locs hP hD hS => ?_)
      replace hR := stK_e eT hR
      clear eT
      refine lv_goto (tgt := 155) hx hb d_Machine_doControl_68 (by decide) ?_
      obtain ⟨-, -, e3⟩ := re_e hR
      subst e3
      exact W.vret hx hb hr (fun t ht hW => ⟨⟨(), rfl, trivial, by rw [ht]; exact hP, va_K.moved hW.alike hK, hD⟩, hS.F ht⟩) hS.2.2 d_Machine_doControl_155
  replace hR := if_n c3 hR
  by_cases c7 : p1 = (52 : Int32)
  · replace hR := if_p c7 hR
    refine lv_tableIn (off := 70) (tgt := 71) hx hb d_Machine_doControl_1 (by rw [c7]; decide) (by rw [c7]; decide) (by rw [c7]; decide) (by decide) ?_
    refine lv_aload_n hx hb d_Machine_doControl_71 rfl (lv_at hl 0 rfl) ?_
    refine lv_iconst (v := 5) hx hb d_Machine_doControl_72 (by decide) ?_
    refine lv_iload_n hx hb d_Machine_doControl_73 rfl (lv_at hl 2 rfl) ?_
    refine lv_iadd hx hb d_Machine_doControl_74 ?_
    refine lv_aload_n hx hb d_Machine_doControl_75 rfl (lv_at hl 0 rfl) ?_
    refine rd_Machine_16 hx hb hT hown hK hP d_Machine_doControl_76 ?_
    replace hR := bi_e hR
    obtain ⟨r8, l8, T8, hc8, hR⟩ := hR
    refine gcV_i (rest := [.int ((5 : Int32) + p2), .ref (ad 10)]) ⟨hx, hb, hml, hown, hT⟩ (h_Memory_open _ _ _ _ hc8) (cwV 0 hT (gV ml_Machine_195 im_Memory_open se_Memory_open ini_Memory co_Memory_open) rfl rfl rfl pd_Memory_open ⟨rm_hi, rm_lo (Nat.le_of_ble_eq_true rfl)⟩) hK hP hD hS hA hnw henv (Nat.le_of_ble_eq_true rfl) rfl rfl hl.1 rfl (Nat.le_of_ble_eq_true rfl) d_Machine_doControl_79 ⟨Nat.le_refl _, Nat.le_refl _⟩ (fun H locs hP hD hS => ?_)
    clear hc8
    replace hR := bi_e hR
    obtain ⟨r9, l9, T9, hc9, hR⟩ := hR
    refine gcV_v (rest := []) ⟨hx, hb, hml, hown, hT⟩ (h_Machine_setFrame _ _ _ _ _ _ hc9) (cwV 2 hT (gV ml_Machine_103 im_Machine_setFrame se_Machine_setFrame ini_Machine co_Machine_setFrame) rfl rfl rfl pd_Machine_setFrame ⟨rm_hi, rm_lo (Nat.le_of_ble_eq_true rfl)⟩) hK hP hD hS hA hnw henv (Nat.le_of_ble_eq_true rfl) rfl rfl hl.1 rfl (Nat.le_of_ble_eq_true rfl) d_Machine_doControl_82 ⟨Nat.le_refl _, Nat.le_refl _⟩ (fun H locs hP hD hS => ?_)
    clear hc9
    refine lv_goto (tgt := 155) hx hb d_Machine_doControl_85 (by decide) ?_
    obtain ⟨-, -, e3⟩ := re_e hR
    subst e3
    exact W.vret hx hb hr (fun t ht hW => ⟨⟨(), rfl, trivial, by rw [ht]; exact hP, va_K.moved hW.alike hK, hD⟩, hS.F ht⟩) hS.2.2 d_Machine_doControl_155
  replace hR := if_n c7 hR
  by_cases c10 : p1 = (53 : Int32)
  · replace hR := if_p c10 hR
    refine lv_tableIn (off := 87) (tgt := 88) hx hb d_Machine_doControl_1 (by rw [c10]; decide) (by rw [c10]; decide) (by rw [c10]; decide) (by decide) ?_
    refine lv_aload_n hx hb d_Machine_doControl_88 rfl (lv_at hl 0 rfl) ?_
    refine rd_Machine_16 hx hb hT hown hK hP d_Machine_doControl_89 ?_
    refine lv_aload_n hx hb d_Machine_doControl_92 rfl (lv_at hl 0 rfl) ?_
    refine lv_iconst (v := 5) hx hb d_Machine_doControl_93 (by decide) ?_
    refine lv_iload_n hx hb d_Machine_doControl_94 rfl (lv_at hl 2 rfl) ?_
    refine lv_iadd hx hb d_Machine_doControl_95 ?_
    replace hR := bi_e hR
    obtain ⟨r11, l11, T11, hc11, hR⟩ := hR
    refine gcV_i (rest := [.ref (ad 11)]) ⟨hx, hb, hml, hown, hT⟩ (h_Machine_frame _ _ _ _ _ hc11) (cwV 1 hT (gV ml_Machine_136 im_Machine_frame se_Machine_frame ini_Machine co_Machine_frame) rfl rfl rfl pd_Machine_frame ⟨rm_hi, rm_lo (Nat.le_of_ble_eq_true rfl)⟩) hK hP hD hS hA hnw henv (Nat.le_of_ble_eq_true rfl) rfl rfl hl.1 rfl (Nat.le_of_ble_eq_true rfl) d_Machine_doControl_96 ⟨Nat.le_refl _, Nat.le_refl _⟩ (fun H locs hP hD hS => ?_)
    clear hc11
    replace hR := bi_e hR
    obtain ⟨r12, l12, T12, hc12, hR⟩ := hR
    refine gcV_v (rest := []) ⟨hx, hb, hml, hown, hT⟩ (h_Memory_closeFrom _ _ _ _ _ hc12) (cwV 1 hT (gV ml_Machine_198 im_Memory_closeFrom se_Memory_closeFrom ini_Memory co_Memory_closeFrom) rfl rfl rfl pd_Memory_closeFrom ⟨rm_hi, rm_lo (Nat.le_of_ble_eq_true rfl)⟩) hK hP hD hS hA hnw henv (Nat.le_of_ble_eq_true rfl) rfl rfl hl.1 rfl (Nat.le_of_ble_eq_true rfl) d_Machine_doControl_99 ⟨Nat.le_refl _, Nat.le_refl _⟩ (fun H locs hP hD hS => ?_)
    clear hc12
    refine lv_goto (tgt := 155) hx hb d_Machine_doControl_102 (by decide) ?_
    obtain ⟨-, -, e3⟩ := re_e hR
    subst e3
    exact W.vret hx hb hr (fun t ht hW => ⟨⟨(), rfl, trivial, by rw [ht]; exact hP, va_K.moved hW.alike hK, hD⟩, hS.F ht⟩) hS.2.2 d_Machine_doControl_155
  replace hR := if_n c10 hR
  by_cases c13 : p1 = (54 : Int32)
  · replace hR := if_p c13 hR
    refine lv_tableIn (off := 104) (tgt := 105) hx hb d_Machine_doControl_1 (by rw [c13]; decide) (by rw [c13]; decide) (by rw [c13]; decide) (by decide) ?_
    refine lv_aload_n hx hb d_Machine_doControl_105 rfl (lv_at hl 0 rfl) ?_
    refine lv_iload_n hx hb d_Machine_doControl_106 rfl (lv_at hl 2 rfl) ?_
    replace hR := bi_e hR
    obtain ⟨r14, l14, T14, hc14, hR⟩ := hR
    refine gcV_v (rest := []) ⟨hx, hb, hml, hown, hT⟩ (h_Machine_pushTry _ _ _ _ _ hc14) (cwV 1 hT (gV ml_Machine_201 im_Machine_pushTry se_Machine_pushTry ini_Machine co_Machine_pushTry) rfl rfl rfl pd_Machine_pushTry ⟨rm_hi, rm_lo (Nat.le_of_ble_eq_true rfl)⟩) hK hP hD hS hA hnw henv (Nat.le_of_ble_eq_true rfl) rfl rfl hl.1 rfl (Nat.le_of_ble_eq_true rfl) d_Machine_doControl_107 ⟨Nat.le_refl _, Nat.le_refl _⟩ (fun H locs hP hD hS => ?_)
    clear hc14
    refine lv_goto (tgt := 155) hx hb d_Machine_doControl_110 (by decide) ?_
    obtain ⟨-, -, e3⟩ := re_e hR
    subst e3
    exact W.vret hx hb hr (fun t ht hW => ⟨⟨(), rfl, trivial, by rw [ht]; exact hP, va_K.moved hW.alike hK, hD⟩, hS.F ht⟩) hS.2.2 d_Machine_doControl_155
  replace hR := if_n c13 hR
  by_cases c15 : p1 = (55 : Int32)
  · replace hR := if_p c15 hR
    refine lv_tableIn (off := 112) (tgt := 113) hx hb d_Machine_doControl_1 (by rw [c15]; decide) (by rw [c15]; decide) (by rw [c15]; decide) (by decide) ?_
    refine lv_aload_n hx hb d_Machine_doControl_113 rfl (lv_at hl 0 rfl) ?_
    refine lv_iconst (v := 0) hx hb d_Machine_doControl_114 (by decide) ?_
    refine lv_aload_n hx hb d_Machine_doControl_115 rfl (lv_at hl 0 rfl) ?_
    refine rd_Machine_58 hx hb hT hown hK hP d_Machine_doControl_116 ?_
    refine lv_iconst (v := 1) hx hb d_Machine_doControl_119 (by decide) ?_
    refine lv_isub hx hb d_Machine_doControl_120 ?_
    refine va_mmax hx hb (hml.trans hl.1.symm) hown (hT _ ml_Machine_149) (hT _ st_Math_max) (hT _ ini_Math) (hT _ co_Math_max) rm_f1 (rm_l1 (Nat.le_of_ble_eq_true rfl)) (Nat.le_refl _) (Nat.le_refl _) d_Machine_doControl_121 ?_
    refine wr_Machine_58 hx hb hT hown hK hP hD hS d_Machine_doControl_124 (fun T16 eT H locs hP hD hS => ?_)
    replace hR := stK_e eT hR
    clear eT
    refine lv_goto (tgt := 155) hx hb d_Machine_doControl_127 (by decide) ?_
    obtain ⟨-, -, e3⟩ := re_e hR
    subst e3
    exact W.vret hx hb hr (fun t ht hW => ⟨⟨(), rfl, trivial, by rw [ht]; exact hP, va_K.moved hW.alike hK, hD⟩, hS.F ht⟩) hS.2.2 d_Machine_doControl_155
  replace hR := if_n c15 hR
  by_cases c17 : p1 = (56 : Int32)
  · replace hR := if_p c17 hR
    refine lv_tableIn (off := 129) (tgt := 130) hx hb d_Machine_doControl_1 (by rw [c17]; decide) (by rw [c17]; decide) (by rw [c17]; decide) (by decide) ?_
    refine lv_aload_n hx hb d_Machine_doControl_130 rfl (lv_at hl 0 rfl) ?_
    refine lv_aload_n hx hb d_Machine_doControl_131 rfl (lv_at hl 0 rfl) ?_
    replace hR := bi_e hR
    obtain ⟨r18, l18, T18, hc18, hR⟩ := hR
    refine gcV_i (rest := [.ref (ad 10)]) ⟨hx, hb, hml, hown, hT⟩ (h_Machine_pop _ _ _ _ hc18) (cwV 0 hT (gV ml_Machine_142 im_Machine_pop se_Machine_pop ini_Machine co_Machine_pop) rfl rfl rfl pd_Machine_pop ⟨rm_hi, rm_lo (Nat.le_of_ble_eq_true rfl)⟩) hK hP hD hS hA hnw henv (Nat.le_of_ble_eq_true rfl) rfl rfl hl.1 rfl (Nat.le_of_ble_eq_true rfl) d_Machine_doControl_132 ⟨Nat.le_refl _, Nat.le_refl _⟩ (fun H locs hP hD hS => ?_)
    clear hc18
    replace hR := bi_e hR
    obtain ⟨r19, l19, T19, hc19, hR⟩ := hR
    refine gcV_v (rest := []) ⟨hx, hb, hml, hown, hT⟩ (h_Machine_raise _ _ _ _ _ hc19) (cwV 1 hT (gV ml_Machine_167 im_Machine_raise se_Machine_raise ini_Machine co_Machine_raise) rfl rfl rfl pd_Machine_raise ⟨rm_hi, rm_lo (Nat.le_of_ble_eq_true rfl)⟩) hK hP hD hS hA hnw henv (Nat.le_of_ble_eq_true rfl) rfl rfl hl.1 rfl (Nat.le_of_ble_eq_true rfl) d_Machine_doControl_135 ⟨Nat.le_refl _, Nat.le_refl _⟩ (fun H locs hP hD hS => ?_)
    clear hc19
    refine lv_goto (tgt := 155) hx hb d_Machine_doControl_138 (by decide) ?_
    obtain ⟨-, -, e3⟩ := re_e hR
    subst e3
    exact W.vret hx hb hr (fun t ht hW => ⟨⟨(), rfl, trivial, by rw [ht]; exact hP, va_K.moved hW.alike hK, hD⟩, hS.F ht⟩) hS.2.2 d_Machine_doControl_155
  replace hR := if_n c17 hR
  by_cases c20 : p1 = (57 : Int32)
  · replace hR := if_p c20 hR
    refine lv_tableIn (off := 140) (tgt := 141) hx hb d_Machine_doControl_1 (by rw [c20]; decide) (by rw [c20]; decide) (by rw [c20]; decide) (by decide) ?_
    refine lv_aload_n hx hb d_Machine_doControl_141 rfl (lv_at hl 0 rfl) ?_
    refine lv_iload_n hx hb d_Machine_doControl_142 rfl (lv_at hl 2 rfl) ?_
    refine lv_iload_n hx hb d_Machine_doControl_143 rfl (lv_at hl 3 rfl) ?_
    replace hR := bi_e hR
    obtain ⟨r21, l21, T21, hc21, hR⟩ := hR
    refine gcV_v (rest := []) ⟨hx, hb, hml, hown, hT⟩ (h_Machine_enter _ _ _ _ _ _ hc21) (cwV 2 hT (gV ml_Machine_91 im_Machine_enter se_Machine_enter ini_Machine co_Machine_enter) rfl rfl rfl pd_Machine_enter ⟨rm_hi, rm_lo (Nat.le_of_ble_eq_true rfl)⟩) hK hP hD hS hA hnw henv (Nat.le_of_ble_eq_true rfl) rfl rfl hl.1 rfl (Nat.le_of_ble_eq_true rfl) d_Machine_doControl_144 ⟨Nat.le_refl _, Nat.le_refl _⟩ (fun H locs hP hD hS => ?_)
    clear hc21
    refine lv_goto (tgt := 155) hx hb d_Machine_doControl_147 (by decide) ?_
    obtain ⟨-, -, e3⟩ := re_e hR
    subst e3
    exact W.vret hx hb hr (fun t ht hW => ⟨⟨(), rfl, trivial, by rw [ht]; exact hP, va_K.moved hW.alike hK, hD⟩, hS.F ht⟩) hS.2.2 d_Machine_doControl_155
  replace hR := if_n c20 hR
  have h322 : (p1 : Int32).toInt < 50 ∨ 57 < (p1 : Int32).toInt := by
    simp only [i_eq, Int32.reduceToInt] at c1 c3 c7 c10 c13 c15 c17 c20; omega
  refine lv_tableOut (tgt := 150) hx hb d_Machine_doControl_1 h322 (by decide) ?_
  refine lv_aload_n hx hb d_Machine_doControl_150 rfl (lv_at hl 0 rfl) ?_
  refine lv_iload_n hx hb d_Machine_doControl_151 rfl (lv_at hl 2 rfl) ?_
  replace hR := bi_e hR
  obtain ⟨r23, l23, T23, hc23, hR⟩ := hR
  refine gcV_v (rest := []) ⟨hx, hb, hml, hown, hT⟩ (h_Machine_leave _ _ _ _ _ hc23) (cwV 1 hT (gV ml_Machine_204 im_Machine_leave se_Machine_leave ini_Machine co_Machine_leave) rfl rfl rfl pd_Machine_leave ⟨rm_hi, rm_lo (Nat.le_of_ble_eq_true rfl)⟩) hK hP hD hS hA hnw henv (Nat.le_of_ble_eq_true rfl) rfl rfl hl.1 rfl (Nat.le_of_ble_eq_true rfl) d_Machine_doControl_152 ⟨Nat.le_refl _, Nat.le_refl _⟩ (fun H locs hP hD hS => ?_)
  clear hc23
  obtain ⟨-, -, e3⟩ := re_e hR
  subst e3
  exact W.vret hx hb hr (fun t ht hW => ⟨⟨(), rfl, trivial, by rw [ht]; exact hP, va_K.moved hW.alike hK, hD⟩, hS.F ht⟩) hS.2.2 d_Machine_doControl_155
