abbrev b_Model_changed : ByteArray := prog_14_method_46_code
abbrev y_Model_changed : MethodName := ⟨R_Model, "changed", "(II)I"⟩
theorem co_Model_changed : Cond.code y_Model_changed b_Model_changed 7 (some .int) ∈ lw_good := lg_in (tin_11 _ (List.mem_of_getElem? (i := 175) rfl)) rfl
abbrev w_Model_changed : List Cond := Cond.code y_Model_changed b_Model_changed 7 (some .int) :: lw_good
theorem im_Model_changed : Cond.instanceMethod y_Model_changed ∈ lw_good := lg_right (i := 2574) (by decide +kernel) rfl
theorem se_Model_changed : Cond.selects R_Model y_Model_changed y_Model_changed ∈ lw_good := lg_left (i := 171) (by decide +kernel) rfl
theorem d_Model_changed_0 : decode b_Model_changed 0 = .ok (.iload_n 1, 1) := by decide +kernel
theorem d_Model_changed_1 : decode b_Model_changed 1 = .ok (.ifCond .gt 5, 3) := by decide +kernel
theorem d_Model_changed_4 : decode b_Model_changed 4 = .ok (.iload_n 1, 1) := by decide +kernel
theorem d_Model_changed_5 : decode b_Model_changed 5 = .ok (.ireturn, 1) := by decide +kernel
theorem d_Model_changed_6 : decode b_Model_changed 6 = .ok (.aload_n 0, 1) := by decide +kernel
theorem d_Model_changed_7 : decode b_Model_changed 7 = .ok (.getfield 159, 3) := by decide +kernel
theorem d_Model_changed_10 : decode b_Model_changed 10 = .ok (.iload_n 1, 1) := by decide +kernel
theorem d_Model_changed_11 : decode b_Model_changed 11 = .ok (.iaload, 1) := by decide +kernel
theorem d_Model_changed_12 : decode b_Model_changed 12 = .ok (.iconst 1, 1) := by decide +kernel
theorem d_Model_changed_13 : decode b_Model_changed 13 = .ok (.if_icmp .lt 28, 3) := by decide +kernel
theorem d_Model_changed_16 : decode b_Model_changed 16 = .ok (.aload_n 0, 1) := by decide +kernel
theorem d_Model_changed_17 : decode b_Model_changed 17 = .ok (.getfield 159, 3) := by decide +kernel
theorem d_Model_changed_20 : decode b_Model_changed 20 = .ok (.iload_n 1, 1) := by decide +kernel
theorem d_Model_changed_21 : decode b_Model_changed 21 = .ok (.iaload, 1) := by decide +kernel
theorem d_Model_changed_22 : decode b_Model_changed 22 = .ok (.iconst 3, 1) := by decide +kernel
theorem d_Model_changed_23 : decode b_Model_changed 23 = .ok (.if_icmp .gt 18, 3) := by decide +kernel
theorem d_Model_changed_26 : decode b_Model_changed 26 = .ok (.iload_n 2, 1) := by decide +kernel
theorem d_Model_changed_27 : decode b_Model_changed 27 = .ok (.aload_n 0, 1) := by decide +kernel
theorem d_Model_changed_28 : decode b_Model_changed 28 = .ok (.getfield 159, 3) := by decide +kernel
theorem d_Model_changed_31 : decode b_Model_changed 31 = .ok (.iload_n 1, 1) := by decide +kernel
theorem d_Model_changed_32 : decode b_Model_changed 32 = .ok (.iaload, 1) := by decide +kernel
theorem d_Model_changed_33 : decode b_Model_changed 33 = .ok (.iconst 1, 1) := by decide +kernel
theorem d_Model_changed_34 : decode b_Model_changed 34 = .ok (.isub, 1) := by decide +kernel
theorem d_Model_changed_35 : decode b_Model_changed 35 = .ok (.invokestatic 550, 3) := by decide +kernel
theorem ml_Model_550 : Cond.methodLink R_Model 550 ⟨"PointerHouseModel", "part", "(II)I"⟩ ∈ lw_good := lg_right (i := 2576) (by decide +kernel) rfl
theorem d_Model_changed_38 : decode b_Model_changed 38 = .ok (.goto 9, 3) := by decide +kernel
theorem d_Model_changed_41 : decode b_Model_changed 41 = .ok (.aload_n 0, 1) := by decide +kernel
theorem d_Model_changed_42 : decode b_Model_changed 42 = .ok (.getfield 159, 3) := by decide +kernel
theorem d_Model_changed_45 : decode b_Model_changed 45 = .ok (.iload_n 1, 1) := by decide +kernel
theorem d_Model_changed_46 : decode b_Model_changed 46 = .ok (.iaload, 1) := by decide +kernel
theorem d_Model_changed_47 : decode b_Model_changed 47 = .ok (.istore_n 3, 1) := by decide +kernel
theorem d_Model_changed_48 : decode b_Model_changed 48 = .ok (.aload_n 0, 1) := by decide +kernel
theorem d_Model_changed_49 : decode b_Model_changed 49 = .ok (.getfield 165, 3) := by decide +kernel
theorem d_Model_changed_52 : decode b_Model_changed 52 = .ok (.iload_n 1, 1) := by decide +kernel
theorem d_Model_changed_53 : decode b_Model_changed 53 = .ok (.iaload, 1) := by decide +kernel
theorem d_Model_changed_54 : decode b_Model_changed 54 = .ok (.ifCond .ge 28, 3) := by decide +kernel
theorem d_Model_changed_57 : decode b_Model_changed 57 = .ok (.aload_n 0, 1) := by decide +kernel
theorem d_Model_changed_58 : decode b_Model_changed 58 = .ok (.aload_n 0, 1) := by decide +kernel
theorem d_Model_changed_59 : decode b_Model_changed 59 = .ok (.getfield 156, 3) := by decide +kernel
theorem d_Model_changed_62 : decode b_Model_changed 62 = .ok (.iload_n 1, 1) := by decide +kernel
theorem d_Model_changed_63 : decode b_Model_changed 63 = .ok (.iaload, 1) := by decide +kernel
theorem d_Model_changed_64 : decode b_Model_changed 64 = .ok (.iload_n 3, 1) := by decide +kernel
theorem d_Model_changed_65 : decode b_Model_changed 65 = .ok (.aload_n 0, 1) := by decide +kernel
theorem d_Model_changed_66 : decode b_Model_changed 66 = .ok (.aload_n 0, 1) := by decide +kernel
theorem d_Model_changed_67 : decode b_Model_changed 67 = .ok (.getfield 162, 3) := by decide +kernel
theorem d_Model_changed_70 : decode b_Model_changed 70 = .ok (.iload_n 1, 1) := by decide +kernel
theorem d_Model_changed_71 : decode b_Model_changed 71 = .ok (.iaload, 1) := by decide +kernel
theorem d_Model_changed_72 : decode b_Model_changed 72 = .ok (.iload_n 2, 1) := by decide +kernel
theorem d_Model_changed_73 : decode b_Model_changed 73 = .ok (.invokevirtual 553, 3) := by decide +kernel
theorem ml_Model_553 : Cond.methodLink R_Model 553 ⟨"PointerHouseModel", "changed", "(II)I"⟩ ∈ lw_good := lg_right (i := 2572) (by decide +kernel) rfl
theorem d_Model_changed_76 : decode b_Model_changed 76 = .ok (.iconst (-1), 1) := by decide +kernel
theorem d_Model_changed_77 : decode b_Model_changed 77 = .ok (.iconst 0, 1) := by decide +kernel
theorem d_Model_changed_78 : decode b_Model_changed 78 = .ok (.invokevirtual 556, 3) := by decide +kernel
theorem ml_Model_556 : Cond.methodLink R_Model 556 ⟨"PointerHouseModel", "known", "(IIIII)I"⟩ ∈ lw_good := lg_right (i := 2512) (by decide +kernel) rfl
theorem d_Model_changed_81 : decode b_Model_changed 81 = .ok (.ireturn, 1) := by decide +kernel
theorem d_Model_changed_82 : decode b_Model_changed 82 = .ok (.iconst 0, 1) := by decide +kernel
theorem d_Model_changed_83 : decode b_Model_changed 83 = .ok (.istore 4, 2) := by decide +kernel
theorem d_Model_changed_85 : decode b_Model_changed 85 = .ok (.iconst 0, 1) := by decide +kernel
theorem d_Model_changed_86 : decode b_Model_changed 86 = .ok (.istore 5, 2) := by decide +kernel
theorem d_Model_changed_88 : decode b_Model_changed 88 = .ok (.iload 5, 2) := by decide +kernel
theorem d_Model_changed_90 : decode b_Model_changed 90 = .ok (.aload_n 0, 1) := by decide +kernel
theorem d_Model_changed_91 : decode b_Model_changed 91 = .ok (.getfield 27, 3) := by decide +kernel
theorem d_Model_changed_94 : decode b_Model_changed 94 = .ok (.aload_n 0, 1) := by decide +kernel
theorem d_Model_changed_95 : decode b_Model_changed 95 = .ok (.getfield 165, 3) := by decide +kernel
theorem d_Model_changed_98 : decode b_Model_changed 98 = .ok (.iload_n 1, 1) := by decide +kernel
theorem d_Model_changed_99 : decode b_Model_changed 99 = .ok (.iaload, 1) := by decide +kernel
theorem d_Model_changed_100 : decode b_Model_changed 100 = .ok (.iaload, 1) := by decide +kernel
theorem d_Model_changed_101 : decode b_Model_changed 101 = .ok (.if_icmp .ge 58, 3) := by decide +kernel
theorem d_Model_changed_104 : decode b_Model_changed 104 = .ok (.aload_n 0, 1) := by decide +kernel
theorem d_Model_changed_105 : decode b_Model_changed 105 = .ok (.getfield 168, 3) := by decide +kernel
theorem d_Model_changed_108 : decode b_Model_changed 108 = .ok (.iload_n 1, 1) := by decide +kernel
theorem d_Model_changed_109 : decode b_Model_changed 109 = .ok (.iaload, 1) := by decide +kernel
theorem d_Model_changed_110 : decode b_Model_changed 110 = .ok (.iload 5, 2) := by decide +kernel
theorem d_Model_changed_112 : decode b_Model_changed 112 = .ok (.invokestatic 550, 3) := by decide +kernel
theorem d_Model_changed_115 : decode b_Model_changed 115 = .ok (.istore 6, 2) := by decide +kernel
theorem d_Model_changed_117 : decode b_Model_changed 117 = .ok (.iload 4, 2) := by decide +kernel
theorem d_Model_changed_119 : decode b_Model_changed 119 = .ok (.iload 6, 2) := by decide +kernel
theorem d_Model_changed_121 : decode b_Model_changed 121 = .ok (.iconst 1, 1) := by decide +kernel
theorem d_Model_changed_122 : decode b_Model_changed 122 = .ok (.if_icmp .lt 20, 3) := by decide +kernel
theorem d_Model_changed_125 : decode b_Model_changed 125 = .ok (.iload 6, 2) := by decide +kernel
theorem d_Model_changed_127 : decode b_Model_changed 127 = .ok (.iconst 3, 1) := by decide +kernel
theorem d_Model_changed_128 : decode b_Model_changed 128 = .ok (.if_icmp .gt 14, 3) := by decide +kernel
theorem d_Model_changed_131 : decode b_Model_changed 131 = .ok (.iload_n 2, 1) := by decide +kernel
theorem d_Model_changed_132 : decode b_Model_changed 132 = .ok (.iload 6, 2) := by decide +kernel
theorem d_Model_changed_134 : decode b_Model_changed 134 = .ok (.iconst 1, 1) := by decide +kernel
theorem d_Model_changed_135 : decode b_Model_changed 135 = .ok (.isub, 1) := by decide +kernel
theorem d_Model_changed_136 : decode b_Model_changed 136 = .ok (.invokestatic 550, 3) := by decide +kernel
theorem d_Model_changed_139 : decode b_Model_changed 139 = .ok (.goto 5, 3) := by decide +kernel
theorem d_Model_changed_142 : decode b_Model_changed 142 = .ok (.iload 6, 2) := by decide +kernel
theorem d_Model_changed_144 : decode b_Model_changed 144 = .ok (.bipush 10, 2) := by decide +kernel
theorem d_Model_changed_146 : decode b_Model_changed 146 = .ok (.iload 5, 2) := by decide +kernel
theorem d_Model_changed_148 : decode b_Model_changed 148 = .ok (.imul, 1) := by decide +kernel
theorem d_Model_changed_149 : decode b_Model_changed 149 = .ok (.ishl, 1) := by decide +kernel
theorem d_Model_changed_150 : decode b_Model_changed 150 = .ok (.ior, 1) := by decide +kernel
theorem d_Model_changed_151 : decode b_Model_changed 151 = .ok (.istore 4, 2) := by decide +kernel
theorem d_Model_changed_153 : decode b_Model_changed 153 = .ok (.iinc 5 1, 3) := by decide +kernel
theorem d_Model_changed_156 : decode b_Model_changed 156 = .ok (.goto (-68), 3) := by decide +kernel
theorem d_Model_changed_159 : decode b_Model_changed 159 = .ok (.aload_n 0, 1) := by decide +kernel
theorem d_Model_changed_160 : decode b_Model_changed 160 = .ok (.aload_n 0, 1) := by decide +kernel
theorem d_Model_changed_161 : decode b_Model_changed 161 = .ok (.getfield 156, 3) := by decide +kernel
theorem d_Model_changed_164 : decode b_Model_changed 164 = .ok (.iload_n 1, 1) := by decide +kernel
theorem d_Model_changed_165 : decode b_Model_changed 165 = .ok (.iaload, 1) := by decide +kernel
theorem d_Model_changed_166 : decode b_Model_changed 166 = .ok (.iload_n 3, 1) := by decide +kernel
theorem d_Model_changed_167 : decode b_Model_changed 167 = .ok (.iconst (-1), 1) := by decide +kernel
theorem d_Model_changed_168 : decode b_Model_changed 168 = .ok (.aload_n 0, 1) := by decide +kernel
theorem d_Model_changed_169 : decode b_Model_changed 169 = .ok (.getfield 165, 3) := by decide +kernel
theorem d_Model_changed_172 : decode b_Model_changed 172 = .ok (.iload_n 1, 1) := by decide +kernel
theorem d_Model_changed_173 : decode b_Model_changed 173 = .ok (.iaload, 1) := by decide +kernel
theorem d_Model_changed_174 : decode b_Model_changed 174 = .ok (.iload 4, 2) := by decide +kernel
theorem d_Model_changed_176 : decode b_Model_changed 176 = .ok (.invokevirtual 556, 3) := by decide +kernel
theorem d_Model_changed_179 : decode b_Model_changed 179 = .ok (.ireturn, 1) := by decide +kernel
abbrev b_Model_isPointer : ByteArray := prog_14_method_47_code
abbrev y_Model_isPointer : MethodName := ⟨R_Model, "isPointer", "(I)Z"⟩
theorem co_Model_isPointer : Cond.code y_Model_isPointer b_Model_isPointer 2 (some .boolean) ∈ lw_good := lg_in (tin_11 _ (List.mem_of_getElem? (i := 222) rfl)) rfl
abbrev w_Model_isPointer : List Cond := Cond.code y_Model_isPointer b_Model_isPointer 2 (some .boolean) :: lw_good
theorem im_Model_isPointer : Cond.instanceMethod y_Model_isPointer ∈ lw_good := lg_right (i := 2621) (by decide +kernel) rfl
theorem se_Model_isPointer : Cond.selects R_Model y_Model_isPointer y_Model_isPointer ∈ lw_good := lg_left (i := 182) (by decide +kernel) rfl
theorem d_Model_isPointer_0 : decode b_Model_isPointer 0 = .ok (.iload_n 1, 1) := by decide +kernel
theorem d_Model_isPointer_1 : decode b_Model_isPointer 1 = .ok (.ifCond .le 17, 3) := by decide +kernel
theorem d_Model_isPointer_4 : decode b_Model_isPointer 4 = .ok (.aload_n 0, 1) := by decide +kernel
theorem d_Model_isPointer_5 : decode b_Model_isPointer 5 = .ok (.getfield 156, 3) := by decide +kernel
theorem d_Model_isPointer_8 : decode b_Model_isPointer 8 = .ok (.iload_n 1, 1) := by decide +kernel
theorem d_Model_isPointer_9 : decode b_Model_isPointer 9 = .ok (.iaload, 1) := by decide +kernel
theorem d_Model_isPointer_10 : decode b_Model_isPointer 10 = .ok (.iconst 3, 1) := by decide +kernel
theorem d_Model_isPointer_11 : decode b_Model_isPointer 11 = .ok (.if_icmp .ge 7, 3) := by decide +kernel
theorem d_Model_isPointer_14 : decode b_Model_isPointer 14 = .ok (.iconst 1, 1) := by decide +kernel
theorem d_Model_isPointer_15 : decode b_Model_isPointer 15 = .ok (.goto 4, 3) := by decide +kernel
theorem d_Model_isPointer_18 : decode b_Model_isPointer 18 = .ok (.iconst 0, 1) := by decide +kernel
theorem d_Model_isPointer_19 : decode b_Model_isPointer 19 = .ok (.ireturn, 1) := by decide +kernel
abbrev b_Model_isRow : ByteArray := prog_14_method_48_code
abbrev y_Model_isRow : MethodName := ⟨R_Model, "isRow", "(I)Z"⟩
theorem co_Model_isRow : Cond.code y_Model_isRow b_Model_isRow 2 (some .boolean) ∈ lw_good := lg_in (tin_11 _ (List.mem_of_getElem? (i := 226) rfl)) rfl
abbrev w_Model_isRow : List Cond := Cond.code y_Model_isRow b_Model_isRow 2 (some .boolean) :: lw_good
theorem im_Model_isRow : Cond.instanceMethod y_Model_isRow ∈ lw_good := lg_right (i := 2625) (by decide +kernel) rfl
theorem se_Model_isRow : Cond.selects R_Model y_Model_isRow y_Model_isRow ∈ lw_good := lg_left (i := 183) (by decide +kernel) rfl
theorem d_Model_isRow_0 : decode b_Model_isRow 0 = .ok (.iload_n 1, 1) := by decide +kernel
theorem d_Model_isRow_1 : decode b_Model_isRow 1 = .ok (.ifCond .le 17, 3) := by decide +kernel
theorem d_Model_isRow_4 : decode b_Model_isRow 4 = .ok (.aload_n 0, 1) := by decide +kernel
theorem d_Model_isRow_5 : decode b_Model_isRow 5 = .ok (.getfield 156, 3) := by decide +kernel
theorem d_Model_isRow_8 : decode b_Model_isRow 8 = .ok (.iload_n 1, 1) := by decide +kernel
theorem d_Model_isRow_9 : decode b_Model_isRow 9 = .ok (.iaload, 1) := by decide +kernel
theorem d_Model_isRow_10 : decode b_Model_isRow 10 = .ok (.iconst 3, 1) := by decide +kernel
theorem d_Model_isRow_11 : decode b_Model_isRow 11 = .ok (.if_icmp .ne 7, 3) := by decide +kernel
theorem d_Model_isRow_14 : decode b_Model_isRow 14 = .ok (.iconst 1, 1) := by decide +kernel
theorem d_Model_isRow_15 : decode b_Model_isRow 15 = .ok (.goto 4, 3) := by decide +kernel
theorem d_Model_isRow_18 : decode b_Model_isRow 18 = .ok (.iconst 0, 1) := by decide +kernel
theorem d_Model_isRow_19 : decode b_Model_isRow 19 = .ok (.ireturn, 1) := by decide +kernel
abbrev b_Model_isTitled : ByteArray := prog_14_method_49_code
abbrev y_Model_isTitled : MethodName := ⟨R_Model, "isTitled", "(I)Z"⟩
theorem co_Model_isTitled : Cond.code y_Model_isTitled b_Model_isTitled 2 (some .boolean) ∈ lw_good := lg_in (tin_12 _ (List.mem_of_getElem? (i := 2) rfl)) rfl
abbrev w_Model_isTitled : List Cond := Cond.code y_Model_isTitled b_Model_isTitled 2 (some .boolean) :: lw_good
theorem im_Model_isTitled : Cond.instanceMethod y_Model_isTitled ∈ lw_good := lg_right (i := 2641) (by decide +kernel) rfl
theorem se_Model_isTitled : Cond.selects R_Model y_Model_isTitled y_Model_isTitled ∈ lw_good := lg_left (i := 187) (by decide +kernel) rfl
theorem d_Model_isTitled_0 : decode b_Model_isTitled 0 = .ok (.aload_n 0, 1) := by decide +kernel
theorem d_Model_isTitled_1 : decode b_Model_isTitled 1 = .ok (.iload_n 1, 1) := by decide +kernel
theorem d_Model_isTitled_2 : decode b_Model_isTitled 2 = .ok (.invokevirtual 560, 3) := by decide +kernel
theorem ml_Model_560 : Cond.methodLink R_Model 560 ⟨"PointerHouseModel", "isPointer", "(I)Z"⟩ ∈ lw_good := lg_right (i := 2619) (by decide +kernel) rfl
theorem d_Model_isTitled_5 : decode b_Model_isTitled 5 = .ok (.ifCond .eq 16, 3) := by decide +kernel
theorem d_Model_isTitled_8 : decode b_Model_isTitled 8 = .ok (.aload_n 0, 1) := by decide +kernel
theorem d_Model_isTitled_9 : decode b_Model_isTitled 9 = .ok (.getfield 165, 3) := by decide +kernel
theorem d_Model_isTitled_12 : decode b_Model_isTitled 12 = .ok (.iload_n 1, 1) := by decide +kernel
theorem d_Model_isTitled_13 : decode b_Model_isTitled 13 = .ok (.iaload, 1) := by decide +kernel
theorem d_Model_isTitled_14 : decode b_Model_isTitled 14 = .ok (.ifCond .lt 7, 3) := by decide +kernel
theorem d_Model_isTitled_17 : decode b_Model_isTitled 17 = .ok (.iconst 1, 1) := by decide +kernel
theorem d_Model_isTitled_18 : decode b_Model_isTitled 18 = .ok (.goto 4, 3) := by decide +kernel
theorem d_Model_isTitled_21 : decode b_Model_isTitled 21 = .ok (.iconst 0, 1) := by decide +kernel
theorem d_Model_isTitled_22 : decode b_Model_isTitled 22 = .ok (.ireturn, 1) := by decide +kernel
abbrev b_Model_sameCell : ByteArray := prog_14_method_50_code
abbrev y_Model_sameCell : MethodName := ⟨R_Model, "sameCell", "(II)Z"⟩
theorem co_Model_sameCell : Cond.code y_Model_sameCell b_Model_sameCell 3 (some .boolean) ∈ lw_good := lg_in (tin_11 _ (List.mem_of_getElem? (i := 190) rfl)) rfl
abbrev w_Model_sameCell : List Cond := Cond.code y_Model_sameCell b_Model_sameCell 3 (some .boolean) :: lw_good
theorem im_Model_sameCell : Cond.instanceMethod y_Model_sameCell ∈ lw_good := lg_right (i := 2589) (by decide +kernel) rfl
theorem se_Model_sameCell : Cond.selects R_Model y_Model_sameCell y_Model_sameCell ∈ lw_good := lg_left (i := 174) (by decide +kernel) rfl
theorem d_Model_sameCell_0 : decode b_Model_sameCell 0 = .ok (.aload_n 0, 1) := by decide +kernel
theorem d_Model_sameCell_1 : decode b_Model_sameCell 1 = .ok (.getfield 162, 3) := by decide +kernel
theorem d_Model_sameCell_4 : decode b_Model_sameCell 4 = .ok (.iload_n 1, 1) := by decide +kernel
theorem d_Model_sameCell_5 : decode b_Model_sameCell 5 = .ok (.iaload, 1) := by decide +kernel
theorem d_Model_sameCell_6 : decode b_Model_sameCell 6 = .ok (.aload_n 0, 1) := by decide +kernel
theorem d_Model_sameCell_7 : decode b_Model_sameCell 7 = .ok (.getfield 162, 3) := by decide +kernel
theorem d_Model_sameCell_10 : decode b_Model_sameCell 10 = .ok (.iload_n 2, 1) := by decide +kernel
theorem d_Model_sameCell_11 : decode b_Model_sameCell 11 = .ok (.iaload, 1) := by decide +kernel
theorem d_Model_sameCell_12 : decode b_Model_sameCell 12 = .ok (.if_icmp .ne 37, 3) := by decide +kernel
theorem d_Model_sameCell_15 : decode b_Model_sameCell 15 = .ok (.aload_n 0, 1) := by decide +kernel
theorem d_Model_sameCell_16 : decode b_Model_sameCell 16 = .ok (.getfield 165, 3) := by decide +kernel
theorem d_Model_sameCell_19 : decode b_Model_sameCell 19 = .ok (.iload_n 1, 1) := by decide +kernel
theorem d_Model_sameCell_20 : decode b_Model_sameCell 20 = .ok (.iaload, 1) := by decide +kernel
theorem d_Model_sameCell_21 : decode b_Model_sameCell 21 = .ok (.aload_n 0, 1) := by decide +kernel
theorem d_Model_sameCell_22 : decode b_Model_sameCell 22 = .ok (.getfield 165, 3) := by decide +kernel
theorem d_Model_sameCell_25 : decode b_Model_sameCell 25 = .ok (.iload_n 2, 1) := by decide +kernel
theorem d_Model_sameCell_26 : decode b_Model_sameCell 26 = .ok (.iaload, 1) := by decide +kernel
theorem d_Model_sameCell_27 : decode b_Model_sameCell 27 = .ok (.if_icmp .ne 22, 3) := by decide +kernel
theorem d_Model_sameCell_30 : decode b_Model_sameCell 30 = .ok (.aload_n 0, 1) := by decide +kernel
theorem d_Model_sameCell_31 : decode b_Model_sameCell 31 = .ok (.getfield 168, 3) := by decide +kernel
theorem d_Model_sameCell_34 : decode b_Model_sameCell 34 = .ok (.iload_n 1, 1) := by decide +kernel
theorem d_Model_sameCell_35 : decode b_Model_sameCell 35 = .ok (.iaload, 1) := by decide +kernel
theorem d_Model_sameCell_36 : decode b_Model_sameCell 36 = .ok (.aload_n 0, 1) := by decide +kernel
theorem d_Model_sameCell_37 : decode b_Model_sameCell 37 = .ok (.getfield 168, 3) := by decide +kernel
theorem d_Model_sameCell_40 : decode b_Model_sameCell 40 = .ok (.iload_n 2, 1) := by decide +kernel
theorem d_Model_sameCell_41 : decode b_Model_sameCell 41 = .ok (.iaload, 1) := by decide +kernel
theorem d_Model_sameCell_42 : decode b_Model_sameCell 42 = .ok (.if_icmp .ne 7, 3) := by decide +kernel
theorem d_Model_sameCell_45 : decode b_Model_sameCell 45 = .ok (.iconst 1, 1) := by decide +kernel
theorem d_Model_sameCell_46 : decode b_Model_sameCell 46 = .ok (.goto 4, 3) := by decide +kernel
theorem d_Model_sameCell_49 : decode b_Model_sameCell 49 = .ok (.iconst 0, 1) := by decide +kernel
theorem d_Model_sameCell_50 : decode b_Model_sameCell 50 = .ok (.ireturn, 1) := by decide +kernel
abbrev b_Model_findTitle : ByteArray := prog_14_method_51_code
abbrev y_Model_findTitle : MethodName := ⟨R_Model, "findTitle", "(J)I"⟩
theorem co_Model_findTitle : Cond.code y_Model_findTitle b_Model_findTitle 4 (some .int) ∈ lw_good := lg_in (tin_11 _ (List.mem_of_getElem? (i := 90) rfl)) rfl
abbrev w_Model_findTitle : List Cond := Cond.code y_Model_findTitle b_Model_findTitle 4 (some .int) :: lw_good
theorem im_Model_findTitle : Cond.instanceMethod y_Model_findTitle ∈ lw_good := lg_right (i := 2489) (by decide +kernel) rfl
theorem se_Model_findTitle : Cond.selects R_Model y_Model_findTitle y_Model_findTitle ∈ lw_good := lg_left (i := 151) (by decide +kernel) rfl
theorem d_Model_findTitle_0 : decode b_Model_findTitle 0 = .ok (.iconst 0, 1) := by decide +kernel
theorem d_Model_findTitle_1 : decode b_Model_findTitle 1 = .ok (.istore_n 3, 1) := by decide +kernel
theorem d_Model_findTitle_2 : decode b_Model_findTitle 2 = .ok (.iload_n 3, 1) := by decide +kernel
theorem d_Model_findTitle_3 : decode b_Model_findTitle 3 = .ok (.aload_n 0, 1) := by decide +kernel
theorem d_Model_findTitle_4 : decode b_Model_findTitle 4 = .ok (.getfield 412, 3) := by decide +kernel
theorem d_Model_findTitle_7 : decode b_Model_findTitle 7 = .ok (.if_icmp .ge 32, 3) := by decide +kernel
theorem d_Model_findTitle_10 : decode b_Model_findTitle 10 = .ok (.aload_n 0, 1) := by decide +kernel
theorem d_Model_findTitle_11 : decode b_Model_findTitle 11 = .ok (.getfield 17, 3) := by decide +kernel
theorem d_Model_findTitle_14 : decode b_Model_findTitle 14 = .ok (.iload_n 3, 1) := by decide +kernel
theorem d_Model_findTitle_15 : decode b_Model_findTitle 15 = .ok (.iaload, 1) := by decide +kernel
theorem d_Model_findTitle_16 : decode b_Model_findTitle 16 = .ok (.iconst 2, 1) := by decide +kernel
theorem d_Model_findTitle_17 : decode b_Model_findTitle 17 = .ok (.if_icmp .ge 16, 3) := by decide +kernel
theorem d_Model_findTitle_20 : decode b_Model_findTitle 20 = .ok (.aload_n 0, 1) := by decide +kernel
theorem d_Model_findTitle_21 : decode b_Model_findTitle 21 = .ok (.getfield 20, 3) := by decide +kernel
theorem d_Model_findTitle_24 : decode b_Model_findTitle 24 = .ok (.iload_n 3, 1) := by decide +kernel
theorem d_Model_findTitle_25 : decode b_Model_findTitle 25 = .ok (.laload, 1) := by decide +kernel
theorem d_Model_findTitle_26 : decode b_Model_findTitle 26 = .ok (.lload_n 1, 1) := by decide +kernel
theorem d_Model_findTitle_27 : decode b_Model_findTitle 27 = .ok (.lcmp, 1) := by decide +kernel
theorem d_Model_findTitle_28 : decode b_Model_findTitle 28 = .ok (.ifCond .ne 5, 3) := by decide +kernel
theorem d_Model_findTitle_31 : decode b_Model_findTitle 31 = .ok (.iload_n 3, 1) := by decide +kernel
theorem d_Model_findTitle_32 : decode b_Model_findTitle 32 = .ok (.ireturn, 1) := by decide +kernel
theorem d_Model_findTitle_33 : decode b_Model_findTitle 33 = .ok (.iinc 3 1, 3) := by decide +kernel
theorem d_Model_findTitle_36 : decode b_Model_findTitle 36 = .ok (.goto (-34), 3) := by decide +kernel
theorem d_Model_findTitle_39 : decode b_Model_findTitle 39 = .ok (.iconst (-1), 1) := by decide +kernel
theorem d_Model_findTitle_40 : decode b_Model_findTitle 40 = .ok (.ireturn, 1) := by decide +kernel
abbrev b_Model_findFun : ByteArray := prog_14_method_52_code
abbrev y_Model_findFun : MethodName := ⟨R_Model, "findFun", "(J)I"⟩
theorem co_Model_findFun : Cond.code y_Model_findFun b_Model_findFun 4 (some .int) ∈ lw_good := lg_in (tin_11 _ (List.mem_of_getElem? (i := 86) rfl)) rfl
abbrev w_Model_findFun : List Cond := Cond.code y_Model_findFun b_Model_findFun 4 (some .int) :: lw_good
theorem im_Model_findFun : Cond.instanceMethod y_Model_findFun ∈ lw_good := lg_right (i := 2485) (by decide +kernel) rfl
theorem se_Model_findFun : Cond.selects R_Model y_Model_findFun y_Model_findFun ∈ lw_good := lg_left (i := 150) (by decide +kernel) rfl
theorem d_Model_findFun_0 : decode b_Model_findFun 0 = .ok (.iconst 0, 1) := by decide +kernel
theorem d_Model_findFun_1 : decode b_Model_findFun 1 = .ok (.istore_n 3, 1) := by decide +kernel
theorem d_Model_findFun_2 : decode b_Model_findFun 2 = .ok (.iload_n 3, 1) := by decide +kernel
theorem d_Model_findFun_3 : decode b_Model_findFun 3 = .ok (.aload_n 0, 1) := by decide +kernel
theorem d_Model_findFun_4 : decode b_Model_findFun 4 = .ok (.getfield 412, 3) := by decide +kernel
theorem d_Model_findFun_7 : decode b_Model_findFun 7 = .ok (.if_icmp .ge 32, 3) := by decide +kernel
theorem d_Model_findFun_10 : decode b_Model_findFun 10 = .ok (.aload_n 0, 1) := by decide +kernel
theorem d_Model_findFun_11 : decode b_Model_findFun 11 = .ok (.getfield 17, 3) := by decide +kernel
theorem d_Model_findFun_14 : decode b_Model_findFun 14 = .ok (.iload_n 3, 1) := by decide +kernel
theorem d_Model_findFun_15 : decode b_Model_findFun 15 = .ok (.iaload, 1) := by decide +kernel
theorem d_Model_findFun_16 : decode b_Model_findFun 16 = .ok (.iconst 2, 1) := by decide +kernel
theorem d_Model_findFun_17 : decode b_Model_findFun 17 = .ok (.if_icmp .ne 16, 3) := by decide +kernel
theorem d_Model_findFun_20 : decode b_Model_findFun 20 = .ok (.aload_n 0, 1) := by decide +kernel
theorem d_Model_findFun_21 : decode b_Model_findFun 21 = .ok (.getfield 20, 3) := by decide +kernel
theorem d_Model_findFun_24 : decode b_Model_findFun 24 = .ok (.iload_n 3, 1) := by decide +kernel
theorem d_Model_findFun_25 : decode b_Model_findFun 25 = .ok (.laload, 1) := by decide +kernel
theorem d_Model_findFun_26 : decode b_Model_findFun 26 = .ok (.lload_n 1, 1) := by decide +kernel
theorem d_Model_findFun_27 : decode b_Model_findFun 27 = .ok (.lcmp, 1) := by decide +kernel
theorem d_Model_findFun_28 : decode b_Model_findFun 28 = .ok (.ifCond .ne 5, 3) := by decide +kernel
theorem d_Model_findFun_31 : decode b_Model_findFun 31 = .ok (.iload_n 3, 1) := by decide +kernel
theorem d_Model_findFun_32 : decode b_Model_findFun 32 = .ok (.ireturn, 1) := by decide +kernel
theorem d_Model_findFun_33 : decode b_Model_findFun 33 = .ok (.iinc 3 1, 3) := by decide +kernel
theorem d_Model_findFun_36 : decode b_Model_findFun 36 = .ok (.goto (-34), 3) := by decide +kernel
theorem d_Model_findFun_39 : decode b_Model_findFun 39 = .ok (.iconst (-1), 1) := by decide +kernel
theorem d_Model_findFun_40 : decode b_Model_findFun 40 = .ok (.ireturn, 1) := by decide +kernel
abbrev b_Model_findField : ByteArray := prog_14_method_53_code
abbrev y_Model_findField : MethodName := ⟨R_Model, "findField", "(IJ)I"⟩
theorem co_Model_findField : Cond.code y_Model_findField b_Model_findField 5 (some .int) ∈ lw_good := lg_in (tin_11 _ (List.mem_of_getElem? (i := 99) rfl)) rfl
abbrev w_Model_findField : List Cond := Cond.code y_Model_findField b_Model_findField 5 (some .int) :: lw_good
theorem im_Model_findField : Cond.instanceMethod y_Model_findField ∈ lw_good := lg_right (i := 2498) (by decide +kernel) rfl
theorem se_Model_findField : Cond.selects R_Model y_Model_findField y_Model_findField ∈ lw_good := lg_left (i := 153) (by decide +kernel) rfl
theorem d_Model_findField_0 : decode b_Model_findField 0 = .ok (.iconst 0, 1) := by decide +kernel
theorem d_Model_findField_1 : decode b_Model_findField 1 = .ok (.istore 4, 2) := by decide +kernel
theorem d_Model_findField_3 : decode b_Model_findField 3 = .ok (.iload 4, 2) := by decide +kernel
theorem d_Model_findField_5 : decode b_Model_findField 5 = .ok (.aload_n 0, 1) := by decide +kernel
theorem d_Model_findField_6 : decode b_Model_findField 6 = .ok (.getfield 39, 3) := by decide +kernel
theorem d_Model_findField_9 : decode b_Model_findField 9 = .ok (.iload_n 1, 1) := by decide +kernel
theorem d_Model_findField_10 : decode b_Model_findField 10 = .ok (.iaload, 1) := by decide +kernel
theorem d_Model_findField_11 : decode b_Model_findField 11 = .ok (.if_icmp .ge 31, 3) := by decide +kernel
theorem d_Model_findField_14 : decode b_Model_findField 14 = .ok (.aload_n 0, 1) := by decide +kernel
theorem d_Model_findField_15 : decode b_Model_findField 15 = .ok (.getfield 42, 3) := by decide +kernel
theorem d_Model_findField_18 : decode b_Model_findField 18 = .ok (.aload_n 0, 1) := by decide +kernel
theorem d_Model_findField_19 : decode b_Model_findField 19 = .ok (.getfield 36, 3) := by decide +kernel
theorem d_Model_findField_22 : decode b_Model_findField 22 = .ok (.iload_n 1, 1) := by decide +kernel
theorem d_Model_findField_23 : decode b_Model_findField 23 = .ok (.iaload, 1) := by decide +kernel
theorem d_Model_findField_24 : decode b_Model_findField 24 = .ok (.iload 4, 2) := by decide +kernel
theorem d_Model_findField_26 : decode b_Model_findField 26 = .ok (.iadd, 1) := by decide +kernel
theorem d_Model_findField_27 : decode b_Model_findField 27 = .ok (.laload, 1) := by decide +kernel
theorem d_Model_findField_28 : decode b_Model_findField 28 = .ok (.lload_n 2, 1) := by decide +kernel
theorem d_Model_findField_29 : decode b_Model_findField 29 = .ok (.lcmp, 1) := by decide +kernel
theorem d_Model_findField_30 : decode b_Model_findField 30 = .ok (.ifCond .ne 6, 3) := by decide +kernel
theorem d_Model_findField_33 : decode b_Model_findField 33 = .ok (.iload 4, 2) := by decide +kernel
theorem d_Model_findField_35 : decode b_Model_findField 35 = .ok (.ireturn, 1) := by decide +kernel
theorem d_Model_findField_36 : decode b_Model_findField 36 = .ok (.iinc 4 1, 3) := by decide +kernel
theorem d_Model_findField_39 : decode b_Model_findField 39 = .ok (.goto (-36), 3) := by decide +kernel
theorem d_Model_findField_42 : decode b_Model_findField 42 = .ok (.iconst (-1), 1) := by decide +kernel
theorem d_Model_findField_43 : decode b_Model_findField 43 = .ok (.ireturn, 1) := by decide +kernel
abbrev b_Model_findVar : ByteArray := prog_14_method_54_code
abbrev y_Model_findVar : MethodName := ⟨R_Model, "findVar", "(J)I"⟩
theorem co_Model_findVar : Cond.code y_Model_findVar b_Model_findVar 4 (some .int) ∈ lw_good := lg_in (tin_11 _ (List.mem_of_getElem? (i := 163) rfl)) rfl
abbrev w_Model_findVar : List Cond := Cond.code y_Model_findVar b_Model_findVar 4 (some .int) :: lw_good
theorem im_Model_findVar : Cond.instanceMethod y_Model_findVar ∈ lw_good := lg_right (i := 2562) (by decide +kernel) rfl
theorem se_Model_findVar : Cond.selects R_Model y_Model_findVar y_Model_findVar ∈ lw_good := lg_left (i := 168) (by decide +kernel) rfl
theorem d_Model_findVar_0 : decode b_Model_findVar 0 = .ok (.aload_n 0, 1) := by decide +kernel
theorem d_Model_findVar_1 : decode b_Model_findVar 1 = .ok (.getfield 563, 3) := by decide +kernel
theorem fl_Model_563 : Cond.fieldLink R_Model 563 "PointerHouseModel" "seenVars" "I" ∈ lw_good := lg_right (i := 1896) (by decide +kernel) rfl
theorem d_Model_findVar_4 : decode b_Model_findVar 4 = .ok (.iconst 1, 1) := by decide +kernel
theorem d_Model_findVar_5 : decode b_Model_findVar 5 = .ok (.isub, 1) := by decide +kernel
theorem d_Model_findVar_6 : decode b_Model_findVar 6 = .ok (.istore_n 3, 1) := by decide +kernel
theorem d_Model_findVar_7 : decode b_Model_findVar 7 = .ok (.iload_n 3, 1) := by decide +kernel
theorem d_Model_findVar_8 : decode b_Model_findVar 8 = .ok (.ifCond .lt 22, 3) := by decide +kernel
theorem d_Model_findVar_11 : decode b_Model_findVar 11 = .ok (.aload_n 0, 1) := by decide +kernel
theorem d_Model_findVar_12 : decode b_Model_findVar 12 = .ok (.getfield 180, 3) := by decide +kernel
theorem fl_Model_180 : Cond.fieldLink R_Model 180 "PointerHouseModel" "varName" "[J" ∈ lw_good := lg_right (i := 1897) (by decide +kernel) rfl
theorem d_Model_findVar_15 : decode b_Model_findVar 15 = .ok (.iload_n 3, 1) := by decide +kernel
theorem d_Model_findVar_16 : decode b_Model_findVar 16 = .ok (.laload, 1) := by decide +kernel
theorem d_Model_findVar_17 : decode b_Model_findVar 17 = .ok (.lload_n 1, 1) := by decide +kernel
theorem d_Model_findVar_18 : decode b_Model_findVar 18 = .ok (.lcmp, 1) := by decide +kernel
theorem d_Model_findVar_19 : decode b_Model_findVar 19 = .ok (.ifCond .ne 5, 3) := by decide +kernel
theorem d_Model_findVar_22 : decode b_Model_findVar 22 = .ok (.iload_n 3, 1) := by decide +kernel
theorem d_Model_findVar_23 : decode b_Model_findVar 23 = .ok (.ireturn, 1) := by decide +kernel
theorem d_Model_findVar_24 : decode b_Model_findVar 24 = .ok (.iinc 3 (-1), 3) := by decide +kernel
theorem d_Model_findVar_27 : decode b_Model_findVar 27 = .ok (.goto (-20), 3) := by decide +kernel
theorem d_Model_findVar_30 : decode b_Model_findVar 30 = .ok (.iconst (-1), 1) := by decide +kernel
theorem d_Model_findVar_31 : decode b_Model_findVar 31 = .ok (.ireturn, 1) := by decide +kernel
abbrev b_Model_findRegion : ByteArray := prog_14_method_55_code
abbrev y_Model_findRegion : MethodName := ⟨R_Model, "findRegion", "(J)I"⟩
theorem co_Model_findRegion : Cond.code y_Model_findRegion b_Model_findRegion 4 (some .int) ∈ lw_good := lg_in (tin_11 _ (List.mem_of_getElem? (i := 111) rfl)) rfl
abbrev w_Model_findRegion : List Cond := Cond.code y_Model_findRegion b_Model_findRegion 4 (some .int) :: lw_good
theorem im_Model_findRegion : Cond.instanceMethod y_Model_findRegion ∈ lw_good := lg_right (i := 2510) (by decide +kernel) rfl
theorem se_Model_findRegion : Cond.selects R_Model y_Model_findRegion y_Model_findRegion ∈ lw_good := lg_left (i := 156) (by decide +kernel) rfl
theorem d_Model_findRegion_0 : decode b_Model_findRegion 0 = .ok (.lload_n 1, 1) := by decide +kernel
theorem d_Model_findRegion_1 : decode b_Model_findRegion 1 = .ok (.ldc2_w 566, 3) := by decide +kernel
theorem k_Model_566 : Cond.constantLong R_Model 566 (72) ∈ lw_good := lg_right (i := 2491) (by decide +kernel) rfl
theorem d_Model_findRegion_4 : decode b_Model_findRegion 4 = .ok (.lcmp, 1) := by decide +kernel
theorem d_Model_findRegion_5 : decode b_Model_findRegion 5 = .ok (.ifCond .ne 5, 3) := by decide +kernel
theorem d_Model_findRegion_8 : decode b_Model_findRegion 8 = .ok (.iconst 0, 1) := by decide +kernel
theorem d_Model_findRegion_9 : decode b_Model_findRegion 9 = .ok (.ireturn, 1) := by decide +kernel
theorem d_Model_findRegion_10 : decode b_Model_findRegion 10 = .ok (.aload_n 0, 1) := by decide +kernel
theorem d_Model_findRegion_11 : decode b_Model_findRegion 11 = .ok (.getfield 568, 3) := by decide +kernel
theorem fl_Model_568 : Cond.fieldLink R_Model 568 "PointerHouseModel" "seenRegions" "I" ∈ lw_good := lg_right (i := 1890) (by decide +kernel) rfl
theorem d_Model_findRegion_14 : decode b_Model_findRegion 14 = .ok (.iconst 1, 1) := by decide +kernel
theorem d_Model_findRegion_15 : decode b_Model_findRegion 15 = .ok (.isub, 1) := by decide +kernel
theorem d_Model_findRegion_16 : decode b_Model_findRegion 16 = .ok (.istore_n 3, 1) := by decide +kernel
theorem d_Model_findRegion_17 : decode b_Model_findRegion 17 = .ok (.iload_n 3, 1) := by decide +kernel
theorem d_Model_findRegion_18 : decode b_Model_findRegion 18 = .ok (.ifCond .lt 27, 3) := by decide +kernel
theorem d_Model_findRegion_21 : decode b_Model_findRegion 21 = .ok (.aload_n 0, 1) := by decide +kernel
theorem d_Model_findRegion_22 : decode b_Model_findRegion 22 = .ok (.getfield 171, 3) := by decide +kernel
theorem fl_Model_171 : Cond.fieldLink R_Model 171 "PointerHouseModel" "seenName" "[J" ∈ lw_good := lg_right (i := 1891) (by decide +kernel) rfl
theorem d_Model_findRegion_25 : decode b_Model_findRegion 25 = .ok (.iload_n 3, 1) := by decide +kernel
theorem d_Model_findRegion_26 : decode b_Model_findRegion 26 = .ok (.laload, 1) := by decide +kernel
theorem d_Model_findRegion_27 : decode b_Model_findRegion 27 = .ok (.lload_n 1, 1) := by decide +kernel
theorem d_Model_findRegion_28 : decode b_Model_findRegion 28 = .ok (.lcmp, 1) := by decide +kernel
theorem d_Model_findRegion_29 : decode b_Model_findRegion 29 = .ok (.ifCond .ne 10, 3) := by decide +kernel
theorem d_Model_findRegion_32 : decode b_Model_findRegion 32 = .ok (.aload_n 0, 1) := by decide +kernel
theorem d_Model_findRegion_33 : decode b_Model_findRegion 33 = .ok (.getfield 174, 3) := by decide +kernel
theorem fl_Model_174 : Cond.fieldLink R_Model 174 "PointerHouseModel" "seenCode" "[I" ∈ lw_good := lg_right (i := 1892) (by decide +kernel) rfl
theorem d_Model_findRegion_36 : decode b_Model_findRegion 36 = .ok (.iload_n 3, 1) := by decide +kernel
theorem d_Model_findRegion_37 : decode b_Model_findRegion 37 = .ok (.iaload, 1) := by decide +kernel
theorem d_Model_findRegion_38 : decode b_Model_findRegion 38 = .ok (.ireturn, 1) := by decide +kernel
theorem d_Model_findRegion_39 : decode b_Model_findRegion 39 = .ok (.iinc 3 (-1), 3) := by decide +kernel
theorem d_Model_findRegion_42 : decode b_Model_findRegion 42 = .ok (.goto (-25), 3) := by decide +kernel
theorem d_Model_findRegion_45 : decode b_Model_findRegion 45 = .ok (.iconst (-1), 1) := by decide +kernel
theorem d_Model_findRegion_46 : decode b_Model_findRegion 46 = .ok (.ireturn, 1) := by decide +kernel
abbrev b_Model_regionAt : ByteArray := prog_14_method_56_code
abbrev y_Model_regionAt : MethodName := ⟨R_Model, "regionAt", "(I)I"⟩
theorem co_Model_regionAt : Cond.code y_Model_regionAt b_Model_regionAt 3 (some .int) ∈ lw_good := lg_in (tin_11 _ (List.mem_of_getElem? (i := 107) rfl)) rfl
abbrev w_Model_regionAt : List Cond := Cond.code y_Model_regionAt b_Model_regionAt 3 (some .int) :: lw_good
theorem im_Model_regionAt : Cond.instanceMethod y_Model_regionAt ∈ lw_good := lg_right (i := 2506) (by decide +kernel) rfl
theorem se_Model_regionAt : Cond.selects R_Model y_Model_regionAt y_Model_regionAt ∈ lw_good := lg_left (i := 155) (by decide +kernel) rfl
theorem d_Model_regionAt_0 : decode b_Model_regionAt 0 = .ok (.aload_n 0, 1) := by decide +kernel
theorem d_Model_regionAt_1 : decode b_Model_regionAt 1 = .ok (.aload_n 0, 1) := by decide +kernel
theorem d_Model_regionAt_2 : decode b_Model_regionAt 2 = .ok (.getfield 111, 3) := by decide +kernel
theorem d_Model_regionAt_5 : decode b_Model_regionAt 5 = .ok (.iload_n 1, 1) := by decide +kernel
theorem d_Model_regionAt_6 : decode b_Model_regionAt 6 = .ok (.laload, 1) := by decide +kernel
theorem d_Model_regionAt_7 : decode b_Model_regionAt 7 = .ok (.invokevirtual 571, 3) := by decide +kernel
theorem ml_Model_571 : Cond.methodLink R_Model 571 ⟨"PointerHouseModel", "findRegion", "(J)I"⟩ ∈ lw_good := lg_right (i := 2508) (by decide +kernel) rfl
theorem d_Model_regionAt_10 : decode b_Model_regionAt 10 = .ok (.istore_n 2, 1) := by decide +kernel
theorem d_Model_regionAt_11 : decode b_Model_regionAt 11 = .ok (.iload_n 2, 1) := by decide +kernel
theorem d_Model_regionAt_12 : decode b_Model_regionAt 12 = .ok (.ifCond .ge 14, 3) := by decide +kernel
theorem d_Model_regionAt_15 : decode b_Model_regionAt 15 = .ok (.aload_n 0, 1) := by decide +kernel
theorem d_Model_regionAt_16 : decode b_Model_regionAt 16 = .ok (.iconst 3, 1) := by decide +kernel
theorem d_Model_regionAt_17 : decode b_Model_regionAt 17 = .ok (.aload_n 0, 1) := by decide +kernel
theorem d_Model_regionAt_18 : decode b_Model_regionAt 18 = .ok (.getfield 114, 3) := by decide +kernel
theorem d_Model_regionAt_21 : decode b_Model_regionAt 21 = .ok (.iload_n 1, 1) := by decide +kernel
theorem d_Model_regionAt_22 : decode b_Model_regionAt 22 = .ok (.iaload, 1) := by decide +kernel
theorem d_Model_regionAt_23 : decode b_Model_regionAt 23 = .ok (.invokevirtual 381, 3) := by decide +kernel
theorem d_Model_regionAt_26 : decode b_Model_regionAt 26 = .ok (.aload_n 0, 1) := by decide +kernel
theorem d_Model_regionAt_27 : decode b_Model_regionAt 27 = .ok (.getfield 117, 3) := by decide +kernel
theorem fl_Model_117 : Cond.fieldLink R_Model 117 "PointerHouseModel" "useCode" "[I" ∈ lw_good := lg_right (i := 1867) (by decide +kernel) rfl
theorem d_Model_regionAt_30 : decode b_Model_regionAt 30 = .ok (.iload_n 1, 1) := by decide +kernel
theorem d_Model_regionAt_31 : decode b_Model_regionAt 31 = .ok (.iload_n 2, 1) := by decide +kernel
theorem d_Model_regionAt_32 : decode b_Model_regionAt 32 = .ok (.ifCond .ge 7, 3) := by decide +kernel
theorem d_Model_regionAt_35 : decode b_Model_regionAt 35 = .ok (.iconst 0, 1) := by decide +kernel
theorem d_Model_regionAt_36 : decode b_Model_regionAt 36 = .ok (.goto 4, 3) := by decide +kernel
theorem d_Model_regionAt_39 : decode b_Model_regionAt 39 = .ok (.iload_n 2, 1) := by decide +kernel
theorem d_Model_regionAt_40 : decode b_Model_regionAt 40 = .ok (.iastore, 1) := by decide +kernel
theorem d_Model_regionAt_41 : decode b_Model_regionAt 41 = .ok (.aload_n 0, 1) := by decide +kernel
theorem d_Model_regionAt_42 : decode b_Model_regionAt 42 = .ok (.getfield 117, 3) := by decide +kernel
theorem d_Model_regionAt_45 : decode b_Model_regionAt 45 = .ok (.iload_n 1, 1) := by decide +kernel
theorem d_Model_regionAt_46 : decode b_Model_regionAt 46 = .ok (.iaload, 1) := by decide +kernel
theorem d_Model_regionAt_47 : decode b_Model_regionAt 47 = .ok (.ireturn, 1) := by decide +kernel
abbrev b_Model_isLive : ByteArray := prog_14_method_57_code
abbrev y_Model_isLive : MethodName := ⟨R_Model, "isLive", "(I)Z"⟩
theorem co_Model_isLive : Cond.code y_Model_isLive b_Model_isLive 2 (some .boolean) ∈ lw_good := lg_in (tin_11 _ (List.mem_of_getElem? (i := 198) rfl)) rfl
abbrev w_Model_isLive : List Cond := Cond.code y_Model_isLive b_Model_isLive 2 (some .boolean) :: lw_good
theorem im_Model_isLive : Cond.instanceMethod y_Model_isLive ∈ lw_good := lg_right (i := 2597) (by decide +kernel) rfl
theorem se_Model_isLive : Cond.selects R_Model y_Model_isLive y_Model_isLive ∈ lw_good := lg_left (i := 176) (by decide +kernel) rfl
theorem d_Model_isLive_0 : decode b_Model_isLive 0 = .ok (.aload_n 0, 1) := by decide +kernel
theorem d_Model_isLive_1 : decode b_Model_isLive 1 = .ok (.getfield 575, 3) := by decide +kernel
theorem fl_Model_575 : Cond.fieldLink R_Model 575 "PointerHouseModel" "live" "I" ∈ lw_good := lg_right (i := 1894) (by decide +kernel) rfl
theorem d_Model_isLive_4 : decode b_Model_isLive 4 = .ok (.iload_n 1, 1) := by decide +kernel
theorem d_Model_isLive_5 : decode b_Model_isLive 5 = .ok (.ishr, 1) := by decide +kernel
theorem d_Model_isLive_6 : decode b_Model_isLive 6 = .ok (.iconst 1, 1) := by decide +kernel
theorem d_Model_isLive_7 : decode b_Model_isLive 7 = .ok (.iand, 1) := by decide +kernel
theorem d_Model_isLive_8 : decode b_Model_isLive 8 = .ok (.iconst 1, 1) := by decide +kernel
theorem d_Model_isLive_9 : decode b_Model_isLive 9 = .ok (.if_icmp .ne 7, 3) := by decide +kernel
theorem d_Model_isLive_12 : decode b_Model_isLive 12 = .ok (.iconst 1, 1) := by decide +kernel
theorem d_Model_isLive_13 : decode b_Model_isLive 13 = .ok (.goto 4, 3) := by decide +kernel
theorem d_Model_isLive_16 : decode b_Model_isLive 16 = .ok (.iconst 0, 1) := by decide +kernel
theorem d_Model_isLive_17 : decode b_Model_isLive 17 = .ok (.ireturn, 1) := by decide +kernel
abbrev b_Model_liveRegionAt : ByteArray := prog_14_method_58_code
abbrev y_Model_liveRegionAt : MethodName := ⟨R_Model, "liveRegionAt", "(I)I"⟩
theorem co_Model_liveRegionAt : Cond.code y_Model_liveRegionAt b_Model_liveRegionAt 3 (some .int) ∈ lw_good := lg_in (tin_11 _ (List.mem_of_getElem? (i := 206) rfl)) rfl
abbrev w_Model_liveRegionAt : List Cond := Cond.code y_Model_liveRegionAt b_Model_liveRegionAt 3 (some .int) :: lw_good
theorem im_Model_liveRegionAt : Cond.instanceMethod y_Model_liveRegionAt ∈ lw_good := lg_right (i := 2605) (by decide +kernel) rfl
theorem se_Model_liveRegionAt : Cond.selects R_Model y_Model_liveRegionAt y_Model_liveRegionAt ∈ lw_good := lg_left (i := 178) (by decide +kernel) rfl
theorem d_Model_liveRegionAt_0 : decode b_Model_liveRegionAt 0 = .ok (.aload_n 0, 1) := by decide +kernel
theorem d_Model_liveRegionAt_1 : decode b_Model_liveRegionAt 1 = .ok (.iload_n 1, 1) := by decide +kernel
theorem d_Model_liveRegionAt_2 : decode b_Model_liveRegionAt 2 = .ok (.invokevirtual 578, 3) := by decide +kernel
theorem ml_Model_578 : Cond.methodLink R_Model 578 ⟨"PointerHouseModel", "regionAt", "(I)I"⟩ ∈ lw_good := lg_right (i := 2504) (by decide +kernel) rfl
theorem d_Model_liveRegionAt_5 : decode b_Model_liveRegionAt 5 = .ok (.istore_n 2, 1) := by decide +kernel
theorem d_Model_liveRegionAt_6 : decode b_Model_liveRegionAt 6 = .ok (.aload_n 0, 1) := by decide +kernel
theorem d_Model_liveRegionAt_7 : decode b_Model_liveRegionAt 7 = .ok (.invokevirtual 385, 3) := by decide +kernel
theorem d_Model_liveRegionAt_10 : decode b_Model_liveRegionAt 10 = .ok (.ifCond .ne 22, 3) := by decide +kernel
theorem d_Model_liveRegionAt_13 : decode b_Model_liveRegionAt 13 = .ok (.aload_n 0, 1) := by decide +kernel
theorem d_Model_liveRegionAt_14 : decode b_Model_liveRegionAt 14 = .ok (.iload_n 2, 1) := by decide +kernel
theorem d_Model_liveRegionAt_15 : decode b_Model_liveRegionAt 15 = .ok (.invokevirtual 581, 3) := by decide +kernel
theorem ml_Model_581 : Cond.methodLink R_Model 581 ⟨"PointerHouseModel", "isLive", "(I)Z"⟩ ∈ lw_good := lg_right (i := 2595) (by decide +kernel) rfl
theorem d_Model_liveRegionAt_18 : decode b_Model_liveRegionAt 18 = .ok (.ifCond .ne 14, 3) := by decide +kernel
theorem d_Model_liveRegionAt_21 : decode b_Model_liveRegionAt 21 = .ok (.aload_n 0, 1) := by decide +kernel
theorem d_Model_liveRegionAt_22 : decode b_Model_liveRegionAt 22 = .ok (.iconst 5, 1) := by decide +kernel
theorem d_Model_liveRegionAt_23 : decode b_Model_liveRegionAt 23 = .ok (.aload_n 0, 1) := by decide +kernel
theorem d_Model_liveRegionAt_24 : decode b_Model_liveRegionAt 24 = .ok (.getfield 114, 3) := by decide +kernel
theorem d_Model_liveRegionAt_27 : decode b_Model_liveRegionAt 27 = .ok (.iload_n 1, 1) := by decide +kernel
theorem d_Model_liveRegionAt_28 : decode b_Model_liveRegionAt 28 = .ok (.iaload, 1) := by decide +kernel
theorem d_Model_liveRegionAt_29 : decode b_Model_liveRegionAt 29 = .ok (.invokevirtual 381, 3) := by decide +kernel
theorem d_Model_liveRegionAt_32 : decode b_Model_liveRegionAt 32 = .ok (.iload_n 2, 1) := by decide +kernel
theorem d_Model_liveRegionAt_33 : decode b_Model_liveRegionAt 33 = .ok (.ireturn, 1) := by decide +kernel
abbrev b_Model_withAt : ByteArray := prog_14_method_59_code
abbrev y_Model_withAt : MethodName := ⟨R_Model, "withAt", "(II)I"⟩
theorem co_Model_withAt : Cond.code y_Model_withAt b_Model_withAt 5 (some .int) ∈ lw_good := lg_in (tin_11 _ (List.mem_of_getElem? (i := 119) rfl)) rfl
abbrev w_Model_withAt : List Cond := Cond.code y_Model_withAt b_Model_withAt 5 (some .int) :: lw_good
theorem im_Model_withAt : Cond.instanceMethod y_Model_withAt ∈ lw_good := lg_right (i := 2518) (by decide +kernel) rfl
theorem se_Model_withAt : Cond.selects R_Model y_Model_withAt y_Model_withAt ∈ lw_good := lg_left (i := 158) (by decide +kernel) rfl
theorem d_Model_withAt_0 : decode b_Model_withAt 0 = .ok (.iconst 0, 1) := by decide +kernel
theorem d_Model_withAt_1 : decode b_Model_withAt 1 = .ok (.istore_n 3, 1) := by decide +kernel
theorem d_Model_withAt_2 : decode b_Model_withAt 2 = .ok (.iconst 0, 1) := by decide +kernel
theorem d_Model_withAt_3 : decode b_Model_withAt 3 = .ok (.istore 4, 2) := by decide +kernel
theorem d_Model_withAt_5 : decode b_Model_withAt 5 = .ok (.iload 4, 2) := by decide +kernel
theorem d_Model_withAt_7 : decode b_Model_withAt 7 = .ok (.iload_n 2, 1) := by decide +kernel
theorem d_Model_withAt_8 : decode b_Model_withAt 8 = .ok (.if_icmp .ge 33, 3) := by decide +kernel
theorem d_Model_withAt_11 : decode b_Model_withAt 11 = .ok (.aload_n 0, 1) := by decide +kernel
theorem d_Model_withAt_12 : decode b_Model_withAt 12 = .ok (.invokevirtual 385, 3) := by decide +kernel
theorem d_Model_withAt_15 : decode b_Model_withAt 15 = .ok (.ifCond .ne 26, 3) := by decide +kernel
theorem d_Model_withAt_18 : decode b_Model_withAt 18 = .ok (.iload_n 3, 1) := by decide +kernel
theorem d_Model_withAt_19 : decode b_Model_withAt 19 = .ok (.aload_n 0, 1) := by decide +kernel
theorem d_Model_withAt_20 : decode b_Model_withAt 20 = .ok (.iload_n 1, 1) := by decide +kernel
theorem d_Model_withAt_21 : decode b_Model_withAt 21 = .ok (.iload 4, 2) := by decide +kernel
theorem d_Model_withAt_23 : decode b_Model_withAt 23 = .ok (.iadd, 1) := by decide +kernel
theorem d_Model_withAt_24 : decode b_Model_withAt 24 = .ok (.invokevirtual 578, 3) := by decide +kernel
theorem d_Model_withAt_27 : decode b_Model_withAt 27 = .ok (.bipush 10, 2) := by decide +kernel
theorem d_Model_withAt_29 : decode b_Model_withAt 29 = .ok (.iload 4, 2) := by decide +kernel
theorem d_Model_withAt_31 : decode b_Model_withAt 31 = .ok (.imul, 1) := by decide +kernel
theorem d_Model_withAt_32 : decode b_Model_withAt 32 = .ok (.ishl, 1) := by decide +kernel
theorem d_Model_withAt_33 : decode b_Model_withAt 33 = .ok (.ior, 1) := by decide +kernel
theorem d_Model_withAt_34 : decode b_Model_withAt 34 = .ok (.istore_n 3, 1) := by decide +kernel
theorem d_Model_withAt_35 : decode b_Model_withAt 35 = .ok (.iinc 4 1, 3) := by decide +kernel
theorem d_Model_withAt_38 : decode b_Model_withAt 38 = .ok (.goto (-33), 3) := by decide +kernel
theorem d_Model_withAt_41 : decode b_Model_withAt 41 = .ok (.iload_n 3, 1) := by decide +kernel
theorem d_Model_withAt_42 : decode b_Model_withAt 42 = .ok (.ireturn, 1) := by decide +kernel
abbrev b_Model_meaning : ByteArray := prog_14_method_60_code
abbrev y_Model_meaning : MethodName := ⟨R_Model, "meaning", "(I)I"⟩
theorem co_Model_meaning : Cond.code y_Model_meaning b_Model_meaning 5 (some .int) ∈ lw_good := lg_in (tin_11 _ (List.mem_of_getElem? (i := 103) rfl)) rfl
abbrev w_Model_meaning : List Cond := Cond.code y_Model_meaning b_Model_meaning 5 (some .int) :: lw_good
theorem im_Model_meaning : Cond.instanceMethod y_Model_meaning ∈ lw_good := lg_right (i := 2502) (by decide +kernel) rfl
theorem se_Model_meaning : Cond.selects R_Model y_Model_meaning y_Model_meaning ∈ lw_good := lg_left (i := 154) (by decide +kernel) rfl
theorem d_Model_meaning_0 : decode b_Model_meaning 0 = .ok (.aload_n 0, 1) := by decide +kernel
theorem d_Model_meaning_1 : decode b_Model_meaning 1 = .ok (.invokevirtual 385, 3) := by decide +kernel
theorem d_Model_meaning_4 : decode b_Model_meaning 4 = .ok (.ifCond .ne 12, 3) := by decide +kernel
theorem d_Model_meaning_7 : decode b_Model_meaning 7 = .ok (.aload_n 0, 1) := by decide +kernel
theorem d_Model_meaning_8 : decode b_Model_meaning 8 = .ok (.getfield 90, 3) := by decide +kernel
theorem d_Model_meaning_11 : decode b_Model_meaning 11 = .ok (.iload_n 1, 1) := by decide +kernel
theorem d_Model_meaning_12 : decode b_Model_meaning 12 = .ok (.iaload, 1) := by decide +kernel
theorem d_Model_meaning_13 : decode b_Model_meaning 13 = .ok (.ifCond .ne 5, 3) := by decide +kernel
theorem d_Model_meaning_16 : decode b_Model_meaning 16 = .ok (.iconst 0, 1) := by decide +kernel
theorem d_Model_meaning_17 : decode b_Model_meaning 17 = .ok (.ireturn, 1) := by decide +kernel
theorem d_Model_meaning_18 : decode b_Model_meaning 18 = .ok (.aload_n 0, 1) := by decide +kernel
theorem d_Model_meaning_19 : decode b_Model_meaning 19 = .ok (.aload_n 0, 1) := by decide +kernel
theorem d_Model_meaning_20 : decode b_Model_meaning 20 = .ok (.getfield 93, 3) := by decide +kernel
theorem d_Model_meaning_23 : decode b_Model_meaning 23 = .ok (.iload_n 1, 1) := by decide +kernel
theorem d_Model_meaning_24 : decode b_Model_meaning 24 = .ok (.iaload, 1) := by decide +kernel
theorem d_Model_meaning_25 : decode b_Model_meaning 25 = .ok (.invokevirtual 578, 3) := by decide +kernel
theorem d_Model_meaning_28 : decode b_Model_meaning 28 = .ok (.istore_n 2, 1) := by decide +kernel
theorem d_Model_meaning_29 : decode b_Model_meaning 29 = .ok (.aload_n 0, 1) := by decide +kernel
theorem d_Model_meaning_30 : decode b_Model_meaning 30 = .ok (.invokevirtual 385, 3) := by decide +kernel
theorem d_Model_meaning_33 : decode b_Model_meaning 33 = .ok (.ifCond .eq 5, 3) := by decide +kernel
theorem d_Model_meaning_36 : decode b_Model_meaning 36 = .ok (.iconst 0, 1) := by decide +kernel
theorem d_Model_meaning_37 : decode b_Model_meaning 37 = .ok (.ireturn, 1) := by decide +kernel
theorem d_Model_meaning_38 : decode b_Model_meaning 38 = .ok (.aload_n 0, 1) := by decide +kernel
theorem d_Model_meaning_39 : decode b_Model_meaning 39 = .ok (.getfield 102, 3) := by decide +kernel
theorem d_Model_meaning_42 : decode b_Model_meaning 42 = .ok (.iload_n 1, 1) := by decide +kernel
theorem d_Model_meaning_43 : decode b_Model_meaning 43 = .ok (.iaload, 1) := by decide +kernel
theorem d_Model_meaning_44 : decode b_Model_meaning 44 = .ok (.ifCond .ge 40, 3) := by decide +kernel
theorem d_Model_meaning_47 : decode b_Model_meaning 47 = .ok (.aload_n 0, 1) := by decide +kernel
theorem d_Model_meaning_48 : decode b_Model_meaning 48 = .ok (.aload_n 0, 1) := by decide +kernel
theorem d_Model_meaning_49 : decode b_Model_meaning 49 = .ok (.getfield 96, 3) := by decide +kernel
theorem d_Model_meaning_52 : decode b_Model_meaning 52 = .ok (.iload_n 1, 1) := by decide +kernel
theorem d_Model_meaning_53 : decode b_Model_meaning 53 = .ok (.iaload, 1) := by decide +kernel
theorem d_Model_meaning_54 : decode b_Model_meaning 54 = .ok (.invokevirtual 584, 3) := by decide +kernel
theorem ml_Model_584 : Cond.methodLink R_Model 584 ⟨"PointerHouseModel", "meaning", "(I)I"⟩ ∈ lw_good := lg_right (i := 2500) (by decide +kernel) rfl
theorem d_Model_meaning_57 : decode b_Model_meaning 57 = .ok (.istore_n 3, 1) := by decide +kernel
theorem d_Model_meaning_58 : decode b_Model_meaning 58 = .ok (.aload_n 0, 1) := by decide +kernel
theorem d_Model_meaning_59 : decode b_Model_meaning 59 = .ok (.invokevirtual 385, 3) := by decide +kernel
theorem d_Model_meaning_62 : decode b_Model_meaning 62 = .ok (.ifCond .eq 7, 3) := by decide +kernel
theorem d_Model_meaning_65 : decode b_Model_meaning 65 = .ok (.iconst 0, 1) := by decide +kernel
theorem d_Model_meaning_66 : decode b_Model_meaning 66 = .ok (.goto 17, 3) := by decide +kernel
theorem d_Model_meaning_69 : decode b_Model_meaning 69 = .ok (.aload_n 0, 1) := by decide +kernel
theorem d_Model_meaning_70 : decode b_Model_meaning 70 = .ok (.aload_n 0, 1) := by decide +kernel
theorem d_Model_meaning_71 : decode b_Model_meaning 71 = .ok (.getfield 90, 3) := by decide +kernel
theorem d_Model_meaning_74 : decode b_Model_meaning 74 = .ok (.iload_n 1, 1) := by decide +kernel
theorem d_Model_meaning_75 : decode b_Model_meaning 75 = .ok (.iaload, 1) := by decide +kernel
theorem d_Model_meaning_76 : decode b_Model_meaning 76 = .ok (.iload_n 2, 1) := by decide +kernel
theorem d_Model_meaning_77 : decode b_Model_meaning 77 = .ok (.iload_n 3, 1) := by decide +kernel
theorem d_Model_meaning_78 : decode b_Model_meaning 78 = .ok (.iconst (-1), 1) := by decide +kernel
theorem d_Model_meaning_79 : decode b_Model_meaning 79 = .ok (.iconst 0, 1) := by decide +kernel
theorem d_Model_meaning_80 : decode b_Model_meaning 80 = .ok (.invokevirtual 556, 3) := by decide +kernel
theorem d_Model_meaning_83 : decode b_Model_meaning 83 = .ok (.ireturn, 1) := by decide +kernel
theorem d_Model_meaning_84 : decode b_Model_meaning 84 = .ok (.aload_n 0, 1) := by decide +kernel
theorem d_Model_meaning_85 : decode b_Model_meaning 85 = .ok (.aload_n 0, 1) := by decide +kernel
theorem d_Model_meaning_86 : decode b_Model_meaning 86 = .ok (.getfield 99, 3) := by decide +kernel
theorem d_Model_meaning_89 : decode b_Model_meaning 89 = .ok (.iload_n 1, 1) := by decide +kernel
theorem d_Model_meaning_90 : decode b_Model_meaning 90 = .ok (.laload, 1) := by decide +kernel
theorem d_Model_meaning_91 : decode b_Model_meaning 91 = .ok (.invokevirtual 587, 3) := by decide +kernel
theorem ml_Model_587 : Cond.methodLink R_Model 587 ⟨"PointerHouseModel", "findTitle", "(J)I"⟩ ∈ lw_good := lg_right (i := 2487) (by decide +kernel) rfl
theorem d_Model_meaning_94 : decode b_Model_meaning 94 = .ok (.istore_n 3, 1) := by decide +kernel
theorem d_Model_meaning_95 : decode b_Model_meaning 95 = .ok (.iload_n 3, 1) := by decide +kernel
theorem d_Model_meaning_96 : decode b_Model_meaning 96 = .ok (.ifCond .ge 17, 3) := by decide +kernel
theorem d_Model_meaning_99 : decode b_Model_meaning 99 = .ok (.aload_n 0, 1) := by decide +kernel
theorem d_Model_meaning_100 : decode b_Model_meaning 100 = .ok (.iconst 3, 1) := by decide +kernel
theorem d_Model_meaning_101 : decode b_Model_meaning 101 = .ok (.aload_n 0, 1) := by decide +kernel
theorem d_Model_meaning_102 : decode b_Model_meaning 102 = .ok (.getfield 102, 3) := by decide +kernel
theorem d_Model_meaning_105 : decode b_Model_meaning 105 = .ok (.iload_n 1, 1) := by decide +kernel
theorem d_Model_meaning_106 : decode b_Model_meaning 106 = .ok (.iaload, 1) := by decide +kernel
theorem d_Model_meaning_107 : decode b_Model_meaning 107 = .ok (.invokevirtual 381, 3) := by decide +kernel
theorem d_Model_meaning_110 : decode b_Model_meaning 110 = .ok (.goto 30, 3) := by decide +kernel
theorem d_Model_meaning_113 : decode b_Model_meaning 113 = .ok (.aload_n 0, 1) := by decide +kernel
theorem d_Model_meaning_114 : decode b_Model_meaning 114 = .ok (.getfield 27, 3) := by decide +kernel
theorem d_Model_meaning_117 : decode b_Model_meaning 117 = .ok (.iload_n 3, 1) := by decide +kernel
theorem d_Model_meaning_118 : decode b_Model_meaning 118 = .ok (.iaload, 1) := by decide +kernel
theorem d_Model_meaning_119 : decode b_Model_meaning 119 = .ok (.aload_n 0, 1) := by decide +kernel
theorem d_Model_meaning_120 : decode b_Model_meaning 120 = .ok (.getfield 108, 3) := by decide +kernel
theorem d_Model_meaning_123 : decode b_Model_meaning 123 = .ok (.iload_n 1, 1) := by decide +kernel
theorem d_Model_meaning_124 : decode b_Model_meaning 124 = .ok (.iaload, 1) := by decide +kernel
theorem d_Model_meaning_125 : decode b_Model_meaning 125 = .ok (.if_icmp .eq 15, 3) := by decide +kernel
theorem d_Model_meaning_128 : decode b_Model_meaning 128 = .ok (.aload_n 0, 1) := by decide +kernel
theorem d_Model_meaning_129 : decode b_Model_meaning 129 = .ok (.bipush 7, 2) := by decide +kernel
theorem d_Model_meaning_131 : decode b_Model_meaning 131 = .ok (.aload_n 0, 1) := by decide +kernel
theorem d_Model_meaning_132 : decode b_Model_meaning 132 = .ok (.getfield 102, 3) := by decide +kernel
theorem d_Model_meaning_135 : decode b_Model_meaning 135 = .ok (.iload_n 1, 1) := by decide +kernel
theorem d_Model_meaning_136 : decode b_Model_meaning 136 = .ok (.iaload, 1) := by decide +kernel
theorem d_Model_meaning_137 : decode b_Model_meaning 137 = .ok (.invokevirtual 381, 3) := by decide +kernel
theorem d_Model_meaning_140 : decode b_Model_meaning 140 = .ok (.aload_n 0, 1) := by decide +kernel
theorem d_Model_meaning_141 : decode b_Model_meaning 141 = .ok (.aload_n 0, 1) := by decide +kernel
theorem d_Model_meaning_142 : decode b_Model_meaning 142 = .ok (.getfield 105, 3) := by decide +kernel
theorem d_Model_meaning_145 : decode b_Model_meaning 145 = .ok (.iload_n 1, 1) := by decide +kernel
theorem d_Model_meaning_146 : decode b_Model_meaning 146 = .ok (.iaload, 1) := by decide +kernel
theorem d_Model_meaning_147 : decode b_Model_meaning 147 = .ok (.aload_n 0, 1) := by decide +kernel
theorem d_Model_meaning_148 : decode b_Model_meaning 148 = .ok (.getfield 108, 3) := by decide +kernel
theorem d_Model_meaning_151 : decode b_Model_meaning 151 = .ok (.iload_n 1, 1) := by decide +kernel
theorem d_Model_meaning_152 : decode b_Model_meaning 152 = .ok (.iaload, 1) := by decide +kernel
theorem d_Model_meaning_153 : decode b_Model_meaning 153 = .ok (.invokevirtual 590, 3) := by decide +kernel
theorem ml_Model_590 : Cond.methodLink R_Model 590 ⟨"PointerHouseModel", "withAt", "(II)I"⟩ ∈ lw_good := lg_right (i := 2516) (by decide +kernel) rfl
theorem d_Model_meaning_156 : decode b_Model_meaning 156 = .ok (.istore 4, 2) := by decide +kernel
theorem d_Model_meaning_158 : decode b_Model_meaning 158 = .ok (.aload_n 0, 1) := by decide +kernel
theorem d_Model_meaning_159 : decode b_Model_meaning 159 = .ok (.invokevirtual 385, 3) := by decide +kernel
theorem d_Model_meaning_162 : decode b_Model_meaning 162 = .ok (.ifCond .eq 7, 3) := by decide +kernel
theorem d_Model_meaning_165 : decode b_Model_meaning 165 = .ok (.iconst 0, 1) := by decide +kernel
theorem d_Model_meaning_166 : decode b_Model_meaning 166 = .ok (.goto 18, 3) := by decide +kernel
theorem d_Model_meaning_169 : decode b_Model_meaning 169 = .ok (.aload_n 0, 1) := by decide +kernel
theorem d_Model_meaning_170 : decode b_Model_meaning 170 = .ok (.aload_n 0, 1) := by decide +kernel
theorem d_Model_meaning_171 : decode b_Model_meaning 171 = .ok (.getfield 90, 3) := by decide +kernel
theorem d_Model_meaning_174 : decode b_Model_meaning 174 = .ok (.iload_n 1, 1) := by decide +kernel
theorem d_Model_meaning_175 : decode b_Model_meaning 175 = .ok (.iaload, 1) := by decide +kernel
theorem d_Model_meaning_176 : decode b_Model_meaning 176 = .ok (.iload_n 2, 1) := by decide +kernel
theorem d_Model_meaning_177 : decode b_Model_meaning 177 = .ok (.iconst (-1), 1) := by decide +kernel
theorem d_Model_meaning_178 : decode b_Model_meaning 178 = .ok (.iload_n 3, 1) := by decide +kernel
theorem d_Model_meaning_179 : decode b_Model_meaning 179 = .ok (.iload 4, 2) := by decide +kernel
theorem d_Model_meaning_181 : decode b_Model_meaning 181 = .ok (.invokevirtual 556, 3) := by decide +kernel
theorem d_Model_meaning_184 : decode b_Model_meaning 184 = .ok (.ireturn, 1) := by decide +kernel
abbrev b_Model_doesOutlive : ByteArray := prog_14_method_61_code
abbrev y_Model_doesOutlive : MethodName := ⟨R_Model, "doesOutlive", "(II)Z"⟩
theorem co_Model_doesOutlive : Cond.code y_Model_doesOutlive b_Model_doesOutlive 4 (some .boolean) ∈ lw_good := lg_in (tin_11 _ (List.mem_of_getElem? (i := 194) rfl)) rfl
abbrev w_Model_doesOutlive : List Cond := Cond.code y_Model_doesOutlive b_Model_doesOutlive 4 (some .boolean) :: lw_good
theorem im_Model_doesOutlive : Cond.instanceMethod y_Model_doesOutlive ∈ lw_good := lg_right (i := 2593) (by decide +kernel) rfl
theorem se_Model_doesOutlive : Cond.selects R_Model y_Model_doesOutlive y_Model_doesOutlive ∈ lw_good := lg_left (i := 175) (by decide +kernel) rfl
theorem d_Model_doesOutlive_0 : decode b_Model_doesOutlive 0 = .ok (.iload_n 1, 1) := by decide +kernel
theorem d_Model_doesOutlive_1 : decode b_Model_doesOutlive 1 = .ok (.iload_n 2, 1) := by decide +kernel
theorem d_Model_doesOutlive_2 : decode b_Model_doesOutlive 2 = .ok (.if_icmp .eq 7, 3) := by decide +kernel
theorem d_Model_doesOutlive_5 : decode b_Model_doesOutlive 5 = .ok (.iload_n 1, 1) := by decide +kernel
theorem d_Model_doesOutlive_6 : decode b_Model_doesOutlive 6 = .ok (.ifCond .ne 5, 3) := by decide +kernel
theorem d_Model_doesOutlive_9 : decode b_Model_doesOutlive 9 = .ok (.iconst 1, 1) := by decide +kernel
theorem d_Model_doesOutlive_10 : decode b_Model_doesOutlive 10 = .ok (.ireturn, 1) := by decide +kernel
theorem d_Model_doesOutlive_11 : decode b_Model_doesOutlive 11 = .ok (.iload_n 1, 1) := by decide +kernel
theorem d_Model_doesOutlive_12 : decode b_Model_doesOutlive 12 = .ok (.iconst 4, 1) := by decide +kernel
theorem d_Model_doesOutlive_13 : decode b_Model_doesOutlive 13 = .ok (.if_icmp .ge 34, 3) := by decide +kernel
theorem d_Model_doesOutlive_16 : decode b_Model_doesOutlive 16 = .ok (.iload_n 2, 1) := by decide +kernel
theorem d_Model_doesOutlive_17 : decode b_Model_doesOutlive 17 = .ok (.ifCond .le 30, 3) := by decide +kernel
theorem d_Model_doesOutlive_20 : decode b_Model_doesOutlive 20 = .ok (.iload_n 2, 1) := by decide +kernel
theorem d_Model_doesOutlive_21 : decode b_Model_doesOutlive 21 = .ok (.iconst 4, 1) := by decide +kernel
theorem d_Model_doesOutlive_22 : decode b_Model_doesOutlive 22 = .ok (.if_icmp .ge 25, 3) := by decide +kernel
theorem d_Model_doesOutlive_25 : decode b_Model_doesOutlive 25 = .ok (.aload_n 0, 1) := by decide +kernel
theorem d_Model_doesOutlive_26 : decode b_Model_doesOutlive 26 = .ok (.getfield 593, 3) := by decide +kernel
theorem fl_Model_593 : Cond.fieldLink R_Model 593 "PointerHouseModel" "outlives" "I" ∈ lw_good := lg_right (i := 1895) (by decide +kernel) rfl
theorem d_Model_doesOutlive_29 : decode b_Model_doesOutlive 29 = .ok (.iconst 4, 1) := by decide +kernel
theorem d_Model_doesOutlive_30 : decode b_Model_doesOutlive 30 = .ok (.iload_n 1, 1) := by decide +kernel
theorem d_Model_doesOutlive_31 : decode b_Model_doesOutlive 31 = .ok (.imul, 1) := by decide +kernel
theorem d_Model_doesOutlive_32 : decode b_Model_doesOutlive 32 = .ok (.iload_n 2, 1) := by decide +kernel
theorem d_Model_doesOutlive_33 : decode b_Model_doesOutlive 33 = .ok (.iadd, 1) := by decide +kernel
theorem d_Model_doesOutlive_34 : decode b_Model_doesOutlive 34 = .ok (.ishr, 1) := by decide +kernel
theorem d_Model_doesOutlive_35 : decode b_Model_doesOutlive 35 = .ok (.iconst 1, 1) := by decide +kernel
theorem d_Model_doesOutlive_36 : decode b_Model_doesOutlive 36 = .ok (.iand, 1) := by decide +kernel
theorem d_Model_doesOutlive_37 : decode b_Model_doesOutlive 37 = .ok (.iconst 1, 1) := by decide +kernel
theorem d_Model_doesOutlive_38 : decode b_Model_doesOutlive 38 = .ok (.if_icmp .ne 7, 3) := by decide +kernel
theorem d_Model_doesOutlive_41 : decode b_Model_doesOutlive 41 = .ok (.iconst 1, 1) := by decide +kernel
theorem d_Model_doesOutlive_42 : decode b_Model_doesOutlive 42 = .ok (.goto 4, 3) := by decide +kernel
theorem d_Model_doesOutlive_45 : decode b_Model_doesOutlive 45 = .ok (.iconst 0, 1) := by decide +kernel
theorem d_Model_doesOutlive_46 : decode b_Model_doesOutlive 46 = .ok (.ireturn, 1) := by decide +kernel
theorem d_Model_doesOutlive_47 : decode b_Model_doesOutlive 47 = .ok (.iload_n 2, 1) := by decide +kernel
theorem d_Model_doesOutlive_48 : decode b_Model_doesOutlive 48 = .ok (.iconst 4, 1) := by decide +kernel
theorem d_Model_doesOutlive_49 : decode b_Model_doesOutlive 49 = .ok (.if_icmp .lt 11, 3) := by decide +kernel
theorem d_Model_doesOutlive_52 : decode b_Model_doesOutlive 52 = .ok (.aload_n 0, 1) := by decide +kernel
theorem d_Model_doesOutlive_53 : decode b_Model_doesOutlive 53 = .ok (.iload_n 1, 1) := by decide +kernel
theorem d_Model_doesOutlive_54 : decode b_Model_doesOutlive 54 = .ok (.invokevirtual 581, 3) := by decide +kernel
theorem d_Model_doesOutlive_57 : decode b_Model_doesOutlive 57 = .ok (.ifCond .ne 5, 3) := by decide +kernel
theorem d_Model_doesOutlive_60 : decode b_Model_doesOutlive 60 = .ok (.iconst 0, 1) := by decide +kernel
theorem d_Model_doesOutlive_61 : decode b_Model_doesOutlive 61 = .ok (.ireturn, 1) := by decide +kernel
theorem d_Model_doesOutlive_62 : decode b_Model_doesOutlive 62 = .ok (.iload_n 1, 1) := by decide +kernel
theorem d_Model_doesOutlive_63 : decode b_Model_doesOutlive 63 = .ok (.iconst 4, 1) := by decide +kernel
theorem d_Model_doesOutlive_64 : decode b_Model_doesOutlive 64 = .ok (.if_icmp .ge 5, 3) := by decide +kernel
theorem d_Model_doesOutlive_67 : decode b_Model_doesOutlive 67 = .ok (.iconst 1, 1) := by decide +kernel
theorem d_Model_doesOutlive_68 : decode b_Model_doesOutlive 68 = .ok (.ireturn, 1) := by decide +kernel
theorem d_Model_doesOutlive_69 : decode b_Model_doesOutlive 69 = .ok (.aload_n 0, 1) := by decide +kernel
theorem d_Model_doesOutlive_70 : decode b_Model_doesOutlive 70 = .ok (.getfield 177, 3) := by decide +kernel
theorem fl_Model_177 : Cond.fieldLink R_Model 177 "PointerHouseModel" "inside" "[I" ∈ lw_good := lg_right (i := 1893) (by decide +kernel) rfl
theorem d_Model_doesOutlive_73 : decode b_Model_doesOutlive 73 = .ok (.iload_n 2, 1) := by decide +kernel
theorem d_Model_doesOutlive_74 : decode b_Model_doesOutlive 74 = .ok (.iaload, 1) := by decide +kernel
theorem d_Model_doesOutlive_75 : decode b_Model_doesOutlive 75 = .ok (.istore_n 3, 1) := by decide +kernel
theorem d_Model_doesOutlive_76 : decode b_Model_doesOutlive 76 = .ok (.iload_n 3, 1) := by decide +kernel
theorem d_Model_doesOutlive_77 : decode b_Model_doesOutlive 77 = .ok (.ifCond .le 18, 3) := by decide +kernel
theorem d_Model_doesOutlive_80 : decode b_Model_doesOutlive 80 = .ok (.iload_n 3, 1) := by decide +kernel
theorem d_Model_doesOutlive_81 : decode b_Model_doesOutlive 81 = .ok (.iload_n 1, 1) := by decide +kernel
theorem d_Model_doesOutlive_82 : decode b_Model_doesOutlive 82 = .ok (.if_icmp .eq 13, 3) := by decide +kernel
theorem d_Model_doesOutlive_85 : decode b_Model_doesOutlive 85 = .ok (.aload_n 0, 1) := by decide +kernel
theorem d_Model_doesOutlive_86 : decode b_Model_doesOutlive 86 = .ok (.getfield 177, 3) := by decide +kernel
theorem d_Model_doesOutlive_89 : decode b_Model_doesOutlive 89 = .ok (.iload_n 3, 1) := by decide +kernel
theorem d_Model_doesOutlive_90 : decode b_Model_doesOutlive 90 = .ok (.iaload, 1) := by decide +kernel
theorem d_Model_doesOutlive_91 : decode b_Model_doesOutlive 91 = .ok (.istore_n 3, 1) := by decide +kernel
theorem d_Model_doesOutlive_92 : decode b_Model_doesOutlive 92 = .ok (.goto (-16), 3) := by decide +kernel
theorem d_Model_doesOutlive_95 : decode b_Model_doesOutlive 95 = .ok (.iload_n 3, 1) := by decide +kernel
theorem d_Model_doesOutlive_96 : decode b_Model_doesOutlive 96 = .ok (.iload_n 1, 1) := by decide +kernel
theorem d_Model_doesOutlive_97 : decode b_Model_doesOutlive 97 = .ok (.if_icmp .ne 7, 3) := by decide +kernel
theorem d_Model_doesOutlive_100 : decode b_Model_doesOutlive 100 = .ok (.iconst 1, 1) := by decide +kernel
theorem d_Model_doesOutlive_101 : decode b_Model_doesOutlive 101 = .ok (.goto 4, 3) := by decide +kernel
theorem d_Model_doesOutlive_104 : decode b_Model_doesOutlive 104 = .ok (.iconst 0, 1) := by decide +kernel
theorem d_Model_doesOutlive_105 : decode b_Model_doesOutlive 105 = .ok (.ireturn, 1) := by decide +kernel
abbrev b_Model_misfit : ByteArray := prog_14_method_62_code
abbrev y_Model_misfit : MethodName := ⟨R_Model, "misfit", "(II)I"⟩
theorem co_Model_misfit : Cond.code y_Model_misfit b_Model_misfit 4 (some .int) ∈ lw_good := lg_in (tin_11 _ (List.mem_of_getElem? (i := 186) rfl)) rfl
abbrev w_Model_misfit : List Cond := Cond.code y_Model_misfit b_Model_misfit 4 (some .int) :: lw_good
theorem im_Model_misfit : Cond.instanceMethod y_Model_misfit ∈ lw_good := lg_right (i := 2585) (by decide +kernel) rfl
theorem se_Model_misfit : Cond.selects R_Model y_Model_misfit y_Model_misfit ∈ lw_good := lg_left (i := 173) (by decide +kernel) rfl
theorem d_Model_misfit_0 : decode b_Model_misfit 0 = .ok (.iload_n 1, 1) := by decide +kernel
theorem d_Model_misfit_1 : decode b_Model_misfit 1 = .ok (.ifCond .eq 7, 3) := by decide +kernel
theorem d_Model_misfit_4 : decode b_Model_misfit 4 = .ok (.iload_n 2, 1) := by decide +kernel
theorem d_Model_misfit_5 : decode b_Model_misfit 5 = .ok (.ifCond .ne 14, 3) := by decide +kernel
theorem d_Model_misfit_8 : decode b_Model_misfit 8 = .ok (.iload_n 1, 1) := by decide +kernel
theorem d_Model_misfit_9 : decode b_Model_misfit 9 = .ok (.iload_n 2, 1) := by decide +kernel
theorem d_Model_misfit_10 : decode b_Model_misfit 10 = .ok (.if_icmp .ne 7, 3) := by decide +kernel
theorem d_Model_misfit_13 : decode b_Model_misfit 13 = .ok (.iconst 0, 1) := by decide +kernel
theorem d_Model_misfit_14 : decode b_Model_misfit 14 = .ok (.goto 4, 3) := by decide +kernel
theorem d_Model_misfit_17 : decode b_Model_misfit 17 = .ok (.iconst 4, 1) := by decide +kernel
theorem d_Model_misfit_18 : decode b_Model_misfit 18 = .ok (.ireturn, 1) := by decide +kernel
theorem d_Model_misfit_19 : decode b_Model_misfit 19 = .ok (.iload_n 1, 1) := by decide +kernel
theorem d_Model_misfit_20 : decode b_Model_misfit 20 = .ok (.bipush (-2), 2) := by decide +kernel
theorem d_Model_misfit_22 : decode b_Model_misfit 22 = .ok (.if_icmp .ne 19, 3) := by decide +kernel
theorem d_Model_misfit_25 : decode b_Model_misfit 25 = .ok (.aload_n 0, 1) := by decide +kernel
theorem d_Model_misfit_26 : decode b_Model_misfit 26 = .ok (.getfield 156, 3) := by decide +kernel
theorem d_Model_misfit_29 : decode b_Model_misfit 29 = .ok (.iload_n 2, 1) := by decide +kernel
theorem d_Model_misfit_30 : decode b_Model_misfit 30 = .ok (.iaload, 1) := by decide +kernel
theorem d_Model_misfit_31 : decode b_Model_misfit 31 = .ok (.iconst 2, 1) := by decide +kernel
theorem d_Model_misfit_32 : decode b_Model_misfit 32 = .ok (.if_icmp .ne 7, 3) := by decide +kernel
theorem d_Model_misfit_35 : decode b_Model_misfit 35 = .ok (.iconst 0, 1) := by decide +kernel
theorem d_Model_misfit_36 : decode b_Model_misfit 36 = .ok (.goto 4, 3) := by decide +kernel
theorem d_Model_misfit_39 : decode b_Model_misfit 39 = .ok (.iconst 4, 1) := by decide +kernel
theorem d_Model_misfit_40 : decode b_Model_misfit 40 = .ok (.ireturn, 1) := by decide +kernel
theorem d_Model_misfit_41 : decode b_Model_misfit 41 = .ok (.iload_n 1, 1) := by decide +kernel
theorem d_Model_misfit_42 : decode b_Model_misfit 42 = .ok (.iconst (-1), 1) := by decide +kernel
theorem d_Model_misfit_43 : decode b_Model_misfit 43 = .ok (.if_icmp .ne 5, 3) := by decide +kernel
theorem d_Model_misfit_46 : decode b_Model_misfit 46 = .ok (.iconst 4, 1) := by decide +kernel
theorem d_Model_misfit_47 : decode b_Model_misfit 47 = .ok (.ireturn, 1) := by decide +kernel
theorem d_Model_misfit_48 : decode b_Model_misfit 48 = .ok (.aload_n 0, 1) := by decide +kernel
theorem d_Model_misfit_49 : decode b_Model_misfit 49 = .ok (.getfield 156, 3) := by decide +kernel
theorem d_Model_misfit_52 : decode b_Model_misfit 52 = .ok (.iload_n 1, 1) := by decide +kernel
theorem d_Model_misfit_53 : decode b_Model_misfit 53 = .ok (.iaload, 1) := by decide +kernel
theorem d_Model_misfit_54 : decode b_Model_misfit 54 = .ok (.aload_n 0, 1) := by decide +kernel
theorem d_Model_misfit_55 : decode b_Model_misfit 55 = .ok (.getfield 156, 3) := by decide +kernel
theorem d_Model_misfit_58 : decode b_Model_misfit 58 = .ok (.iload_n 2, 1) := by decide +kernel
theorem d_Model_misfit_59 : decode b_Model_misfit 59 = .ok (.iaload, 1) := by decide +kernel
theorem d_Model_misfit_60 : decode b_Model_misfit 60 = .ok (.if_icmp .eq 23, 3) := by decide +kernel
theorem d_Model_misfit_63 : decode b_Model_misfit 63 = .ok (.aload_n 0, 1) := by decide +kernel
theorem d_Model_misfit_64 : decode b_Model_misfit 64 = .ok (.getfield 156, 3) := by decide +kernel
theorem d_Model_misfit_67 : decode b_Model_misfit 67 = .ok (.iload_n 1, 1) := by decide +kernel
theorem d_Model_misfit_68 : decode b_Model_misfit 68 = .ok (.iaload, 1) := by decide +kernel
theorem d_Model_misfit_69 : decode b_Model_misfit 69 = .ok (.iconst 1, 1) := by decide +kernel
theorem d_Model_misfit_70 : decode b_Model_misfit 70 = .ok (.if_icmp .ne 17, 3) := by decide +kernel
theorem d_Model_misfit_73 : decode b_Model_misfit 73 = .ok (.aload_n 0, 1) := by decide +kernel
theorem d_Model_misfit_74 : decode b_Model_misfit 74 = .ok (.getfield 156, 3) := by decide +kernel
theorem d_Model_misfit_77 : decode b_Model_misfit 77 = .ok (.iload_n 2, 1) := by decide +kernel
theorem d_Model_misfit_78 : decode b_Model_misfit 78 = .ok (.iaload, 1) := by decide +kernel
theorem d_Model_misfit_79 : decode b_Model_misfit 79 = .ok (.iconst 2, 1) := by decide +kernel
theorem d_Model_misfit_80 : decode b_Model_misfit 80 = .ok (.if_icmp .ne 7, 3) := by decide +kernel
theorem d_Model_misfit_83 : decode b_Model_misfit 83 = .ok (.iconst 1, 1) := by decide +kernel
theorem d_Model_misfit_84 : decode b_Model_misfit 84 = .ok (.goto 4, 3) := by decide +kernel
theorem d_Model_misfit_87 : decode b_Model_misfit 87 = .ok (.iconst 0, 1) := by decide +kernel
theorem d_Model_misfit_88 : decode b_Model_misfit 88 = .ok (.istore_n 3, 1) := by decide +kernel
theorem d_Model_misfit_89 : decode b_Model_misfit 89 = .ok (.iload_n 3, 1) := by decide +kernel
theorem d_Model_misfit_90 : decode b_Model_misfit 90 = .ok (.ifCond .eq 12, 3) := by decide +kernel
theorem d_Model_misfit_93 : decode b_Model_misfit 93 = .ok (.aload_n 0, 1) := by decide +kernel
theorem d_Model_misfit_94 : decode b_Model_misfit 94 = .ok (.iload_n 1, 1) := by decide +kernel
theorem d_Model_misfit_95 : decode b_Model_misfit 95 = .ok (.iload_n 2, 1) := by decide +kernel
theorem d_Model_misfit_96 : decode b_Model_misfit 96 = .ok (.invokevirtual 596, 3) := by decide +kernel
theorem ml_Model_596 : Cond.methodLink R_Model 596 ⟨"PointerHouseModel", "sameCell", "(II)Z"⟩ ∈ lw_good := lg_right (i := 2587) (by decide +kernel) rfl
theorem d_Model_misfit_99 : decode b_Model_misfit 99 = .ok (.ifCond .ne 5, 3) := by decide +kernel
theorem d_Model_misfit_102 : decode b_Model_misfit 102 = .ok (.iconst 4, 1) := by decide +kernel
theorem d_Model_misfit_103 : decode b_Model_misfit 103 = .ok (.ireturn, 1) := by decide +kernel
theorem d_Model_misfit_104 : decode b_Model_misfit 104 = .ok (.aload_n 0, 1) := by decide +kernel
theorem d_Model_misfit_105 : decode b_Model_misfit 105 = .ok (.aload_n 0, 1) := by decide +kernel
theorem d_Model_misfit_106 : decode b_Model_misfit 106 = .ok (.getfield 159, 3) := by decide +kernel
theorem d_Model_misfit_109 : decode b_Model_misfit 109 = .ok (.iload_n 1, 1) := by decide +kernel
theorem d_Model_misfit_110 : decode b_Model_misfit 110 = .ok (.iaload, 1) := by decide +kernel
theorem d_Model_misfit_111 : decode b_Model_misfit 111 = .ok (.aload_n 0, 1) := by decide +kernel
theorem d_Model_misfit_112 : decode b_Model_misfit 112 = .ok (.getfield 159, 3) := by decide +kernel
theorem d_Model_misfit_115 : decode b_Model_misfit 115 = .ok (.iload_n 2, 1) := by decide +kernel
theorem d_Model_misfit_116 : decode b_Model_misfit 116 = .ok (.iaload, 1) := by decide +kernel
theorem d_Model_misfit_117 : decode b_Model_misfit 117 = .ok (.invokevirtual 600, 3) := by decide +kernel
theorem ml_Model_600 : Cond.methodLink R_Model 600 ⟨"PointerHouseModel", "doesOutlive", "(II)Z"⟩ ∈ lw_good := lg_right (i := 2591) (by decide +kernel) rfl
theorem d_Model_misfit_120 : decode b_Model_misfit 120 = .ok (.ifCond .eq 7, 3) := by decide +kernel
theorem d_Model_misfit_123 : decode b_Model_misfit 123 = .ok (.iconst 0, 1) := by decide +kernel
theorem d_Model_misfit_124 : decode b_Model_misfit 124 = .ok (.goto 4, 3) := by decide +kernel
theorem d_Model_misfit_127 : decode b_Model_misfit 127 = .ok (.iconst 5, 1) := by decide +kernel
theorem d_Model_misfit_128 : decode b_Model_misfit 128 = .ok (.ireturn, 1) := by decide +kernel
abbrev b_Model_fit : ByteArray := prog_14_method_63_code
abbrev y_Model_fit : MethodName := ⟨R_Model, "fit", "(III)V"⟩
theorem co_Model_fit : Cond.code y_Model_fit b_Model_fit 5 none ∈ lw_good := lg_in (tin_11 _ (List.mem_of_getElem? (i := 182) rfl)) rfl
abbrev w_Model_fit : List Cond := Cond.code y_Model_fit b_Model_fit 5 none :: lw_good
theorem im_Model_fit : Cond.instanceMethod y_Model_fit ∈ lw_good := lg_right (i := 2581) (by decide +kernel) rfl
theorem se_Model_fit : Cond.selects R_Model y_Model_fit y_Model_fit ∈ lw_good := lg_left (i := 172) (by decide +kernel) rfl
theorem d_Model_fit_0 : decode b_Model_fit 0 = .ok (.aload_n 0, 1) := by decide +kernel
theorem d_Model_fit_1 : decode b_Model_fit 1 = .ok (.invokevirtual 385, 3) := by decide +kernel
theorem d_Model_fit_4 : decode b_Model_fit 4 = .ok (.ifCond .eq 7, 3) := by decide +kernel
theorem d_Model_fit_7 : decode b_Model_fit 7 = .ok (.iconst 0, 1) := by decide +kernel
theorem d_Model_fit_8 : decode b_Model_fit 8 = .ok (.goto 9, 3) := by decide +kernel
theorem d_Model_fit_11 : decode b_Model_fit 11 = .ok (.aload_n 0, 1) := by decide +kernel
theorem d_Model_fit_12 : decode b_Model_fit 12 = .ok (.iload_n 1, 1) := by decide +kernel
theorem d_Model_fit_13 : decode b_Model_fit 13 = .ok (.iload_n 2, 1) := by decide +kernel
theorem d_Model_fit_14 : decode b_Model_fit 14 = .ok (.invokevirtual 603, 3) := by decide +kernel
theorem ml_Model_603 : Cond.methodLink R_Model 603 ⟨"PointerHouseModel", "misfit", "(II)I"⟩ ∈ lw_good := lg_right (i := 2583) (by decide +kernel) rfl
theorem d_Model_fit_17 : decode b_Model_fit 17 = .ok (.istore 4, 2) := by decide +kernel
theorem d_Model_fit_19 : decode b_Model_fit 19 = .ok (.iload 4, 2) := by decide +kernel
theorem d_Model_fit_21 : decode b_Model_fit 21 = .ok (.ifCond .le 10, 3) := by decide +kernel
theorem d_Model_fit_24 : decode b_Model_fit 24 = .ok (.aload_n 0, 1) := by decide +kernel
theorem d_Model_fit_25 : decode b_Model_fit 25 = .ok (.iload 4, 2) := by decide +kernel
theorem d_Model_fit_27 : decode b_Model_fit 27 = .ok (.iload_n 3, 1) := by decide +kernel
theorem d_Model_fit_28 : decode b_Model_fit 28 = .ok (.invokevirtual 381, 3) := by decide +kernel
theorem d_Model_fit_31 : decode b_Model_fit 31 = .ok (.return_, 1) := by decide +kernel
abbrev b_Model_seeRegions : ByteArray := prog_14_method_64_code
abbrev y_Model_seeRegions : MethodName := ⟨R_Model, "seeRegions", "(I)V"⟩
theorem co_Model_seeRegions : Cond.code y_Model_seeRegions b_Model_seeRegions 3 none ∈ lw_good := lg_in (tin_11 _ (List.mem_of_getElem? (i := 95) rfl)) rfl
abbrev w_Model_seeRegions : List Cond := Cond.code y_Model_seeRegions b_Model_seeRegions 3 none :: lw_good
theorem im_Model_seeRegions : Cond.instanceMethod y_Model_seeRegions ∈ lw_good := lg_right (i := 2494) (by decide +kernel) rfl
theorem se_Model_seeRegions : Cond.selects R_Model y_Model_seeRegions y_Model_seeRegions ∈ lw_good := lg_left (i := 152) (by decide +kernel) rfl
theorem d_Model_seeRegions_0 : decode b_Model_seeRegions 0 = .ok (.aload_n 0, 1) := by decide +kernel
theorem d_Model_seeRegions_1 : decode b_Model_seeRegions 1 = .ok (.iconst 0, 1) := by decide +kernel
theorem d_Model_seeRegions_2 : decode b_Model_seeRegions 2 = .ok (.putfield 568, 3) := by decide +kernel
theorem d_Model_seeRegions_5 : decode b_Model_seeRegions 5 = .ok (.iconst 0, 1) := by decide +kernel
theorem d_Model_seeRegions_6 : decode b_Model_seeRegions 6 = .ok (.istore_n 2, 1) := by decide +kernel
theorem d_Model_seeRegions_7 : decode b_Model_seeRegions 7 = .ok (.iload_n 2, 1) := by decide +kernel
theorem d_Model_seeRegions_8 : decode b_Model_seeRegions 8 = .ok (.aload_n 0, 1) := by decide +kernel
theorem d_Model_seeRegions_9 : decode b_Model_seeRegions 9 = .ok (.getfield 27, 3) := by decide +kernel
theorem d_Model_seeRegions_12 : decode b_Model_seeRegions 12 = .ok (.iload_n 1, 1) := by decide +kernel
theorem d_Model_seeRegions_13 : decode b_Model_seeRegions 13 = .ok (.iaload, 1) := by decide +kernel
theorem d_Model_seeRegions_14 : decode b_Model_seeRegions 14 = .ok (.if_icmp .ge 50, 3) := by decide +kernel
theorem d_Model_seeRegions_17 : decode b_Model_seeRegions 17 = .ok (.aload_n 0, 1) := by decide +kernel
theorem d_Model_seeRegions_18 : decode b_Model_seeRegions 18 = .ok (.getfield 171, 3) := by decide +kernel
theorem d_Model_seeRegions_21 : decode b_Model_seeRegions 21 = .ok (.aload_n 0, 1) := by decide +kernel
theorem d_Model_seeRegions_22 : decode b_Model_seeRegions 22 = .ok (.getfield 568, 3) := by decide +kernel
theorem d_Model_seeRegions_25 : decode b_Model_seeRegions 25 = .ok (.aload_n 0, 1) := by decide +kernel
theorem d_Model_seeRegions_26 : decode b_Model_seeRegions 26 = .ok (.getfield 30, 3) := by decide +kernel
theorem d_Model_seeRegions_29 : decode b_Model_seeRegions 29 = .ok (.iconst 3, 1) := by decide +kernel
theorem d_Model_seeRegions_30 : decode b_Model_seeRegions 30 = .ok (.iload_n 1, 1) := by decide +kernel
theorem d_Model_seeRegions_31 : decode b_Model_seeRegions 31 = .ok (.imul, 1) := by decide +kernel
theorem d_Model_seeRegions_32 : decode b_Model_seeRegions 32 = .ok (.iload_n 2, 1) := by decide +kernel
theorem d_Model_seeRegions_33 : decode b_Model_seeRegions 33 = .ok (.iadd, 1) := by decide +kernel
theorem d_Model_seeRegions_34 : decode b_Model_seeRegions 34 = .ok (.laload, 1) := by decide +kernel
theorem d_Model_seeRegions_35 : decode b_Model_seeRegions 35 = .ok (.lastore, 1) := by decide +kernel
theorem d_Model_seeRegions_36 : decode b_Model_seeRegions 36 = .ok (.aload_n 0, 1) := by decide +kernel
theorem d_Model_seeRegions_37 : decode b_Model_seeRegions 37 = .ok (.getfield 174, 3) := by decide +kernel
theorem d_Model_seeRegions_40 : decode b_Model_seeRegions 40 = .ok (.aload_n 0, 1) := by decide +kernel
theorem d_Model_seeRegions_41 : decode b_Model_seeRegions 41 = .ok (.getfield 568, 3) := by decide +kernel
theorem d_Model_seeRegions_44 : decode b_Model_seeRegions 44 = .ok (.iload_n 2, 1) := by decide +kernel
theorem d_Model_seeRegions_45 : decode b_Model_seeRegions 45 = .ok (.iconst 1, 1) := by decide +kernel
theorem d_Model_seeRegions_46 : decode b_Model_seeRegions 46 = .ok (.iadd, 1) := by decide +kernel
theorem d_Model_seeRegions_47 : decode b_Model_seeRegions 47 = .ok (.iastore, 1) := by decide +kernel
theorem d_Model_seeRegions_48 : decode b_Model_seeRegions 48 = .ok (.aload_n 0, 1) := by decide +kernel
theorem d_Model_seeRegions_49 : decode b_Model_seeRegions 49 = .ok (.dup, 1) := by decide +kernel
theorem d_Model_seeRegions_50 : decode b_Model_seeRegions 50 = .ok (.getfield 568, 3) := by decide +kernel
theorem d_Model_seeRegions_53 : decode b_Model_seeRegions 53 = .ok (.iconst 1, 1) := by decide +kernel
theorem d_Model_seeRegions_54 : decode b_Model_seeRegions 54 = .ok (.iadd, 1) := by decide +kernel
theorem d_Model_seeRegions_55 : decode b_Model_seeRegions 55 = .ok (.putfield 568, 3) := by decide +kernel
theorem d_Model_seeRegions_58 : decode b_Model_seeRegions 58 = .ok (.iinc 2 1, 3) := by decide +kernel
theorem d_Model_seeRegions_61 : decode b_Model_seeRegions 61 = .ok (.goto (-54), 3) := by decide +kernel
theorem d_Model_seeRegions_64 : decode b_Model_seeRegions 64 = .ok (.return_, 1) := by decide +kernel
abbrev b_Model_regionOfItem : ByteArray := prog_14_method_65_code
abbrev y_Model_regionOfItem : MethodName := ⟨R_Model, "regionOfItem", "(IJ)I"⟩
theorem co_Model_regionOfItem : Cond.code y_Model_regionOfItem b_Model_regionOfItem 5 (some .int) ∈ lw_good := lg_in (tin_11 _ (List.mem_of_getElem? (i := 123) rfl)) rfl
abbrev w_Model_regionOfItem : List Cond := Cond.code y_Model_regionOfItem b_Model_regionOfItem 5 (some .int) :: lw_good
theorem im_Model_regionOfItem : Cond.instanceMethod y_Model_regionOfItem ∈ lw_good := lg_right (i := 2522) (by decide +kernel) rfl
theorem se_Model_regionOfItem : Cond.selects R_Model y_Model_regionOfItem y_Model_regionOfItem ∈ lw_good := lg_left (i := 159) (by decide +kernel) rfl
theorem d_Model_regionOfItem_0 : decode b_Model_regionOfItem 0 = .ok (.iconst 0, 1) := by decide +kernel
theorem d_Model_regionOfItem_1 : decode b_Model_regionOfItem 1 = .ok (.istore 4, 2) := by decide +kernel
theorem d_Model_regionOfItem_3 : decode b_Model_regionOfItem 3 = .ok (.iload 4, 2) := by decide +kernel
theorem d_Model_regionOfItem_5 : decode b_Model_regionOfItem 5 = .ok (.aload_n 0, 1) := by decide +kernel
theorem d_Model_regionOfItem_6 : decode b_Model_regionOfItem 6 = .ok (.getfield 27, 3) := by decide +kernel
theorem d_Model_regionOfItem_9 : decode b_Model_regionOfItem 9 = .ok (.iload_n 1, 1) := by decide +kernel
theorem d_Model_regionOfItem_10 : decode b_Model_regionOfItem 10 = .ok (.iaload, 1) := by decide +kernel
theorem d_Model_regionOfItem_11 : decode b_Model_regionOfItem 11 = .ok (.if_icmp .ge 30, 3) := by decide +kernel
theorem d_Model_regionOfItem_14 : decode b_Model_regionOfItem 14 = .ok (.aload_n 0, 1) := by decide +kernel
theorem d_Model_regionOfItem_15 : decode b_Model_regionOfItem 15 = .ok (.getfield 30, 3) := by decide +kernel
theorem d_Model_regionOfItem_18 : decode b_Model_regionOfItem 18 = .ok (.iconst 3, 1) := by decide +kernel
theorem d_Model_regionOfItem_19 : decode b_Model_regionOfItem 19 = .ok (.iload_n 1, 1) := by decide +kernel
theorem d_Model_regionOfItem_20 : decode b_Model_regionOfItem 20 = .ok (.imul, 1) := by decide +kernel
theorem d_Model_regionOfItem_21 : decode b_Model_regionOfItem 21 = .ok (.iload 4, 2) := by decide +kernel
theorem d_Model_regionOfItem_23 : decode b_Model_regionOfItem 23 = .ok (.iadd, 1) := by decide +kernel
theorem d_Model_regionOfItem_24 : decode b_Model_regionOfItem 24 = .ok (.laload, 1) := by decide +kernel
theorem d_Model_regionOfItem_25 : decode b_Model_regionOfItem 25 = .ok (.lload_n 2, 1) := by decide +kernel
theorem d_Model_regionOfItem_26 : decode b_Model_regionOfItem 26 = .ok (.lcmp, 1) := by decide +kernel
theorem d_Model_regionOfItem_27 : decode b_Model_regionOfItem 27 = .ok (.ifCond .ne 8, 3) := by decide +kernel
theorem d_Model_regionOfItem_30 : decode b_Model_regionOfItem 30 = .ok (.iload 4, 2) := by decide +kernel
theorem d_Model_regionOfItem_32 : decode b_Model_regionOfItem 32 = .ok (.iconst 1, 1) := by decide +kernel
theorem d_Model_regionOfItem_33 : decode b_Model_regionOfItem 33 = .ok (.iadd, 1) := by decide +kernel
theorem d_Model_regionOfItem_34 : decode b_Model_regionOfItem 34 = .ok (.ireturn, 1) := by decide +kernel
theorem d_Model_regionOfItem_35 : decode b_Model_regionOfItem 35 = .ok (.iinc 4 1, 3) := by decide +kernel
theorem d_Model_regionOfItem_38 : decode b_Model_regionOfItem 38 = .ok (.goto (-35), 3) := by decide +kernel
theorem d_Model_regionOfItem_41 : decode b_Model_regionOfItem 41 = .ok (.iconst (-1), 1) := by decide +kernel
theorem d_Model_regionOfItem_42 : decode b_Model_regionOfItem 42 = .ok (.ireturn, 1) := by decide +kernel
abbrev b_Model_checkHead : ByteArray := prog_14_method_66_code
abbrev y_Model_checkHead : MethodName := ⟨R_Model, "checkHead", "(I)V"⟩
theorem co_Model_checkHead : Cond.code y_Model_checkHead b_Model_checkHead 6 none ∈ lw_good := lg_in (tin_11 _ (List.mem_of_getElem? (i := 82) rfl)) rfl
abbrev w_Model_checkHead : List Cond := Cond.code y_Model_checkHead b_Model_checkHead 6 none :: lw_good
theorem im_Model_checkHead : Cond.instanceMethod y_Model_checkHead ∈ lw_good := lg_right (i := 2481) (by decide +kernel) rfl
theorem se_Model_checkHead : Cond.selects R_Model y_Model_checkHead y_Model_checkHead ∈ lw_good := lg_left (i := 149) (by decide +kernel) rfl
theorem d_Model_checkHead_0 : decode b_Model_checkHead 0 = .ok (.aload_n 0, 1) := by decide +kernel
theorem d_Model_checkHead_1 : decode b_Model_checkHead 1 = .ok (.getfield 17, 3) := by decide +kernel
theorem d_Model_checkHead_4 : decode b_Model_checkHead 4 = .ok (.iload_n 1, 1) := by decide +kernel
theorem d_Model_checkHead_5 : decode b_Model_checkHead 5 = .ok (.iaload, 1) := by decide +kernel
theorem d_Model_checkHead_6 : decode b_Model_checkHead 6 = .ok (.iconst 2, 1) := by decide +kernel
theorem d_Model_checkHead_7 : decode b_Model_checkHead 7 = .ok (.if_icmp .ne 16, 3) := by decide +kernel
theorem d_Model_checkHead_10 : decode b_Model_checkHead 10 = .ok (.aload_n 0, 1) := by decide +kernel
theorem d_Model_checkHead_11 : decode b_Model_checkHead 11 = .ok (.aload_n 0, 1) := by decide +kernel
theorem d_Model_checkHead_12 : decode b_Model_checkHead 12 = .ok (.getfield 20, 3) := by decide +kernel
theorem d_Model_checkHead_15 : decode b_Model_checkHead 15 = .ok (.iload_n 1, 1) := by decide +kernel
theorem d_Model_checkHead_16 : decode b_Model_checkHead 16 = .ok (.laload, 1) := by decide +kernel
theorem d_Model_checkHead_17 : decode b_Model_checkHead 17 = .ok (.invokevirtual 606, 3) := by decide +kernel
theorem ml_Model_606 : Cond.methodLink R_Model 606 ⟨"PointerHouseModel", "findFun", "(J)I"⟩ ∈ lw_good := lg_right (i := 2483) (by decide +kernel) rfl
theorem d_Model_checkHead_20 : decode b_Model_checkHead 20 = .ok (.goto 13, 3) := by decide +kernel
theorem d_Model_checkHead_23 : decode b_Model_checkHead 23 = .ok (.aload_n 0, 1) := by decide +kernel
theorem d_Model_checkHead_24 : decode b_Model_checkHead 24 = .ok (.aload_n 0, 1) := by decide +kernel
theorem d_Model_checkHead_25 : decode b_Model_checkHead 25 = .ok (.getfield 20, 3) := by decide +kernel
theorem d_Model_checkHead_28 : decode b_Model_checkHead 28 = .ok (.iload_n 1, 1) := by decide +kernel
theorem d_Model_checkHead_29 : decode b_Model_checkHead 29 = .ok (.laload, 1) := by decide +kernel
theorem d_Model_checkHead_30 : decode b_Model_checkHead 30 = .ok (.invokevirtual 587, 3) := by decide +kernel
theorem d_Model_checkHead_33 : decode b_Model_checkHead 33 = .ok (.istore_n 2, 1) := by decide +kernel
theorem d_Model_checkHead_34 : decode b_Model_checkHead 34 = .ok (.iload_n 2, 1) := by decide +kernel
theorem d_Model_checkHead_35 : decode b_Model_checkHead 35 = .ok (.iload_n 1, 1) := by decide +kernel
theorem d_Model_checkHead_36 : decode b_Model_checkHead 36 = .ok (.if_icmp .eq 14, 3) := by decide +kernel
theorem d_Model_checkHead_39 : decode b_Model_checkHead 39 = .ok (.aload_n 0, 1) := by decide +kernel
theorem d_Model_checkHead_40 : decode b_Model_checkHead 40 = .ok (.iconst 2, 1) := by decide +kernel
theorem d_Model_checkHead_41 : decode b_Model_checkHead 41 = .ok (.aload_n 0, 1) := by decide +kernel
theorem d_Model_checkHead_42 : decode b_Model_checkHead 42 = .ok (.getfield 24, 3) := by decide +kernel
theorem d_Model_checkHead_45 : decode b_Model_checkHead 45 = .ok (.iload_n 1, 1) := by decide +kernel
theorem d_Model_checkHead_46 : decode b_Model_checkHead 46 = .ok (.iaload, 1) := by decide +kernel
theorem d_Model_checkHead_47 : decode b_Model_checkHead 47 = .ok (.invokevirtual 381, 3) := by decide +kernel
theorem d_Model_checkHead_50 : decode b_Model_checkHead 50 = .ok (.iconst 0, 1) := by decide +kernel
theorem d_Model_checkHead_51 : decode b_Model_checkHead 51 = .ok (.istore_n 3, 1) := by decide +kernel
theorem d_Model_checkHead_52 : decode b_Model_checkHead 52 = .ok (.iload_n 3, 1) := by decide +kernel
theorem d_Model_checkHead_53 : decode b_Model_checkHead 53 = .ok (.aload_n 0, 1) := by decide +kernel
theorem d_Model_checkHead_54 : decode b_Model_checkHead 54 = .ok (.getfield 27, 3) := by decide +kernel
theorem d_Model_checkHead_57 : decode b_Model_checkHead 57 = .ok (.iload_n 1, 1) := by decide +kernel
theorem d_Model_checkHead_58 : decode b_Model_checkHead 58 = .ok (.iaload, 1) := by decide +kernel
theorem d_Model_checkHead_59 : decode b_Model_checkHead 59 = .ok (.if_icmp .ge 112, 3) := by decide +kernel
theorem d_Model_checkHead_62 : decode b_Model_checkHead 62 = .ok (.aload_n 0, 1) := by decide +kernel
theorem d_Model_checkHead_63 : decode b_Model_checkHead 63 = .ok (.invokevirtual 385, 3) := by decide +kernel
theorem d_Model_checkHead_66 : decode b_Model_checkHead 66 = .ok (.ifCond .ne 105, 3) := by decide +kernel
theorem d_Model_checkHead_69 : decode b_Model_checkHead 69 = .ok (.aload_n 0, 1) := by decide +kernel
theorem d_Model_checkHead_70 : decode b_Model_checkHead 70 = .ok (.getfield 30, 3) := by decide +kernel
theorem d_Model_checkHead_73 : decode b_Model_checkHead 73 = .ok (.iconst 3, 1) := by decide +kernel
theorem d_Model_checkHead_74 : decode b_Model_checkHead 74 = .ok (.iload_n 1, 1) := by decide +kernel
theorem d_Model_checkHead_75 : decode b_Model_checkHead 75 = .ok (.imul, 1) := by decide +kernel
theorem d_Model_checkHead_76 : decode b_Model_checkHead 76 = .ok (.iload_n 3, 1) := by decide +kernel
theorem d_Model_checkHead_77 : decode b_Model_checkHead 77 = .ok (.iadd, 1) := by decide +kernel
theorem d_Model_checkHead_78 : decode b_Model_checkHead 78 = .ok (.laload, 1) := by decide +kernel
theorem d_Model_checkHead_79 : decode b_Model_checkHead 79 = .ok (.ldc2_w 566, 3) := by decide +kernel
theorem d_Model_checkHead_82 : decode b_Model_checkHead 82 = .ok (.lcmp, 1) := by decide +kernel
theorem d_Model_checkHead_83 : decode b_Model_checkHead 83 = .ok (.ifCond .ne 7, 3) := by decide +kernel
theorem d_Model_checkHead_86 : decode b_Model_checkHead 86 = .ok (.iconst 1, 1) := by decide +kernel
theorem d_Model_checkHead_87 : decode b_Model_checkHead 87 = .ok (.goto 4, 3) := by decide +kernel
theorem d_Model_checkHead_90 : decode b_Model_checkHead 90 = .ok (.iconst 0, 1) := by decide +kernel
theorem d_Model_checkHead_91 : decode b_Model_checkHead 91 = .ok (.istore 4, 2) := by decide +kernel
theorem d_Model_checkHead_93 : decode b_Model_checkHead 93 = .ok (.iconst 0, 1) := by decide +kernel
theorem d_Model_checkHead_94 : decode b_Model_checkHead 94 = .ok (.istore 5, 2) := by decide +kernel
theorem d_Model_checkHead_96 : decode b_Model_checkHead 96 = .ok (.iload 5, 2) := by decide +kernel
theorem d_Model_checkHead_98 : decode b_Model_checkHead 98 = .ok (.iload_n 3, 1) := by decide +kernel
theorem d_Model_checkHead_99 : decode b_Model_checkHead 99 = .ok (.if_icmp .ge 46, 3) := by decide +kernel
theorem d_Model_checkHead_102 : decode b_Model_checkHead 102 = .ok (.iload 4, 2) := by decide +kernel
theorem d_Model_checkHead_104 : decode b_Model_checkHead 104 = .ok (.ifCond .ne 28, 3) := by decide +kernel
theorem d_Model_checkHead_107 : decode b_Model_checkHead 107 = .ok (.aload_n 0, 1) := by decide +kernel
theorem d_Model_checkHead_108 : decode b_Model_checkHead 108 = .ok (.getfield 30, 3) := by decide +kernel
theorem d_Model_checkHead_111 : decode b_Model_checkHead 111 = .ok (.iconst 3, 1) := by decide +kernel
theorem d_Model_checkHead_112 : decode b_Model_checkHead 112 = .ok (.iload_n 1, 1) := by decide +kernel
theorem d_Model_checkHead_113 : decode b_Model_checkHead 113 = .ok (.imul, 1) := by decide +kernel
theorem d_Model_checkHead_114 : decode b_Model_checkHead 114 = .ok (.iload 5, 2) := by decide +kernel
theorem d_Model_checkHead_116 : decode b_Model_checkHead 116 = .ok (.iadd, 1) := by decide +kernel
theorem d_Model_checkHead_117 : decode b_Model_checkHead 117 = .ok (.laload, 1) := by decide +kernel
theorem d_Model_checkHead_118 : decode b_Model_checkHead 118 = .ok (.aload_n 0, 1) := by decide +kernel
theorem d_Model_checkHead_119 : decode b_Model_checkHead 119 = .ok (.getfield 30, 3) := by decide +kernel
theorem d_Model_checkHead_122 : decode b_Model_checkHead 122 = .ok (.iconst 3, 1) := by decide +kernel
theorem d_Model_checkHead_123 : decode b_Model_checkHead 123 = .ok (.iload_n 1, 1) := by decide +kernel
theorem d_Model_checkHead_124 : decode b_Model_checkHead 124 = .ok (.imul, 1) := by decide +kernel
theorem d_Model_checkHead_125 : decode b_Model_checkHead 125 = .ok (.iload_n 3, 1) := by decide +kernel
theorem d_Model_checkHead_126 : decode b_Model_checkHead 126 = .ok (.iadd, 1) := by decide +kernel
theorem d_Model_checkHead_127 : decode b_Model_checkHead 127 = .ok (.laload, 1) := by decide +kernel
theorem d_Model_checkHead_128 : decode b_Model_checkHead 128 = .ok (.lcmp, 1) := by decide +kernel
theorem d_Model_checkHead_129 : decode b_Model_checkHead 129 = .ok (.ifCond .ne 7, 3) := by decide +kernel
theorem d_Model_checkHead_132 : decode b_Model_checkHead 132 = .ok (.iconst 1, 1) := by decide +kernel
theorem d_Model_checkHead_133 : decode b_Model_checkHead 133 = .ok (.goto 4, 3) := by decide +kernel
theorem d_Model_checkHead_136 : decode b_Model_checkHead 136 = .ok (.iconst 0, 1) := by decide +kernel
theorem d_Model_checkHead_137 : decode b_Model_checkHead 137 = .ok (.istore 4, 2) := by decide +kernel
theorem d_Model_checkHead_139 : decode b_Model_checkHead 139 = .ok (.iinc 5 1, 3) := by decide +kernel
theorem d_Model_checkHead_142 : decode b_Model_checkHead 142 = .ok (.goto (-46), 3) := by decide +kernel
theorem d_Model_checkHead_145 : decode b_Model_checkHead 145 = .ok (.iload 4, 2) := by decide +kernel
theorem d_Model_checkHead_147 : decode b_Model_checkHead 147 = .ok (.ifCond .eq 18, 3) := by decide +kernel
theorem d_Model_checkHead_150 : decode b_Model_checkHead 150 = .ok (.aload_n 0, 1) := by decide +kernel
theorem d_Model_checkHead_151 : decode b_Model_checkHead 151 = .ok (.iconst 2, 1) := by decide +kernel
theorem d_Model_checkHead_152 : decode b_Model_checkHead 152 = .ok (.aload_n 0, 1) := by decide +kernel
theorem d_Model_checkHead_153 : decode b_Model_checkHead 153 = .ok (.getfield 33, 3) := by decide +kernel
theorem d_Model_checkHead_156 : decode b_Model_checkHead 156 = .ok (.iconst 3, 1) := by decide +kernel
theorem d_Model_checkHead_157 : decode b_Model_checkHead 157 = .ok (.iload_n 1, 1) := by decide +kernel
theorem d_Model_checkHead_158 : decode b_Model_checkHead 158 = .ok (.imul, 1) := by decide +kernel
theorem d_Model_checkHead_159 : decode b_Model_checkHead 159 = .ok (.iload_n 3, 1) := by decide +kernel
theorem d_Model_checkHead_160 : decode b_Model_checkHead 160 = .ok (.iadd, 1) := by decide +kernel
theorem d_Model_checkHead_161 : decode b_Model_checkHead 161 = .ok (.iaload, 1) := by decide +kernel
theorem d_Model_checkHead_162 : decode b_Model_checkHead 162 = .ok (.invokevirtual 381, 3) := by decide +kernel
theorem d_Model_checkHead_165 : decode b_Model_checkHead 165 = .ok (.iinc 3 1, 3) := by decide +kernel
theorem d_Model_checkHead_168 : decode b_Model_checkHead 168 = .ok (.goto (-116), 3) := by decide +kernel
theorem d_Model_checkHead_171 : decode b_Model_checkHead 171 = .ok (.aload_n 0, 1) := by decide +kernel
theorem d_Model_checkHead_172 : decode b_Model_checkHead 172 = .ok (.iload_n 1, 1) := by decide +kernel
theorem d_Model_checkHead_173 : decode b_Model_checkHead 173 = .ok (.invokevirtual 609, 3) := by decide +kernel
theorem ml_Model_609 : Cond.methodLink R_Model 609 ⟨"PointerHouseModel", "seeRegions", "(I)V"⟩ ∈ lw_good := lg_right (i := 2492) (by decide +kernel) rfl
theorem d_Model_checkHead_176 : decode b_Model_checkHead 176 = .ok (.iconst 0, 1) := by decide +kernel
theorem d_Model_checkHead_177 : decode b_Model_checkHead 177 = .ok (.istore_n 3, 1) := by decide +kernel
theorem d_Model_checkHead_178 : decode b_Model_checkHead 178 = .ok (.iload_n 3, 1) := by decide +kernel
theorem d_Model_checkHead_179 : decode b_Model_checkHead 179 = .ok (.aload_n 0, 1) := by decide +kernel
theorem d_Model_checkHead_180 : decode b_Model_checkHead 180 = .ok (.getfield 39, 3) := by decide +kernel
theorem d_Model_checkHead_183 : decode b_Model_checkHead 183 = .ok (.iload_n 1, 1) := by decide +kernel
theorem d_Model_checkHead_184 : decode b_Model_checkHead 184 = .ok (.iaload, 1) := by decide +kernel
theorem d_Model_checkHead_185 : decode b_Model_checkHead 185 = .ok (.if_icmp .ge 72, 3) := by decide +kernel
theorem d_Model_checkHead_188 : decode b_Model_checkHead 188 = .ok (.aload_n 0, 1) := by decide +kernel
theorem d_Model_checkHead_189 : decode b_Model_checkHead 189 = .ok (.invokevirtual 385, 3) := by decide +kernel
theorem d_Model_checkHead_192 : decode b_Model_checkHead 192 = .ok (.ifCond .ne 65, 3) := by decide +kernel
theorem d_Model_checkHead_195 : decode b_Model_checkHead 195 = .ok (.aload_n 0, 1) := by decide +kernel
theorem d_Model_checkHead_196 : decode b_Model_checkHead 196 = .ok (.getfield 36, 3) := by decide +kernel
theorem d_Model_checkHead_199 : decode b_Model_checkHead 199 = .ok (.iload_n 1, 1) := by decide +kernel
theorem d_Model_checkHead_200 : decode b_Model_checkHead 200 = .ok (.iaload, 1) := by decide +kernel
theorem d_Model_checkHead_201 : decode b_Model_checkHead 201 = .ok (.iload_n 3, 1) := by decide +kernel
theorem d_Model_checkHead_202 : decode b_Model_checkHead 202 = .ok (.iadd, 1) := by decide +kernel
theorem d_Model_checkHead_203 : decode b_Model_checkHead 203 = .ok (.istore 4, 2) := by decide +kernel
theorem d_Model_checkHead_205 : decode b_Model_checkHead 205 = .ok (.aload_n 0, 1) := by decide +kernel
theorem d_Model_checkHead_206 : decode b_Model_checkHead 206 = .ok (.iload_n 1, 1) := by decide +kernel
theorem d_Model_checkHead_207 : decode b_Model_checkHead 207 = .ok (.aload_n 0, 1) := by decide +kernel
theorem d_Model_checkHead_208 : decode b_Model_checkHead 208 = .ok (.getfield 42, 3) := by decide +kernel
theorem d_Model_checkHead_211 : decode b_Model_checkHead 211 = .ok (.iload 4, 2) := by decide +kernel
theorem d_Model_checkHead_213 : decode b_Model_checkHead 213 = .ok (.laload, 1) := by decide +kernel
theorem d_Model_checkHead_214 : decode b_Model_checkHead 214 = .ok (.invokevirtual 612, 3) := by decide +kernel
theorem ml_Model_612 : Cond.methodLink R_Model 612 ⟨"PointerHouseModel", "findField", "(IJ)I"⟩ ∈ lw_good := lg_right (i := 2496) (by decide +kernel) rfl
theorem d_Model_checkHead_217 : decode b_Model_checkHead 217 = .ok (.iload_n 3, 1) := by decide +kernel
theorem d_Model_checkHead_218 : decode b_Model_checkHead 218 = .ok (.if_icmp .eq 15, 3) := by decide +kernel
theorem d_Model_checkHead_221 : decode b_Model_checkHead 221 = .ok (.aload_n 0, 1) := by decide +kernel
theorem d_Model_checkHead_222 : decode b_Model_checkHead 222 = .ok (.iconst 2, 1) := by decide +kernel
theorem d_Model_checkHead_223 : decode b_Model_checkHead 223 = .ok (.aload_n 0, 1) := by decide +kernel
theorem d_Model_checkHead_224 : decode b_Model_checkHead 224 = .ok (.getfield 45, 3) := by decide +kernel
theorem d_Model_checkHead_227 : decode b_Model_checkHead 227 = .ok (.iload 4, 2) := by decide +kernel
theorem d_Model_checkHead_229 : decode b_Model_checkHead 229 = .ok (.iaload, 1) := by decide +kernel
theorem d_Model_checkHead_230 : decode b_Model_checkHead 230 = .ok (.invokevirtual 381, 3) := by decide +kernel
theorem d_Model_checkHead_233 : decode b_Model_checkHead 233 = .ok (.aload_n 0, 1) := by decide +kernel
theorem d_Model_checkHead_234 : decode b_Model_checkHead 234 = .ok (.getfield 51, 3) := by decide +kernel
theorem fl_Model_51 : Cond.fieldLink R_Model 51 "PointerHouseModel" "fieldType" "[I" ∈ lw_good := lg_right (i := 1843) (by decide +kernel) rfl
theorem d_Model_checkHead_237 : decode b_Model_checkHead 237 = .ok (.iload 4, 2) := by decide +kernel
theorem d_Model_checkHead_239 : decode b_Model_checkHead 239 = .ok (.aload_n 0, 1) := by decide +kernel
theorem d_Model_checkHead_240 : decode b_Model_checkHead 240 = .ok (.aload_n 0, 1) := by decide +kernel
theorem d_Model_checkHead_241 : decode b_Model_checkHead 241 = .ok (.getfield 48, 3) := by decide +kernel
theorem d_Model_checkHead_244 : decode b_Model_checkHead 244 = .ok (.iload 4, 2) := by decide +kernel
theorem d_Model_checkHead_246 : decode b_Model_checkHead 246 = .ok (.iaload, 1) := by decide +kernel
theorem d_Model_checkHead_247 : decode b_Model_checkHead 247 = .ok (.invokevirtual 584, 3) := by decide +kernel
theorem d_Model_checkHead_250 : decode b_Model_checkHead 250 = .ok (.iastore, 1) := by decide +kernel
theorem d_Model_checkHead_251 : decode b_Model_checkHead 251 = .ok (.iinc 3 1, 3) := by decide +kernel
theorem d_Model_checkHead_254 : decode b_Model_checkHead 254 = .ok (.goto (-76), 3) := by decide +kernel
theorem d_Model_checkHead_257 : decode b_Model_checkHead 257 = .ok (.aload_n 0, 1) := by decide +kernel
theorem d_Model_checkHead_258 : decode b_Model_checkHead 258 = .ok (.getfield 17, 3) := by decide +kernel
theorem d_Model_checkHead_261 : decode b_Model_checkHead 261 = .ok (.iload_n 1, 1) := by decide +kernel
theorem d_Model_checkHead_262 : decode b_Model_checkHead 262 = .ok (.iaload, 1) := by decide +kernel
theorem d_Model_checkHead_263 : decode b_Model_checkHead 263 = .ok (.iconst 2, 1) := by decide +kernel
theorem d_Model_checkHead_264 : decode b_Model_checkHead 264 = .ok (.if_icmp .ge 4, 3) := by decide +kernel
theorem d_Model_checkHead_267 : decode b_Model_checkHead 267 = .ok (.return_, 1) := by decide +kernel
theorem d_Model_checkHead_268 : decode b_Model_checkHead 268 = .ok (.aload_n 0, 1) := by decide +kernel
theorem d_Model_checkHead_269 : decode b_Model_checkHead 269 = .ok (.getfield 57, 3) := by decide +kernel
theorem fl_Model_57 : Cond.fieldLink R_Model 57 "PointerHouseModel" "resultType" "[I" ∈ lw_good := lg_right (i := 1845) (by decide +kernel) rfl
theorem d_Model_checkHead_272 : decode b_Model_checkHead 272 = .ok (.iload_n 1, 1) := by decide +kernel
theorem d_Model_checkHead_273 : decode b_Model_checkHead 273 = .ok (.aload_n 0, 1) := by decide +kernel
theorem d_Model_checkHead_274 : decode b_Model_checkHead 274 = .ok (.getfield 54, 3) := by decide +kernel
theorem d_Model_checkHead_277 : decode b_Model_checkHead 277 = .ok (.iload_n 1, 1) := by decide +kernel
theorem d_Model_checkHead_278 : decode b_Model_checkHead 278 = .ok (.iaload, 1) := by decide +kernel
theorem d_Model_checkHead_279 : decode b_Model_checkHead 279 = .ok (.ifCond .ge 7, 3) := by decide +kernel
theorem d_Model_checkHead_282 : decode b_Model_checkHead 282 = .ok (.iconst (-1), 1) := by decide +kernel
theorem d_Model_checkHead_283 : decode b_Model_checkHead 283 = .ok (.goto 13, 3) := by decide +kernel
theorem d_Model_checkHead_286 : decode b_Model_checkHead 286 = .ok (.aload_n 0, 1) := by decide +kernel
theorem d_Model_checkHead_287 : decode b_Model_checkHead 287 = .ok (.aload_n 0, 1) := by decide +kernel
theorem d_Model_checkHead_288 : decode b_Model_checkHead 288 = .ok (.getfield 54, 3) := by decide +kernel
theorem d_Model_checkHead_291 : decode b_Model_checkHead 291 = .ok (.iload_n 1, 1) := by decide +kernel
theorem d_Model_checkHead_292 : decode b_Model_checkHead 292 = .ok (.iaload, 1) := by decide +kernel
theorem d_Model_checkHead_293 : decode b_Model_checkHead 293 = .ok (.invokevirtual 584, 3) := by decide +kernel
theorem d_Model_checkHead_296 : decode b_Model_checkHead 296 = .ok (.iastore, 1) := by decide +kernel
theorem d_Model_checkHead_297 : decode b_Model_checkHead 297 = .ok (.aload_n 0, 1) := by decide +kernel
theorem d_Model_checkHead_298 : decode b_Model_checkHead 298 = .ok (.getfield 69, 3) := by decide +kernel
theorem fl_Model_69 : Cond.fieldLink R_Model 69 "PointerHouseModel" "deadMask" "[I" ∈ lw_good := lg_right (i := 1849) (by decide +kernel) rfl
theorem d_Model_checkHead_301 : decode b_Model_checkHead 301 = .ok (.iload_n 1, 1) := by decide +kernel
theorem d_Model_checkHead_302 : decode b_Model_checkHead 302 = .ok (.iconst 0, 1) := by decide +kernel
theorem d_Model_checkHead_303 : decode b_Model_checkHead 303 = .ok (.iastore, 1) := by decide +kernel
theorem d_Model_checkHead_304 : decode b_Model_checkHead 304 = .ok (.iconst 0, 1) := by decide +kernel
theorem d_Model_checkHead_305 : decode b_Model_checkHead 305 = .ok (.istore_n 3, 1) := by decide +kernel
theorem d_Model_checkHead_306 : decode b_Model_checkHead 306 = .ok (.iload_n 3, 1) := by decide +kernel
theorem d_Model_checkHead_307 : decode b_Model_checkHead 307 = .ok (.aload_n 0, 1) := by decide +kernel
theorem d_Model_checkHead_308 : decode b_Model_checkHead 308 = .ok (.getfield 60, 3) := by decide +kernel
theorem d_Model_checkHead_311 : decode b_Model_checkHead 311 = .ok (.iload_n 1, 1) := by decide +kernel
theorem d_Model_checkHead_312 : decode b_Model_checkHead 312 = .ok (.iaload, 1) := by decide +kernel
theorem d_Model_checkHead_313 : decode b_Model_checkHead 313 = .ok (.if_icmp .ge 102, 3) := by decide +kernel
theorem d_Model_checkHead_316 : decode b_Model_checkHead 316 = .ok (.aload_n 0, 1) := by decide +kernel
theorem d_Model_checkHead_317 : decode b_Model_checkHead 317 = .ok (.invokevirtual 385, 3) := by decide +kernel
theorem d_Model_checkHead_320 : decode b_Model_checkHead 320 = .ok (.ifCond .ne 95, 3) := by decide +kernel
theorem d_Model_checkHead_323 : decode b_Model_checkHead 323 = .ok (.aload_n 0, 1) := by decide +kernel
theorem d_Model_checkHead_324 : decode b_Model_checkHead 324 = .ok (.iload_n 1, 1) := by decide +kernel
theorem d_Model_checkHead_325 : decode b_Model_checkHead 325 = .ok (.aload_n 0, 1) := by decide +kernel
theorem d_Model_checkHead_326 : decode b_Model_checkHead 326 = .ok (.getfield 63, 3) := by decide +kernel
theorem d_Model_checkHead_329 : decode b_Model_checkHead 329 = .ok (.iconst 3, 1) := by decide +kernel
theorem d_Model_checkHead_330 : decode b_Model_checkHead 330 = .ok (.iload_n 1, 1) := by decide +kernel
theorem d_Model_checkHead_331 : decode b_Model_checkHead 331 = .ok (.imul, 1) := by decide +kernel
theorem d_Model_checkHead_332 : decode b_Model_checkHead 332 = .ok (.iload_n 3, 1) := by decide +kernel
theorem d_Model_checkHead_333 : decode b_Model_checkHead 333 = .ok (.iadd, 1) := by decide +kernel
theorem d_Model_checkHead_334 : decode b_Model_checkHead 334 = .ok (.laload, 1) := by decide +kernel
theorem d_Model_checkHead_335 : decode b_Model_checkHead 335 = .ok (.invokevirtual 616, 3) := by decide +kernel
theorem ml_Model_616 : Cond.methodLink R_Model 616 ⟨"PointerHouseModel", "regionOfItem", "(IJ)I"⟩ ∈ lw_good := lg_right (i := 2520) (by decide +kernel) rfl
theorem d_Model_checkHead_338 : decode b_Model_checkHead 338 = .ok (.istore 4, 2) := by decide +kernel
theorem d_Model_checkHead_340 : decode b_Model_checkHead 340 = .ok (.iload 4, 2) := by decide +kernel
theorem d_Model_checkHead_342 : decode b_Model_checkHead 342 = .ok (.ifCond .ge 21, 3) := by decide +kernel
theorem d_Model_checkHead_345 : decode b_Model_checkHead 345 = .ok (.aload_n 0, 1) := by decide +kernel
theorem d_Model_checkHead_346 : decode b_Model_checkHead 346 = .ok (.iconst 3, 1) := by decide +kernel
theorem d_Model_checkHead_347 : decode b_Model_checkHead 347 = .ok (.aload_n 0, 1) := by decide +kernel
theorem d_Model_checkHead_348 : decode b_Model_checkHead 348 = .ok (.getfield 66, 3) := by decide +kernel
theorem d_Model_checkHead_351 : decode b_Model_checkHead 351 = .ok (.iconst 3, 1) := by decide +kernel
theorem d_Model_checkHead_352 : decode b_Model_checkHead 352 = .ok (.iload_n 1, 1) := by decide +kernel
theorem d_Model_checkHead_353 : decode b_Model_checkHead 353 = .ok (.imul, 1) := by decide +kernel
theorem d_Model_checkHead_354 : decode b_Model_checkHead 354 = .ok (.iload_n 3, 1) := by decide +kernel
theorem d_Model_checkHead_355 : decode b_Model_checkHead 355 = .ok (.iadd, 1) := by decide +kernel
theorem d_Model_checkHead_356 : decode b_Model_checkHead 356 = .ok (.iaload, 1) := by decide +kernel
theorem d_Model_checkHead_357 : decode b_Model_checkHead 357 = .ok (.invokevirtual 381, 3) := by decide +kernel
theorem d_Model_checkHead_360 : decode b_Model_checkHead 360 = .ok (.goto 49, 3) := by decide +kernel
theorem d_Model_checkHead_363 : decode b_Model_checkHead 363 = .ok (.aload_n 0, 1) := by decide +kernel
theorem d_Model_checkHead_364 : decode b_Model_checkHead 364 = .ok (.getfield 69, 3) := by decide +kernel
theorem d_Model_checkHead_367 : decode b_Model_checkHead 367 = .ok (.iload_n 1, 1) := by decide +kernel
theorem d_Model_checkHead_368 : decode b_Model_checkHead 368 = .ok (.iaload, 1) := by decide +kernel
theorem d_Model_checkHead_369 : decode b_Model_checkHead 369 = .ok (.iload 4, 2) := by decide +kernel
theorem d_Model_checkHead_371 : decode b_Model_checkHead 371 = .ok (.ishr, 1) := by decide +kernel
theorem d_Model_checkHead_372 : decode b_Model_checkHead 372 = .ok (.iconst 1, 1) := by decide +kernel
theorem d_Model_checkHead_373 : decode b_Model_checkHead 373 = .ok (.iand, 1) := by decide +kernel
theorem d_Model_checkHead_374 : decode b_Model_checkHead 374 = .ok (.iconst 1, 1) := by decide +kernel
theorem d_Model_checkHead_375 : decode b_Model_checkHead 375 = .ok (.if_icmp .ne 21, 3) := by decide +kernel
theorem d_Model_checkHead_378 : decode b_Model_checkHead 378 = .ok (.aload_n 0, 1) := by decide +kernel
theorem d_Model_checkHead_379 : decode b_Model_checkHead 379 = .ok (.iconst 2, 1) := by decide +kernel
theorem d_Model_checkHead_380 : decode b_Model_checkHead 380 = .ok (.aload_n 0, 1) := by decide +kernel
theorem d_Model_checkHead_381 : decode b_Model_checkHead 381 = .ok (.getfield 66, 3) := by decide +kernel
theorem d_Model_checkHead_384 : decode b_Model_checkHead 384 = .ok (.iconst 3, 1) := by decide +kernel
theorem d_Model_checkHead_385 : decode b_Model_checkHead 385 = .ok (.iload_n 1, 1) := by decide +kernel
theorem d_Model_checkHead_386 : decode b_Model_checkHead 386 = .ok (.imul, 1) := by decide +kernel
theorem d_Model_checkHead_387 : decode b_Model_checkHead 387 = .ok (.iload_n 3, 1) := by decide +kernel
theorem d_Model_checkHead_388 : decode b_Model_checkHead 388 = .ok (.iadd, 1) := by decide +kernel
theorem d_Model_checkHead_389 : decode b_Model_checkHead 389 = .ok (.iaload, 1) := by decide +kernel
theorem d_Model_checkHead_390 : decode b_Model_checkHead 390 = .ok (.invokevirtual 381, 3) := by decide +kernel
theorem d_Model_checkHead_393 : decode b_Model_checkHead 393 = .ok (.goto 16, 3) := by decide +kernel
theorem d_Model_checkHead_396 : decode b_Model_checkHead 396 = .ok (.aload_n 0, 1) := by decide +kernel
theorem d_Model_checkHead_397 : decode b_Model_checkHead 397 = .ok (.getfield 69, 3) := by decide +kernel
theorem d_Model_checkHead_400 : decode b_Model_checkHead 400 = .ok (.iload_n 1, 1) := by decide +kernel
theorem d_Model_checkHead_401 : decode b_Model_checkHead 401 = .ok (.dup2, 1) := by decide +kernel
theorem d_Model_checkHead_402 : decode b_Model_checkHead 402 = .ok (.iaload, 1) := by decide +kernel
theorem d_Model_checkHead_403 : decode b_Model_checkHead 403 = .ok (.iconst 1, 1) := by decide +kernel
theorem d_Model_checkHead_404 : decode b_Model_checkHead 404 = .ok (.iload 4, 2) := by decide +kernel
theorem d_Model_checkHead_406 : decode b_Model_checkHead 406 = .ok (.ishl, 1) := by decide +kernel
theorem d_Model_checkHead_407 : decode b_Model_checkHead 407 = .ok (.ior, 1) := by decide +kernel
theorem d_Model_checkHead_408 : decode b_Model_checkHead 408 = .ok (.iastore, 1) := by decide +kernel
theorem d_Model_checkHead_409 : decode b_Model_checkHead 409 = .ok (.iinc 3 1, 3) := by decide +kernel
theorem d_Model_checkHead_412 : decode b_Model_checkHead 412 = .ok (.goto (-106), 3) := by decide +kernel
theorem d_Model_checkHead_415 : decode b_Model_checkHead 415 = .ok (.iconst 0, 1) := by decide +kernel
theorem d_Model_checkHead_416 : decode b_Model_checkHead 416 = .ok (.istore_n 3, 1) := by decide +kernel
theorem d_Model_checkHead_417 : decode b_Model_checkHead 417 = .ok (.iload_n 3, 1) := by decide +kernel
theorem d_Model_checkHead_418 : decode b_Model_checkHead 418 = .ok (.iconst 2, 1) := by decide +kernel
theorem d_Model_checkHead_419 : decode b_Model_checkHead 419 = .ok (.aload_n 0, 1) := by decide +kernel
theorem d_Model_checkHead_420 : decode b_Model_checkHead 420 = .ok (.getfield 72, 3) := by decide +kernel
theorem d_Model_checkHead_423 : decode b_Model_checkHead 423 = .ok (.iload_n 1, 1) := by decide +kernel
theorem d_Model_checkHead_424 : decode b_Model_checkHead 424 = .ok (.iaload, 1) := by decide +kernel
theorem d_Model_checkHead_425 : decode b_Model_checkHead 425 = .ok (.imul, 1) := by decide +kernel
theorem d_Model_checkHead_426 : decode b_Model_checkHead 426 = .ok (.if_icmp .ge 51, 3) := by decide +kernel
theorem d_Model_checkHead_429 : decode b_Model_checkHead 429 = .ok (.aload_n 0, 1) := by decide +kernel
theorem d_Model_checkHead_430 : decode b_Model_checkHead 430 = .ok (.invokevirtual 385, 3) := by decide +kernel
theorem d_Model_checkHead_433 : decode b_Model_checkHead 433 = .ok (.ifCond .ne 44, 3) := by decide +kernel
theorem d_Model_checkHead_436 : decode b_Model_checkHead 436 = .ok (.aload_n 0, 1) := by decide +kernel
theorem d_Model_checkHead_437 : decode b_Model_checkHead 437 = .ok (.iload_n 1, 1) := by decide +kernel
theorem d_Model_checkHead_438 : decode b_Model_checkHead 438 = .ok (.aload_n 0, 1) := by decide +kernel
theorem d_Model_checkHead_439 : decode b_Model_checkHead 439 = .ok (.getfield 75, 3) := by decide +kernel
theorem d_Model_checkHead_442 : decode b_Model_checkHead 442 = .ok (.bipush 6, 2) := by decide +kernel
theorem d_Model_checkHead_444 : decode b_Model_checkHead 444 = .ok (.iload_n 1, 1) := by decide +kernel
theorem d_Model_checkHead_445 : decode b_Model_checkHead 445 = .ok (.imul, 1) := by decide +kernel
theorem d_Model_checkHead_446 : decode b_Model_checkHead 446 = .ok (.iload_n 3, 1) := by decide +kernel
theorem d_Model_checkHead_447 : decode b_Model_checkHead 447 = .ok (.iadd, 1) := by decide +kernel
theorem d_Model_checkHead_448 : decode b_Model_checkHead 448 = .ok (.laload, 1) := by decide +kernel
theorem d_Model_checkHead_449 : decode b_Model_checkHead 449 = .ok (.invokevirtual 616, 3) := by decide +kernel
theorem d_Model_checkHead_452 : decode b_Model_checkHead 452 = .ok (.ifCond .ge 19, 3) := by decide +kernel
theorem d_Model_checkHead_455 : decode b_Model_checkHead 455 = .ok (.aload_n 0, 1) := by decide +kernel
theorem d_Model_checkHead_456 : decode b_Model_checkHead 456 = .ok (.iconst 3, 1) := by decide +kernel
theorem d_Model_checkHead_457 : decode b_Model_checkHead 457 = .ok (.aload_n 0, 1) := by decide +kernel
theorem d_Model_checkHead_458 : decode b_Model_checkHead 458 = .ok (.getfield 78, 3) := by decide +kernel
theorem d_Model_checkHead_461 : decode b_Model_checkHead 461 = .ok (.bipush 6, 2) := by decide +kernel
theorem d_Model_checkHead_463 : decode b_Model_checkHead 463 = .ok (.iload_n 1, 1) := by decide +kernel
theorem d_Model_checkHead_464 : decode b_Model_checkHead 464 = .ok (.imul, 1) := by decide +kernel
theorem d_Model_checkHead_465 : decode b_Model_checkHead 465 = .ok (.iload_n 3, 1) := by decide +kernel
theorem d_Model_checkHead_466 : decode b_Model_checkHead 466 = .ok (.iadd, 1) := by decide +kernel
theorem d_Model_checkHead_467 : decode b_Model_checkHead 467 = .ok (.iaload, 1) := by decide +kernel
theorem d_Model_checkHead_468 : decode b_Model_checkHead 468 = .ok (.invokevirtual 381, 3) := by decide +kernel
theorem d_Model_checkHead_471 : decode b_Model_checkHead 471 = .ok (.iinc 3 1, 3) := by decide +kernel
theorem d_Model_checkHead_474 : decode b_Model_checkHead 474 = .ok (.goto (-57), 3) := by decide +kernel
theorem d_Model_checkHead_477 : decode b_Model_checkHead 477 = .ok (.return_, 1) := by decide +kernel
abbrev b_Model_checkHeads : ByteArray := prog_14_method_67_code
abbrev y_Model_checkHeads : MethodName := ⟨R_Model, "checkHeads", "()V"⟩
theorem co_Model_checkHeads : Cond.code y_Model_checkHeads b_Model_checkHeads 2 none ∈ lw_good := lg_in (tin_11 _ (List.mem_of_getElem? (i := 78) rfl)) rfl
abbrev w_Model_checkHeads : List Cond := Cond.code y_Model_checkHeads b_Model_checkHeads 2 none :: lw_good
theorem im_Model_checkHeads : Cond.instanceMethod y_Model_checkHeads ∈ lw_good := lg_right (i := 2477) (by decide +kernel) rfl
theorem se_Model_checkHeads : Cond.selects R_Model y_Model_checkHeads y_Model_checkHeads ∈ lw_good := lg_left (i := 148) (by decide +kernel) rfl
theorem d_Model_checkHeads_0 : decode b_Model_checkHeads 0 = .ok (.aload_n 0, 1) := by decide +kernel
theorem d_Model_checkHeads_1 : decode b_Model_checkHeads 1 = .ok (.iconst 1, 1) := by decide +kernel
theorem d_Model_checkHeads_2 : decode b_Model_checkHeads 2 = .ok (.putfield 547, 3) := by decide +kernel
theorem d_Model_checkHeads_5 : decode b_Model_checkHeads 5 = .ok (.iconst 0, 1) := by decide +kernel
theorem d_Model_checkHeads_6 : decode b_Model_checkHeads 6 = .ok (.istore_n 1, 1) := by decide +kernel
theorem d_Model_checkHeads_7 : decode b_Model_checkHeads 7 = .ok (.iload_n 1, 1) := by decide +kernel
theorem d_Model_checkHeads_8 : decode b_Model_checkHeads 8 = .ok (.aload_n 0, 1) := by decide +kernel
theorem d_Model_checkHeads_9 : decode b_Model_checkHeads 9 = .ok (.getfield 412, 3) := by decide +kernel
theorem d_Model_checkHeads_12 : decode b_Model_checkHeads 12 = .ok (.if_icmp .ge 21, 3) := by decide +kernel
theorem d_Model_checkHeads_15 : decode b_Model_checkHeads 15 = .ok (.aload_n 0, 1) := by decide +kernel
theorem d_Model_checkHeads_16 : decode b_Model_checkHeads 16 = .ok (.invokevirtual 385, 3) := by decide +kernel
theorem d_Model_checkHeads_19 : decode b_Model_checkHeads 19 = .ok (.ifCond .ne 14, 3) := by decide +kernel
theorem d_Model_checkHeads_22 : decode b_Model_checkHeads 22 = .ok (.aload_n 0, 1) := by decide +kernel
theorem d_Model_checkHeads_23 : decode b_Model_checkHeads 23 = .ok (.iload_n 1, 1) := by decide +kernel
theorem d_Model_checkHeads_24 : decode b_Model_checkHeads 24 = .ok (.invokevirtual 619, 3) := by decide +kernel
theorem ml_Model_619 : Cond.methodLink R_Model 619 ⟨"PointerHouseModel", "checkHead", "(I)V"⟩ ∈ lw_good := lg_right (i := 2479) (by decide +kernel) rfl
theorem d_Model_checkHeads_27 : decode b_Model_checkHeads 27 = .ok (.iinc 1 1, 3) := by decide +kernel
theorem d_Model_checkHeads_30 : decode b_Model_checkHeads 30 = .ok (.goto (-23), 3) := by decide +kernel
theorem d_Model_checkHeads_33 : decode b_Model_checkHeads 33 = .ok (.aload_n 0, 1) := by decide +kernel
theorem d_Model_checkHeads_34 : decode b_Model_checkHeads 34 = .ok (.ldc_w 622, 3) := by decide +kernel
theorem d_Model_checkHeads_37 : decode b_Model_checkHeads 37 = .ok (.invokestatic 389, 3) := by decide +kernel
theorem d_Model_checkHeads_40 : decode b_Model_checkHeads 40 = .ok (.invokevirtual 606, 3) := by decide +kernel
theorem d_Model_checkHeads_43 : decode b_Model_checkHeads 43 = .ok (.istore_n 1, 1) := by decide +kernel
theorem d_Model_checkHeads_44 : decode b_Model_checkHeads 44 = .ok (.iload_n 1, 1) := by decide +kernel
theorem d_Model_checkHeads_45 : decode b_Model_checkHeads 45 = .ok (.ifCond .lt 30, 3) := by decide +kernel
theorem d_Model_checkHeads_48 : decode b_Model_checkHeads 48 = .ok (.aload_n 0, 1) := by decide +kernel
theorem d_Model_checkHeads_49 : decode b_Model_checkHeads 49 = .ok (.getfield 27, 3) := by decide +kernel
theorem d_Model_checkHeads_52 : decode b_Model_checkHeads 52 = .ok (.iload_n 1, 1) := by decide +kernel
theorem d_Model_checkHeads_53 : decode b_Model_checkHeads 53 = .ok (.iaload, 1) := by decide +kernel
theorem d_Model_checkHeads_54 : decode b_Model_checkHeads 54 = .ok (.ifCond .gt 21, 3) := by decide +kernel
theorem d_Model_checkHeads_57 : decode b_Model_checkHeads 57 = .ok (.aload_n 0, 1) := by decide +kernel
theorem d_Model_checkHeads_58 : decode b_Model_checkHeads 58 = .ok (.getfield 39, 3) := by decide +kernel
theorem d_Model_checkHeads_61 : decode b_Model_checkHeads 61 = .ok (.iload_n 1, 1) := by decide +kernel
theorem d_Model_checkHeads_62 : decode b_Model_checkHeads 62 = .ok (.iaload, 1) := by decide +kernel
theorem d_Model_checkHeads_63 : decode b_Model_checkHeads 63 = .ok (.ifCond .gt 12, 3) := by decide +kernel
theorem d_Model_checkHeads_66 : decode b_Model_checkHeads 66 = .ok (.aload_n 0, 1) := by decide +kernel
theorem d_Model_checkHeads_67 : decode b_Model_checkHeads 67 = .ok (.getfield 54, 3) := by decide +kernel
theorem d_Model_checkHeads_70 : decode b_Model_checkHeads 70 = .ok (.iload_n 1, 1) := by decide +kernel
theorem d_Model_checkHeads_71 : decode b_Model_checkHeads 71 = .ok (.iaload, 1) := by decide +kernel
theorem d_Model_checkHeads_72 : decode b_Model_checkHeads 72 = .ok (.ifCond .lt 13, 3) := by decide +kernel
theorem d_Model_checkHeads_75 : decode b_Model_checkHeads 75 = .ok (.aload_n 0, 1) := by decide +kernel
theorem d_Model_checkHeads_76 : decode b_Model_checkHeads 76 = .ok (.bipush 8, 2) := by decide +kernel
theorem d_Model_checkHeads_78 : decode b_Model_checkHeads 78 = .ok (.aload_n 0, 1) := by decide +kernel
theorem d_Model_checkHeads_79 : decode b_Model_checkHeads 79 = .ok (.getfield 313, 3) := by decide +kernel
theorem d_Model_checkHeads_82 : decode b_Model_checkHeads 82 = .ok (.invokevirtual 381, 3) := by decide +kernel
theorem d_Model_checkHeads_85 : decode b_Model_checkHeads 85 = .ok (.return_, 1) := by decide +kernel
abbrev b_Model_packed : ByteArray := prog_14_method_9_code
abbrev y_Model_packed : MethodName := ⟨R_Model, "packed", "(Ljava/lang/String;)J"⟩
theorem co_Model_packed : Cond.code y_Model_packed b_Model_packed 4 (some .long) ∈ lw_good := lg_in (tin_10 _ (List.mem_of_getElem? (i := 189) rfl)) rfl
abbrev w_Model_packed : List Cond := Cond.code y_Model_packed b_Model_packed 4 (some .long) :: lw_good
theorem st_Model_packed : Cond.static y_Model_packed ∈ lw_good := lg_right (i := 2348) (by decide +kernel) rfl
theorem d_Model_packed_0 : decode b_Model_packed 0 = .ok (.lconst 0, 1) := by decide +kernel
theorem d_Model_packed_1 : decode b_Model_packed 1 = .ok (.lstore_n 1, 1) := by decide +kernel
theorem d_Model_packed_2 : decode b_Model_packed 2 = .ok (.iconst 0, 1) := by decide +kernel
theorem d_Model_packed_3 : decode b_Model_packed 3 = .ok (.istore_n 3, 1) := by decide +kernel
theorem d_Model_packed_4 : decode b_Model_packed 4 = .ok (.iload_n 3, 1) := by decide +kernel
theorem d_Model_packed_5 : decode b_Model_packed 5 = .ok (.aload_n 0, 1) := by decide +kernel
theorem d_Model_packed_6 : decode b_Model_packed 6 = .ok (.invokevirtual 330, 3) := by decide +kernel
theorem ml_Model_330 : Cond.methodLink R_Model 330 ⟨"java/lang/String", "length", "()I"⟩ ∈ lw_good := lg_right (i := 2331) (by decide +kernel) rfl
theorem d_Model_packed_9 : decode b_Model_packed 9 = .ok (.if_icmp .ge 21, 3) := by decide +kernel
theorem d_Model_packed_12 : decode b_Model_packed 12 = .ok (.lload_n 1, 1) := by decide +kernel
theorem d_Model_packed_13 : decode b_Model_packed 13 = .ok (.bipush 8, 2) := by decide +kernel
theorem d_Model_packed_15 : decode b_Model_packed 15 = .ok (.lshl, 1) := by decide +kernel
theorem d_Model_packed_16 : decode b_Model_packed 16 = .ok (.aload_n 0, 1) := by decide +kernel
theorem d_Model_packed_17 : decode b_Model_packed 17 = .ok (.iload_n 3, 1) := by decide +kernel
theorem d_Model_packed_18 : decode b_Model_packed 18 = .ok (.invokevirtual 336, 3) := by decide +kernel
theorem ml_Model_336 : Cond.methodLink R_Model 336 ⟨"java/lang/String", "charAt", "(I)C"⟩ ∈ lw_good := lg_right (i := 2332) (by decide +kernel) rfl
theorem d_Model_packed_21 : decode b_Model_packed 21 = .ok (.i2l, 1) := by decide +kernel
theorem d_Model_packed_22 : decode b_Model_packed 22 = .ok (.lor, 1) := by decide +kernel
theorem d_Model_packed_23 : decode b_Model_packed 23 = .ok (.lstore_n 1, 1) := by decide +kernel
theorem d_Model_packed_24 : decode b_Model_packed 24 = .ok (.iinc 3 1, 3) := by decide +kernel
theorem d_Model_packed_27 : decode b_Model_packed 27 = .ok (.goto (-23), 3) := by decide +kernel
theorem d_Model_packed_30 : decode b_Model_packed 30 = .ok (.lload_n 1, 1) := by decide +kernel
theorem d_Model_packed_31 : decode b_Model_packed 31 = .ok (.lreturn, 1) := by decide +kernel
section GV
variable {p : Program} {l : Launch} {e : Env} {R : Room} {s : State} {m : MethodId} {args : Array Value} {below : List Frame} {meth : Method} {c : Code} {H : Heap} {locs : List Loc} {cells slots : Nat} {Q : State → Prop}
variable {cc : ByteArray} {pc : Nat} {ls : Array Slot} {rest st0 : List Value} {dC : Nat → ClassId} {dI : Nat → Nat → Nat} {A : Nat → Prop} {ad ea ev : Nat → Nat} {km : Nat → ClassId} {T T' : gSt} {H0 : Heap}
theorem rd_Model_563 (hx : p.tables.exec = Jvm.exec) (hb : c.code = cc) (hT : ∀ w ∈ lw_good, w.before args s = true) (hown : s.vm.findClass R_Model = some m.cls) (hK : va_K (dC, dI) cls_all (gT LM km) s) (hP : va_P (dC, dI) cls_all (gW LM ad km T) H) (hdg : decode cc pc = .ok (.getfield 563, 3)) (kk : W p l e R s m args below meth c H locs cells slots Q (F0 m (pc + 3) ls (.int (T.1 77 0) :: rest))) : W p l e R s m args below meth c H locs cells slots Q (F0 m pc ls (.ref (ad 0) :: rest)) := gw_get hx hb hT i_Model hown hK hP 0 77 77 (Nat.le_of_ble_eq_true rfl) rfl rfl (Nat.le_of_ble_eq_true rfl) rfl (gv_i rfl) (hT _ fl_Model_563) (fun _ h9 => h9) hdg kk
theorem rd_Model_180 (hx : p.tables.exec = Jvm.exec) (hb : c.code = cc) (hT : ∀ w ∈ lw_good, w.before args s = true) (hown : s.vm.findClass R_Model = some m.cls) (hK : va_K (dC, dI) cls_all (gT LM km) s) (hP : va_P (dC, dI) cls_all (gW LM ad km T) H) (hdg : decode cc pc = .ok (.getfield 180, 3)) (kk : W p l e R s m args below meth c H locs cells slots Q (F0 m (pc + 3) ls (.ref (ad 56) :: rest))) : W p l e R s m args below meth c H locs cells slots Q (F0 m pc ls (.ref (ad 0) :: rest)) := gw_get hx hb hT i_Model hown hK hP 0 78 78 (Nat.le_of_ble_eq_true rfl) rfl rfl (Nat.le_of_ble_eq_true rfl) rfl (gv_a rfl) (hT _ fl_Model_180) (fun _ h9 => h9) hdg kk
theorem laM_55 (hx : p.tables.exec = Jvm.exec) (hb : c.code = cc) (hK : va_K (dC, dI) cls_all (gT LM km) s) (hP : va_P (dC, dI) cls_all (gW LM ad km T) H) {x : Int32} (hin : inb x 20) (hdg : decode cc pc = .ok (.laload, 1)) (kk : W p l e R s m args below meth c H locs cells slots Q (F0 m (pc + 1) ls (.long (T.2 78 x.toNatClampNeg) :: rest))) : W p l e R s m args below meth c H locs cells slots Q (F0 m pc ls (.int x :: .ref (ad 56) :: rest)) := gw_lald hx hb hK hP 55 78 20 56 (Nat.le_of_ble_eq_true rfl) rfl rfl rfl rfl rfl hin hdg kk
theorem saM_55 (hx : p.tables.exec = Jvm.exec) (hb : c.code = cc) (hK : va_K (dC, dI) cls_all (gT LM km) s) (hP : va_P (dC, dI) cls_all (gW LM ad km T) H) (hD : va_D A (gW LM ad km T)) (hS : va_S A H0 H locs) {x : Int32} {v : Int64} (hin : inb x 20) (hdg : decode cc pc = .ok (.lastore, 1)) (kk : ∀ (T1 : gSt), T1 = sJ T 78 x.toNatClampNeg v → ∀ (H1 : Heap) (locs1 : List Loc), va_P (dC, dI) cls_all (gW LM ad km T1) H1 → va_D A (gW LM ad km T1) → va_S A H0 H1 locs1 → W p l e R s m args below meth c H1 locs1 cells slots Q (F0 m (pc + 1) ls rest)) : W p l e R s m args below meth c H locs cells slots Q (F0 m pc ls (.long v :: .int x :: .ref (ad 56) :: rest)) := gw_last okM hx hb hK hP hD hS 55 78 20 56 (Nat.le_of_ble_eq_true rfl) rfl rfl rfl rfl rfl hin hdg kk
theorem rd_Model_568 (hx : p.tables.exec = Jvm.exec) (hb : c.code = cc) (hT : ∀ w ∈ lw_good, w.before args s = true) (hown : s.vm.findClass R_Model = some m.cls) (hK : va_K (dC, dI) cls_all (gT LM km) s) (hP : va_P (dC, dI) cls_all (gW LM ad km T) H) (hdg : decode cc pc = .ok (.getfield 568, 3)) (kk : W p l e R s m args below meth c H locs cells slots Q (F0 m (pc + 3) ls (.int (T.1 71 0) :: rest))) : W p l e R s m args below meth c H locs cells slots Q (F0 m pc ls (.ref (ad 0) :: rest)) := gw_get hx hb hT i_Model hown hK hP 0 71 71 (Nat.le_of_ble_eq_true rfl) rfl rfl (Nat.le_of_ble_eq_true rfl) rfl (gv_i rfl) (hT _ fl_Model_568) (fun _ h9 => h9) hdg kk
theorem rd_Model_171 (hx : p.tables.exec = Jvm.exec) (hb : c.code = cc) (hT : ∀ w ∈ lw_good, w.before args s = true) (hown : s.vm.findClass R_Model = some m.cls) (hK : va_K (dC, dI) cls_all (gT LM km) s) (hP : va_P (dC, dI) cls_all (gW LM ad km T) H) (hdg : decode cc pc = .ok (.getfield 171, 3)) (kk : W p l e R s m args below meth c H locs cells slots Q (F0 m (pc + 3) ls (.ref (ad 53) :: rest))) : W p l e R s m args below meth c H locs cells slots Q (F0 m pc ls (.ref (ad 0) :: rest)) := gw_get hx hb hT i_Model hown hK hP 0 72 72 (Nat.le_of_ble_eq_true rfl) rfl rfl (Nat.le_of_ble_eq_true rfl) rfl (gv_a rfl) (hT _ fl_Model_171) (fun _ h9 => h9) hdg kk
theorem laM_52 (hx : p.tables.exec = Jvm.exec) (hb : c.code = cc) (hK : va_K (dC, dI) cls_all (gT LM km) s) (hP : va_P (dC, dI) cls_all (gW LM ad km T) H) {x : Int32} (hin : inb x 12) (hdg : decode cc pc = .ok (.laload, 1)) (kk : W p l e R s m args below meth c H locs cells slots Q (F0 m (pc + 1) ls (.long (T.2 72 x.toNatClampNeg) :: rest))) : W p l e R s m args below meth c H locs cells slots Q (F0 m pc ls (.int x :: .ref (ad 53) :: rest)) := gw_lald hx hb hK hP 52 72 12 53 (Nat.le_of_ble_eq_true rfl) rfl rfl rfl rfl rfl hin hdg kk
theorem saM_52 (hx : p.tables.exec = Jvm.exec) (hb : c.code = cc) (hK : va_K (dC, dI) cls_all (gT LM km) s) (hP : va_P (dC, dI) cls_all (gW LM ad km T) H) (hD : va_D A (gW LM ad km T)) (hS : va_S A H0 H locs) {x : Int32} {v : Int64} (hin : inb x 12) (hdg : decode cc pc = .ok (.lastore, 1)) (kk : ∀ (T1 : gSt), T1 = sJ T 72 x.toNatClampNeg v → ∀ (H1 : Heap) (locs1 : List Loc), va_P (dC, dI) cls_all (gW LM ad km T1) H1 → va_D A (gW LM ad km T1) → va_S A H0 H1 locs1 → W p l e R s m args below meth c H1 locs1 cells slots Q (F0 m (pc + 1) ls rest)) : W p l e R s m args below meth c H locs cells slots Q (F0 m pc ls (.long v :: .int x :: .ref (ad 53) :: rest)) := gw_last okM hx hb hK hP hD hS 52 72 12 53 (Nat.le_of_ble_eq_true rfl) rfl rfl rfl rfl rfl hin hdg kk
theorem rd_Model_174 (hx : p.tables.exec = Jvm.exec) (hb : c.code = cc) (hT : ∀ w ∈ lw_good, w.before args s = true) (hown : s.vm.findClass R_Model = some m.cls) (hK : va_K (dC, dI) cls_all (gT LM km) s) (hP : va_P (dC, dI) cls_all (gW LM ad km T) H) (hdg : decode cc pc = .ok (.getfield 174, 3)) (kk : W p l e R s m args below meth c H locs cells slots Q (F0 m (pc + 3) ls (.ref (ad 54) :: rest))) : W p l e R s m args below meth c H locs cells slots Q (F0 m pc ls (.ref (ad 0) :: rest)) := gw_get hx hb hT i_Model hown hK hP 0 73 73 (Nat.le_of_ble_eq_true rfl) rfl rfl (Nat.le_of_ble_eq_true rfl) rfl (gv_a rfl) (hT _ fl_Model_174) (fun _ h9 => h9) hdg kk
theorem laM_53 (hx : p.tables.exec = Jvm.exec) (hb : c.code = cc) (hK : va_K (dC, dI) cls_all (gT LM km) s) (hP : va_P (dC, dI) cls_all (gW LM ad km T) H) {x : Int32} (hin : inb x 12) (hdg : decode cc pc = .ok (.iaload, 1)) (kk : W p l e R s m args below meth c H locs cells slots Q (F0 m (pc + 1) ls (.int (T.1 73 x.toNatClampNeg) :: rest))) : W p l e R s m args below meth c H locs cells slots Q (F0 m pc ls (.int x :: .ref (ad 54) :: rest)) := gw_iald hx hb hK hP 53 73 12 54 (Nat.le_of_ble_eq_true rfl) rfl rfl rfl rfl rfl hin hdg kk
theorem saM_53 (hx : p.tables.exec = Jvm.exec) (hb : c.code = cc) (hK : va_K (dC, dI) cls_all (gT LM km) s) (hP : va_P (dC, dI) cls_all (gW LM ad km T) H) (hD : va_D A (gW LM ad km T)) (hS : va_S A H0 H locs) {x : Int32} {v : Int32} (hin : inb x 12) (hdg : decode cc pc = .ok (.iastore, 1)) (kk : ∀ (T1 : gSt), T1 = sI T 73 x.toNatClampNeg v → ∀ (H1 : Heap) (locs1 : List Loc), va_P (dC, dI) cls_all (gW LM ad km T1) H1 → va_D A (gW LM ad km T1) → va_S A H0 H1 locs1 → W p l e R s m args below meth c H1 locs1 cells slots Q (F0 m (pc + 1) ls rest)) : W p l e R s m args below meth c H locs cells slots Q (F0 m pc ls (.int v :: .int x :: .ref (ad 54) :: rest)) := gw_iast okM hx hb hK hP hD hS 53 73 12 54 (Nat.le_of_ble_eq_true rfl) rfl rfl rfl rfl rfl hin hdg kk
theorem rd_Model_117 (hx : p.tables.exec = Jvm.exec) (hb : c.code = cc) (hT : ∀ w ∈ lw_good, w.before args s = true) (hown : s.vm.findClass R_Model = some m.cls) (hK : va_K (dC, dI) cls_all (gT LM km) s) (hP : va_P (dC, dI) cls_all (gW LM ad km T) H) (hdg : decode cc pc = .ok (.getfield 117, 3)) (kk : W p l e R s m args below meth c H locs cells slots Q (F0 m (pc + 3) ls (.ref (ad 35) :: rest))) : W p l e R s m args below meth c H locs cells slots Q (F0 m pc ls (.ref (ad 0) :: rest)) := gw_get hx hb hT i_Model hown hK hP 0 48 48 (Nat.le_of_ble_eq_true rfl) rfl rfl (Nat.le_of_ble_eq_true rfl) rfl (gv_a rfl) (hT _ fl_Model_117) (fun _ h9 => h9) hdg kk
theorem laM_34 (hx : p.tables.exec = Jvm.exec) (hb : c.code = cc) (hK : va_K (dC, dI) cls_all (gT LM km) s) (hP : va_P (dC, dI) cls_all (gW LM ad km T) H) {x : Int32} (hin : inb x 4000) (hdg : decode cc pc = .ok (.iaload, 1)) (kk : W p l e R s m args below meth c H locs cells slots Q (F0 m (pc + 1) ls (.int (T.1 48 x.toNatClampNeg) :: rest))) : W p l e R s m args below meth c H locs cells slots Q (F0 m pc ls (.int x :: .ref (ad 35) :: rest)) := gw_iald hx hb hK hP 34 48 4000 35 (Nat.le_of_ble_eq_true rfl) rfl rfl rfl rfl rfl hin hdg kk
theorem saM_34 (hx : p.tables.exec = Jvm.exec) (hb : c.code = cc) (hK : va_K (dC, dI) cls_all (gT LM km) s) (hP : va_P (dC, dI) cls_all (gW LM ad km T) H) (hD : va_D A (gW LM ad km T)) (hS : va_S A H0 H locs) {x : Int32} {v : Int32} (hin : inb x 4000) (hdg : decode cc pc = .ok (.iastore, 1)) (kk : ∀ (T1 : gSt), T1 = sI T 48 x.toNatClampNeg v → ∀ (H1 : Heap) (locs1 : List Loc), va_P (dC, dI) cls_all (gW LM ad km T1) H1 → va_D A (gW LM ad km T1) → va_S A H0 H1 locs1 → W p l e R s m args below meth c H1 locs1 cells slots Q (F0 m (pc + 1) ls rest)) : W p l e R s m args below meth c H locs cells slots Q (F0 m pc ls (.int v :: .int x :: .ref (ad 35) :: rest)) := gw_iast okM hx hb hK hP hD hS 34 48 4000 35 (Nat.le_of_ble_eq_true rfl) rfl rfl rfl rfl rfl hin hdg kk
theorem rd_Model_575 (hx : p.tables.exec = Jvm.exec) (hb : c.code = cc) (hT : ∀ w ∈ lw_good, w.before args s = true) (hown : s.vm.findClass R_Model = some m.cls) (hK : va_K (dC, dI) cls_all (gT LM km) s) (hP : va_P (dC, dI) cls_all (gW LM ad km T) H) (hdg : decode cc pc = .ok (.getfield 575, 3)) (kk : W p l e R s m args below meth c H locs cells slots Q (F0 m (pc + 3) ls (.int (T.1 75 0) :: rest))) : W p l e R s m args below meth c H locs cells slots Q (F0 m pc ls (.ref (ad 0) :: rest)) := gw_get hx hb hT i_Model hown hK hP 0 75 75 (Nat.le_of_ble_eq_true rfl) rfl rfl (Nat.le_of_ble_eq_true rfl) rfl (gv_i rfl) (hT _ fl_Model_575) (fun _ h9 => h9) hdg kk
theorem rd_Model_593 (hx : p.tables.exec = Jvm.exec) (hb : c.code = cc) (hT : ∀ w ∈ lw_good, w.before args s = true) (hown : s.vm.findClass R_Model = some m.cls) (hK : va_K (dC, dI) cls_all (gT LM km) s) (hP : va_P (dC, dI) cls_all (gW LM ad km T) H) (hdg : decode cc pc = .ok (.getfield 593, 3)) (kk : W p l e R s m args below meth c H locs cells slots Q (F0 m (pc + 3) ls (.int (T.1 76 0) :: rest))) : W p l e R s m args below meth c H locs cells slots Q (F0 m pc ls (.ref (ad 0) :: rest)) := gw_get hx hb hT i_Model hown hK hP 0 76 76 (Nat.le_of_ble_eq_true rfl) rfl rfl (Nat.le_of_ble_eq_true rfl) rfl (gv_i rfl) (hT _ fl_Model_593) (fun _ h9 => h9) hdg kk
theorem rd_Model_177 (hx : p.tables.exec = Jvm.exec) (hb : c.code = cc) (hT : ∀ w ∈ lw_good, w.before args s = true) (hown : s.vm.findClass R_Model = some m.cls) (hK : va_K (dC, dI) cls_all (gT LM km) s) (hP : va_P (dC, dI) cls_all (gW LM ad km T) H) (hdg : decode cc pc = .ok (.getfield 177, 3)) (kk : W p l e R s m args below meth c H locs cells slots Q (F0 m (pc + 3) ls (.ref (ad 55) :: rest))) : W p l e R s m args below meth c H locs cells slots Q (F0 m pc ls (.ref (ad 0) :: rest)) := gw_get hx hb hT i_Model hown hK hP 0 74 74 (Nat.le_of_ble_eq_true rfl) rfl rfl (Nat.le_of_ble_eq_true rfl) rfl (gv_a rfl) (hT _ fl_Model_177) (fun _ h9 => h9) hdg kk
theorem laM_54 (hx : p.tables.exec = Jvm.exec) (hb : c.code = cc) (hK : va_K (dC, dI) cls_all (gT LM km) s) (hP : va_P (dC, dI) cls_all (gW LM ad km T) H) {x : Int32} (hin : inb x 12) (hdg : decode cc pc = .ok (.iaload, 1)) (kk : W p l e R s m args below meth c H locs cells slots Q (F0 m (pc + 1) ls (.int (T.1 74 x.toNatClampNeg) :: rest))) : W p l e R s m args below meth c H locs cells slots Q (F0 m pc ls (.int x :: .ref (ad 55) :: rest)) := gw_iald hx hb hK hP 54 74 12 55 (Nat.le_of_ble_eq_true rfl) rfl rfl rfl rfl rfl hin hdg kk
theorem saM_54 (hx : p.tables.exec = Jvm.exec) (hb : c.code = cc) (hK : va_K (dC, dI) cls_all (gT LM km) s) (hP : va_P (dC, dI) cls_all (gW LM ad km T) H) (hD : va_D A (gW LM ad km T)) (hS : va_S A H0 H locs) {x : Int32} {v : Int32} (hin : inb x 12) (hdg : decode cc pc = .ok (.iastore, 1)) (kk : ∀ (T1 : gSt), T1 = sI T 74 x.toNatClampNeg v → ∀ (H1 : Heap) (locs1 : List Loc), va_P (dC, dI) cls_all (gW LM ad km T1) H1 → va_D A (gW LM ad km T1) → va_S A H0 H1 locs1 → W p l e R s m args below meth c H1 locs1 cells slots Q (F0 m (pc + 1) ls rest)) : W p l e R s m args below meth c H locs cells slots Q (F0 m pc ls (.int v :: .int x :: .ref (ad 55) :: rest)) := gw_iast okM hx hb hK hP hD hS 54 74 12 55 (Nat.le_of_ble_eq_true rfl) rfl rfl rfl rfl rfl hin hdg kk
theorem wr_Model_568 (hx : p.tables.exec = Jvm.exec) (hb : c.code = cc) (hT : ∀ w ∈ lw_good, w.before args s = true) (hown : s.vm.findClass R_Model = some m.cls) (hK : va_K (dC, dI) cls_all (gT LM km) s) (hP : va_P (dC, dI) cls_all (gW LM ad km T) H) (hD : va_D A (gW LM ad km T)) (hS : va_S A H0 H locs) {v : Int32} (hdg : decode cc pc = .ok (.putfield 568, 3)) (kk : ∀ (T1 : gSt), T1 = sI T 71 0 v → ∀ (H1 : Heap) (locs1 : List Loc), va_P (dC, dI) cls_all (gW LM ad km T1) H1 → va_D A (gW LM ad km T1) → va_S A H0 H1 locs1 → W p l e R s m args below meth c H1 locs1 cells slots Q (F0 m (pc + 3) ls rest)) : W p l e R s m args below meth c H locs cells slots Q (F0 m pc ls (.int v :: .ref (ad 0) :: rest)) := gw_puti okM hx hb hT i_Model t_Model t_Model_ok n_Model hown hK hP hD hS 0 71 71 (Nat.le_of_ble_eq_true rfl) rfl rfl (Nat.le_of_ble_eq_true rfl) rfl rfl (hT _ fl_Model_568) (fun _ h9 => h9) rfl (ty := .int) (by decide +kernel) rfl rfl hdg kk
theorem rd_Model_51 (hx : p.tables.exec = Jvm.exec) (hb : c.code = cc) (hT : ∀ w ∈ lw_good, w.before args s = true) (hown : s.vm.findClass R_Model = some m.cls) (hK : va_K (dC, dI) cls_all (gT LM km) s) (hP : va_P (dC, dI) cls_all (gW LM ad km T) H) (hdg : decode cc pc = .ok (.getfield 51, 3)) (kk : W p l e R s m args below meth c H locs cells slots Q (F0 m (pc + 3) ls (.ref (ad 13) :: rest))) : W p l e R s m args below meth c H locs cells slots Q (F0 m pc ls (.ref (ad 0) :: rest)) := gw_get hx hb hT i_Model hown hK hP 0 24 24 (Nat.le_of_ble_eq_true rfl) rfl rfl (Nat.le_of_ble_eq_true rfl) rfl (gv_a rfl) (hT _ fl_Model_51) (fun _ h9 => h9) hdg kk
theorem laM_12 (hx : p.tables.exec = Jvm.exec) (hb : c.code = cc) (hK : va_K (dC, dI) cls_all (gT LM km) s) (hP : va_P (dC, dI) cls_all (gW LM ad km T) H) {x : Int32} (hin : inb x 220) (hdg : decode cc pc = .ok (.iaload, 1)) (kk : W p l e R s m args below meth c H locs cells slots Q (F0 m (pc + 1) ls (.int (T.1 24 x.toNatClampNeg) :: rest))) : W p l e R s m args below meth c H locs cells slots Q (F0 m pc ls (.int x :: .ref (ad 13) :: rest)) := gw_iald hx hb hK hP 12 24 220 13 (Nat.le_of_ble_eq_true rfl) rfl rfl rfl rfl rfl hin hdg kk
theorem saM_12 (hx : p.tables.exec = Jvm.exec) (hb : c.code = cc) (hK : va_K (dC, dI) cls_all (gT LM km) s) (hP : va_P (dC, dI) cls_all (gW LM ad km T) H) (hD : va_D A (gW LM ad km T)) (hS : va_S A H0 H locs) {x : Int32} {v : Int32} (hin : inb x 220) (hdg : decode cc pc = .ok (.iastore, 1)) (kk : ∀ (T1 : gSt), T1 = sI T 24 x.toNatClampNeg v → ∀ (H1 : Heap) (locs1 : List Loc), va_P (dC, dI) cls_all (gW LM ad km T1) H1 → va_D A (gW LM ad km T1) → va_S A H0 H1 locs1 → W p l e R s m args below meth c H1 locs1 cells slots Q (F0 m (pc + 1) ls rest)) : W p l e R s m args below meth c H locs cells slots Q (F0 m pc ls (.int v :: .int x :: .ref (ad 13) :: rest)) := gw_iast okM hx hb hK hP hD hS 12 24 220 13 (Nat.le_of_ble_eq_true rfl) rfl rfl rfl rfl rfl hin hdg kk
theorem rd_Model_57 (hx : p.tables.exec = Jvm.exec) (hb : c.code = cc) (hT : ∀ w ∈ lw_good, w.before args s = true) (hown : s.vm.findClass R_Model = some m.cls) (hK : va_K (dC, dI) cls_all (gT LM km) s) (hP : va_P (dC, dI) cls_all (gW LM ad km T) H) (hdg : decode cc pc = .ok (.getfield 57, 3)) (kk : W p l e R s m args below meth c H locs cells slots Q (F0 m (pc + 3) ls (.ref (ad 15) :: rest))) : W p l e R s m args below meth c H locs cells slots Q (F0 m pc ls (.ref (ad 0) :: rest)) := gw_get hx hb hT i_Model hown hK hP 0 26 26 (Nat.le_of_ble_eq_true rfl) rfl rfl (Nat.le_of_ble_eq_true rfl) rfl (gv_a rfl) (hT _ fl_Model_57) (fun _ h9 => h9) hdg kk
theorem laM_14 (hx : p.tables.exec = Jvm.exec) (hb : c.code = cc) (hK : va_K (dC, dI) cls_all (gT LM km) s) (hP : va_P (dC, dI) cls_all (gW LM ad km T) H) {x : Int32} (hin : inb x 24) (hdg : decode cc pc = .ok (.iaload, 1)) (kk : W p l e R s m args below meth c H locs cells slots Q (F0 m (pc + 1) ls (.int (T.1 26 x.toNatClampNeg) :: rest))) : W p l e R s m args below meth c H locs cells slots Q (F0 m pc ls (.int x :: .ref (ad 15) :: rest)) := gw_iald hx hb hK hP 14 26 24 15 (Nat.le_of_ble_eq_true rfl) rfl rfl rfl rfl rfl hin hdg kk
theorem saM_14 (hx : p.tables.exec = Jvm.exec) (hb : c.code = cc) (hK : va_K (dC, dI) cls_all (gT LM km) s) (hP : va_P (dC, dI) cls_all (gW LM ad km T) H) (hD : va_D A (gW LM ad km T)) (hS : va_S A H0 H locs) {x : Int32} {v : Int32} (hin : inb x 24) (hdg : decode cc pc = .ok (.iastore, 1)) (kk : ∀ (T1 : gSt), T1 = sI T 26 x.toNatClampNeg v → ∀ (H1 : Heap) (locs1 : List Loc), va_P (dC, dI) cls_all (gW LM ad km T1) H1 → va_D A (gW LM ad km T1) → va_S A H0 H1 locs1 → W p l e R s m args below meth c H1 locs1 cells slots Q (F0 m (pc + 1) ls rest)) : W p l e R s m args below meth c H locs cells slots Q (F0 m pc ls (.int v :: .int x :: .ref (ad 15) :: rest)) := gw_iast okM hx hb hK hP hD hS 14 26 24 15 (Nat.le_of_ble_eq_true rfl) rfl rfl rfl rfl rfl hin hdg kk
theorem rd_Model_69 (hx : p.tables.exec = Jvm.exec) (hb : c.code = cc) (hT : ∀ w ∈ lw_good, w.before args s = true) (hown : s.vm.findClass R_Model = some m.cls) (hK : va_K (dC, dI) cls_all (gT LM km) s) (hP : va_P (dC, dI) cls_all (gW LM ad km T) H) (hdg : decode cc pc = .ok (.getfield 69, 3)) (kk : W p l e R s m args below meth c H locs cells slots Q (F0 m (pc + 3) ls (.ref (ad 19) :: rest))) : W p l e R s m args below meth c H locs cells slots Q (F0 m pc ls (.ref (ad 0) :: rest)) := gw_get hx hb hT i_Model hown hK hP 0 30 30 (Nat.le_of_ble_eq_true rfl) rfl rfl (Nat.le_of_ble_eq_true rfl) rfl (gv_a rfl) (hT _ fl_Model_69) (fun _ h9 => h9) hdg kk
theorem laM_18 (hx : p.tables.exec = Jvm.exec) (hb : c.code = cc) (hK : va_K (dC, dI) cls_all (gT LM km) s) (hP : va_P (dC, dI) cls_all (gW LM ad km T) H) {x : Int32} (hin : inb x 24) (hdg : decode cc pc = .ok (.iaload, 1)) (kk : W p l e R s m args below meth c H locs cells slots Q (F0 m (pc + 1) ls (.int (T.1 30 x.toNatClampNeg) :: rest))) : W p l e R s m args below meth c H locs cells slots Q (F0 m pc ls (.int x :: .ref (ad 19) :: rest)) := gw_iald hx hb hK hP 18 30 24 19 (Nat.le_of_ble_eq_true rfl) rfl rfl rfl rfl rfl hin hdg kk
theorem saM_18 (hx : p.tables.exec = Jvm.exec) (hb : c.code = cc) (hK : va_K (dC, dI) cls_all (gT LM km) s) (hP : va_P (dC, dI) cls_all (gW LM ad km T) H) (hD : va_D A (gW LM ad km T)) (hS : va_S A H0 H locs) {x : Int32} {v : Int32} (hin : inb x 24) (hdg : decode cc pc = .ok (.iastore, 1)) (kk : ∀ (T1 : gSt), T1 = sI T 30 x.toNatClampNeg v → ∀ (H1 : Heap) (locs1 : List Loc), va_P (dC, dI) cls_all (gW LM ad km T1) H1 → va_D A (gW LM ad km T1) → va_S A H0 H1 locs1 → W p l e R s m args below meth c H1 locs1 cells slots Q (F0 m (pc + 1) ls rest)) : W p l e R s m args below meth c H locs cells slots Q (F0 m pc ls (.int v :: .int x :: .ref (ad 19) :: rest)) := gw_iast okM hx hb hK hP hD hS 18 30 24 19 (Nat.le_of_ble_eq_true rfl) rfl rfl rfl rfl rfl hin hdg kk
end GV
def mt_Model_changed (l : Launch) (dC : Nat → ClassId) (dI : Nat → Nat → Nat) (ea ev ad : Nat → Nat) (km : Nat → ClassId) (F : gF) (d : Nat) : Prop := ∀ (T : gSt) (p1 : Int32) (p2 : Int32) (r : Int32) (rl : Int64) (T' : gSt), F 43 T [p1, p2] [] = some (r, rl, T') → GMi l dC dI LM ad km ea ev y_Model_changed w_Model_changed (rmD d) [.ref (ad 0), .int p1, .int p2] T r T'
theorem pd_Model_changed : (y_Model_changed).cls = R_Model ∧ (y_Model_changed).cls ≠ "java/lang/invoke/MethodHandle" ∧ (y_Model_changed).cls ≠ "java/lang/invoke/VarHandle" ∧ (parseMethodDescriptor (y_Model_changed).desc).map (fun d => d.parameters.length) = some 2 := by decide +kernel
def mt_Model_isPointer (l : Launch) (dC : Nat → ClassId) (dI : Nat → Nat → Nat) (ea ev ad : Nat → Nat) (km : Nat → ClassId) (F : gF) (d : Nat) : Prop := ∀ (T : gSt) (p1 : Int32) (r : Int32) (rl : Int64) (T' : gSt), F 44 T [p1] [] = some (r, rl, T') → GMi l dC dI LM ad km ea ev y_Model_isPointer w_Model_isPointer (rmD d) [.ref (ad 0), .int p1] T r T'
theorem pd_Model_isPointer : (y_Model_isPointer).cls = R_Model ∧ (y_Model_isPointer).cls ≠ "java/lang/invoke/MethodHandle" ∧ (y_Model_isPointer).cls ≠ "java/lang/invoke/VarHandle" ∧ (parseMethodDescriptor (y_Model_isPointer).desc).map (fun d => d.parameters.length) = some 1 := by decide +kernel
def mt_Model_isRow (l : Launch) (dC : Nat → ClassId) (dI : Nat → Nat → Nat) (ea ev ad : Nat → Nat) (km : Nat → ClassId) (F : gF) (d : Nat) : Prop := ∀ (T : gSt) (p1 : Int32) (r : Int32) (rl : Int64) (T' : gSt), F 45 T [p1] [] = some (r, rl, T') → GMi l dC dI LM ad km ea ev y_Model_isRow w_Model_isRow (rmD d) [.ref (ad 0), .int p1] T r T'
theorem pd_Model_isRow : (y_Model_isRow).cls = R_Model ∧ (y_Model_isRow).cls ≠ "java/lang/invoke/MethodHandle" ∧ (y_Model_isRow).cls ≠ "java/lang/invoke/VarHandle" ∧ (parseMethodDescriptor (y_Model_isRow).desc).map (fun d => d.parameters.length) = some 1 := by decide +kernel
def mt_Model_isTitled (l : Launch) (dC : Nat → ClassId) (dI : Nat → Nat → Nat) (ea ev ad : Nat → Nat) (km : Nat → ClassId) (F : gF) (d : Nat) : Prop := ∀ (T : gSt) (p1 : Int32) (r : Int32) (rl : Int64) (T' : gSt), F 46 T [p1] [] = some (r, rl, T') → GMi l dC dI LM ad km ea ev y_Model_isTitled w_Model_isTitled (rmD d) [.ref (ad 0), .int p1] T r T'
theorem pd_Model_isTitled : (y_Model_isTitled).cls = R_Model ∧ (y_Model_isTitled).cls ≠ "java/lang/invoke/MethodHandle" ∧ (y_Model_isTitled).cls ≠ "java/lang/invoke/VarHandle" ∧ (parseMethodDescriptor (y_Model_isTitled).desc).map (fun d => d.parameters.length) = some 1 := by decide +kernel
def mt_Model_sameCell (l : Launch) (dC : Nat → ClassId) (dI : Nat → Nat → Nat) (ea ev ad : Nat → Nat) (km : Nat → ClassId) (F : gF) (d : Nat) : Prop := ∀ (T : gSt) (p1 : Int32) (p2 : Int32) (r : Int32) (rl : Int64) (T' : gSt), F 47 T [p1, p2] [] = some (r, rl, T') → GMi l dC dI LM ad km ea ev y_Model_sameCell w_Model_sameCell (rmD d) [.ref (ad 0), .int p1, .int p2] T r T'
theorem pd_Model_sameCell : (y_Model_sameCell).cls = R_Model ∧ (y_Model_sameCell).cls ≠ "java/lang/invoke/MethodHandle" ∧ (y_Model_sameCell).cls ≠ "java/lang/invoke/VarHandle" ∧ (parseMethodDescriptor (y_Model_sameCell).desc).map (fun d => d.parameters.length) = some 2 := by decide +kernel
def mt_Model_findTitle (l : Launch) (dC : Nat → ClassId) (dI : Nat → Nat → Nat) (ea ev ad : Nat → Nat) (km : Nat → ClassId) (F : gF) (d : Nat) : Prop := ∀ (T : gSt) (p1 : Int64) (r : Int32) (rl : Int64) (T' : gSt), F 48 T [] [p1] = some (r, rl, T') → GMi l dC dI LM ad km ea ev y_Model_findTitle w_Model_findTitle (rmD d) [.ref (ad 0), .long p1] T r T'
theorem pd_Model_findTitle : (y_Model_findTitle).cls = R_Model ∧ (y_Model_findTitle).cls ≠ "java/lang/invoke/MethodHandle" ∧ (y_Model_findTitle).cls ≠ "java/lang/invoke/VarHandle" ∧ (parseMethodDescriptor (y_Model_findTitle).desc).map (fun d => d.parameters.length) = some 1 := by decide +kernel
def mt_Model_findFun (l : Launch) (dC : Nat → ClassId) (dI : Nat → Nat → Nat) (ea ev ad : Nat → Nat) (km : Nat → ClassId) (F : gF) (d : Nat) : Prop := ∀ (T : gSt) (p1 : Int64) (r : Int32) (rl : Int64) (T' : gSt), F 49 T [] [p1] = some (r, rl, T') → GMi l dC dI LM ad km ea ev y_Model_findFun w_Model_findFun (rmD d) [.ref (ad 0), .long p1] T r T'
theorem pd_Model_findFun : (y_Model_findFun).cls = R_Model ∧ (y_Model_findFun).cls ≠ "java/lang/invoke/MethodHandle" ∧ (y_Model_findFun).cls ≠ "java/lang/invoke/VarHandle" ∧ (parseMethodDescriptor (y_Model_findFun).desc).map (fun d => d.parameters.length) = some 1 := by decide +kernel
def mt_Model_findField (l : Launch) (dC : Nat → ClassId) (dI : Nat → Nat → Nat) (ea ev ad : Nat → Nat) (km : Nat → ClassId) (F : gF) (d : Nat) : Prop := ∀ (T : gSt) (p1 : Int32) (p2 : Int64) (r : Int32) (rl : Int64) (T' : gSt), F 50 T [p1] [p2] = some (r, rl, T') → GMi l dC dI LM ad km ea ev y_Model_findField w_Model_findField (rmD d) [.ref (ad 0), .int p1, .long p2] T r T'
theorem pd_Model_findField : (y_Model_findField).cls = R_Model ∧ (y_Model_findField).cls ≠ "java/lang/invoke/MethodHandle" ∧ (y_Model_findField).cls ≠ "java/lang/invoke/VarHandle" ∧ (parseMethodDescriptor (y_Model_findField).desc).map (fun d => d.parameters.length) = some 2 := by decide +kernel
def mt_Model_findVar (l : Launch) (dC : Nat → ClassId) (dI : Nat → Nat → Nat) (ea ev ad : Nat → Nat) (km : Nat → ClassId) (F : gF) (d : Nat) : Prop := ∀ (T : gSt) (p1 : Int64) (r : Int32) (rl : Int64) (T' : gSt), F 51 T [] [p1] = some (r, rl, T') → GMi l dC dI LM ad km ea ev y_Model_findVar w_Model_findVar (rmD d) [.ref (ad 0), .long p1] T r T'
theorem pd_Model_findVar : (y_Model_findVar).cls = R_Model ∧ (y_Model_findVar).cls ≠ "java/lang/invoke/MethodHandle" ∧ (y_Model_findVar).cls ≠ "java/lang/invoke/VarHandle" ∧ (parseMethodDescriptor (y_Model_findVar).desc).map (fun d => d.parameters.length) = some 1 := by decide +kernel
def mt_Model_findRegion (l : Launch) (dC : Nat → ClassId) (dI : Nat → Nat → Nat) (ea ev ad : Nat → Nat) (km : Nat → ClassId) (F : gF) (d : Nat) : Prop := ∀ (T : gSt) (p1 : Int64) (r : Int32) (rl : Int64) (T' : gSt), F 52 T [] [p1] = some (r, rl, T') → GMi l dC dI LM ad km ea ev y_Model_findRegion w_Model_findRegion (rmD d) [.ref (ad 0), .long p1] T r T'
theorem pd_Model_findRegion : (y_Model_findRegion).cls = R_Model ∧ (y_Model_findRegion).cls ≠ "java/lang/invoke/MethodHandle" ∧ (y_Model_findRegion).cls ≠ "java/lang/invoke/VarHandle" ∧ (parseMethodDescriptor (y_Model_findRegion).desc).map (fun d => d.parameters.length) = some 1 := by decide +kernel
def mt_Model_regionAt (l : Launch) (dC : Nat → ClassId) (dI : Nat → Nat → Nat) (ea ev ad : Nat → Nat) (km : Nat → ClassId) (F : gF) (d : Nat) : Prop := ∀ (T : gSt) (p1 : Int32) (r : Int32) (rl : Int64) (T' : gSt), F 53 T [p1] [] = some (r, rl, T') → GMi l dC dI LM ad km ea ev y_Model_regionAt w_Model_regionAt (rmD d) [.ref (ad 0), .int p1] T r T'
theorem pd_Model_regionAt : (y_Model_regionAt).cls = R_Model ∧ (y_Model_regionAt).cls ≠ "java/lang/invoke/MethodHandle" ∧ (y_Model_regionAt).cls ≠ "java/lang/invoke/VarHandle" ∧ (parseMethodDescriptor (y_Model_regionAt).desc).map (fun d => d.parameters.length) = some 1 := by decide +kernel
def mt_Model_isLive (l : Launch) (dC : Nat → ClassId) (dI : Nat → Nat → Nat) (ea ev ad : Nat → Nat) (km : Nat → ClassId) (F : gF) (d : Nat) : Prop := ∀ (T : gSt) (p1 : Int32) (r : Int32) (rl : Int64) (T' : gSt), F 54 T [p1] [] = some (r, rl, T') → GMi l dC dI LM ad km ea ev y_Model_isLive w_Model_isLive (rmD d) [.ref (ad 0), .int p1] T r T'
theorem pd_Model_isLive : (y_Model_isLive).cls = R_Model ∧ (y_Model_isLive).cls ≠ "java/lang/invoke/MethodHandle" ∧ (y_Model_isLive).cls ≠ "java/lang/invoke/VarHandle" ∧ (parseMethodDescriptor (y_Model_isLive).desc).map (fun d => d.parameters.length) = some 1 := by decide +kernel
def mt_Model_liveRegionAt (l : Launch) (dC : Nat → ClassId) (dI : Nat → Nat → Nat) (ea ev ad : Nat → Nat) (km : Nat → ClassId) (F : gF) (d : Nat) : Prop := ∀ (T : gSt) (p1 : Int32) (r : Int32) (rl : Int64) (T' : gSt), F 55 T [p1] [] = some (r, rl, T') → GMi l dC dI LM ad km ea ev y_Model_liveRegionAt w_Model_liveRegionAt (rmD d) [.ref (ad 0), .int p1] T r T'
theorem pd_Model_liveRegionAt : (y_Model_liveRegionAt).cls = R_Model ∧ (y_Model_liveRegionAt).cls ≠ "java/lang/invoke/MethodHandle" ∧ (y_Model_liveRegionAt).cls ≠ "java/lang/invoke/VarHandle" ∧ (parseMethodDescriptor (y_Model_liveRegionAt).desc).map (fun d => d.parameters.length) = some 1 := by decide +kernel
def mt_Model_withAt (l : Launch) (dC : Nat → ClassId) (dI : Nat → Nat → Nat) (ea ev ad : Nat → Nat) (km : Nat → ClassId) (F : gF) (d : Nat) : Prop := ∀ (T : gSt) (p1 : Int32) (p2 : Int32) (r : Int32) (rl : Int64) (T' : gSt), F 56 T [p1, p2] [] = some (r, rl, T') → GMi l dC dI LM ad km ea ev y_Model_withAt w_Model_withAt (rmD d) [.ref (ad 0), .int p1, .int p2] T r T'
theorem pd_Model_withAt : (y_Model_withAt).cls = R_Model ∧ (y_Model_withAt).cls ≠ "java/lang/invoke/MethodHandle" ∧ (y_Model_withAt).cls ≠ "java/lang/invoke/VarHandle" ∧ (parseMethodDescriptor (y_Model_withAt).desc).map (fun d => d.parameters.length) = some 2 := by decide +kernel
def mt_Model_meaning (l : Launch) (dC : Nat → ClassId) (dI : Nat → Nat → Nat) (ea ev ad : Nat → Nat) (km : Nat → ClassId) (F : gF) (d : Nat) : Prop := ∀ (T : gSt) (p1 : Int32) (r : Int32) (rl : Int64) (T' : gSt), F 57 T [p1] [] = some (r, rl, T') → GMi l dC dI LM ad km ea ev y_Model_meaning w_Model_meaning (rmD d) [.ref (ad 0), .int p1] T r T'
theorem pd_Model_meaning : (y_Model_meaning).cls = R_Model ∧ (y_Model_meaning).cls ≠ "java/lang/invoke/MethodHandle" ∧ (y_Model_meaning).cls ≠ "java/lang/invoke/VarHandle" ∧ (parseMethodDescriptor (y_Model_meaning).desc).map (fun d => d.parameters.length) = some 1 := by decide +kernel
def mt_Model_doesOutlive (l : Launch) (dC : Nat → ClassId) (dI : Nat → Nat → Nat) (ea ev ad : Nat → Nat) (km : Nat → ClassId) (F : gF) (d : Nat) : Prop := ∀ (T : gSt) (p1 : Int32) (p2 : Int32) (r : Int32) (rl : Int64) (T' : gSt), F 58 T [p1, p2] [] = some (r, rl, T') → GMi l dC dI LM ad km ea ev y_Model_doesOutlive w_Model_doesOutlive (rmD d) [.ref (ad 0), .int p1, .int p2] T r T'
theorem pd_Model_doesOutlive : (y_Model_doesOutlive).cls = R_Model ∧ (y_Model_doesOutlive).cls ≠ "java/lang/invoke/MethodHandle" ∧ (y_Model_doesOutlive).cls ≠ "java/lang/invoke/VarHandle" ∧ (parseMethodDescriptor (y_Model_doesOutlive).desc).map (fun d => d.parameters.length) = some 2 := by decide +kernel
def mt_Model_misfit (l : Launch) (dC : Nat → ClassId) (dI : Nat → Nat → Nat) (ea ev ad : Nat → Nat) (km : Nat → ClassId) (F : gF) (d : Nat) : Prop := ∀ (T : gSt) (p1 : Int32) (p2 : Int32) (r : Int32) (rl : Int64) (T' : gSt), F 59 T [p1, p2] [] = some (r, rl, T') → GMi l dC dI LM ad km ea ev y_Model_misfit w_Model_misfit (rmD d) [.ref (ad 0), .int p1, .int p2] T r T'
theorem pd_Model_misfit : (y_Model_misfit).cls = R_Model ∧ (y_Model_misfit).cls ≠ "java/lang/invoke/MethodHandle" ∧ (y_Model_misfit).cls ≠ "java/lang/invoke/VarHandle" ∧ (parseMethodDescriptor (y_Model_misfit).desc).map (fun d => d.parameters.length) = some 2 := by decide +kernel
def mt_Model_fit (l : Launch) (dC : Nat → ClassId) (dI : Nat → Nat → Nat) (ea ev ad : Nat → Nat) (km : Nat → ClassId) (F : gF) (d : Nat) : Prop := ∀ (T : gSt) (p1 : Int32) (p2 : Int32) (p3 : Int32) (r : Int32) (rl : Int64) (T' : gSt), F 60 T [p1, p2, p3] [] = some (r, rl, T') → GMv l dC dI LM ad km ea ev y_Model_fit w_Model_fit (rmD d) [.ref (ad 0), .int p1, .int p2, .int p3] T T'
theorem pd_Model_fit : (y_Model_fit).cls = R_Model ∧ (y_Model_fit).cls ≠ "java/lang/invoke/MethodHandle" ∧ (y_Model_fit).cls ≠ "java/lang/invoke/VarHandle" ∧ (parseMethodDescriptor (y_Model_fit).desc).map (fun d => d.parameters.length) = some 3 := by decide +kernel
def mt_Model_seeRegions (l : Launch) (dC : Nat → ClassId) (dI : Nat → Nat → Nat) (ea ev ad : Nat → Nat) (km : Nat → ClassId) (F : gF) (d : Nat) : Prop := ∀ (T : gSt) (p1 : Int32) (r : Int32) (rl : Int64) (T' : gSt), F 61 T [p1] [] = some (r, rl, T') → GMv l dC dI LM ad km ea ev y_Model_seeRegions w_Model_seeRegions (rmD d) [.ref (ad 0), .int p1] T T'
theorem pd_Model_seeRegions : (y_Model_seeRegions).cls = R_Model ∧ (y_Model_seeRegions).cls ≠ "java/lang/invoke/MethodHandle" ∧ (y_Model_seeRegions).cls ≠ "java/lang/invoke/VarHandle" ∧ (parseMethodDescriptor (y_Model_seeRegions).desc).map (fun d => d.parameters.length) = some 1 := by decide +kernel
def mt_Model_regionOfItem (l : Launch) (dC : Nat → ClassId) (dI : Nat → Nat → Nat) (ea ev ad : Nat → Nat) (km : Nat → ClassId) (F : gF) (d : Nat) : Prop := ∀ (T : gSt) (p1 : Int32) (p2 : Int64) (r : Int32) (rl : Int64) (T' : gSt), F 62 T [p1] [p2] = some (r, rl, T') → GMi l dC dI LM ad km ea ev y_Model_regionOfItem w_Model_regionOfItem (rmD d) [.ref (ad 0), .int p1, .long p2] T r T'
theorem pd_Model_regionOfItem : (y_Model_regionOfItem).cls = R_Model ∧ (y_Model_regionOfItem).cls ≠ "java/lang/invoke/MethodHandle" ∧ (y_Model_regionOfItem).cls ≠ "java/lang/invoke/VarHandle" ∧ (parseMethodDescriptor (y_Model_regionOfItem).desc).map (fun d => d.parameters.length) = some 2 := by decide +kernel
def mt_Model_checkHead (l : Launch) (dC : Nat → ClassId) (dI : Nat → Nat → Nat) (ea ev ad : Nat → Nat) (km : Nat → ClassId) (F : gF) (d : Nat) : Prop := ∀ (T : gSt) (p1 : Int32) (r : Int32) (rl : Int64) (T' : gSt), F 63 T [p1] [] = some (r, rl, T') → GMv l dC dI LM ad km ea ev y_Model_checkHead w_Model_checkHead (rmD d) [.ref (ad 0), .int p1] T T'
theorem pd_Model_checkHead : (y_Model_checkHead).cls = R_Model ∧ (y_Model_checkHead).cls ≠ "java/lang/invoke/MethodHandle" ∧ (y_Model_checkHead).cls ≠ "java/lang/invoke/VarHandle" ∧ (parseMethodDescriptor (y_Model_checkHead).desc).map (fun d => d.parameters.length) = some 1 := by decide +kernel
def mt_Model_packed (l : Launch) (dC : Nat → ClassId) (dI : Nat → Nat → Nat) (ea ev ad : Nat → Nat) (km : Nat → ClassId) (F : gF) (d : Nat) : Prop := ∀ (T : gSt) (p1 : Nat) (r : Int32) (rl : Int64) (T' : gSt), p1 < 33 → F 7 T [nI p1] [] = some (r, rl, T') → GMl l dC dI LM ad km ea ev y_Model_packed w_Model_packed (rmD d) [.ref (ea p1)] T rl T'
theorem pd_Model_packed : (y_Model_packed).cls ≠ "java/lang/invoke/MethodHandle" ∧ (y_Model_packed).cls ≠ "java/lang/invoke/VarHandle" ∧ (parseMethodDescriptor (y_Model_packed).desc).map (fun d => d.parameters.length) = some 1 := by decide +kernel
def mt_Model_checkHeads (l : Launch) (dC : Nat → ClassId) (dI : Nat → Nat → Nat) (ea ev ad : Nat → Nat) (km : Nat → ClassId) (F : gF) (d : Nat) : Prop := ∀ (T : gSt)  (r : Int32) (rl : Int64) (T' : gSt), F 64 T [] [] = some (r, rl, T') → GMv l dC dI LM ad km ea ev y_Model_checkHeads w_Model_checkHeads (rmD d) [.ref (ad 0)] T T'
theorem pd_Model_checkHeads : (y_Model_checkHeads).cls = R_Model ∧ (y_Model_checkHeads).cls ≠ "java/lang/invoke/MethodHandle" ∧ (y_Model_checkHeads).cls ≠ "java/lang/invoke/VarHandle" ∧ (parseMethodDescriptor (y_Model_checkHeads).desc).map (fun d => d.parameters.length) = some 0 := by decide +kernel
set_option maxHeartbeats 4000000 in
set_option maxRecDepth 100000 in
theorem sp_Model_changed (l : Launch) (dC : Nat → ClassId) (dI : Nat → Nat → Nat) (ea ev ad : Nat → Nat) (km : Nat → ClassId) (F : gF) (nf d : Nat) (h_Model_part : mt_Model_part l dC dI ea ev ad km F d) (h_Model_changed : mt_Model_changed l dC dI ea ev ad km F d) (h_Model_known : mt_Model_known l dC dI ea ev ad km F d) (T0 : gSt) (p1 : Int32) (p2 : Int32) (r0 : Int32) (rl0 : Int64) (T9 : gSt) (hR : rb_Model_changed F nf T0 p1 p2 = some (r0, rl0, T9)) : GMi l dC dI LM ad km ea ev y_Model_changed w_Model_changed (rmD (d + 1)) [.ref (ad 0), .int p1, .int p2] T0 r0 T9 := by
  intro sz
  refine Met.ofW (cc := b_Model_changed) (maxL := 7) (ret := (some .int)) (by decide) rfl ?_
  intro p e s m args below meth c s₁ B hml hv
  obtain ⟨rfl, hsz, hP, hK, hD0, hnw, henv⟩ := hv
  have hx := B.exec
  have hb := B.bytes
  have hr := B.returns
  have hT : ∀ w ∈ lw_good, w.before _ s = true := fun w h => atoms_spec (ws := w_Model_changed) B.pre w (List.mem_cons_of_mem _ h)
  have hown : s.vm.findClass R_Model = some m.cls := findClass_of_methodNamed B.named
  subst hsz
  have hD := hD0.self (sz := s.heap.size)
  clear hD0
  generalize hAe : va_A (gW LM ad km T0) s.heap.size = A at hD henv ⊢
  have hA : ∀ q : Nat, s.heap.size ≤ q → A q := fun q h => by rw [← hAe]; exact Or.inr h
  have hS : va_S A s.heap s.heap [] := va_S.rf
  have hl := lv_entry ([.ref (ad 0), .int p1, .int p2]) (n := 7) (Nat.le_of_ble_eq_true rfl)
  rw [lg_entry_eq]
  generalize (lg_sl ([.ref (ad 0), .int p1, .int p2]) ++ List.replicate (7 - (lg_sl ([.ref (ad 0), .int p1, .int p2])).length) Slot.unset).toArray = ls at hl ⊢
  have hl : lv_has ls 7 [(0, .ref (ad 0)), (1, .int p1), (2, .int p2)] := hl
  obtain ⟨G, hG⟩ : ∃ G : Nat → List (Nat × Value) → List Value → gSt → Prop, G = (fun pc lv stk T => ∀ (H : Heap) (locs : List Loc), va_P (dC, dI) cls_all (gW LM ad km T) H → va_D A (gW LM ad km T) → va_S A s.heap H locs → ∀ (ls : Array Slot), lv_has ls 7 lv → W p l e (headSpec w_Model_changed (rmD (d + 1))).room s m ([.ref (ad 0), .int p1, .int p2] : List Value).toArray below meth c H locs 0 0 (MQ below (va_Qi (fun (z : Int32) (_ : Unit) => z = r0) (fun _ t => gPost dC dI LM ad km T9 A t) A) ([.ref (ad 0), .int p1, .int p2] : List Value).toArray s 0 0 A) (F0 m pc ls stk)) := ⟨_, rfl⟩
  have lb_88 : ∀ (n : Nat) (T : gSt) (x1 : Int32) (x2 : Int32) (x3 : Int32) (x4 : Int32) (x5 : Int32), rl_Model_changed_88 F nf n T x1 x2 x3 x4 x5 = some (r0, rl0, T9) → G 88 [(0, .ref (ad 0)), (1, .int x1), (2, .int x2), (3, .int x3), (4, .int x4), (5, .int x5)] [] T := by
    intro n
    induction n with
    | zero => intro T x1 x2 x3 x4 x5 hR; rw [rl_Model_changed_88] at hR; cases hR
    | succ n ih =>
      intro T x1 x2 x3 x4 x5 hR; rw [rl_Model_changed_88] at hR; rw [hG]; intro H locs hP hD hS ls hl
      refine lv_iload hx hb d_Model_changed_88 (lv_at hl 5 rfl) ?_
      refine lv_aload_n hx hb d_Model_changed_90 rfl (lv_at hl 0 rfl) ?_
      refine rd_Model_27 hx hb hT hown hK hP d_Model_changed_91 ?_
      refine lv_aload_n hx hb d_Model_changed_94 rfl (lv_at hl 0 rfl) ?_
      refine rd_Model_165 hx hb hT hown hK hP d_Model_changed_95 ?_
      refine lv_iload_n hx hb d_Model_changed_98 rfl (lv_at hl 1 rfl) ?_
      replace hR := gd_e hR
      obtain ⟨b18, hR⟩ := hR
      refine laM_50 hx hb hK hP b18 d_Model_changed_99 ?_
      replace hR := gd_e hR
      obtain ⟨b19, hR⟩ := hR
      refine laM_4 hx hb hK hP b19 d_Model_changed_100 ?_
      refine lv_icmp_ge (tgt := 159) hx hb d_Model_changed_101 (by decide) (fun c20 => ?_) (fun c20 => ?_)
      · replace hR := if_p c20 hR
        refine lv_aload_n hx hb d_Model_changed_159 rfl (lv_at hl 0 rfl) ?_
        refine lv_aload_n hx hb d_Model_changed_160 rfl (lv_at hl 0 rfl) ?_
        refine rd_Model_156 hx hb hT hown hK hP d_Model_changed_161 ?_
        refine lv_iload_n hx hb d_Model_changed_164 rfl (lv_at hl 1 rfl) ?_
        replace hR := gd_e hR
        obtain ⟨b21, hR⟩ := hR
        refine laM_47 hx hb hK hP b21 d_Model_changed_165 ?_
        refine lv_iload_n hx hb d_Model_changed_166 rfl (lv_at hl 3 rfl) ?_
        refine lv_iconst (v := (-1)) hx hb d_Model_changed_167 (by decide) ?_
        refine lv_aload_n hx hb d_Model_changed_168 rfl (lv_at hl 0 rfl) ?_
        refine rd_Model_165 hx hb hT hown hK hP d_Model_changed_169 ?_
        refine lv_iload_n hx hb d_Model_changed_172 rfl (lv_at hl 1 rfl) ?_
        replace hR := gd_e hR
        obtain ⟨b22, hR⟩ := hR
        refine laM_50 hx hb hK hP b22 d_Model_changed_173 ?_
        refine lv_iload hx hb d_Model_changed_174 (lv_at hl 4 rfl) ?_
        replace hR := bi_e hR
        obtain ⟨r23, l23, T23, hc23, hR⟩ := hR
        refine gcV_i (rest := []) ⟨hx, hb, hml, hown, hT⟩ (h_Model_known _ _ _ _ _ _ _ _ _ hc23) (cwV 5 hT (gV ml_Model_556 im_Model_known se_Model_known ini_Model co_Model_known) rfl rfl rfl pd_Model_known ⟨rm_hi, rm_lo (Nat.le_of_ble_eq_true rfl)⟩) hK hP hD hS hA hnw henv (Nat.le_of_ble_eq_true rfl) rfl rfl hl.1 rfl (Nat.le_of_ble_eq_true rfl) d_Model_changed_176 ⟨Nat.le_refl _, Nat.le_refl _⟩ (fun H locs hP hD hS => ?_)
        clear hc23
        obtain ⟨e1, -, e3⟩ := re_e hR
        subst e1; subst e3
        exact W.iret (v := r23) hx hb hr (fun t ht hW => ⟨⟨r23, (), rfl, rfl, by rw [ht]; exact hP, va_K.moved hW.alike hK, hD⟩, hS.F ht⟩) hS.2.2 d_Model_changed_179
      · replace hR := if_n c20 hR
        refine lv_aload_n hx hb d_Model_changed_104 rfl (lv_at hl 0 rfl) ?_
        refine rd_Model_168 hx hb hT hown hK hP d_Model_changed_105 ?_
        refine lv_iload_n hx hb d_Model_changed_108 rfl (lv_at hl 1 rfl) ?_
        replace hR := gd_e hR
        obtain ⟨b25, hR⟩ := hR
        refine laM_51 hx hb hK hP b25 d_Model_changed_109 ?_
        refine lv_iload hx hb d_Model_changed_110 (lv_at hl 5 rfl) ?_
        replace hR := bi_e hR
        obtain ⟨r26, l26, T26, hc26, hR⟩ := hR
        refine gcS_i (rest := []) ⟨hx, hb, hml, hown, hT⟩ (h_Model_part _ _ _ _ _ _ hc26) (va_cwS 2 hT (gS ml_Model_550 st_Model_part ini_Model co_Model_part) rfl rfl rfl pd_Model_part ⟨rm_hi, rm_lo (Nat.le_of_ble_eq_true rfl)⟩) hK hP hD hS hA hnw henv rfl hl.1 rfl (Nat.le_of_ble_eq_true rfl) d_Model_changed_112 ⟨Nat.le_refl _, Nat.le_refl _⟩ (fun H locs hP hD hS => ?_)
        clear hc26
        refine lv_istore (lv' := [(6, .int r26), (0, .ref (ad 0)), (1, .int x1), (2, .int x2), (3, .int x3), (4, .int x4), (5, .int x5)]) hx hb d_Model_changed_115 hl (by decide) rfl (fun ls hl => ?_)
        refine lv_iload hx hb d_Model_changed_117 (lv_at hl 5 rfl) ?_
        refine lv_iload hx hb d_Model_changed_119 (lv_at hl 0 rfl) ?_
        refine lv_iconst (v := 1) hx hb d_Model_changed_121 (by decide) ?_
        refine lv_icmp_lt (tgt := 142) hx hb d_Model_changed_122 (by decide) (fun c27 => ?_) (fun c27 => ?_)
        · replace hR := if_p c27 hR
          refine lv_iload hx hb d_Model_changed_142 (lv_at hl 0 rfl) ?_
          refine lv_bipush (v := 10) hx hb d_Model_changed_144 (by decide) ?_
          refine lv_iload hx hb d_Model_changed_146 (lv_at hl 6 rfl) ?_
          refine lv_imul hx hb d_Model_changed_148 ?_
          refine lv_ishl hx hb d_Model_changed_149 ?_
          refine lv_ior hx hb d_Model_changed_150 ?_
          refine lv_topi (fun z28 e28 => ?_)
          replace hR := vK_e e28 hR
          refine lv_istore (lv' := [(4, .int z28), (6, .int r26), (0, .ref (ad 0)), (1, .int x1), (2, .int x2), (3, .int x3), (5, .int x5)]) hx hb d_Model_changed_151 hl (by decide) rfl (fun ls hl => ?_)
          obtain ⟨z29, e29⟩ : ∃ y : Int32, y = x5 + (1 : Int32) := ⟨_, rfl⟩
          replace hR := vK_e e29 hR
          refine lv_iinc (v := z29) (lv' := [(5, .int z29), (4, .int z28), (6, .int r26), (0, .ref (ad 0)), (1, .int x1), (2, .int x2), (3, .int x3)]) hx hb d_Model_changed_153 hl (k := 6) rfl (by rw [e29]; rfl) (by decide) rfl (fun ls hl => ?_)
          refine lv_goto (tgt := 88) hx hb d_Model_changed_156 (by decide) ?_
          have g := ih T26 x1 x2 x3 z28 z29 hR
          rw [hG] at g
          exact g _ _ hP hD hS _ (lv_sub hl [3, 4, 5, 6, 1, 0] rfl)
        · replace hR := if_n c27 hR
          refine lv_iload hx hb d_Model_changed_125 (lv_at hl 0 rfl) ?_
          refine lv_iconst (v := 3) hx hb d_Model_changed_127 (by decide) ?_
          refine lv_icmp_gt (tgt := 142) hx hb d_Model_changed_128 (by decide) (fun c30 => ?_) (fun c30 => ?_)
          · replace hR := if_p c30 hR
            refine lv_iload hx hb d_Model_changed_142 (lv_at hl 0 rfl) ?_
            refine lv_bipush (v := 10) hx hb d_Model_changed_144 (by decide) ?_
            refine lv_iload hx hb d_Model_changed_146 (lv_at hl 6 rfl) ?_
            refine lv_imul hx hb d_Model_changed_148 ?_
            refine lv_ishl hx hb d_Model_changed_149 ?_
            refine lv_ior hx hb d_Model_changed_150 ?_
            refine lv_topi (fun z31 e31 => ?_)
            replace hR := vK_e e31 hR
            refine lv_istore (lv' := [(4, .int z31), (6, .int r26), (0, .ref (ad 0)), (1, .int x1), (2, .int x2), (3, .int x3), (5, .int x5)]) hx hb d_Model_changed_151 hl (by decide) rfl (fun ls hl => ?_)
            obtain ⟨z32, e32⟩ : ∃ y : Int32, y = x5 + (1 : Int32) := ⟨_, rfl⟩
            replace hR := vK_e e32 hR
            refine lv_iinc (v := z32) (lv' := [(5, .int z32), (4, .int z31), (6, .int r26), (0, .ref (ad 0)), (1, .int x1), (2, .int x2), (3, .int x3)]) hx hb d_Model_changed_153 hl (k := 6) rfl (by rw [e32]; rfl) (by decide) rfl (fun ls hl => ?_)
            refine lv_goto (tgt := 88) hx hb d_Model_changed_156 (by decide) ?_
            have g := ih T26 x1 x2 x3 z31 z32 hR
            rw [hG] at g
            exact g _ _ hP hD hS _ (lv_sub hl [3, 4, 5, 6, 1, 0] rfl)
          · replace hR := if_n c30 hR
            refine lv_iload_n hx hb d_Model_changed_131 rfl (lv_at hl 3 rfl) ?_
            refine lv_iload hx hb d_Model_changed_132 (lv_at hl 0 rfl) ?_
            refine lv_iconst (v := 1) hx hb d_Model_changed_134 (by decide) ?_
            refine lv_isub hx hb d_Model_changed_135 ?_
            replace hR := bi_e hR
            obtain ⟨r33, l33, T33, hc33, hR⟩ := hR
            refine gcS_i (rest := [.int x4]) ⟨hx, hb, hml, hown, hT⟩ (h_Model_part _ _ _ _ _ _ hc33) (va_cwS 2 hT (gS ml_Model_550 st_Model_part ini_Model co_Model_part) rfl rfl rfl pd_Model_part ⟨rm_hi, rm_lo (Nat.le_of_ble_eq_true rfl)⟩) hK hP hD hS hA hnw henv rfl hl.1 rfl (Nat.le_of_ble_eq_true rfl) d_Model_changed_136 ⟨Nat.le_refl _, Nat.le_refl _⟩ (fun H locs hP hD hS => ?_)
            clear hc33
            refine lv_goto (tgt := 144) hx hb d_Model_changed_139 (by decide) ?_
            refine lv_bipush (v := 10) hx hb d_Model_changed_144 (by decide) ?_
            refine lv_iload hx hb d_Model_changed_146 (lv_at hl 6 rfl) ?_
            refine lv_imul hx hb d_Model_changed_148 ?_
            refine lv_ishl hx hb d_Model_changed_149 ?_
            refine lv_ior hx hb d_Model_changed_150 ?_
            refine lv_topi (fun z34 e34 => ?_)
            replace hR := vK_e e34 hR
            refine lv_istore (lv' := [(4, .int z34), (6, .int r26), (0, .ref (ad 0)), (1, .int x1), (2, .int x2), (3, .int x3), (5, .int x5)]) hx hb d_Model_changed_151 hl (by decide) rfl (fun ls hl => ?_)
            obtain ⟨z35, e35⟩ : ∃ y : Int32, y = x5 + (1 : Int32) := ⟨_, rfl⟩
            replace hR := vK_e e35 hR
            refine lv_iinc (v := z35) (lv' := [(5, .int z35), (4, .int z34), (6, .int r26), (0, .ref (ad 0)), (1, .int x1), (2, .int x2), (3, .int x3)]) hx hb d_Model_changed_153 hl (k := 6) rfl (by rw [e35]; rfl) (by decide) rfl (fun ls hl => ?_)
            refine lv_goto (tgt := 88) hx hb d_Model_changed_156 (by decide) ?_
            have g := ih T33 x1 x2 x3 z34 z35 hR
            rw [hG] at g
            exact g _ _ hP hD hS _ (lv_sub hl [3, 4, 5, 6, 1, 0] rfl)
  have lb_47 : ∀ (T : gSt) (x1 : Int32) (x2 : Int32) (y0 : Int32), rj_Model_changed_47 F nf T x1 x2 y0 = some (r0, rl0, T9) → G 47 [(0, .ref (ad 0)), (1, .int x1), (2, .int x2)] [.int y0] T := by
    intro T x1 x2 y0 hR; unfold rj_Model_changed_47 at hR; rw [hG]; intro H locs hP hD hS ls hl
    refine lv_istore_n (lv' := [(3, .int y0), (0, .ref (ad 0)), (1, .int x1), (2, .int x2)]) hx hb d_Model_changed_47 rfl hl (by decide) rfl (fun ls hl => ?_)
    refine lv_aload_n hx hb d_Model_changed_48 rfl (lv_at hl 1 rfl) ?_
    refine rd_Model_165 hx hb hT hown hK hP d_Model_changed_49 ?_
    refine lv_iload_n hx hb d_Model_changed_52 rfl (lv_at hl 2 rfl) ?_
    replace hR := gd_e hR
    obtain ⟨b11, hR⟩ := hR
    refine laM_50 hx hb hK hP b11 d_Model_changed_53 ?_
    refine lv_if_ge (tgt := 82) hx hb d_Model_changed_54 (by decide) (fun c12 => ?_) (fun c12 => ?_)
    · replace hR := if_p c12 hR
      refine lv_iconst (v := 0) hx hb d_Model_changed_82 (by decide) ?_
      refine lv_istore (lv' := [(4, .int (0 : Int32)), (3, .int y0), (0, .ref (ad 0)), (1, .int x1), (2, .int x2)]) hx hb d_Model_changed_83 hl (by decide) rfl (fun ls hl => ?_)
      refine lv_iconst (v := 0) hx hb d_Model_changed_85 (by decide) ?_
      refine lv_istore (lv' := [(5, .int (0 : Int32)), (4, .int (0 : Int32)), (3, .int y0), (0, .ref (ad 0)), (1, .int x1), (2, .int x2)]) hx hb d_Model_changed_86 hl (by decide) rfl (fun ls hl => ?_)
      have g := lb_88 nf T x1 x2 y0 (0 : Int32) (0 : Int32) hR
      rw [hG] at g
      exact g _ _ hP hD hS _ (lv_sub hl [3, 4, 5, 2, 1, 0] rfl)
    · replace hR := if_n c12 hR
      refine lv_aload_n hx hb d_Model_changed_57 rfl (lv_at hl 1 rfl) ?_
      refine lv_aload_n hx hb d_Model_changed_58 rfl (lv_at hl 1 rfl) ?_
      refine rd_Model_156 hx hb hT hown hK hP d_Model_changed_59 ?_
      refine lv_iload_n hx hb d_Model_changed_62 rfl (lv_at hl 2 rfl) ?_
      replace hR := gd_e hR
      obtain ⟨b13, hR⟩ := hR
      refine laM_47 hx hb hK hP b13 d_Model_changed_63 ?_
      refine lv_iload_n hx hb d_Model_changed_64 rfl (lv_at hl 0 rfl) ?_
      refine lv_aload_n hx hb d_Model_changed_65 rfl (lv_at hl 1 rfl) ?_
      refine lv_aload_n hx hb d_Model_changed_66 rfl (lv_at hl 1 rfl) ?_
      refine rd_Model_162 hx hb hT hown hK hP d_Model_changed_67 ?_
      refine lv_iload_n hx hb d_Model_changed_70 rfl (lv_at hl 2 rfl) ?_
      replace hR := gd_e hR
      obtain ⟨b14, hR⟩ := hR
      refine laM_49 hx hb hK hP b14 d_Model_changed_71 ?_
      refine lv_iload_n hx hb d_Model_changed_72 rfl (lv_at hl 3 rfl) ?_
      replace hR := bi_e hR
      obtain ⟨r15, l15, T15, hc15, hR⟩ := hR
      refine gcV_i (rest := [.int y0, .int (T.1 66 x1.toNatClampNeg), .ref (ad 0)]) ⟨hx, hb, hml, hown, hT⟩ (h_Model_changed _ _ _ _ _ _ hc15) (cwV 2 hT (gV ml_Model_553 im_Model_changed se_Model_changed ini_Model co_Model_changed) rfl rfl rfl pd_Model_changed ⟨rm_hi, rm_lo (Nat.le_of_ble_eq_true rfl)⟩) hK hP hD hS hA hnw henv (Nat.le_of_ble_eq_true rfl) rfl rfl hl.1 rfl (Nat.le_of_ble_eq_true rfl) d_Model_changed_73 ⟨Nat.le_refl _, Nat.le_refl _⟩ (fun H locs hP hD hS => ?_)
      clear hc15
      refine lv_iconst (v := (-1)) hx hb d_Model_changed_76 (by decide) ?_
      refine lv_iconst (v := 0) hx hb d_Model_changed_77 (by decide) ?_
      replace hR := bi_e hR
      obtain ⟨r16, l16, T16, hc16, hR⟩ := hR
      refine gcV_i (rest := []) ⟨hx, hb, hml, hown, hT⟩ (h_Model_known _ _ _ _ _ _ _ _ _ hc16) (cwV 5 hT (gV ml_Model_556 im_Model_known se_Model_known ini_Model co_Model_known) rfl rfl rfl pd_Model_known ⟨rm_hi, rm_lo (Nat.le_of_ble_eq_true rfl)⟩) hK hP hD hS hA hnw henv (Nat.le_of_ble_eq_true rfl) rfl rfl hl.1 rfl (Nat.le_of_ble_eq_true rfl) d_Model_changed_78 ⟨Nat.le_refl _, Nat.le_refl _⟩ (fun H locs hP hD hS => ?_)
      clear hc16
      obtain ⟨e1, -, e3⟩ := re_e hR
      subst e1; subst e3
      exact W.iret (v := r16) hx hb hr (fun t ht hW => ⟨⟨r16, (), rfl, rfl, by rw [ht]; exact hP, va_K.moved hW.alike hK, hD⟩, hS.F ht⟩) hS.2.2 d_Model_changed_81
  unfold rb_Model_changed at hR
  refine lv_iload_n hx hb d_Model_changed_0 rfl (lv_at hl 1 rfl) ?_
  refine lv_if_gt (tgt := 6) hx hb d_Model_changed_1 (by decide) (fun c1 => ?_) (fun c1 => ?_)
  · replace hR := if_p c1 hR
    refine lv_aload_n hx hb d_Model_changed_6 rfl (lv_at hl 0 rfl) ?_
    refine rd_Model_159 hx hb hT hown hK hP d_Model_changed_7 ?_
    refine lv_iload_n hx hb d_Model_changed_10 rfl (lv_at hl 1 rfl) ?_
    replace hR := gd_e hR
    obtain ⟨b2, hR⟩ := hR
    refine laM_48 hx hb hK hP b2 d_Model_changed_11 ?_
    refine lv_iconst (v := 1) hx hb d_Model_changed_12 (by decide) ?_
    refine lv_icmp_lt (tgt := 41) hx hb d_Model_changed_13 (by decide) (fun c3 => ?_) (fun c3 => ?_)
    · replace hR := if_p c3 hR
      refine lv_aload_n hx hb d_Model_changed_41 rfl (lv_at hl 0 rfl) ?_
      refine rd_Model_159 hx hb hT hown hK hP d_Model_changed_42 ?_
      refine lv_iload_n hx hb d_Model_changed_45 rfl (lv_at hl 1 rfl) ?_
      replace hR := gd_e hR
      obtain ⟨b4, hR⟩ := hR
      refine laM_48 hx hb hK hP b4 d_Model_changed_46 ?_
      have g := lb_47 T0 p1 p2 (T0.1 67 p1.toNatClampNeg) hR
      rw [hG] at g
      exact g _ _ hP hD hS _ (lv_sub hl [0, 1, 2] rfl)
    · replace hR := if_n c3 hR
      refine lv_aload_n hx hb d_Model_changed_16 rfl (lv_at hl 0 rfl) ?_
      refine rd_Model_159 hx hb hT hown hK hP d_Model_changed_17 ?_
      refine lv_iload_n hx hb d_Model_changed_20 rfl (lv_at hl 1 rfl) ?_
      replace hR := gd_e hR
      obtain ⟨b5, hR⟩ := hR
      refine laM_48 hx hb hK hP b5 d_Model_changed_21 ?_
      refine lv_iconst (v := 3) hx hb d_Model_changed_22 (by decide) ?_
      refine lv_icmp_gt (tgt := 41) hx hb d_Model_changed_23 (by decide) (fun c6 => ?_) (fun c6 => ?_)
      · replace hR := if_p c6 hR
        refine lv_aload_n hx hb d_Model_changed_41 rfl (lv_at hl 0 rfl) ?_
        refine rd_Model_159 hx hb hT hown hK hP d_Model_changed_42 ?_
        refine lv_iload_n hx hb d_Model_changed_45 rfl (lv_at hl 1 rfl) ?_
        replace hR := gd_e hR
        obtain ⟨b7, hR⟩ := hR
        refine laM_48 hx hb hK hP b7 d_Model_changed_46 ?_
        have g := lb_47 T0 p1 p2 (T0.1 67 p1.toNatClampNeg) hR
        rw [hG] at g
        exact g _ _ hP hD hS _ (lv_sub hl [0, 1, 2] rfl)
      · replace hR := if_n c6 hR
        refine lv_iload_n hx hb d_Model_changed_26 rfl (lv_at hl 2 rfl) ?_
        refine lv_aload_n hx hb d_Model_changed_27 rfl (lv_at hl 0 rfl) ?_
        refine rd_Model_159 hx hb hT hown hK hP d_Model_changed_28 ?_
        refine lv_iload_n hx hb d_Model_changed_31 rfl (lv_at hl 1 rfl) ?_
        replace hR := gd_e hR
        obtain ⟨b8, hR⟩ := hR
        refine laM_48 hx hb hK hP b8 d_Model_changed_32 ?_
        refine lv_iconst (v := 1) hx hb d_Model_changed_33 (by decide) ?_
        refine lv_isub hx hb d_Model_changed_34 ?_
        replace hR := bi_e hR
        obtain ⟨r9, l9, T9, hc9, hR⟩ := hR
        refine gcS_i (rest := []) ⟨hx, hb, hml, hown, hT⟩ (h_Model_part _ _ _ _ _ _ hc9) (va_cwS 2 hT (gS ml_Model_550 st_Model_part ini_Model co_Model_part) rfl rfl rfl pd_Model_part ⟨rm_hi, rm_lo (Nat.le_of_ble_eq_true rfl)⟩) hK hP hD hS hA hnw henv rfl hl.1 rfl (Nat.le_of_ble_eq_true rfl) d_Model_changed_35 ⟨Nat.le_refl _, Nat.le_refl _⟩ (fun H locs hP hD hS => ?_)
        clear hc9
        refine lv_goto (tgt := 47) hx hb d_Model_changed_38 (by decide) ?_
        have g := lb_47 T9 p1 p2 r9 hR
        rw [hG] at g
        exact g _ _ hP hD hS _ (lv_sub hl [0, 1, 2] rfl)
  · replace hR := if_n c1 hR
    refine lv_iload_n hx hb d_Model_changed_4 rfl (lv_at hl 1 rfl) ?_
    obtain ⟨e1, -, e3⟩ := re_e hR
    subst e1; subst e3
    exact W.iret (v := p1) hx hb hr (fun t ht hW => ⟨⟨p1, (), rfl, rfl, by rw [ht]; exact hP, va_K.moved hW.alike hK, hD⟩, hS.F ht⟩) hS.2.2 d_Model_changed_5
set_option maxHeartbeats 4000000 in
set_option maxRecDepth 100000 in
theorem sp_Model_isPointer (l : Launch) (dC : Nat → ClassId) (dI : Nat → Nat → Nat) (ea ev ad : Nat → Nat) (km : Nat → ClassId) (F : gF) (nf d : Nat) (T0 : gSt) (p1 : Int32) (r0 : Int32) (rl0 : Int64) (T9 : gSt) (hR : rb_Model_isPointer F nf T0 p1 = some (r0, rl0, T9)) : GMi l dC dI LM ad km ea ev y_Model_isPointer w_Model_isPointer (rmD (d + 1)) [.ref (ad 0), .int p1] T0 r0 T9 := by
  intro sz
  refine Met.ofW (cc := b_Model_isPointer) (maxL := 2) (ret := (some .boolean)) (by decide) rfl ?_
  intro p e s m args below meth c s₁ B hml hv
  obtain ⟨rfl, hsz, hP, hK, hD0, hnw, henv⟩ := hv
  have hx := B.exec
  have hb := B.bytes
  have hr := B.returns
  have hT : ∀ w ∈ lw_good, w.before _ s = true := fun w h => atoms_spec (ws := w_Model_isPointer) B.pre w (List.mem_cons_of_mem _ h)
  have hown : s.vm.findClass R_Model = some m.cls := findClass_of_methodNamed B.named
  subst hsz
  have hD := hD0.self (sz := s.heap.size)
  clear hD0
  generalize hAe : va_A (gW LM ad km T0) s.heap.size = A at hD henv ⊢
  have hA : ∀ q : Nat, s.heap.size ≤ q → A q := fun q h => by rw [← hAe]; exact Or.inr h
  have hS : va_S A s.heap s.heap [] := va_S.rf
  have hl := lv_entry ([.ref (ad 0), .int p1]) (n := 2) (Nat.le_of_ble_eq_true rfl)
  rw [lg_entry_eq]
  generalize (lg_sl ([.ref (ad 0), .int p1]) ++ List.replicate (2 - (lg_sl ([.ref (ad 0), .int p1])).length) Slot.unset).toArray = ls at hl ⊢
  have hl : lv_has ls 2 [(0, .ref (ad 0)), (1, .int p1)] := hl
  unfold rb_Model_isPointer at hR
  refine lv_iload_n hx hb d_Model_isPointer_0 rfl (lv_at hl 1 rfl) ?_
  refine lv_if_le (tgt := 18) hx hb d_Model_isPointer_1 (by decide) (fun c1 => ?_) (fun c1 => ?_)
  · replace hR := if_p c1 hR
    refine lv_iconst (v := 0) hx hb d_Model_isPointer_18 (by decide) ?_
    obtain ⟨e1, -, e3⟩ := re_e hR
    subst e1; subst e3
    exact W.zret (v := (0 : Int32)) hx hb hr (by first | rfl | decide) (fun t ht hW => ⟨⟨(0 : Int32), (), rfl, rfl, by rw [ht]; exact hP, va_K.moved hW.alike hK, hD⟩, hS.F ht⟩) hS.2.2 d_Model_isPointer_19
  · replace hR := if_n c1 hR
    refine lv_aload_n hx hb d_Model_isPointer_4 rfl (lv_at hl 0 rfl) ?_
    refine rd_Model_156 hx hb hT hown hK hP d_Model_isPointer_5 ?_
    refine lv_iload_n hx hb d_Model_isPointer_8 rfl (lv_at hl 1 rfl) ?_
    replace hR := gd_e hR
    obtain ⟨b3, hR⟩ := hR
    refine laM_47 hx hb hK hP b3 d_Model_isPointer_9 ?_
    refine lv_iconst (v := 3) hx hb d_Model_isPointer_10 (by decide) ?_
    refine lv_icmp_ge (tgt := 18) hx hb d_Model_isPointer_11 (by decide) (fun c4 => ?_) (fun c4 => ?_)
    · replace hR := if_p c4 hR
      refine lv_iconst (v := 0) hx hb d_Model_isPointer_18 (by decide) ?_
      obtain ⟨e1, -, e3⟩ := re_e hR
      subst e1; subst e3
      exact W.zret (v := (0 : Int32)) hx hb hr (by first | rfl | decide) (fun t ht hW => ⟨⟨(0 : Int32), (), rfl, rfl, by rw [ht]; exact hP, va_K.moved hW.alike hK, hD⟩, hS.F ht⟩) hS.2.2 d_Model_isPointer_19
    · replace hR := if_n c4 hR
      refine lv_iconst (v := 1) hx hb d_Model_isPointer_14 (by decide) ?_
      refine lv_goto (tgt := 19) hx hb d_Model_isPointer_15 (by decide) ?_
      obtain ⟨e1, -, e3⟩ := re_e hR
      subst e1; subst e3
      exact W.zret (v := (1 : Int32)) hx hb hr (by first | rfl | decide) (fun t ht hW => ⟨⟨(1 : Int32), (), rfl, rfl, by rw [ht]; exact hP, va_K.moved hW.alike hK, hD⟩, hS.F ht⟩) hS.2.2 d_Model_isPointer_19
set_option maxHeartbeats 4000000 in
set_option maxRecDepth 100000 in
theorem sp_Model_isRow (l : Launch) (dC : Nat → ClassId) (dI : Nat → Nat → Nat) (ea ev ad : Nat → Nat) (km : Nat → ClassId) (F : gF) (nf d : Nat) (T0 : gSt) (p1 : Int32) (r0 : Int32) (rl0 : Int64) (T9 : gSt) (hR : rb_Model_isRow F nf T0 p1 = some (r0, rl0, T9)) : GMi l dC dI LM ad km ea ev y_Model_isRow w_Model_isRow (rmD (d + 1)) [.ref (ad 0), .int p1] T0 r0 T9 := by
  intro sz
  refine Met.ofW (cc := b_Model_isRow) (maxL := 2) (ret := (some .boolean)) (by decide) rfl ?_
  intro p e s m args below meth c s₁ B hml hv
  obtain ⟨rfl, hsz, hP, hK, hD0, hnw, henv⟩ := hv
  have hx := B.exec
  have hb := B.bytes
  have hr := B.returns
  have hT : ∀ w ∈ lw_good, w.before _ s = true := fun w h => atoms_spec (ws := w_Model_isRow) B.pre w (List.mem_cons_of_mem _ h)
  have hown : s.vm.findClass R_Model = some m.cls := findClass_of_methodNamed B.named
  subst hsz
  have hD := hD0.self (sz := s.heap.size)
  clear hD0
  generalize hAe : va_A (gW LM ad km T0) s.heap.size = A at hD henv ⊢
  have hA : ∀ q : Nat, s.heap.size ≤ q → A q := fun q h => by rw [← hAe]; exact Or.inr h
  have hS : va_S A s.heap s.heap [] := va_S.rf
  have hl := lv_entry ([.ref (ad 0), .int p1]) (n := 2) (Nat.le_of_ble_eq_true rfl)
  rw [lg_entry_eq]
  generalize (lg_sl ([.ref (ad 0), .int p1]) ++ List.replicate (2 - (lg_sl ([.ref (ad 0), .int p1])).length) Slot.unset).toArray = ls at hl ⊢
  have hl : lv_has ls 2 [(0, .ref (ad 0)), (1, .int p1)] := hl
  unfold rb_Model_isRow at hR
  refine lv_iload_n hx hb d_Model_isRow_0 rfl (lv_at hl 1 rfl) ?_
  refine lv_if_le (tgt := 18) hx hb d_Model_isRow_1 (by decide) (fun c1 => ?_) (fun c1 => ?_)
  · replace hR := if_p c1 hR
    refine lv_iconst (v := 0) hx hb d_Model_isRow_18 (by decide) ?_
    obtain ⟨e1, -, e3⟩ := re_e hR
    subst e1; subst e3
    exact W.zret (v := (0 : Int32)) hx hb hr (by first | rfl | decide) (fun t ht hW => ⟨⟨(0 : Int32), (), rfl, rfl, by rw [ht]; exact hP, va_K.moved hW.alike hK, hD⟩, hS.F ht⟩) hS.2.2 d_Model_isRow_19
  · replace hR := if_n c1 hR
    refine lv_aload_n hx hb d_Model_isRow_4 rfl (lv_at hl 0 rfl) ?_
    refine rd_Model_156 hx hb hT hown hK hP d_Model_isRow_5 ?_
    refine lv_iload_n hx hb d_Model_isRow_8 rfl (lv_at hl 1 rfl) ?_
    replace hR := gd_e hR
    obtain ⟨b3, hR⟩ := hR
    refine laM_47 hx hb hK hP b3 d_Model_isRow_9 ?_
    refine lv_iconst (v := 3) hx hb d_Model_isRow_10 (by decide) ?_
    refine lv_icmp_ne (tgt := 18) hx hb d_Model_isRow_11 (by decide) (fun c4 => ?_) (fun c4 => ?_)
    · replace hR := if_n c4 hR
      refine lv_iconst (v := 0) hx hb d_Model_isRow_18 (by decide) ?_
      obtain ⟨e1, -, e3⟩ := re_e hR
      subst e1; subst e3
      exact W.zret (v := (0 : Int32)) hx hb hr (by first | rfl | decide) (fun t ht hW => ⟨⟨(0 : Int32), (), rfl, rfl, by rw [ht]; exact hP, va_K.moved hW.alike hK, hD⟩, hS.F ht⟩) hS.2.2 d_Model_isRow_19
    · replace hR := if_p c4 hR
      refine lv_iconst (v := 1) hx hb d_Model_isRow_14 (by decide) ?_
      refine lv_goto (tgt := 19) hx hb d_Model_isRow_15 (by decide) ?_
      obtain ⟨e1, -, e3⟩ := re_e hR
      subst e1; subst e3
      exact W.zret (v := (1 : Int32)) hx hb hr (by first | rfl | decide) (fun t ht hW => ⟨⟨(1 : Int32), (), rfl, rfl, by rw [ht]; exact hP, va_K.moved hW.alike hK, hD⟩, hS.F ht⟩) hS.2.2 d_Model_isRow_19
set_option maxHeartbeats 4000000 in
set_option maxRecDepth 100000 in
theorem sp_Model_isTitled (l : Launch) (dC : Nat → ClassId) (dI : Nat → Nat → Nat) (ea ev ad : Nat → Nat) (km : Nat → ClassId) (F : gF) (nf d : Nat) (h_Model_isPointer : mt_Model_isPointer l dC dI ea ev ad km F d) (T0 : gSt) (p1 : Int32) (r0 : Int32) (rl0 : Int64) (T9 : gSt) (hR : rb_Model_isTitled F nf T0 p1 = some (r0, rl0, T9)) : GMi l dC dI LM ad km ea ev y_Model_isTitled w_Model_isTitled (rmD (d + 1)) [.ref (ad 0), .int p1] T0 r0 T9 := by
  intro sz
  refine Met.ofW (cc := b_Model_isTitled) (maxL := 2) (ret := (some .boolean)) (by decide) rfl ?_
  intro p e s m args below meth c s₁ B hml hv
  obtain ⟨rfl, hsz, hP, hK, hD0, hnw, henv⟩ := hv
  have hx := B.exec
  have hb := B.bytes
  have hr := B.returns
  have hT : ∀ w ∈ lw_good, w.before _ s = true := fun w h => atoms_spec (ws := w_Model_isTitled) B.pre w (List.mem_cons_of_mem _ h)
  have hown : s.vm.findClass R_Model = some m.cls := findClass_of_methodNamed B.named
  subst hsz
  have hD := hD0.self (sz := s.heap.size)
  clear hD0
  generalize hAe : va_A (gW LM ad km T0) s.heap.size = A at hD henv ⊢
  have hA : ∀ q : Nat, s.heap.size ≤ q → A q := fun q h => by rw [← hAe]; exact Or.inr h
  have hS : va_S A s.heap s.heap [] := va_S.rf
  have hl := lv_entry ([.ref (ad 0), .int p1]) (n := 2) (Nat.le_of_ble_eq_true rfl)
  rw [lg_entry_eq]
  generalize (lg_sl ([.ref (ad 0), .int p1]) ++ List.replicate (2 - (lg_sl ([.ref (ad 0), .int p1])).length) Slot.unset).toArray = ls at hl ⊢
  have hl : lv_has ls 2 [(0, .ref (ad 0)), (1, .int p1)] := hl
  unfold rb_Model_isTitled at hR
  refine lv_aload_n hx hb d_Model_isTitled_0 rfl (lv_at hl 0 rfl) ?_
  refine lv_iload_n hx hb d_Model_isTitled_1 rfl (lv_at hl 1 rfl) ?_
  replace hR := bi_e hR
  obtain ⟨r1, l1, T1, hc1, hR⟩ := hR
  refine gcV_i (rest := []) ⟨hx, hb, hml, hown, hT⟩ (h_Model_isPointer _ _ _ _ _ hc1) (cwV 1 hT (gV ml_Model_560 im_Model_isPointer se_Model_isPointer ini_Model co_Model_isPointer) rfl rfl rfl pd_Model_isPointer ⟨rm_hi, rm_lo (Nat.le_of_ble_eq_true rfl)⟩) hK hP hD hS hA hnw henv (Nat.le_of_ble_eq_true rfl) rfl rfl hl.1 rfl (Nat.le_of_ble_eq_true rfl) d_Model_isTitled_2 ⟨Nat.le_refl _, Nat.le_refl _⟩ (fun H locs hP hD hS => ?_)
  clear hc1
  refine lv_if_eq (tgt := 21) hx hb d_Model_isTitled_5 (by decide) (fun c2 => ?_) (fun c2 => ?_)
  · replace hR := if_p c2 hR
    refine lv_iconst (v := 0) hx hb d_Model_isTitled_21 (by decide) ?_
    obtain ⟨e1, -, e3⟩ := re_e hR
    subst e1; subst e3
    exact W.zret (v := (0 : Int32)) hx hb hr (by first | rfl | decide) (fun t ht hW => ⟨⟨(0 : Int32), (), rfl, rfl, by rw [ht]; exact hP, va_K.moved hW.alike hK, hD⟩, hS.F ht⟩) hS.2.2 d_Model_isTitled_22
  · replace hR := if_n c2 hR
    refine lv_aload_n hx hb d_Model_isTitled_8 rfl (lv_at hl 0 rfl) ?_
    refine rd_Model_165 hx hb hT hown hK hP d_Model_isTitled_9 ?_
    refine lv_iload_n hx hb d_Model_isTitled_12 rfl (lv_at hl 1 rfl) ?_
    replace hR := gd_e hR
    obtain ⟨b4, hR⟩ := hR
    refine laM_50 hx hb hK hP b4 d_Model_isTitled_13 ?_
    refine lv_if_lt (tgt := 21) hx hb d_Model_isTitled_14 (by decide) (fun c5 => ?_) (fun c5 => ?_)
    · replace hR := if_p c5 hR
      refine lv_iconst (v := 0) hx hb d_Model_isTitled_21 (by decide) ?_
      obtain ⟨e1, -, e3⟩ := re_e hR
      subst e1; subst e3
      exact W.zret (v := (0 : Int32)) hx hb hr (by first | rfl | decide) (fun t ht hW => ⟨⟨(0 : Int32), (), rfl, rfl, by rw [ht]; exact hP, va_K.moved hW.alike hK, hD⟩, hS.F ht⟩) hS.2.2 d_Model_isTitled_22
    · replace hR := if_n c5 hR
      refine lv_iconst (v := 1) hx hb d_Model_isTitled_17 (by decide) ?_
      refine lv_goto (tgt := 22) hx hb d_Model_isTitled_18 (by decide) ?_
      obtain ⟨e1, -, e3⟩ := re_e hR
      subst e1; subst e3
      exact W.zret (v := (1 : Int32)) hx hb hr (by first | rfl | decide) (fun t ht hW => ⟨⟨(1 : Int32), (), rfl, rfl, by rw [ht]; exact hP, va_K.moved hW.alike hK, hD⟩, hS.F ht⟩) hS.2.2 d_Model_isTitled_22
set_option maxHeartbeats 4000000 in
set_option maxRecDepth 100000 in
theorem sp_Model_sameCell (l : Launch) (dC : Nat → ClassId) (dI : Nat → Nat → Nat) (ea ev ad : Nat → Nat) (km : Nat → ClassId) (F : gF) (nf d : Nat) (T0 : gSt) (p1 : Int32) (p2 : Int32) (r0 : Int32) (rl0 : Int64) (T9 : gSt) (hR : rb_Model_sameCell F nf T0 p1 p2 = some (r0, rl0, T9)) : GMi l dC dI LM ad km ea ev y_Model_sameCell w_Model_sameCell (rmD (d + 1)) [.ref (ad 0), .int p1, .int p2] T0 r0 T9 := by
  intro sz
  refine Met.ofW (cc := b_Model_sameCell) (maxL := 3) (ret := (some .boolean)) (by decide) rfl ?_
  intro p e s m args below meth c s₁ B hml hv
  obtain ⟨rfl, hsz, hP, hK, hD0, hnw, henv⟩ := hv
  have hx := B.exec
  have hb := B.bytes
  have hr := B.returns
  have hT : ∀ w ∈ lw_good, w.before _ s = true := fun w h => atoms_spec (ws := w_Model_sameCell) B.pre w (List.mem_cons_of_mem _ h)
  have hown : s.vm.findClass R_Model = some m.cls := findClass_of_methodNamed B.named
  subst hsz
  have hD := hD0.self (sz := s.heap.size)
  clear hD0
  generalize hAe : va_A (gW LM ad km T0) s.heap.size = A at hD henv ⊢
  have hA : ∀ q : Nat, s.heap.size ≤ q → A q := fun q h => by rw [← hAe]; exact Or.inr h
  have hS : va_S A s.heap s.heap [] := va_S.rf
  have hl := lv_entry ([.ref (ad 0), .int p1, .int p2]) (n := 3) (Nat.le_of_ble_eq_true rfl)
  rw [lg_entry_eq]
  generalize (lg_sl ([.ref (ad 0), .int p1, .int p2]) ++ List.replicate (3 - (lg_sl ([.ref (ad 0), .int p1, .int p2])).length) Slot.unset).toArray = ls at hl ⊢
  have hl : lv_has ls 3 [(0, .ref (ad 0)), (1, .int p1), (2, .int p2)] := hl
  unfold rb_Model_sameCell at hR
  refine lv_aload_n hx hb d_Model_sameCell_0 rfl (lv_at hl 0 rfl) ?_
  refine rd_Model_162 hx hb hT hown hK hP d_Model_sameCell_1 ?_
  refine lv_iload_n hx hb d_Model_sameCell_4 rfl (lv_at hl 1 rfl) ?_
  replace hR := gd_e hR
  obtain ⟨b1, hR⟩ := hR
  refine laM_49 hx hb hK hP b1 d_Model_sameCell_5 ?_
  refine lv_aload_n hx hb d_Model_sameCell_6 rfl (lv_at hl 0 rfl) ?_
  refine rd_Model_162 hx hb hT hown hK hP d_Model_sameCell_7 ?_
  refine lv_iload_n hx hb d_Model_sameCell_10 rfl (lv_at hl 2 rfl) ?_
  replace hR := gd_e hR
  obtain ⟨b2, hR⟩ := hR
  refine laM_49 hx hb hK hP b2 d_Model_sameCell_11 ?_
  refine lv_icmp_ne (tgt := 49) hx hb d_Model_sameCell_12 (by decide) (fun c3 => ?_) (fun c3 => ?_)
  · replace hR := if_n c3 hR
    refine lv_iconst (v := 0) hx hb d_Model_sameCell_49 (by decide) ?_
    obtain ⟨e1, -, e3⟩ := re_e hR
    subst e1; subst e3
    exact W.zret (v := (0 : Int32)) hx hb hr (by first | rfl | decide) (fun t ht hW => ⟨⟨(0 : Int32), (), rfl, rfl, by rw [ht]; exact hP, va_K.moved hW.alike hK, hD⟩, hS.F ht⟩) hS.2.2 d_Model_sameCell_50
  · replace hR := if_p c3 hR
    refine lv_aload_n hx hb d_Model_sameCell_15 rfl (lv_at hl 0 rfl) ?_
    refine rd_Model_165 hx hb hT hown hK hP d_Model_sameCell_16 ?_
    refine lv_iload_n hx hb d_Model_sameCell_19 rfl (lv_at hl 1 rfl) ?_
    replace hR := gd_e hR
    obtain ⟨b5, hR⟩ := hR
    refine laM_50 hx hb hK hP b5 d_Model_sameCell_20 ?_
    refine lv_aload_n hx hb d_Model_sameCell_21 rfl (lv_at hl 0 rfl) ?_
    refine rd_Model_165 hx hb hT hown hK hP d_Model_sameCell_22 ?_
    refine lv_iload_n hx hb d_Model_sameCell_25 rfl (lv_at hl 2 rfl) ?_
    replace hR := gd_e hR
    obtain ⟨b6, hR⟩ := hR
    refine laM_50 hx hb hK hP b6 d_Model_sameCell_26 ?_
    refine lv_icmp_ne (tgt := 49) hx hb d_Model_sameCell_27 (by decide) (fun c7 => ?_) (fun c7 => ?_)
    · replace hR := if_n c7 hR
      refine lv_iconst (v := 0) hx hb d_Model_sameCell_49 (by decide) ?_
      obtain ⟨e1, -, e3⟩ := re_e hR
      subst e1; subst e3
      exact W.zret (v := (0 : Int32)) hx hb hr (by first | rfl | decide) (fun t ht hW => ⟨⟨(0 : Int32), (), rfl, rfl, by rw [ht]; exact hP, va_K.moved hW.alike hK, hD⟩, hS.F ht⟩) hS.2.2 d_Model_sameCell_50
    · replace hR := if_p c7 hR
      refine lv_aload_n hx hb d_Model_sameCell_30 rfl (lv_at hl 0 rfl) ?_
      refine rd_Model_168 hx hb hT hown hK hP d_Model_sameCell_31 ?_
      refine lv_iload_n hx hb d_Model_sameCell_34 rfl (lv_at hl 1 rfl) ?_
      replace hR := gd_e hR
      obtain ⟨b9, hR⟩ := hR
      refine laM_51 hx hb hK hP b9 d_Model_sameCell_35 ?_
      refine lv_aload_n hx hb d_Model_sameCell_36 rfl (lv_at hl 0 rfl) ?_
      refine rd_Model_168 hx hb hT hown hK hP d_Model_sameCell_37 ?_
      refine lv_iload_n hx hb d_Model_sameCell_40 rfl (lv_at hl 2 rfl) ?_
      replace hR := gd_e hR
      obtain ⟨b10, hR⟩ := hR
      refine laM_51 hx hb hK hP b10 d_Model_sameCell_41 ?_
      refine lv_icmp_ne (tgt := 49) hx hb d_Model_sameCell_42 (by decide) (fun c11 => ?_) (fun c11 => ?_)
      · replace hR := if_n c11 hR
        refine lv_iconst (v := 0) hx hb d_Model_sameCell_49 (by decide) ?_
        obtain ⟨e1, -, e3⟩ := re_e hR
        subst e1; subst e3
        exact W.zret (v := (0 : Int32)) hx hb hr (by first | rfl | decide) (fun t ht hW => ⟨⟨(0 : Int32), (), rfl, rfl, by rw [ht]; exact hP, va_K.moved hW.alike hK, hD⟩, hS.F ht⟩) hS.2.2 d_Model_sameCell_50
      · replace hR := if_p c11 hR
        refine lv_iconst (v := 1) hx hb d_Model_sameCell_45 (by decide) ?_
        refine lv_goto (tgt := 50) hx hb d_Model_sameCell_46 (by decide) ?_
        obtain ⟨e1, -, e3⟩ := re_e hR
        subst e1; subst e3
        exact W.zret (v := (1 : Int32)) hx hb hr (by first | rfl | decide) (fun t ht hW => ⟨⟨(1 : Int32), (), rfl, rfl, by rw [ht]; exact hP, va_K.moved hW.alike hK, hD⟩, hS.F ht⟩) hS.2.2 d_Model_sameCell_50
set_option maxHeartbeats 4000000 in
set_option maxRecDepth 100000 in
theorem sp_Model_findTitle (l : Launch) (dC : Nat → ClassId) (dI : Nat → Nat → Nat) (ea ev ad : Nat → Nat) (km : Nat → ClassId) (F : gF) (nf d : Nat) (T0 : gSt) (p1 : Int64) (r0 : Int32) (rl0 : Int64) (T9 : gSt) (hR : rb_Model_findTitle F nf T0 p1 = some (r0, rl0, T9)) : GMi l dC dI LM ad km ea ev y_Model_findTitle w_Model_findTitle (rmD (d + 1)) [.ref (ad 0), .long p1] T0 r0 T9 := by
  intro sz
  refine Met.ofW (cc := b_Model_findTitle) (maxL := 4) (ret := (some .int)) (by decide) rfl ?_
  intro p e s m args below meth c s₁ B hml hv
  obtain ⟨rfl, hsz, hP, hK, hD0, hnw, henv⟩ := hv
  have hx := B.exec
  have hb := B.bytes
  have hr := B.returns
  have hT : ∀ w ∈ lw_good, w.before _ s = true := fun w h => atoms_spec (ws := w_Model_findTitle) B.pre w (List.mem_cons_of_mem _ h)
  have hown : s.vm.findClass R_Model = some m.cls := findClass_of_methodNamed B.named
  subst hsz
  have hD := hD0.self (sz := s.heap.size)
  clear hD0
  generalize hAe : va_A (gW LM ad km T0) s.heap.size = A at hD henv ⊢
  have hA : ∀ q : Nat, s.heap.size ≤ q → A q := fun q h => by rw [← hAe]; exact Or.inr h
  have hS : va_S A s.heap s.heap [] := va_S.rf
  have hl := lv_entry ([.ref (ad 0), .long p1]) (n := 4) (Nat.le_of_ble_eq_true rfl)
  rw [lg_entry_eq]
  generalize (lg_sl ([.ref (ad 0), .long p1]) ++ List.replicate (4 - (lg_sl ([.ref (ad 0), .long p1])).length) Slot.unset).toArray = ls at hl ⊢
  have hl : lv_has ls 4 [(0, .ref (ad 0)), (1, .long p1)] := hl
  obtain ⟨G, hG⟩ : ∃ G : Nat → List (Nat × Value) → List Value → gSt → Prop, G = (fun pc lv stk T => ∀ (H : Heap) (locs : List Loc), va_P (dC, dI) cls_all (gW LM ad km T) H → va_D A (gW LM ad km T) → va_S A s.heap H locs → ∀ (ls : Array Slot), lv_has ls 4 lv → W p l e (headSpec w_Model_findTitle (rmD (d + 1))).room s m ([.ref (ad 0), .long p1] : List Value).toArray below meth c H locs 0 0 (MQ below (va_Qi (fun (z : Int32) (_ : Unit) => z = r0) (fun _ t => gPost dC dI LM ad km T9 A t) A) ([.ref (ad 0), .long p1] : List Value).toArray s 0 0 A) (F0 m pc ls stk)) := ⟨_, rfl⟩
  have lb_2 : ∀ (n : Nat) (T : gSt) (x1 : Int64) (x3 : Int32), rl_Model_findTitle_2 F nf n T x1 x3 = some (r0, rl0, T9) → G 2 [(0, .ref (ad 0)), (1, .long x1), (3, .int x3)] [] T := by
    intro n
    induction n with
    | zero => intro T x1 x3 hR; rw [rl_Model_findTitle_2] at hR; cases hR
    | succ n ih =>
      intro T x1 x3 hR; rw [rl_Model_findTitle_2] at hR; rw [hG]; intro H locs hP hD hS ls hl
      refine lv_iload_n hx hb d_Model_findTitle_2 rfl (lv_at hl 2 rfl) ?_
      refine lv_aload_n hx hb d_Model_findTitle_3 rfl (lv_at hl 0 rfl) ?_
      refine rd_Model_412 hx hb hT hown hK hP d_Model_findTitle_4 ?_
      refine lv_icmp_ge (tgt := 39) hx hb d_Model_findTitle_7 (by decide) (fun c1 => ?_) (fun c1 => ?_)
      · replace hR := if_p c1 hR
        refine lv_iconst (v := (-1)) hx hb d_Model_findTitle_39 (by decide) ?_
        obtain ⟨e1, -, e3⟩ := re_e hR
        subst e1; subst e3
        exact W.iret (v := (-1 : Int32)) hx hb hr (fun t ht hW => ⟨⟨(-1 : Int32), (), rfl, rfl, by rw [ht]; exact hP, va_K.moved hW.alike hK, hD⟩, hS.F ht⟩) hS.2.2 d_Model_findTitle_40
      · replace hR := if_n c1 hR
        refine lv_aload_n hx hb d_Model_findTitle_10 rfl (lv_at hl 0 rfl) ?_
        refine rd_Model_17 hx hb hT hown hK hP d_Model_findTitle_11 ?_
        refine lv_iload_n hx hb d_Model_findTitle_14 rfl (lv_at hl 2 rfl) ?_
        replace hR := gd_e hR
        obtain ⟨b3, hR⟩ := hR
        refine laM_1 hx hb hK hP b3 d_Model_findTitle_15 ?_
        refine lv_iconst (v := 2) hx hb d_Model_findTitle_16 (by decide) ?_
        refine lv_icmp_ge (tgt := 33) hx hb d_Model_findTitle_17 (by decide) (fun c4 => ?_) (fun c4 => ?_)
        · replace hR := if_p c4 hR
          obtain ⟨z5, e5⟩ : ∃ y : Int32, y = x3 + (1 : Int32) := ⟨_, rfl⟩
          replace hR := vK_e e5 hR
          refine lv_iinc (v := z5) (lv' := [(3, .int z5), (0, .ref (ad 0)), (1, .long x1)]) hx hb d_Model_findTitle_33 hl (k := 2) rfl (by rw [e5]; rfl) (by decide) rfl (fun ls hl => ?_)
          refine lv_goto (tgt := 2) hx hb d_Model_findTitle_36 (by decide) ?_
          have g := ih T x1 z5 hR
          rw [hG] at g
          exact g _ _ hP hD hS _ (lv_sub hl [1, 2, 0] rfl)
        · replace hR := if_n c4 hR
          refine lv_aload_n hx hb d_Model_findTitle_20 rfl (lv_at hl 0 rfl) ?_
          refine rd_Model_20 hx hb hT hown hK hP d_Model_findTitle_21 ?_
          refine lv_iload_n hx hb d_Model_findTitle_24 rfl (lv_at hl 2 rfl) ?_
          replace hR := gd_e hR
          obtain ⟨b6, hR⟩ := hR
          refine laM_2 hx hb hK hP b6 d_Model_findTitle_25 ?_
          refine lv_lload_n hx hb d_Model_findTitle_26 rfl (lv_at hl 1 rfl) ?_
          refine W.lcmp hx hb d_Model_findTitle_27 ?_
          refine lv_if_ne (tgt := 33) hx hb d_Model_findTitle_28 (by decide) (fun c7 => ?_) (fun c7 => ?_)
          · replace hR := if_n c7 hR
            obtain ⟨z8, e8⟩ : ∃ y : Int32, y = x3 + (1 : Int32) := ⟨_, rfl⟩
            replace hR := vK_e e8 hR
            refine lv_iinc (v := z8) (lv' := [(3, .int z8), (0, .ref (ad 0)), (1, .long x1)]) hx hb d_Model_findTitle_33 hl (k := 2) rfl (by rw [e8]; rfl) (by decide) rfl (fun ls hl => ?_)
            refine lv_goto (tgt := 2) hx hb d_Model_findTitle_36 (by decide) ?_
            have g := ih T x1 z8 hR
            rw [hG] at g
            exact g _ _ hP hD hS _ (lv_sub hl [1, 2, 0] rfl)
          · replace hR := if_p c7 hR
            refine lv_iload_n hx hb d_Model_findTitle_31 rfl (lv_at hl 2 rfl) ?_
            obtain ⟨e1, -, e3⟩ := re_e hR
            subst e1; subst e3
            exact W.iret (v := x3) hx hb hr (fun t ht hW => ⟨⟨x3, (), rfl, rfl, by rw [ht]; exact hP, va_K.moved hW.alike hK, hD⟩, hS.F ht⟩) hS.2.2 d_Model_findTitle_32
  unfold rb_Model_findTitle at hR
  refine lv_iconst (v := 0) hx hb d_Model_findTitle_0 (by decide) ?_
  refine lv_istore_n (lv' := [(3, .int (0 : Int32)), (0, .ref (ad 0)), (1, .long p1)]) hx hb d_Model_findTitle_1 rfl hl (by decide) rfl (fun ls hl => ?_)
  have g := lb_2 nf T0 p1 (0 : Int32) hR
  rw [hG] at g
  exact g _ _ hP hD hS _ (lv_sub hl [1, 2, 0] rfl)
set_option maxHeartbeats 4000000 in
set_option maxRecDepth 100000 in
theorem sp_Model_findFun (l : Launch) (dC : Nat → ClassId) (dI : Nat → Nat → Nat) (ea ev ad : Nat → Nat) (km : Nat → ClassId) (F : gF) (nf d : Nat) (T0 : gSt) (p1 : Int64) (r0 : Int32) (rl0 : Int64) (T9 : gSt) (hR : rb_Model_findFun F nf T0 p1 = some (r0, rl0, T9)) : GMi l dC dI LM ad km ea ev y_Model_findFun w_Model_findFun (rmD (d + 1)) [.ref (ad 0), .long p1] T0 r0 T9 := by
  intro sz
  refine Met.ofW (cc := b_Model_findFun) (maxL := 4) (ret := (some .int)) (by decide) rfl ?_
  intro p e s m args below meth c s₁ B hml hv
  obtain ⟨rfl, hsz, hP, hK, hD0, hnw, henv⟩ := hv
  have hx := B.exec
  have hb := B.bytes
  have hr := B.returns
  have hT : ∀ w ∈ lw_good, w.before _ s = true := fun w h => atoms_spec (ws := w_Model_findFun) B.pre w (List.mem_cons_of_mem _ h)
  have hown : s.vm.findClass R_Model = some m.cls := findClass_of_methodNamed B.named
  subst hsz
  have hD := hD0.self (sz := s.heap.size)
  clear hD0
  generalize hAe : va_A (gW LM ad km T0) s.heap.size = A at hD henv ⊢
  have hA : ∀ q : Nat, s.heap.size ≤ q → A q := fun q h => by rw [← hAe]; exact Or.inr h
  have hS : va_S A s.heap s.heap [] := va_S.rf
  have hl := lv_entry ([.ref (ad 0), .long p1]) (n := 4) (Nat.le_of_ble_eq_true rfl)
  rw [lg_entry_eq]
  generalize (lg_sl ([.ref (ad 0), .long p1]) ++ List.replicate (4 - (lg_sl ([.ref (ad 0), .long p1])).length) Slot.unset).toArray = ls at hl ⊢
  have hl : lv_has ls 4 [(0, .ref (ad 0)), (1, .long p1)] := hl
  obtain ⟨G, hG⟩ : ∃ G : Nat → List (Nat × Value) → List Value → gSt → Prop, G = (fun pc lv stk T => ∀ (H : Heap) (locs : List Loc), va_P (dC, dI) cls_all (gW LM ad km T) H → va_D A (gW LM ad km T) → va_S A s.heap H locs → ∀ (ls : Array Slot), lv_has ls 4 lv → W p l e (headSpec w_Model_findFun (rmD (d + 1))).room s m ([.ref (ad 0), .long p1] : List Value).toArray below meth c H locs 0 0 (MQ below (va_Qi (fun (z : Int32) (_ : Unit) => z = r0) (fun _ t => gPost dC dI LM ad km T9 A t) A) ([.ref (ad 0), .long p1] : List Value).toArray s 0 0 A) (F0 m pc ls stk)) := ⟨_, rfl⟩
  have lb_2 : ∀ (n : Nat) (T : gSt) (x1 : Int64) (x3 : Int32), rl_Model_findFun_2 F nf n T x1 x3 = some (r0, rl0, T9) → G 2 [(0, .ref (ad 0)), (1, .long x1), (3, .int x3)] [] T := by
    intro n
    induction n with
    | zero => intro T x1 x3 hR; rw [rl_Model_findFun_2] at hR; cases hR
    | succ n ih =>
      intro T x1 x3 hR; rw [rl_Model_findFun_2] at hR; rw [hG]; intro H locs hP hD hS ls hl
      refine lv_iload_n hx hb d_Model_findFun_2 rfl (lv_at hl 2 rfl) ?_
      refine lv_aload_n hx hb d_Model_findFun_3 rfl (lv_at hl 0 rfl) ?_
      refine rd_Model_412 hx hb hT hown hK hP d_Model_findFun_4 ?_
      refine lv_icmp_ge (tgt := 39) hx hb d_Model_findFun_7 (by decide) (fun c1 => ?_) (fun c1 => ?_)
      · replace hR := if_p c1 hR
        refine lv_iconst (v := (-1)) hx hb d_Model_findFun_39 (by decide) ?_
        obtain ⟨e1, -, e3⟩ := re_e hR
        subst e1; subst e3
        exact W.iret (v := (-1 : Int32)) hx hb hr (fun t ht hW => ⟨⟨(-1 : Int32), (), rfl, rfl, by rw [ht]; exact hP, va_K.moved hW.alike hK, hD⟩, hS.F ht⟩) hS.2.2 d_Model_findFun_40
      · replace hR := if_n c1 hR
        refine lv_aload_n hx hb d_Model_findFun_10 rfl (lv_at hl 0 rfl) ?_
        refine rd_Model_17 hx hb hT hown hK hP d_Model_findFun_11 ?_
        refine lv_iload_n hx hb d_Model_findFun_14 rfl (lv_at hl 2 rfl) ?_
        replace hR := gd_e hR
        obtain ⟨b3, hR⟩ := hR
        refine laM_1 hx hb hK hP b3 d_Model_findFun_15 ?_
        refine lv_iconst (v := 2) hx hb d_Model_findFun_16 (by decide) ?_
        refine lv_icmp_ne (tgt := 33) hx hb d_Model_findFun_17 (by decide) (fun c4 => ?_) (fun c4 => ?_)
        · replace hR := if_n c4 hR
          obtain ⟨z5, e5⟩ : ∃ y : Int32, y = x3 + (1 : Int32) := ⟨_, rfl⟩
          replace hR := vK_e e5 hR
          refine lv_iinc (v := z5) (lv' := [(3, .int z5), (0, .ref (ad 0)), (1, .long x1)]) hx hb d_Model_findFun_33 hl (k := 2) rfl (by rw [e5]; rfl) (by decide) rfl (fun ls hl => ?_)
          refine lv_goto (tgt := 2) hx hb d_Model_findFun_36 (by decide) ?_
          have g := ih T x1 z5 hR
          rw [hG] at g
          exact g _ _ hP hD hS _ (lv_sub hl [1, 2, 0] rfl)
        · replace hR := if_p c4 hR
          refine lv_aload_n hx hb d_Model_findFun_20 rfl (lv_at hl 0 rfl) ?_
          refine rd_Model_20 hx hb hT hown hK hP d_Model_findFun_21 ?_
          refine lv_iload_n hx hb d_Model_findFun_24 rfl (lv_at hl 2 rfl) ?_
          replace hR := gd_e hR
          obtain ⟨b6, hR⟩ := hR
          refine laM_2 hx hb hK hP b6 d_Model_findFun_25 ?_
          refine lv_lload_n hx hb d_Model_findFun_26 rfl (lv_at hl 1 rfl) ?_
          refine W.lcmp hx hb d_Model_findFun_27 ?_
          refine lv_if_ne (tgt := 33) hx hb d_Model_findFun_28 (by decide) (fun c7 => ?_) (fun c7 => ?_)
          · replace hR := if_n c7 hR
            obtain ⟨z8, e8⟩ : ∃ y : Int32, y = x3 + (1 : Int32) := ⟨_, rfl⟩
            replace hR := vK_e e8 hR
            refine lv_iinc (v := z8) (lv' := [(3, .int z8), (0, .ref (ad 0)), (1, .long x1)]) hx hb d_Model_findFun_33 hl (k := 2) rfl (by rw [e8]; rfl) (by decide) rfl (fun ls hl => ?_)
            refine lv_goto (tgt := 2) hx hb d_Model_findFun_36 (by decide) ?_
            have g := ih T x1 z8 hR
            rw [hG] at g
            exact g _ _ hP hD hS _ (lv_sub hl [1, 2, 0] rfl)
          · replace hR := if_p c7 hR
            refine lv_iload_n hx hb d_Model_findFun_31 rfl (lv_at hl 2 rfl) ?_
            obtain ⟨e1, -, e3⟩ := re_e hR
            subst e1; subst e3
            exact W.iret (v := x3) hx hb hr (fun t ht hW => ⟨⟨x3, (), rfl, rfl, by rw [ht]; exact hP, va_K.moved hW.alike hK, hD⟩, hS.F ht⟩) hS.2.2 d_Model_findFun_32
  unfold rb_Model_findFun at hR
  refine lv_iconst (v := 0) hx hb d_Model_findFun_0 (by decide) ?_
  refine lv_istore_n (lv' := [(3, .int (0 : Int32)), (0, .ref (ad 0)), (1, .long p1)]) hx hb d_Model_findFun_1 rfl hl (by decide) rfl (fun ls hl => ?_)
  have g := lb_2 nf T0 p1 (0 : Int32) hR
  rw [hG] at g
  exact g _ _ hP hD hS _ (lv_sub hl [1, 2, 0] rfl)
set_option maxHeartbeats 4000000 in
set_option maxRecDepth 100000 in
theorem sp_Model_findField (l : Launch) (dC : Nat → ClassId) (dI : Nat → Nat → Nat) (ea ev ad : Nat → Nat) (km : Nat → ClassId) (F : gF) (nf d : Nat) (T0 : gSt) (p1 : Int32) (p2 : Int64) (r0 : Int32) (rl0 : Int64) (T9 : gSt) (hR : rb_Model_findField F nf T0 p1 p2 = some (r0, rl0, T9)) : GMi l dC dI LM ad km ea ev y_Model_findField w_Model_findField (rmD (d + 1)) [.ref (ad 0), .int p1, .long p2] T0 r0 T9 := by
  intro sz
  refine Met.ofW (cc := b_Model_findField) (maxL := 5) (ret := (some .int)) (by decide) rfl ?_
  intro p e s m args below meth c s₁ B hml hv
  obtain ⟨rfl, hsz, hP, hK, hD0, hnw, henv⟩ := hv
  have hx := B.exec
  have hb := B.bytes
  have hr := B.returns
  have hT : ∀ w ∈ lw_good, w.before _ s = true := fun w h => atoms_spec (ws := w_Model_findField) B.pre w (List.mem_cons_of_mem _ h)
  have hown : s.vm.findClass R_Model = some m.cls := findClass_of_methodNamed B.named
  subst hsz
  have hD := hD0.self (sz := s.heap.size)
  clear hD0
  generalize hAe : va_A (gW LM ad km T0) s.heap.size = A at hD henv ⊢
  have hA : ∀ q : Nat, s.heap.size ≤ q → A q := fun q h => by rw [← hAe]; exact Or.inr h
  have hS : va_S A s.heap s.heap [] := va_S.rf
  have hl := lv_entry ([.ref (ad 0), .int p1, .long p2]) (n := 5) (Nat.le_of_ble_eq_true rfl)
  rw [lg_entry_eq]
  generalize (lg_sl ([.ref (ad 0), .int p1, .long p2]) ++ List.replicate (5 - (lg_sl ([.ref (ad 0), .int p1, .long p2])).length) Slot.unset).toArray = ls at hl ⊢
  have hl : lv_has ls 5 [(0, .ref (ad 0)), (1, .int p1), (2, .long p2)] := hl
  obtain ⟨G, hG⟩ : ∃ G : Nat → List (Nat × Value) → List Value → gSt → Prop, G = (fun pc lv stk T => ∀ (H : Heap) (locs : List Loc), va_P (dC, dI) cls_all (gW LM ad km T) H → va_D A (gW LM ad km T) → va_S A s.heap H locs → ∀ (ls : Array Slot), lv_has ls 5 lv → W p l e (headSpec w_Model_findField (rmD (d + 1))).room s m ([.ref (ad 0), .int p1, .long p2] : List Value).toArray below meth c H locs 0 0 (MQ below (va_Qi (fun (z : Int32) (_ : Unit) => z = r0) (fun _ t => gPost dC dI LM ad km T9 A t) A) ([.ref (ad 0), .int p1, .long p2] : List Value).toArray s 0 0 A) (F0 m pc ls stk)) := ⟨_, rfl⟩
  have lb_3 : ∀ (n : Nat) (T : gSt) (x1 : Int32) (x2 : Int64) (x4 : Int32), rl_Model_findField_3 F nf n T x1 x2 x4 = some (r0, rl0, T9) → G 3 [(0, .ref (ad 0)), (1, .int x1), (2, .long x2), (4, .int x4)] [] T := by
    intro n
    induction n with
    | zero => intro T x1 x2 x4 hR; rw [rl_Model_findField_3] at hR; cases hR
    | succ n ih =>
      intro T x1 x2 x4 hR; rw [rl_Model_findField_3] at hR; rw [hG]; intro H locs hP hD hS ls hl
      refine lv_iload hx hb d_Model_findField_3 (lv_at hl 3 rfl) ?_
      refine lv_aload_n hx hb d_Model_findField_5 rfl (lv_at hl 0 rfl) ?_
      refine rd_Model_39 hx hb hT hown hK hP d_Model_findField_6 ?_
      refine lv_iload_n hx hb d_Model_findField_9 rfl (lv_at hl 1 rfl) ?_
      replace hR := gd_e hR
      obtain ⟨b1, hR⟩ := hR
      refine laM_8 hx hb hK hP b1 d_Model_findField_10 ?_
      refine lv_icmp_ge (tgt := 42) hx hb d_Model_findField_11 (by decide) (fun c2 => ?_) (fun c2 => ?_)
      · replace hR := if_p c2 hR
        refine lv_iconst (v := (-1)) hx hb d_Model_findField_42 (by decide) ?_
        obtain ⟨e1, -, e3⟩ := re_e hR
        subst e1; subst e3
        exact W.iret (v := (-1 : Int32)) hx hb hr (fun t ht hW => ⟨⟨(-1 : Int32), (), rfl, rfl, by rw [ht]; exact hP, va_K.moved hW.alike hK, hD⟩, hS.F ht⟩) hS.2.2 d_Model_findField_43
      · replace hR := if_n c2 hR
        refine lv_aload_n hx hb d_Model_findField_14 rfl (lv_at hl 0 rfl) ?_
        refine rd_Model_42 hx hb hT hown hK hP d_Model_findField_15 ?_
        refine lv_aload_n hx hb d_Model_findField_18 rfl (lv_at hl 0 rfl) ?_
        refine rd_Model_36 hx hb hT hown hK hP d_Model_findField_19 ?_
        refine lv_iload_n hx hb d_Model_findField_22 rfl (lv_at hl 1 rfl) ?_
        replace hR := gd_e hR
        obtain ⟨b4, hR⟩ := hR
        refine laM_7 hx hb hK hP b4 d_Model_findField_23 ?_
        refine lv_iload hx hb d_Model_findField_24 (lv_at hl 3 rfl) ?_
        refine lv_iadd hx hb d_Model_findField_26 ?_
        replace hR := gd_e hR
        obtain ⟨b5, hR⟩ := hR
        refine laM_9 hx hb hK hP b5 d_Model_findField_27 ?_
        refine lv_lload_n hx hb d_Model_findField_28 rfl (lv_at hl 2 rfl) ?_
        refine W.lcmp hx hb d_Model_findField_29 ?_
        refine lv_if_ne (tgt := 36) hx hb d_Model_findField_30 (by decide) (fun c6 => ?_) (fun c6 => ?_)
        · replace hR := if_n c6 hR
          obtain ⟨z7, e7⟩ : ∃ y : Int32, y = x4 + (1 : Int32) := ⟨_, rfl⟩
          replace hR := vK_e e7 hR
          refine lv_iinc (v := z7) (lv' := [(4, .int z7), (0, .ref (ad 0)), (1, .int x1), (2, .long x2)]) hx hb d_Model_findField_36 hl (k := 3) rfl (by rw [e7]; rfl) (by decide) rfl (fun ls hl => ?_)
          refine lv_goto (tgt := 3) hx hb d_Model_findField_39 (by decide) ?_
          have g := ih T x1 x2 z7 hR
          rw [hG] at g
          exact g _ _ hP hD hS _ (lv_sub hl [1, 2, 3, 0] rfl)
        · replace hR := if_p c6 hR
          refine lv_iload hx hb d_Model_findField_33 (lv_at hl 3 rfl) ?_
          obtain ⟨e1, -, e3⟩ := re_e hR
          subst e1; subst e3
          exact W.iret (v := x4) hx hb hr (fun t ht hW => ⟨⟨x4, (), rfl, rfl, by rw [ht]; exact hP, va_K.moved hW.alike hK, hD⟩, hS.F ht⟩) hS.2.2 d_Model_findField_35
  unfold rb_Model_findField at hR
  refine lv_iconst (v := 0) hx hb d_Model_findField_0 (by decide) ?_
  refine lv_istore (lv' := [(4, .int (0 : Int32)), (0, .ref (ad 0)), (1, .int p1), (2, .long p2)]) hx hb d_Model_findField_1 hl (by decide) rfl (fun ls hl => ?_)
  have g := lb_3 nf T0 p1 p2 (0 : Int32) hR
  rw [hG] at g
  exact g _ _ hP hD hS _ (lv_sub hl [1, 2, 3, 0] rfl)
set_option maxHeartbeats 4000000 in
set_option maxRecDepth 100000 in
theorem sp_Model_findVar (l : Launch) (dC : Nat → ClassId) (dI : Nat → Nat → Nat) (ea ev ad : Nat → Nat) (km : Nat → ClassId) (F : gF) (nf d : Nat) (T0 : gSt) (p1 : Int64) (r0 : Int32) (rl0 : Int64) (T9 : gSt) (hR : rb_Model_findVar F nf T0 p1 = some (r0, rl0, T9)) : GMi l dC dI LM ad km ea ev y_Model_findVar w_Model_findVar (rmD (d + 1)) [.ref (ad 0), .long p1] T0 r0 T9 := by
  intro sz
  refine Met.ofW (cc := b_Model_findVar) (maxL := 4) (ret := (some .int)) (by decide) rfl ?_
  intro p e s m args below meth c s₁ B hml hv
  obtain ⟨rfl, hsz, hP, hK, hD0, hnw, henv⟩ := hv
  have hx := B.exec
  have hb := B.bytes
  have hr := B.returns
  have hT : ∀ w ∈ lw_good, w.before _ s = true := fun w h => atoms_spec (ws := w_Model_findVar) B.pre w (List.mem_cons_of_mem _ h)
  have hown : s.vm.findClass R_Model = some m.cls := findClass_of_methodNamed B.named
  subst hsz
  have hD := hD0.self (sz := s.heap.size)
  clear hD0
  generalize hAe : va_A (gW LM ad km T0) s.heap.size = A at hD henv ⊢
  have hA : ∀ q : Nat, s.heap.size ≤ q → A q := fun q h => by rw [← hAe]; exact Or.inr h
  have hS : va_S A s.heap s.heap [] := va_S.rf
  have hl := lv_entry ([.ref (ad 0), .long p1]) (n := 4) (Nat.le_of_ble_eq_true rfl)
  rw [lg_entry_eq]
  generalize (lg_sl ([.ref (ad 0), .long p1]) ++ List.replicate (4 - (lg_sl ([.ref (ad 0), .long p1])).length) Slot.unset).toArray = ls at hl ⊢
  have hl : lv_has ls 4 [(0, .ref (ad 0)), (1, .long p1)] := hl
  obtain ⟨G, hG⟩ : ∃ G : Nat → List (Nat × Value) → List Value → gSt → Prop, G = (fun pc lv stk T => ∀ (H : Heap) (locs : List Loc), va_P (dC, dI) cls_all (gW LM ad km T) H → va_D A (gW LM ad km T) → va_S A s.heap H locs → ∀ (ls : Array Slot), lv_has ls 4 lv → W p l e (headSpec w_Model_findVar (rmD (d + 1))).room s m ([.ref (ad 0), .long p1] : List Value).toArray below meth c H locs 0 0 (MQ below (va_Qi (fun (z : Int32) (_ : Unit) => z = r0) (fun _ t => gPost dC dI LM ad km T9 A t) A) ([.ref (ad 0), .long p1] : List Value).toArray s 0 0 A) (F0 m pc ls stk)) := ⟨_, rfl⟩
  have lb_7 : ∀ (n : Nat) (T : gSt) (x1 : Int64) (x3 : Int32), rl_Model_findVar_7 F nf n T x1 x3 = some (r0, rl0, T9) → G 7 [(0, .ref (ad 0)), (1, .long x1), (3, .int x3)] [] T := by
    intro n
    induction n with
    | zero => intro T x1 x3 hR; rw [rl_Model_findVar_7] at hR; cases hR
    | succ n ih =>
      intro T x1 x3 hR; rw [rl_Model_findVar_7] at hR; rw [hG]; intro H locs hP hD hS ls hl
      refine lv_iload_n hx hb d_Model_findVar_7 rfl (lv_at hl 2 rfl) ?_
      refine lv_if_lt (tgt := 30) hx hb d_Model_findVar_8 (by decide) (fun c2 => ?_) (fun c2 => ?_)
      · replace hR := if_p c2 hR
        refine lv_iconst (v := (-1)) hx hb d_Model_findVar_30 (by decide) ?_
        obtain ⟨e1, -, e3⟩ := re_e hR
        subst e1; subst e3
        exact W.iret (v := (-1 : Int32)) hx hb hr (fun t ht hW => ⟨⟨(-1 : Int32), (), rfl, rfl, by rw [ht]; exact hP, va_K.moved hW.alike hK, hD⟩, hS.F ht⟩) hS.2.2 d_Model_findVar_31
      · replace hR := if_n c2 hR
        refine lv_aload_n hx hb d_Model_findVar_11 rfl (lv_at hl 0 rfl) ?_
        refine rd_Model_180 hx hb hT hown hK hP d_Model_findVar_12 ?_
        refine lv_iload_n hx hb d_Model_findVar_15 rfl (lv_at hl 2 rfl) ?_
        replace hR := gd_e hR
        obtain ⟨b4, hR⟩ := hR
        refine laM_55 hx hb hK hP b4 d_Model_findVar_16 ?_
        refine lv_lload_n hx hb d_Model_findVar_17 rfl (lv_at hl 1 rfl) ?_
        refine W.lcmp hx hb d_Model_findVar_18 ?_
        refine lv_if_ne (tgt := 24) hx hb d_Model_findVar_19 (by decide) (fun c5 => ?_) (fun c5 => ?_)
        · replace hR := if_n c5 hR
          obtain ⟨z6, e6⟩ : ∃ y : Int32, y = x3 + (-1 : Int32) := ⟨_, rfl⟩
          replace hR := vK_e e6 hR
          refine lv_iinc (v := z6) (lv' := [(3, .int z6), (0, .ref (ad 0)), (1, .long x1)]) hx hb d_Model_findVar_24 hl (k := 2) rfl (by rw [e6]; rfl) (by decide) rfl (fun ls hl => ?_)
          refine lv_goto (tgt := 7) hx hb d_Model_findVar_27 (by decide) ?_
          have g := ih T x1 z6 hR
          rw [hG] at g
          exact g _ _ hP hD hS _ (lv_sub hl [1, 2, 0] rfl)
        · replace hR := if_p c5 hR
          refine lv_iload_n hx hb d_Model_findVar_22 rfl (lv_at hl 2 rfl) ?_
          obtain ⟨e1, -, e3⟩ := re_e hR
          subst e1; subst e3
          exact W.iret (v := x3) hx hb hr (fun t ht hW => ⟨⟨x3, (), rfl, rfl, by rw [ht]; exact hP, va_K.moved hW.alike hK, hD⟩, hS.F ht⟩) hS.2.2 d_Model_findVar_23
  unfold rb_Model_findVar at hR
  refine lv_aload_n hx hb d_Model_findVar_0 rfl (lv_at hl 0 rfl) ?_
  refine rd_Model_563 hx hb hT hown hK hP d_Model_findVar_1 ?_
  refine lv_iconst (v := 1) hx hb d_Model_findVar_4 (by decide) ?_
  refine lv_isub hx hb d_Model_findVar_5 ?_
  refine lv_topi (fun z1 e1 => ?_)
  replace hR := vK_e e1 hR
  refine lv_istore_n (lv' := [(3, .int z1), (0, .ref (ad 0)), (1, .long p1)]) hx hb d_Model_findVar_6 rfl hl (by decide) rfl (fun ls hl => ?_)
  have g := lb_7 nf T0 p1 z1 hR
  rw [hG] at g
  exact g _ _ hP hD hS _ (lv_sub hl [1, 2, 0] rfl)
set_option maxHeartbeats 4000000 in
set_option maxRecDepth 100000 in
theorem sp_Model_findRegion (l : Launch) (dC : Nat → ClassId) (dI : Nat → Nat → Nat) (ea ev ad : Nat → Nat) (km : Nat → ClassId) (F : gF) (nf d : Nat) (T0 : gSt) (p1 : Int64) (r0 : Int32) (rl0 : Int64) (T9 : gSt) (hR : rb_Model_findRegion F nf T0 p1 = some (r0, rl0, T9)) : GMi l dC dI LM ad km ea ev y_Model_findRegion w_Model_findRegion (rmD (d + 1)) [.ref (ad 0), .long p1] T0 r0 T9 := by
  intro sz
  refine Met.ofW (cc := b_Model_findRegion) (maxL := 4) (ret := (some .int)) (by decide) rfl ?_
  intro p e s m args below meth c s₁ B hml hv
  obtain ⟨rfl, hsz, hP, hK, hD0, hnw, henv⟩ := hv
  have hx := B.exec
  have hb := B.bytes
  have hr := B.returns
  have hT : ∀ w ∈ lw_good, w.before _ s = true := fun w h => atoms_spec (ws := w_Model_findRegion) B.pre w (List.mem_cons_of_mem _ h)
  have hown : s.vm.findClass R_Model = some m.cls := findClass_of_methodNamed B.named
  subst hsz
  have hD := hD0.self (sz := s.heap.size)
  clear hD0
  generalize hAe : va_A (gW LM ad km T0) s.heap.size = A at hD henv ⊢
  have hA : ∀ q : Nat, s.heap.size ≤ q → A q := fun q h => by rw [← hAe]; exact Or.inr h
  have hS : va_S A s.heap s.heap [] := va_S.rf
  have hl := lv_entry ([.ref (ad 0), .long p1]) (n := 4) (Nat.le_of_ble_eq_true rfl)
  rw [lg_entry_eq]
  generalize (lg_sl ([.ref (ad 0), .long p1]) ++ List.replicate (4 - (lg_sl ([.ref (ad 0), .long p1])).length) Slot.unset).toArray = ls at hl ⊢
  have hl : lv_has ls 4 [(0, .ref (ad 0)), (1, .long p1)] := hl
  obtain ⟨G, hG⟩ : ∃ G : Nat → List (Nat × Value) → List Value → gSt → Prop, G = (fun pc lv stk T => ∀ (H : Heap) (locs : List Loc), va_P (dC, dI) cls_all (gW LM ad km T) H → va_D A (gW LM ad km T) → va_S A s.heap H locs → ∀ (ls : Array Slot), lv_has ls 4 lv → W p l e (headSpec w_Model_findRegion (rmD (d + 1))).room s m ([.ref (ad 0), .long p1] : List Value).toArray below meth c H locs 0 0 (MQ below (va_Qi (fun (z : Int32) (_ : Unit) => z = r0) (fun _ t => gPost dC dI LM ad km T9 A t) A) ([.ref (ad 0), .long p1] : List Value).toArray s 0 0 A) (F0 m pc ls stk)) := ⟨_, rfl⟩
  have lb_17 : ∀ (n : Nat) (T : gSt) (x1 : Int64) (x3 : Int32), rl_Model_findRegion_17 F nf n T x1 x3 = some (r0, rl0, T9) → G 17 [(0, .ref (ad 0)), (1, .long x1), (3, .int x3)] [] T := by
    intro n
    induction n with
    | zero => intro T x1 x3 hR; rw [rl_Model_findRegion_17] at hR; cases hR
    | succ n ih =>
      intro T x1 x3 hR; rw [rl_Model_findRegion_17] at hR; rw [hG]; intro H locs hP hD hS ls hl
      refine lv_iload_n hx hb d_Model_findRegion_17 rfl (lv_at hl 2 rfl) ?_
      refine lv_if_lt (tgt := 45) hx hb d_Model_findRegion_18 (by decide) (fun c4 => ?_) (fun c4 => ?_)
      · replace hR := if_p c4 hR
        refine lv_iconst (v := (-1)) hx hb d_Model_findRegion_45 (by decide) ?_
        obtain ⟨e1, -, e3⟩ := re_e hR
        subst e1; subst e3
        exact W.iret (v := (-1 : Int32)) hx hb hr (fun t ht hW => ⟨⟨(-1 : Int32), (), rfl, rfl, by rw [ht]; exact hP, va_K.moved hW.alike hK, hD⟩, hS.F ht⟩) hS.2.2 d_Model_findRegion_46
      · replace hR := if_n c4 hR
        refine lv_aload_n hx hb d_Model_findRegion_21 rfl (lv_at hl 0 rfl) ?_
        refine rd_Model_171 hx hb hT hown hK hP d_Model_findRegion_22 ?_
        refine lv_iload_n hx hb d_Model_findRegion_25 rfl (lv_at hl 2 rfl) ?_
        replace hR := gd_e hR
        obtain ⟨b6, hR⟩ := hR
        refine laM_52 hx hb hK hP b6 d_Model_findRegion_26 ?_
        refine lv_lload_n hx hb d_Model_findRegion_27 rfl (lv_at hl 1 rfl) ?_
        refine W.lcmp hx hb d_Model_findRegion_28 ?_
        refine lv_if_ne (tgt := 39) hx hb d_Model_findRegion_29 (by decide) (fun c7 => ?_) (fun c7 => ?_)
        · replace hR := if_n c7 hR
          obtain ⟨z8, e8⟩ : ∃ y : Int32, y = x3 + (-1 : Int32) := ⟨_, rfl⟩
          replace hR := vK_e e8 hR
          refine lv_iinc (v := z8) (lv' := [(3, .int z8), (0, .ref (ad 0)), (1, .long x1)]) hx hb d_Model_findRegion_39 hl (k := 2) rfl (by rw [e8]; rfl) (by decide) rfl (fun ls hl => ?_)
          refine lv_goto (tgt := 17) hx hb d_Model_findRegion_42 (by decide) ?_
          have g := ih T x1 z8 hR
          rw [hG] at g
          exact g _ _ hP hD hS _ (lv_sub hl [1, 2, 0] rfl)
        · replace hR := if_p c7 hR
          refine lv_aload_n hx hb d_Model_findRegion_32 rfl (lv_at hl 0 rfl) ?_
          refine rd_Model_174 hx hb hT hown hK hP d_Model_findRegion_33 ?_
          refine lv_iload_n hx hb d_Model_findRegion_36 rfl (lv_at hl 2 rfl) ?_
          replace hR := gd_e hR
          obtain ⟨b9, hR⟩ := hR
          refine laM_53 hx hb hK hP b9 d_Model_findRegion_37 ?_
          obtain ⟨e1, -, e3⟩ := re_e hR
          subst e1; subst e3
          exact W.iret (v := T.1 73 x3.toNatClampNeg) hx hb hr (fun t ht hW => ⟨⟨T.1 73 x3.toNatClampNeg, (), rfl, rfl, by rw [ht]; exact hP, va_K.moved hW.alike hK, hD⟩, hS.F ht⟩) hS.2.2 d_Model_findRegion_38
  unfold rb_Model_findRegion at hR
  refine lv_lload_n hx hb d_Model_findRegion_0 rfl (lv_at hl 1 rfl) ?_
  refine lv_ldc2 hx hb hown (hT _ k_Model_566) d_Model_findRegion_1 ?_
  refine W.lcmp hx hb d_Model_findRegion_4 ?_
  refine lv_if_ne (tgt := 10) hx hb d_Model_findRegion_5 (by decide) (fun c1 => ?_) (fun c1 => ?_)
  · replace hR := if_n c1 hR
    refine lv_aload_n hx hb d_Model_findRegion_10 rfl (lv_at hl 0 rfl) ?_
    refine rd_Model_568 hx hb hT hown hK hP d_Model_findRegion_11 ?_
    refine lv_iconst (v := 1) hx hb d_Model_findRegion_14 (by decide) ?_
    refine lv_isub hx hb d_Model_findRegion_15 ?_
    refine lv_topi (fun z2 e2 => ?_)
    replace hR := vK_e e2 hR
    refine lv_istore_n (lv' := [(3, .int z2), (0, .ref (ad 0)), (1, .long p1)]) hx hb d_Model_findRegion_16 rfl hl (by decide) rfl (fun ls hl => ?_)
    have g := lb_17 nf T0 p1 z2 hR
    rw [hG] at g
    exact g _ _ hP hD hS _ (lv_sub hl [1, 2, 0] rfl)
  · replace hR := if_p c1 hR
    refine lv_iconst (v := 0) hx hb d_Model_findRegion_8 (by decide) ?_
    obtain ⟨e1, -, e3⟩ := re_e hR
    subst e1; subst e3
    exact W.iret (v := (0 : Int32)) hx hb hr (fun t ht hW => ⟨⟨(0 : Int32), (), rfl, rfl, by rw [ht]; exact hP, va_K.moved hW.alike hK, hD⟩, hS.F ht⟩) hS.2.2 d_Model_findRegion_9
set_option maxHeartbeats 4000000 in
set_option maxRecDepth 100000 in
theorem sp_Model_regionAt (l : Launch) (dC : Nat → ClassId) (dI : Nat → Nat → Nat) (ea ev ad : Nat → Nat) (km : Nat → ClassId) (F : gF) (nf d : Nat) (h_Model_findRegion : mt_Model_findRegion l dC dI ea ev ad km F d) (h_Model_fail : mt_Model_fail l dC dI ea ev ad km F d) (T0 : gSt) (p1 : Int32) (r0 : Int32) (rl0 : Int64) (T9 : gSt) (hR : rb_Model_regionAt F nf T0 p1 = some (r0, rl0, T9)) : GMi l dC dI LM ad km ea ev y_Model_regionAt w_Model_regionAt (rmD (d + 1)) [.ref (ad 0), .int p1] T0 r0 T9 := by
  intro sz
  refine Met.ofW (cc := b_Model_regionAt) (maxL := 3) (ret := (some .int)) (by decide) rfl ?_
  intro p e s m args below meth c s₁ B hml hv
  obtain ⟨rfl, hsz, hP, hK, hD0, hnw, henv⟩ := hv
  have hx := B.exec
  have hb := B.bytes
  have hr := B.returns
  have hT : ∀ w ∈ lw_good, w.before _ s = true := fun w h => atoms_spec (ws := w_Model_regionAt) B.pre w (List.mem_cons_of_mem _ h)
  have hown : s.vm.findClass R_Model = some m.cls := findClass_of_methodNamed B.named
  subst hsz
  have hD := hD0.self (sz := s.heap.size)
  clear hD0
  generalize hAe : va_A (gW LM ad km T0) s.heap.size = A at hD henv ⊢
  have hA : ∀ q : Nat, s.heap.size ≤ q → A q := fun q h => by rw [← hAe]; exact Or.inr h
  have hS : va_S A s.heap s.heap [] := va_S.rf
  have hl := lv_entry ([.ref (ad 0), .int p1]) (n := 3) (Nat.le_of_ble_eq_true rfl)
  rw [lg_entry_eq]
  generalize (lg_sl ([.ref (ad 0), .int p1]) ++ List.replicate (3 - (lg_sl ([.ref (ad 0), .int p1])).length) Slot.unset).toArray = ls at hl ⊢
  have hl : lv_has ls 3 [(0, .ref (ad 0)), (1, .int p1)] := hl
  obtain ⟨G, hG⟩ : ∃ G : Nat → List (Nat × Value) → List Value → gSt → Prop, G = (fun pc lv stk T => ∀ (H : Heap) (locs : List Loc), va_P (dC, dI) cls_all (gW LM ad km T) H → va_D A (gW LM ad km T) → va_S A s.heap H locs → ∀ (ls : Array Slot), lv_has ls 3 lv → W p l e (headSpec w_Model_regionAt (rmD (d + 1))).room s m ([.ref (ad 0), .int p1] : List Value).toArray below meth c H locs 0 0 (MQ below (va_Qi (fun (z : Int32) (_ : Unit) => z = r0) (fun _ t => gPost dC dI LM ad km T9 A t) A) ([.ref (ad 0), .int p1] : List Value).toArray s 0 0 A) (F0 m pc ls stk)) := ⟨_, rfl⟩
  have lb_26 : ∀ (T : gSt) (x1 : Int32) (x2 : Int32), rj_Model_regionAt_26 F nf T x1 x2 = some (r0, rl0, T9) → G 26 [(0, .ref (ad 0)), (1, .int x1), (2, .int x2)] [] T := by
    intro T x1 x2 hR; unfold rj_Model_regionAt_26 at hR; rw [hG]; intro H locs hP hD hS ls hl
    refine lv_aload_n hx hb d_Model_regionAt_26 rfl (lv_at hl 0 rfl) ?_
    refine rd_Model_117 hx hb hT hown hK hP d_Model_regionAt_27 ?_
    refine lv_iload_n hx hb d_Model_regionAt_30 rfl (lv_at hl 1 rfl) ?_
    refine lv_iload_n hx hb d_Model_regionAt_31 rfl (lv_at hl 2 rfl) ?_
    refine lv_if_ge (tgt := 39) hx hb d_Model_regionAt_32 (by decide) (fun c6 => ?_) (fun c6 => ?_)
    · replace hR := if_p c6 hR
      refine lv_iload_n hx hb d_Model_regionAt_39 rfl (lv_at hl 2 rfl) ?_
      replace hR := gd_e hR
      obtain ⟨b7, hR⟩ := hR
      refine saM_34 hx hb hK hP hD hS b7 d_Model_regionAt_40 (fun T7 eT H locs hP hD hS => ?_)
      replace hR := stK_e eT hR
      clear eT
      refine lv_aload_n hx hb d_Model_regionAt_41 rfl (lv_at hl 0 rfl) ?_
      refine rd_Model_117 hx hb hT hown hK hP d_Model_regionAt_42 ?_
      refine lv_iload_n hx hb d_Model_regionAt_45 rfl (lv_at hl 1 rfl) ?_
      replace hR := gd_e hR
      obtain ⟨b8, hR⟩ := hR
      refine laM_34 hx hb hK hP b8 d_Model_regionAt_46 ?_
      obtain ⟨e1, -, e3⟩ := re_e hR
      subst e1; subst e3
      exact W.iret (v := T7.1 48 x1.toNatClampNeg) hx hb hr (fun t ht hW => ⟨⟨T7.1 48 x1.toNatClampNeg, (), rfl, rfl, by rw [ht]; exact hP, va_K.moved hW.alike hK, hD⟩, hS.F ht⟩) hS.2.2 d_Model_regionAt_47
    · replace hR := if_n c6 hR
      refine lv_iconst (v := 0) hx hb d_Model_regionAt_35 (by decide) ?_
      refine lv_goto (tgt := 40) hx hb d_Model_regionAt_36 (by decide) ?_
      replace hR := gd_e hR
      obtain ⟨b10, hR⟩ := hR
      refine saM_34 hx hb hK hP hD hS b10 d_Model_regionAt_40 (fun T10 eT H locs hP hD hS => ?_)
      replace hR := stK_e eT hR
      clear eT
      refine lv_aload_n hx hb d_Model_regionAt_41 rfl (lv_at hl 0 rfl) ?_
      refine rd_Model_117 hx hb hT hown hK hP d_Model_regionAt_42 ?_
      refine lv_iload_n hx hb d_Model_regionAt_45 rfl (lv_at hl 1 rfl) ?_
      replace hR := gd_e hR
      obtain ⟨b11, hR⟩ := hR
      refine laM_34 hx hb hK hP b11 d_Model_regionAt_46 ?_
      obtain ⟨e1, -, e3⟩ := re_e hR
      subst e1; subst e3
      exact W.iret (v := T10.1 48 x1.toNatClampNeg) hx hb hr (fun t ht hW => ⟨⟨T10.1 48 x1.toNatClampNeg, (), rfl, rfl, by rw [ht]; exact hP, va_K.moved hW.alike hK, hD⟩, hS.F ht⟩) hS.2.2 d_Model_regionAt_47
  unfold rb_Model_regionAt at hR
  refine lv_aload_n hx hb d_Model_regionAt_0 rfl (lv_at hl 0 rfl) ?_
  refine lv_aload_n hx hb d_Model_regionAt_1 rfl (lv_at hl 0 rfl) ?_
  refine rd_Model_111 hx hb hT hown hK hP d_Model_regionAt_2 ?_
  refine lv_iload_n hx hb d_Model_regionAt_5 rfl (lv_at hl 1 rfl) ?_
  replace hR := gd_e hR
  obtain ⟨b1, hR⟩ := hR
  refine laM_32 hx hb hK hP b1 d_Model_regionAt_6 ?_
  replace hR := bi_e hR
  obtain ⟨r2, l2, T2, hc2, hR⟩ := hR
  refine gcV_i (rest := []) ⟨hx, hb, hml, hown, hT⟩ (h_Model_findRegion _ _ _ _ _ hc2) (cwV 1 hT (gV ml_Model_571 im_Model_findRegion se_Model_findRegion ini_Model co_Model_findRegion) rfl rfl rfl pd_Model_findRegion ⟨rm_hi, rm_lo (Nat.le_of_ble_eq_true rfl)⟩) hK hP hD hS hA hnw henv (Nat.le_of_ble_eq_true rfl) rfl rfl hl.1 rfl (Nat.le_of_ble_eq_true rfl) d_Model_regionAt_7 ⟨Nat.le_refl _, Nat.le_refl _⟩ (fun H locs hP hD hS => ?_)
  clear hc2
  refine lv_istore_n (lv' := [(2, .int r2), (0, .ref (ad 0)), (1, .int p1)]) hx hb d_Model_regionAt_10 rfl hl (by decide) rfl (fun ls hl => ?_)
  refine lv_iload_n hx hb d_Model_regionAt_11 rfl (lv_at hl 0 rfl) ?_
  refine lv_if_ge (tgt := 26) hx hb d_Model_regionAt_12 (by decide) (fun c3 => ?_) (fun c3 => ?_)
  · replace hR := if_p c3 hR
    have g := lb_26 T2 p1 r2 hR
    rw [hG] at g
    exact g _ _ hP hD hS _ (lv_sub hl [1, 2, 0] rfl)
  · replace hR := if_n c3 hR
    refine lv_aload_n hx hb d_Model_regionAt_15 rfl (lv_at hl 1 rfl) ?_
    refine lv_iconst (v := 3) hx hb d_Model_regionAt_16 (by decide) ?_
    refine lv_aload_n hx hb d_Model_regionAt_17 rfl (lv_at hl 1 rfl) ?_
    refine rd_Model_114 hx hb hT hown hK hP d_Model_regionAt_18 ?_
    refine lv_iload_n hx hb d_Model_regionAt_21 rfl (lv_at hl 2 rfl) ?_
    replace hR := gd_e hR
    obtain ⟨b4, hR⟩ := hR
    refine laM_33 hx hb hK hP b4 d_Model_regionAt_22 ?_
    replace hR := bi_e hR
    obtain ⟨r5, l5, T5, hc5, hR⟩ := hR
    refine gcV_v (rest := []) ⟨hx, hb, hml, hown, hT⟩ (h_Model_fail _ _ _ _ _ _ hc5) (cwV 2 hT (gV ml_Model_381 im_Model_fail se_Model_fail ini_Model co_Model_fail) rfl rfl rfl pd_Model_fail ⟨rm_hi, rm_lo (Nat.le_of_ble_eq_true rfl)⟩) hK hP hD hS hA hnw henv (Nat.le_of_ble_eq_true rfl) rfl rfl hl.1 rfl (Nat.le_of_ble_eq_true rfl) d_Model_regionAt_23 ⟨Nat.le_refl _, Nat.le_refl _⟩ (fun H locs hP hD hS => ?_)
    clear hc5
    have g := lb_26 T5 p1 r2 hR
    rw [hG] at g
    exact g _ _ hP hD hS _ (lv_sub hl [1, 2, 0] rfl)
set_option maxHeartbeats 4000000 in
set_option maxRecDepth 100000 in
theorem sp_Model_isLive (l : Launch) (dC : Nat → ClassId) (dI : Nat → Nat → Nat) (ea ev ad : Nat → Nat) (km : Nat → ClassId) (F : gF) (nf d : Nat) (T0 : gSt) (p1 : Int32) (r0 : Int32) (rl0 : Int64) (T9 : gSt) (hR : rb_Model_isLive F nf T0 p1 = some (r0, rl0, T9)) : GMi l dC dI LM ad km ea ev y_Model_isLive w_Model_isLive (rmD (d + 1)) [.ref (ad 0), .int p1] T0 r0 T9 := by
  intro sz
  refine Met.ofW (cc := b_Model_isLive) (maxL := 2) (ret := (some .boolean)) (by decide) rfl ?_
  intro p e s m args below meth c s₁ B hml hv
  obtain ⟨rfl, hsz, hP, hK, hD0, hnw, henv⟩ := hv
  have hx := B.exec
  have hb := B.bytes
  have hr := B.returns
  have hT : ∀ w ∈ lw_good, w.before _ s = true := fun w h => atoms_spec (ws := w_Model_isLive) B.pre w (List.mem_cons_of_mem _ h)
  have hown : s.vm.findClass R_Model = some m.cls := findClass_of_methodNamed B.named
  subst hsz
  have hD := hD0.self (sz := s.heap.size)
  clear hD0
  generalize hAe : va_A (gW LM ad km T0) s.heap.size = A at hD henv ⊢
  have hA : ∀ q : Nat, s.heap.size ≤ q → A q := fun q h => by rw [← hAe]; exact Or.inr h
  have hS : va_S A s.heap s.heap [] := va_S.rf
  have hl := lv_entry ([.ref (ad 0), .int p1]) (n := 2) (Nat.le_of_ble_eq_true rfl)
  rw [lg_entry_eq]
  generalize (lg_sl ([.ref (ad 0), .int p1]) ++ List.replicate (2 - (lg_sl ([.ref (ad 0), .int p1])).length) Slot.unset).toArray = ls at hl ⊢
  have hl : lv_has ls 2 [(0, .ref (ad 0)), (1, .int p1)] := hl
  unfold rb_Model_isLive at hR
  refine lv_aload_n hx hb d_Model_isLive_0 rfl (lv_at hl 0 rfl) ?_
  refine rd_Model_575 hx hb hT hown hK hP d_Model_isLive_1 ?_
  refine lv_iload_n hx hb d_Model_isLive_4 rfl (lv_at hl 1 rfl) ?_
  refine lv_ishr hx hb d_Model_isLive_5 ?_
  refine lv_iconst (v := 1) hx hb d_Model_isLive_6 (by decide) ?_
  refine lv_iand hx hb d_Model_isLive_7 ?_
  refine lv_iconst (v := 1) hx hb d_Model_isLive_8 (by decide) ?_
  refine lv_icmp_ne (tgt := 16) hx hb d_Model_isLive_9 (by decide) (fun c1 => ?_) (fun c1 => ?_)
  · replace hR := if_n c1 hR
    refine lv_iconst (v := 0) hx hb d_Model_isLive_16 (by decide) ?_
    obtain ⟨e1, -, e3⟩ := re_e hR
    subst e1; subst e3
    exact W.zret (v := (0 : Int32)) hx hb hr (by first | rfl | decide) (fun t ht hW => ⟨⟨(0 : Int32), (), rfl, rfl, by rw [ht]; exact hP, va_K.moved hW.alike hK, hD⟩, hS.F ht⟩) hS.2.2 d_Model_isLive_17
  · replace hR := if_p c1 hR
    refine lv_iconst (v := 1) hx hb d_Model_isLive_12 (by decide) ?_
    refine lv_goto (tgt := 17) hx hb d_Model_isLive_13 (by decide) ?_
    obtain ⟨e1, -, e3⟩ := re_e hR
    subst e1; subst e3
    exact W.zret (v := (1 : Int32)) hx hb hr (by first | rfl | decide) (fun t ht hW => ⟨⟨(1 : Int32), (), rfl, rfl, by rw [ht]; exact hP, va_K.moved hW.alike hK, hD⟩, hS.F ht⟩) hS.2.2 d_Model_isLive_17
set_option maxHeartbeats 4000000 in
set_option maxRecDepth 100000 in
theorem sp_Model_liveRegionAt (l : Launch) (dC : Nat → ClassId) (dI : Nat → Nat → Nat) (ea ev ad : Nat → Nat) (km : Nat → ClassId) (F : gF) (nf d : Nat) (h_Model_regionAt : mt_Model_regionAt l dC dI ea ev ad km F d) (h_Model_bad : mt_Model_bad l dC dI ea ev ad km F d) (h_Model_isLive : mt_Model_isLive l dC dI ea ev ad km F d) (h_Model_fail : mt_Model_fail l dC dI ea ev ad km F d) (T0 : gSt) (p1 : Int32) (r0 : Int32) (rl0 : Int64) (T9 : gSt) (hR : rb_Model_liveRegionAt F nf T0 p1 = some (r0, rl0, T9)) : GMi l dC dI LM ad km ea ev y_Model_liveRegionAt w_Model_liveRegionAt (rmD (d + 1)) [.ref (ad 0), .int p1] T0 r0 T9 := by
  intro sz
  refine Met.ofW (cc := b_Model_liveRegionAt) (maxL := 3) (ret := (some .int)) (by decide) rfl ?_
  intro p e s m args below meth c s₁ B hml hv
  obtain ⟨rfl, hsz, hP, hK, hD0, hnw, henv⟩ := hv
  have hx := B.exec
  have hb := B.bytes
  have hr := B.returns
  have hT : ∀ w ∈ lw_good, w.before _ s = true := fun w h => atoms_spec (ws := w_Model_liveRegionAt) B.pre w (List.mem_cons_of_mem _ h)
  have hown : s.vm.findClass R_Model = some m.cls := findClass_of_methodNamed B.named
  subst hsz
  have hD := hD0.self (sz := s.heap.size)
  clear hD0
  generalize hAe : va_A (gW LM ad km T0) s.heap.size = A at hD henv ⊢
  have hA : ∀ q : Nat, s.heap.size ≤ q → A q := fun q h => by rw [← hAe]; exact Or.inr h
  have hS : va_S A s.heap s.heap [] := va_S.rf
  have hl := lv_entry ([.ref (ad 0), .int p1]) (n := 3) (Nat.le_of_ble_eq_true rfl)
  rw [lg_entry_eq]
  generalize (lg_sl ([.ref (ad 0), .int p1]) ++ List.replicate (3 - (lg_sl ([.ref (ad 0), .int p1])).length) Slot.unset).toArray = ls at hl ⊢
  have hl : lv_has ls 3 [(0, .ref (ad 0)), (1, .int p1)] := hl
  unfold rb_Model_liveRegionAt at hR
  refine lv_aload_n hx hb d_Model_liveRegionAt_0 rfl (lv_at hl 0 rfl) ?_
  refine lv_iload_n hx hb d_Model_liveRegionAt_1 rfl (lv_at hl 1 rfl) ?_
  replace hR := bi_e hR
  obtain ⟨r1, l1, T1, hc1, hR⟩ := hR
  refine gcV_i (rest := []) ⟨hx, hb, hml, hown, hT⟩ (h_Model_regionAt _ _ _ _ _ hc1) (cwV 1 hT (gV ml_Model_578 im_Model_regionAt se_Model_regionAt ini_Model co_Model_regionAt) rfl rfl rfl pd_Model_regionAt ⟨rm_hi, rm_lo (Nat.le_of_ble_eq_true rfl)⟩) hK hP hD hS hA hnw henv (Nat.le_of_ble_eq_true rfl) rfl rfl hl.1 rfl (Nat.le_of_ble_eq_true rfl) d_Model_liveRegionAt_2 ⟨Nat.le_refl _, Nat.le_refl _⟩ (fun H locs hP hD hS => ?_)
  clear hc1
  refine lv_istore_n (lv' := [(2, .int r1), (0, .ref (ad 0)), (1, .int p1)]) hx hb d_Model_liveRegionAt_5 rfl hl (by decide) rfl (fun ls hl => ?_)
  refine lv_aload_n hx hb d_Model_liveRegionAt_6 rfl (lv_at hl 1 rfl) ?_
  replace hR := bi_e hR
  obtain ⟨r2, l2, T2, hc2, hR⟩ := hR
  refine gcV_i (rest := []) ⟨hx, hb, hml, hown, hT⟩ (h_Model_bad _ _ _ _ hc2) (cwV 0 hT (gV ml_Model_385 im_Model_bad se_Model_bad ini_Model co_Model_bad) rfl rfl rfl pd_Model_bad ⟨rm_hi, rm_lo (Nat.le_of_ble_eq_true rfl)⟩) hK hP hD hS hA hnw henv (Nat.le_of_ble_eq_true rfl) rfl rfl hl.1 rfl (Nat.le_of_ble_eq_true rfl) d_Model_liveRegionAt_7 ⟨Nat.le_refl _, Nat.le_refl _⟩ (fun H locs hP hD hS => ?_)
  clear hc2
  refine lv_if_ne (tgt := 32) hx hb d_Model_liveRegionAt_10 (by decide) (fun c3 => ?_) (fun c3 => ?_)
  · replace hR := if_n c3 hR
    refine lv_iload_n hx hb d_Model_liveRegionAt_32 rfl (lv_at hl 0 rfl) ?_
    obtain ⟨e1, -, e3⟩ := re_e hR
    subst e1; subst e3
    exact W.iret (v := r1) hx hb hr (fun t ht hW => ⟨⟨r1, (), rfl, rfl, by rw [ht]; exact hP, va_K.moved hW.alike hK, hD⟩, hS.F ht⟩) hS.2.2 d_Model_liveRegionAt_33
  · replace hR := if_p c3 hR
    refine lv_aload_n hx hb d_Model_liveRegionAt_13 rfl (lv_at hl 1 rfl) ?_
    refine lv_iload_n hx hb d_Model_liveRegionAt_14 rfl (lv_at hl 0 rfl) ?_
    replace hR := bi_e hR
    obtain ⟨r5, l5, T5, hc5, hR⟩ := hR
    refine gcV_i (rest := []) ⟨hx, hb, hml, hown, hT⟩ (h_Model_isLive _ _ _ _ _ hc5) (cwV 1 hT (gV ml_Model_581 im_Model_isLive se_Model_isLive ini_Model co_Model_isLive) rfl rfl rfl pd_Model_isLive ⟨rm_hi, rm_lo (Nat.le_of_ble_eq_true rfl)⟩) hK hP hD hS hA hnw henv (Nat.le_of_ble_eq_true rfl) rfl rfl hl.1 rfl (Nat.le_of_ble_eq_true rfl) d_Model_liveRegionAt_15 ⟨Nat.le_refl _, Nat.le_refl _⟩ (fun H locs hP hD hS => ?_)
    clear hc5
    refine lv_if_ne (tgt := 32) hx hb d_Model_liveRegionAt_18 (by decide) (fun c6 => ?_) (fun c6 => ?_)
    · replace hR := if_n c6 hR
      refine lv_iload_n hx hb d_Model_liveRegionAt_32 rfl (lv_at hl 0 rfl) ?_
      obtain ⟨e1, -, e3⟩ := re_e hR
      subst e1; subst e3
      exact W.iret (v := r1) hx hb hr (fun t ht hW => ⟨⟨r1, (), rfl, rfl, by rw [ht]; exact hP, va_K.moved hW.alike hK, hD⟩, hS.F ht⟩) hS.2.2 d_Model_liveRegionAt_33
    · replace hR := if_p c6 hR
      refine lv_aload_n hx hb d_Model_liveRegionAt_21 rfl (lv_at hl 1 rfl) ?_
      refine lv_iconst (v := 5) hx hb d_Model_liveRegionAt_22 (by decide) ?_
      refine lv_aload_n hx hb d_Model_liveRegionAt_23 rfl (lv_at hl 1 rfl) ?_
      refine rd_Model_114 hx hb hT hown hK hP d_Model_liveRegionAt_24 ?_
      refine lv_iload_n hx hb d_Model_liveRegionAt_27 rfl (lv_at hl 2 rfl) ?_
      replace hR := gd_e hR
      obtain ⟨b8, hR⟩ := hR
      refine laM_33 hx hb hK hP b8 d_Model_liveRegionAt_28 ?_
      replace hR := bi_e hR
      obtain ⟨r9, l9, T9, hc9, hR⟩ := hR
      refine gcV_v (rest := []) ⟨hx, hb, hml, hown, hT⟩ (h_Model_fail _ _ _ _ _ _ hc9) (cwV 2 hT (gV ml_Model_381 im_Model_fail se_Model_fail ini_Model co_Model_fail) rfl rfl rfl pd_Model_fail ⟨rm_hi, rm_lo (Nat.le_of_ble_eq_true rfl)⟩) hK hP hD hS hA hnw henv (Nat.le_of_ble_eq_true rfl) rfl rfl hl.1 rfl (Nat.le_of_ble_eq_true rfl) d_Model_liveRegionAt_29 ⟨Nat.le_refl _, Nat.le_refl _⟩ (fun H locs hP hD hS => ?_)
      clear hc9
      refine lv_iload_n hx hb d_Model_liveRegionAt_32 rfl (lv_at hl 0 rfl) ?_
      obtain ⟨e1, -, e3⟩ := re_e hR
      subst e1; subst e3
      exact W.iret (v := r1) hx hb hr (fun t ht hW => ⟨⟨r1, (), rfl, rfl, by rw [ht]; exact hP, va_K.moved hW.alike hK, hD⟩, hS.F ht⟩) hS.2.2 d_Model_liveRegionAt_33
set_option maxHeartbeats 4000000 in
set_option maxRecDepth 100000 in
theorem sp_Model_withAt (l : Launch) (dC : Nat → ClassId) (dI : Nat → Nat → Nat) (ea ev ad : Nat → Nat) (km : Nat → ClassId) (F : gF) (nf d : Nat) (h_Model_bad : mt_Model_bad l dC dI ea ev ad km F d) (h_Model_regionAt : mt_Model_regionAt l dC dI ea ev ad km F d) (T0 : gSt) (p1 : Int32) (p2 : Int32) (r0 : Int32) (rl0 : Int64) (T9 : gSt) (hR : rb_Model_withAt F nf T0 p1 p2 = some (r0, rl0, T9)) : GMi l dC dI LM ad km ea ev y_Model_withAt w_Model_withAt (rmD (d + 1)) [.ref (ad 0), .int p1, .int p2] T0 r0 T9 := by
  intro sz
  refine Met.ofW (cc := b_Model_withAt) (maxL := 5) (ret := (some .int)) (by decide) rfl ?_
  intro p e s m args below meth c s₁ B hml hv
  obtain ⟨rfl, hsz, hP, hK, hD0, hnw, henv⟩ := hv
  have hx := B.exec
  have hb := B.bytes
  have hr := B.returns
  have hT : ∀ w ∈ lw_good, w.before _ s = true := fun w h => atoms_spec (ws := w_Model_withAt) B.pre w (List.mem_cons_of_mem _ h)
  have hown : s.vm.findClass R_Model = some m.cls := findClass_of_methodNamed B.named
  subst hsz
  have hD := hD0.self (sz := s.heap.size)
  clear hD0
  generalize hAe : va_A (gW LM ad km T0) s.heap.size = A at hD henv ⊢
  have hA : ∀ q : Nat, s.heap.size ≤ q → A q := fun q h => by rw [← hAe]; exact Or.inr h
  have hS : va_S A s.heap s.heap [] := va_S.rf
  have hl := lv_entry ([.ref (ad 0), .int p1, .int p2]) (n := 5) (Nat.le_of_ble_eq_true rfl)
  rw [lg_entry_eq]
  generalize (lg_sl ([.ref (ad 0), .int p1, .int p2]) ++ List.replicate (5 - (lg_sl ([.ref (ad 0), .int p1, .int p2])).length) Slot.unset).toArray = ls at hl ⊢
  have hl : lv_has ls 5 [(0, .ref (ad 0)), (1, .int p1), (2, .int p2)] := hl
  obtain ⟨G, hG⟩ : ∃ G : Nat → List (Nat × Value) → List Value → gSt → Prop, G = (fun pc lv stk T => ∀ (H : Heap) (locs : List Loc), va_P (dC, dI) cls_all (gW LM ad km T) H → va_D A (gW LM ad km T) → va_S A s.heap H locs → ∀ (ls : Array Slot), lv_has ls 5 lv → W p l e (headSpec w_Model_withAt (rmD (d + 1))).room s m ([.ref (ad 0), .int p1, .int p2] : List Value).toArray below meth c H locs 0 0 (MQ below (va_Qi (fun (z : Int32) (_ : Unit) => z = r0) (fun _ t => gPost dC dI LM ad km T9 A t) A) ([.ref (ad 0), .int p1, .int p2] : List Value).toArray s 0 0 A) (F0 m pc ls stk)) := ⟨_, rfl⟩
  have lb_5 : ∀ (n : Nat) (T : gSt) (x1 : Int32) (x2 : Int32) (x3 : Int32) (x4 : Int32), rl_Model_withAt_5 F nf n T x1 x2 x3 x4 = some (r0, rl0, T9) → G 5 [(0, .ref (ad 0)), (1, .int x1), (2, .int x2), (3, .int x3), (4, .int x4)] [] T := by
    intro n
    induction n with
    | zero => intro T x1 x2 x3 x4 hR; rw [rl_Model_withAt_5] at hR; cases hR
    | succ n ih =>
      intro T x1 x2 x3 x4 hR; rw [rl_Model_withAt_5] at hR; rw [hG]; intro H locs hP hD hS ls hl
      refine lv_iload hx hb d_Model_withAt_5 (lv_at hl 4 rfl) ?_
      refine lv_iload_n hx hb d_Model_withAt_7 rfl (lv_at hl 2 rfl) ?_
      refine lv_icmp_ge (tgt := 41) hx hb d_Model_withAt_8 (by decide) (fun c1 => ?_) (fun c1 => ?_)
      · replace hR := if_p c1 hR
        refine lv_iload_n hx hb d_Model_withAt_41 rfl (lv_at hl 3 rfl) ?_
        obtain ⟨e1, -, e3⟩ := re_e hR
        subst e1; subst e3
        exact W.iret (v := x3) hx hb hr (fun t ht hW => ⟨⟨x3, (), rfl, rfl, by rw [ht]; exact hP, va_K.moved hW.alike hK, hD⟩, hS.F ht⟩) hS.2.2 d_Model_withAt_42
      · replace hR := if_n c1 hR
        refine lv_aload_n hx hb d_Model_withAt_11 rfl (lv_at hl 0 rfl) ?_
        replace hR := bi_e hR
        obtain ⟨r3, l3, T3, hc3, hR⟩ := hR
        refine gcV_i (rest := []) ⟨hx, hb, hml, hown, hT⟩ (h_Model_bad _ _ _ _ hc3) (cwV 0 hT (gV ml_Model_385 im_Model_bad se_Model_bad ini_Model co_Model_bad) rfl rfl rfl pd_Model_bad ⟨rm_hi, rm_lo (Nat.le_of_ble_eq_true rfl)⟩) hK hP hD hS hA hnw henv (Nat.le_of_ble_eq_true rfl) rfl rfl hl.1 rfl (Nat.le_of_ble_eq_true rfl) d_Model_withAt_12 ⟨Nat.le_refl _, Nat.le_refl _⟩ (fun H locs hP hD hS => ?_)
        clear hc3
        refine lv_if_ne (tgt := 41) hx hb d_Model_withAt_15 (by decide) (fun c4 => ?_) (fun c4 => ?_)
        · replace hR := if_n c4 hR
          refine lv_iload_n hx hb d_Model_withAt_41 rfl (lv_at hl 3 rfl) ?_
          obtain ⟨e1, -, e3⟩ := re_e hR
          subst e1; subst e3
          exact W.iret (v := x3) hx hb hr (fun t ht hW => ⟨⟨x3, (), rfl, rfl, by rw [ht]; exact hP, va_K.moved hW.alike hK, hD⟩, hS.F ht⟩) hS.2.2 d_Model_withAt_42
        · replace hR := if_p c4 hR
          refine lv_iload_n hx hb d_Model_withAt_18 rfl (lv_at hl 3 rfl) ?_
          refine lv_aload_n hx hb d_Model_withAt_19 rfl (lv_at hl 0 rfl) ?_
          refine lv_iload_n hx hb d_Model_withAt_20 rfl (lv_at hl 1 rfl) ?_
          refine lv_iload hx hb d_Model_withAt_21 (lv_at hl 4 rfl) ?_
          refine lv_iadd hx hb d_Model_withAt_23 ?_
          replace hR := bi_e hR
          obtain ⟨r6, l6, T6, hc6, hR⟩ := hR
          refine gcV_i (rest := [.int x3]) ⟨hx, hb, hml, hown, hT⟩ (h_Model_regionAt _ _ _ _ _ hc6) (cwV 1 hT (gV ml_Model_578 im_Model_regionAt se_Model_regionAt ini_Model co_Model_regionAt) rfl rfl rfl pd_Model_regionAt ⟨rm_hi, rm_lo (Nat.le_of_ble_eq_true rfl)⟩) hK hP hD hS hA hnw henv (Nat.le_of_ble_eq_true rfl) rfl rfl hl.1 rfl (Nat.le_of_ble_eq_true rfl) d_Model_withAt_24 ⟨Nat.le_refl _, Nat.le_refl _⟩ (fun H locs hP hD hS => ?_)
          clear hc6
          refine lv_bipush (v := 10) hx hb d_Model_withAt_27 (by decide) ?_
          refine lv_iload hx hb d_Model_withAt_29 (lv_at hl 4 rfl) ?_
          refine lv_imul hx hb d_Model_withAt_31 ?_
          refine lv_ishl hx hb d_Model_withAt_32 ?_
          refine lv_ior hx hb d_Model_withAt_33 ?_
          refine lv_topi (fun z7 e7 => ?_)
          replace hR := vK_e e7 hR
          refine lv_istore_n (lv' := [(3, .int z7), (0, .ref (ad 0)), (1, .int x1), (2, .int x2), (4, .int x4)]) hx hb d_Model_withAt_34 rfl hl (by decide) rfl (fun ls hl => ?_)
          obtain ⟨z8, e8⟩ : ∃ y : Int32, y = x4 + (1 : Int32) := ⟨_, rfl⟩
          replace hR := vK_e e8 hR
          refine lv_iinc (v := z8) (lv' := [(4, .int z8), (3, .int z7), (0, .ref (ad 0)), (1, .int x1), (2, .int x2)]) hx hb d_Model_withAt_35 hl (k := 4) rfl (by rw [e8]; rfl) (by decide) rfl (fun ls hl => ?_)
          refine lv_goto (tgt := 5) hx hb d_Model_withAt_38 (by decide) ?_
          have g := ih T6 x1 x2 z7 z8 hR
          rw [hG] at g
          exact g _ _ hP hD hS _ (lv_sub hl [2, 3, 4, 1, 0] rfl)
  unfold rb_Model_withAt at hR
  refine lv_iconst (v := 0) hx hb d_Model_withAt_0 (by decide) ?_
  refine lv_istore_n (lv' := [(3, .int (0 : Int32)), (0, .ref (ad 0)), (1, .int p1), (2, .int p2)]) hx hb d_Model_withAt_1 rfl hl (by decide) rfl (fun ls hl => ?_)
  refine lv_iconst (v := 0) hx hb d_Model_withAt_2 (by decide) ?_
  refine lv_istore (lv' := [(4, .int (0 : Int32)), (3, .int (0 : Int32)), (0, .ref (ad 0)), (1, .int p1), (2, .int p2)]) hx hb d_Model_withAt_3 hl (by decide) rfl (fun ls hl => ?_)
  have g := lb_5 nf T0 p1 p2 (0 : Int32) (0 : Int32) hR
  rw [hG] at g
  exact g _ _ hP hD hS _ (lv_sub hl [2, 3, 4, 1, 0] rfl)
set_option maxHeartbeats 4000000 in
set_option maxRecDepth 100000 in
theorem sp_Model_meaning (l : Launch) (dC : Nat → ClassId) (dI : Nat → Nat → Nat) (ea ev ad : Nat → Nat) (km : Nat → ClassId) (F : gF) (nf d : Nat) (h_Model_bad : mt_Model_bad l dC dI ea ev ad km F d) (h_Model_regionAt : mt_Model_regionAt l dC dI ea ev ad km F d) (h_Model_findTitle : mt_Model_findTitle l dC dI ea ev ad km F d) (h_Model_fail : mt_Model_fail l dC dI ea ev ad km F d) (h_Model_meaning : mt_Model_meaning l dC dI ea ev ad km F d) (h_Model_known : mt_Model_known l dC dI ea ev ad km F d) (h_Model_withAt : mt_Model_withAt l dC dI ea ev ad km F d) (T0 : gSt) (p1 : Int32) (r0 : Int32) (rl0 : Int64) (T9 : gSt) (hR : rb_Model_meaning F nf T0 p1 = some (r0, rl0, T9)) : GMi l dC dI LM ad km ea ev y_Model_meaning w_Model_meaning (rmD (d + 1)) [.ref (ad 0), .int p1] T0 r0 T9 := by
  intro sz
  refine Met.ofW (cc := b_Model_meaning) (maxL := 5) (ret := (some .int)) (by decide) rfl ?_
  intro p e s m args below meth c s₁ B hml hv
  obtain ⟨rfl, hsz, hP, hK, hD0, hnw, henv⟩ := hv
  have hx := B.exec
  have hb := B.bytes
  have hr := B.returns
  have hT : ∀ w ∈ lw_good, w.before _ s = true := fun w h => atoms_spec (ws := w_Model_meaning) B.pre w (List.mem_cons_of_mem _ h)
  have hown : s.vm.findClass R_Model = some m.cls := findClass_of_methodNamed B.named
  subst hsz
  have hD := hD0.self (sz := s.heap.size)
  clear hD0
  generalize hAe : va_A (gW LM ad km T0) s.heap.size = A at hD henv ⊢
  have hA : ∀ q : Nat, s.heap.size ≤ q → A q := fun q h => by rw [← hAe]; exact Or.inr h
  have hS : va_S A s.heap s.heap [] := va_S.rf
  have hl := lv_entry ([.ref (ad 0), .int p1]) (n := 5) (Nat.le_of_ble_eq_true rfl)
  rw [lg_entry_eq]
  generalize (lg_sl ([.ref (ad 0), .int p1]) ++ List.replicate (5 - (lg_sl ([.ref (ad 0), .int p1])).length) Slot.unset).toArray = ls at hl ⊢
  have hl : lv_has ls 5 [(0, .ref (ad 0)), (1, .int p1)] := hl
  obtain ⟨G, hG⟩ : ∃ G : Nat → List (Nat × Value) → List Value → gSt → Prop, G = (fun pc lv stk T => ∀ (H : Heap) (locs : List Loc), va_P (dC, dI) cls_all (gW LM ad km T) H → va_D A (gW LM ad km T) → va_S A s.heap H locs → ∀ (ls : Array Slot), lv_has ls 5 lv → W p l e (headSpec w_Model_meaning (rmD (d + 1))).room s m ([.ref (ad 0), .int p1] : List Value).toArray below meth c H locs 0 0 (MQ below (va_Qi (fun (z : Int32) (_ : Unit) => z = r0) (fun _ t => gPost dC dI LM ad km T9 A t) A) ([.ref (ad 0), .int p1] : List Value).toArray s 0 0 A) (F0 m pc ls stk)) := ⟨_, rfl⟩
  have lb_140 : ∀ (T : gSt) (x1 : Int32) (x2 : Int32) (x3 : Int32), rj_Model_meaning_140 F nf T x1 x2 x3 = some (r0, rl0, T9) → G 140 [(0, .ref (ad 0)), (1, .int x1), (2, .int x2), (3, .int x3)] [] T := by
    intro T x1 x2 x3 hR; unfold rj_Model_meaning_140 at hR; rw [hG]; intro H locs hP hD hS ls hl
    refine lv_aload_n hx hb d_Model_meaning_140 rfl (lv_at hl 0 rfl) ?_
    refine lv_aload_n hx hb d_Model_meaning_141 rfl (lv_at hl 0 rfl) ?_
    refine rd_Model_105 hx hb hT hown hK hP d_Model_meaning_142 ?_
    refine lv_iload_n hx hb d_Model_meaning_145 rfl (lv_at hl 1 rfl) ?_
    replace hR := gd_e hR
    obtain ⟨b32, hR⟩ := hR
    refine laM_30 hx hb hK hP b32 d_Model_meaning_146 ?_
    refine lv_aload_n hx hb d_Model_meaning_147 rfl (lv_at hl 0 rfl) ?_
    refine rd_Model_108 hx hb hT hown hK hP d_Model_meaning_148 ?_
    refine lv_iload_n hx hb d_Model_meaning_151 rfl (lv_at hl 1 rfl) ?_
    replace hR := gd_e hR
    obtain ⟨b33, hR⟩ := hR
    refine laM_31 hx hb hK hP b33 d_Model_meaning_152 ?_
    replace hR := bi_e hR
    obtain ⟨r34, l34, T34, hc34, hR⟩ := hR
    refine gcV_i (rest := []) ⟨hx, hb, hml, hown, hT⟩ (h_Model_withAt _ _ _ _ _ _ hc34) (cwV 2 hT (gV ml_Model_590 im_Model_withAt se_Model_withAt ini_Model co_Model_withAt) rfl rfl rfl pd_Model_withAt ⟨rm_hi, rm_lo (Nat.le_of_ble_eq_true rfl)⟩) hK hP hD hS hA hnw henv (Nat.le_of_ble_eq_true rfl) rfl rfl hl.1 rfl (Nat.le_of_ble_eq_true rfl) d_Model_meaning_153 ⟨Nat.le_refl _, Nat.le_refl _⟩ (fun H locs hP hD hS => ?_)
    clear hc34
    refine lv_istore (lv' := [(4, .int r34), (0, .ref (ad 0)), (1, .int x1), (2, .int x2), (3, .int x3)]) hx hb d_Model_meaning_156 hl (by decide) rfl (fun ls hl => ?_)
    refine lv_aload_n hx hb d_Model_meaning_158 rfl (lv_at hl 1 rfl) ?_
    replace hR := bi_e hR
    obtain ⟨r35, l35, T35, hc35, hR⟩ := hR
    refine gcV_i (rest := []) ⟨hx, hb, hml, hown, hT⟩ (h_Model_bad _ _ _ _ hc35) (cwV 0 hT (gV ml_Model_385 im_Model_bad se_Model_bad ini_Model co_Model_bad) rfl rfl rfl pd_Model_bad ⟨rm_hi, rm_lo (Nat.le_of_ble_eq_true rfl)⟩) hK hP hD hS hA hnw henv (Nat.le_of_ble_eq_true rfl) rfl rfl hl.1 rfl (Nat.le_of_ble_eq_true rfl) d_Model_meaning_159 ⟨Nat.le_refl _, Nat.le_refl _⟩ (fun H locs hP hD hS => ?_)
    clear hc35
    refine lv_if_eq (tgt := 169) hx hb d_Model_meaning_162 (by decide) (fun c36 => ?_) (fun c36 => ?_)
    · replace hR := if_p c36 hR
      refine lv_aload_n hx hb d_Model_meaning_169 rfl (lv_at hl 1 rfl) ?_
      refine lv_aload_n hx hb d_Model_meaning_170 rfl (lv_at hl 1 rfl) ?_
      refine rd_Model_90 hx hb hT hown hK hP d_Model_meaning_171 ?_
      refine lv_iload_n hx hb d_Model_meaning_174 rfl (lv_at hl 2 rfl) ?_
      replace hR := gd_e hR
      obtain ⟨b37, hR⟩ := hR
      refine laM_25 hx hb hK hP b37 d_Model_meaning_175 ?_
      refine lv_iload_n hx hb d_Model_meaning_176 rfl (lv_at hl 3 rfl) ?_
      refine lv_iconst (v := (-1)) hx hb d_Model_meaning_177 (by decide) ?_
      refine lv_iload_n hx hb d_Model_meaning_178 rfl (lv_at hl 4 rfl) ?_
      refine lv_iload hx hb d_Model_meaning_179 (lv_at hl 0 rfl) ?_
      replace hR := bi_e hR
      obtain ⟨r38, l38, T38, hc38, hR⟩ := hR
      refine gcV_i (rest := []) ⟨hx, hb, hml, hown, hT⟩ (h_Model_known _ _ _ _ _ _ _ _ _ hc38) (cwV 5 hT (gV ml_Model_556 im_Model_known se_Model_known ini_Model co_Model_known) rfl rfl rfl pd_Model_known ⟨rm_hi, rm_lo (Nat.le_of_ble_eq_true rfl)⟩) hK hP hD hS hA hnw henv (Nat.le_of_ble_eq_true rfl) rfl rfl hl.1 rfl (Nat.le_of_ble_eq_true rfl) d_Model_meaning_181 ⟨Nat.le_refl _, Nat.le_refl _⟩ (fun H locs hP hD hS => ?_)
      clear hc38
      obtain ⟨e1, -, e3⟩ := re_e hR
      subst e1; subst e3
      exact W.iret (v := r38) hx hb hr (fun t ht hW => ⟨⟨r38, (), rfl, rfl, by rw [ht]; exact hP, va_K.moved hW.alike hK, hD⟩, hS.F ht⟩) hS.2.2 d_Model_meaning_184
    · replace hR := if_n c36 hR
      refine lv_iconst (v := 0) hx hb d_Model_meaning_165 (by decide) ?_
      refine lv_goto (tgt := 184) hx hb d_Model_meaning_166 (by decide) ?_
      obtain ⟨e1, -, e3⟩ := re_e hR
      subst e1; subst e3
      exact W.iret (v := (0 : Int32)) hx hb hr (fun t ht hW => ⟨⟨(0 : Int32), (), rfl, rfl, by rw [ht]; exact hP, va_K.moved hW.alike hK, hD⟩, hS.F ht⟩) hS.2.2 d_Model_meaning_184
  unfold rb_Model_meaning at hR
  refine lv_aload_n hx hb d_Model_meaning_0 rfl (lv_at hl 0 rfl) ?_
  replace hR := bi_e hR
  obtain ⟨r1, l1, T1, hc1, hR⟩ := hR
  refine gcV_i (rest := []) ⟨hx, hb, hml, hown, hT⟩ (h_Model_bad _ _ _ _ hc1) (cwV 0 hT (gV ml_Model_385 im_Model_bad se_Model_bad ini_Model co_Model_bad) rfl rfl rfl pd_Model_bad ⟨rm_hi, rm_lo (Nat.le_of_ble_eq_true rfl)⟩) hK hP hD hS hA hnw henv (Nat.le_of_ble_eq_true rfl) rfl rfl hl.1 rfl (Nat.le_of_ble_eq_true rfl) d_Model_meaning_1 ⟨Nat.le_refl _, Nat.le_refl _⟩ (fun H locs hP hD hS => ?_)
  clear hc1
  refine lv_if_ne (tgt := 16) hx hb d_Model_meaning_4 (by decide) (fun c2 => ?_) (fun c2 => ?_)
  · replace hR := if_n c2 hR
    refine lv_iconst (v := 0) hx hb d_Model_meaning_16 (by decide) ?_
    obtain ⟨e1, -, e3⟩ := re_e hR
    subst e1; subst e3
    exact W.iret (v := (0 : Int32)) hx hb hr (fun t ht hW => ⟨⟨(0 : Int32), (), rfl, rfl, by rw [ht]; exact hP, va_K.moved hW.alike hK, hD⟩, hS.F ht⟩) hS.2.2 d_Model_meaning_17
  · replace hR := if_p c2 hR
    refine lv_aload_n hx hb d_Model_meaning_7 rfl (lv_at hl 0 rfl) ?_
    refine rd_Model_90 hx hb hT hown hK hP d_Model_meaning_8 ?_
    refine lv_iload_n hx hb d_Model_meaning_11 rfl (lv_at hl 1 rfl) ?_
    replace hR := gd_e hR
    obtain ⟨b4, hR⟩ := hR
    refine laM_25 hx hb hK hP b4 d_Model_meaning_12 ?_
    refine lv_if_ne (tgt := 18) hx hb d_Model_meaning_13 (by decide) (fun c5 => ?_) (fun c5 => ?_)
    · replace hR := if_n c5 hR
      refine lv_aload_n hx hb d_Model_meaning_18 rfl (lv_at hl 0 rfl) ?_
      refine lv_aload_n hx hb d_Model_meaning_19 rfl (lv_at hl 0 rfl) ?_
      refine rd_Model_93 hx hb hT hown hK hP d_Model_meaning_20 ?_
      refine lv_iload_n hx hb d_Model_meaning_23 rfl (lv_at hl 1 rfl) ?_
      replace hR := gd_e hR
      obtain ⟨b6, hR⟩ := hR
      refine laM_26 hx hb hK hP b6 d_Model_meaning_24 ?_
      replace hR := bi_e hR
      obtain ⟨r7, l7, T7, hc7, hR⟩ := hR
      refine gcV_i (rest := []) ⟨hx, hb, hml, hown, hT⟩ (h_Model_regionAt _ _ _ _ _ hc7) (cwV 1 hT (gV ml_Model_578 im_Model_regionAt se_Model_regionAt ini_Model co_Model_regionAt) rfl rfl rfl pd_Model_regionAt ⟨rm_hi, rm_lo (Nat.le_of_ble_eq_true rfl)⟩) hK hP hD hS hA hnw henv (Nat.le_of_ble_eq_true rfl) rfl rfl hl.1 rfl (Nat.le_of_ble_eq_true rfl) d_Model_meaning_25 ⟨Nat.le_refl _, Nat.le_refl _⟩ (fun H locs hP hD hS => ?_)
      clear hc7
      refine lv_istore_n (lv' := [(2, .int r7), (0, .ref (ad 0)), (1, .int p1)]) hx hb d_Model_meaning_28 rfl hl (by decide) rfl (fun ls hl => ?_)
      refine lv_aload_n hx hb d_Model_meaning_29 rfl (lv_at hl 1 rfl) ?_
      replace hR := bi_e hR
      obtain ⟨r8, l8, T8, hc8, hR⟩ := hR
      refine gcV_i (rest := []) ⟨hx, hb, hml, hown, hT⟩ (h_Model_bad _ _ _ _ hc8) (cwV 0 hT (gV ml_Model_385 im_Model_bad se_Model_bad ini_Model co_Model_bad) rfl rfl rfl pd_Model_bad ⟨rm_hi, rm_lo (Nat.le_of_ble_eq_true rfl)⟩) hK hP hD hS hA hnw henv (Nat.le_of_ble_eq_true rfl) rfl rfl hl.1 rfl (Nat.le_of_ble_eq_true rfl) d_Model_meaning_30 ⟨Nat.le_refl _, Nat.le_refl _⟩ (fun H locs hP hD hS => ?_)
      clear hc8
      refine lv_if_eq (tgt := 38) hx hb d_Model_meaning_33 (by decide) (fun c9 => ?_) (fun c9 => ?_)
      · replace hR := if_p c9 hR
        refine lv_aload_n hx hb d_Model_meaning_38 rfl (lv_at hl 1 rfl) ?_
        refine rd_Model_102 hx hb hT hown hK hP d_Model_meaning_39 ?_
        refine lv_iload_n hx hb d_Model_meaning_42 rfl (lv_at hl 2 rfl) ?_
        replace hR := gd_e hR
        obtain ⟨b10, hR⟩ := hR
        refine laM_29 hx hb hK hP b10 d_Model_meaning_43 ?_
        refine lv_if_ge (tgt := 84) hx hb d_Model_meaning_44 (by decide) (fun c11 => ?_) (fun c11 => ?_)
        · replace hR := if_p c11 hR
          refine lv_aload_n hx hb d_Model_meaning_84 rfl (lv_at hl 1 rfl) ?_
          refine lv_aload_n hx hb d_Model_meaning_85 rfl (lv_at hl 1 rfl) ?_
          refine rd_Model_99 hx hb hT hown hK hP d_Model_meaning_86 ?_
          refine lv_iload_n hx hb d_Model_meaning_89 rfl (lv_at hl 2 rfl) ?_
          replace hR := gd_e hR
          obtain ⟨b12, hR⟩ := hR
          refine laM_28 hx hb hK hP b12 d_Model_meaning_90 ?_
          replace hR := bi_e hR
          obtain ⟨r13, l13, T13, hc13, hR⟩ := hR
          refine gcV_i (rest := []) ⟨hx, hb, hml, hown, hT⟩ (h_Model_findTitle _ _ _ _ _ hc13) (cwV 1 hT (gV ml_Model_587 im_Model_findTitle se_Model_findTitle ini_Model co_Model_findTitle) rfl rfl rfl pd_Model_findTitle ⟨rm_hi, rm_lo (Nat.le_of_ble_eq_true rfl)⟩) hK hP hD hS hA hnw henv (Nat.le_of_ble_eq_true rfl) rfl rfl hl.1 rfl (Nat.le_of_ble_eq_true rfl) d_Model_meaning_91 ⟨Nat.le_refl _, Nat.le_refl _⟩ (fun H locs hP hD hS => ?_)
          clear hc13
          refine lv_istore_n (lv' := [(3, .int r13), (2, .int r7), (0, .ref (ad 0)), (1, .int p1)]) hx hb d_Model_meaning_94 rfl hl (by decide) rfl (fun ls hl => ?_)
          refine lv_iload_n hx hb d_Model_meaning_95 rfl (lv_at hl 0 rfl) ?_
          refine lv_if_ge (tgt := 113) hx hb d_Model_meaning_96 (by decide) (fun c14 => ?_) (fun c14 => ?_)
          · replace hR := if_p c14 hR
            refine lv_aload_n hx hb d_Model_meaning_113 rfl (lv_at hl 2 rfl) ?_
            refine rd_Model_27 hx hb hT hown hK hP d_Model_meaning_114 ?_
            refine lv_iload_n hx hb d_Model_meaning_117 rfl (lv_at hl 0 rfl) ?_
            replace hR := gd_e hR
            obtain ⟨b15, hR⟩ := hR
            refine laM_4 hx hb hK hP b15 d_Model_meaning_118 ?_
            refine lv_aload_n hx hb d_Model_meaning_119 rfl (lv_at hl 2 rfl) ?_
            refine rd_Model_108 hx hb hT hown hK hP d_Model_meaning_120 ?_
            refine lv_iload_n hx hb d_Model_meaning_123 rfl (lv_at hl 3 rfl) ?_
            replace hR := gd_e hR
            obtain ⟨b16, hR⟩ := hR
            refine laM_31 hx hb hK hP b16 d_Model_meaning_124 ?_
            refine lv_icmp_eq (tgt := 140) hx hb d_Model_meaning_125 (by decide) (fun c17 => ?_) (fun c17 => ?_)
            · replace hR := if_p c17 hR
              have g := lb_140 T13 p1 r7 r13 hR
              rw [hG] at g
              exact g _ _ hP hD hS _ (lv_sub hl [2, 3, 1, 0] rfl)
            · replace hR := if_n c17 hR
              refine lv_aload_n hx hb d_Model_meaning_128 rfl (lv_at hl 2 rfl) ?_
              refine lv_bipush (v := 7) hx hb d_Model_meaning_129 (by decide) ?_
              refine lv_aload_n hx hb d_Model_meaning_131 rfl (lv_at hl 2 rfl) ?_
              refine rd_Model_102 hx hb hT hown hK hP d_Model_meaning_132 ?_
              refine lv_iload_n hx hb d_Model_meaning_135 rfl (lv_at hl 3 rfl) ?_
              replace hR := gd_e hR
              obtain ⟨b18, hR⟩ := hR
              refine laM_29 hx hb hK hP b18 d_Model_meaning_136 ?_
              replace hR := bi_e hR
              obtain ⟨r19, l19, T19, hc19, hR⟩ := hR
              refine gcV_v (rest := []) ⟨hx, hb, hml, hown, hT⟩ (h_Model_fail _ _ _ _ _ _ hc19) (cwV 2 hT (gV ml_Model_381 im_Model_fail se_Model_fail ini_Model co_Model_fail) rfl rfl rfl pd_Model_fail ⟨rm_hi, rm_lo (Nat.le_of_ble_eq_true rfl)⟩) hK hP hD hS hA hnw henv (Nat.le_of_ble_eq_true rfl) rfl rfl hl.1 rfl (Nat.le_of_ble_eq_true rfl) d_Model_meaning_137 ⟨Nat.le_refl _, Nat.le_refl _⟩ (fun H locs hP hD hS => ?_)
              clear hc19
              have g := lb_140 T19 p1 r7 r13 hR
              rw [hG] at g
              exact g _ _ hP hD hS _ (lv_sub hl [2, 3, 1, 0] rfl)
          · replace hR := if_n c14 hR
            refine lv_aload_n hx hb d_Model_meaning_99 rfl (lv_at hl 2 rfl) ?_
            refine lv_iconst (v := 3) hx hb d_Model_meaning_100 (by decide) ?_
            refine lv_aload_n hx hb d_Model_meaning_101 rfl (lv_at hl 2 rfl) ?_
            refine rd_Model_102 hx hb hT hown hK hP d_Model_meaning_102 ?_
            refine lv_iload_n hx hb d_Model_meaning_105 rfl (lv_at hl 3 rfl) ?_
            replace hR := gd_e hR
            obtain ⟨b20, hR⟩ := hR
            refine laM_29 hx hb hK hP b20 d_Model_meaning_106 ?_
            replace hR := bi_e hR
            obtain ⟨r21, l21, T21, hc21, hR⟩ := hR
            refine gcV_v (rest := []) ⟨hx, hb, hml, hown, hT⟩ (h_Model_fail _ _ _ _ _ _ hc21) (cwV 2 hT (gV ml_Model_381 im_Model_fail se_Model_fail ini_Model co_Model_fail) rfl rfl rfl pd_Model_fail ⟨rm_hi, rm_lo (Nat.le_of_ble_eq_true rfl)⟩) hK hP hD hS hA hnw henv (Nat.le_of_ble_eq_true rfl) rfl rfl hl.1 rfl (Nat.le_of_ble_eq_true rfl) d_Model_meaning_107 ⟨Nat.le_refl _, Nat.le_refl _⟩ (fun H locs hP hD hS => ?_)
            clear hc21
            refine lv_goto (tgt := 140) hx hb d_Model_meaning_110 (by decide) ?_
            have g := lb_140 T21 p1 r7 r13 hR
            rw [hG] at g
            exact g _ _ hP hD hS _ (lv_sub hl [2, 3, 1, 0] rfl)
        · replace hR := if_n c11 hR
          refine lv_aload_n hx hb d_Model_meaning_47 rfl (lv_at hl 1 rfl) ?_
          refine lv_aload_n hx hb d_Model_meaning_48 rfl (lv_at hl 1 rfl) ?_
          refine rd_Model_96 hx hb hT hown hK hP d_Model_meaning_49 ?_
          refine lv_iload_n hx hb d_Model_meaning_52 rfl (lv_at hl 2 rfl) ?_
          replace hR := gd_e hR
          obtain ⟨b22, hR⟩ := hR
          refine laM_27 hx hb hK hP b22 d_Model_meaning_53 ?_
          replace hR := bi_e hR
          obtain ⟨r23, l23, T23, hc23, hR⟩ := hR
          refine gcV_i (rest := []) ⟨hx, hb, hml, hown, hT⟩ (h_Model_meaning _ _ _ _ _ hc23) (cwV 1 hT (gV ml_Model_584 im_Model_meaning se_Model_meaning ini_Model co_Model_meaning) rfl rfl rfl pd_Model_meaning ⟨rm_hi, rm_lo (Nat.le_of_ble_eq_true rfl)⟩) hK hP hD hS hA hnw henv (Nat.le_of_ble_eq_true rfl) rfl rfl hl.1 rfl (Nat.le_of_ble_eq_true rfl) d_Model_meaning_54 ⟨Nat.le_refl _, Nat.le_refl _⟩ (fun H locs hP hD hS => ?_)
          clear hc23
          refine lv_istore_n (lv' := [(3, .int r23), (2, .int r7), (0, .ref (ad 0)), (1, .int p1)]) hx hb d_Model_meaning_57 rfl hl (by decide) rfl (fun ls hl => ?_)
          refine lv_aload_n hx hb d_Model_meaning_58 rfl (lv_at hl 2 rfl) ?_
          replace hR := bi_e hR
          obtain ⟨r24, l24, T24, hc24, hR⟩ := hR
          refine gcV_i (rest := []) ⟨hx, hb, hml, hown, hT⟩ (h_Model_bad _ _ _ _ hc24) (cwV 0 hT (gV ml_Model_385 im_Model_bad se_Model_bad ini_Model co_Model_bad) rfl rfl rfl pd_Model_bad ⟨rm_hi, rm_lo (Nat.le_of_ble_eq_true rfl)⟩) hK hP hD hS hA hnw henv (Nat.le_of_ble_eq_true rfl) rfl rfl hl.1 rfl (Nat.le_of_ble_eq_true rfl) d_Model_meaning_59 ⟨Nat.le_refl _, Nat.le_refl _⟩ (fun H locs hP hD hS => ?_)
          clear hc24
          refine lv_if_eq (tgt := 69) hx hb d_Model_meaning_62 (by decide) (fun c25 => ?_) (fun c25 => ?_)
          · replace hR := if_p c25 hR
            refine lv_aload_n hx hb d_Model_meaning_69 rfl (lv_at hl 2 rfl) ?_
            refine lv_aload_n hx hb d_Model_meaning_70 rfl (lv_at hl 2 rfl) ?_
            refine rd_Model_90 hx hb hT hown hK hP d_Model_meaning_71 ?_
            refine lv_iload_n hx hb d_Model_meaning_74 rfl (lv_at hl 3 rfl) ?_
            replace hR := gd_e hR
            obtain ⟨b26, hR⟩ := hR
            refine laM_25 hx hb hK hP b26 d_Model_meaning_75 ?_
            refine lv_iload_n hx hb d_Model_meaning_76 rfl (lv_at hl 1 rfl) ?_
            refine lv_iload_n hx hb d_Model_meaning_77 rfl (lv_at hl 0 rfl) ?_
            refine lv_iconst (v := (-1)) hx hb d_Model_meaning_78 (by decide) ?_
            refine lv_iconst (v := 0) hx hb d_Model_meaning_79 (by decide) ?_
            replace hR := bi_e hR
            obtain ⟨r27, l27, T27, hc27, hR⟩ := hR
            refine gcV_i (rest := []) ⟨hx, hb, hml, hown, hT⟩ (h_Model_known _ _ _ _ _ _ _ _ _ hc27) (cwV 5 hT (gV ml_Model_556 im_Model_known se_Model_known ini_Model co_Model_known) rfl rfl rfl pd_Model_known ⟨rm_hi, rm_lo (Nat.le_of_ble_eq_true rfl)⟩) hK hP hD hS hA hnw henv (Nat.le_of_ble_eq_true rfl) rfl rfl hl.1 rfl (Nat.le_of_ble_eq_true rfl) d_Model_meaning_80 ⟨Nat.le_refl _, Nat.le_refl _⟩ (fun H locs hP hD hS => ?_)
            clear hc27
            obtain ⟨e1, -, e3⟩ := re_e hR
            subst e1; subst e3
            exact W.iret (v := r27) hx hb hr (fun t ht hW => ⟨⟨r27, (), rfl, rfl, by rw [ht]; exact hP, va_K.moved hW.alike hK, hD⟩, hS.F ht⟩) hS.2.2 d_Model_meaning_83
          · replace hR := if_n c25 hR
            refine lv_iconst (v := 0) hx hb d_Model_meaning_65 (by decide) ?_
            refine lv_goto (tgt := 83) hx hb d_Model_meaning_66 (by decide) ?_
            obtain ⟨e1, -, e3⟩ := re_e hR
            subst e1; subst e3
            exact W.iret (v := (0 : Int32)) hx hb hr (fun t ht hW => ⟨⟨(0 : Int32), (), rfl, rfl, by rw [ht]; exact hP, va_K.moved hW.alike hK, hD⟩, hS.F ht⟩) hS.2.2 d_Model_meaning_83
      · replace hR := if_n c9 hR
        refine lv_iconst (v := 0) hx hb d_Model_meaning_36 (by decide) ?_
        obtain ⟨e1, -, e3⟩ := re_e hR
        subst e1; subst e3
        exact W.iret (v := (0 : Int32)) hx hb hr (fun t ht hW => ⟨⟨(0 : Int32), (), rfl, rfl, by rw [ht]; exact hP, va_K.moved hW.alike hK, hD⟩, hS.F ht⟩) hS.2.2 d_Model_meaning_37
    · replace hR := if_p c5 hR
      refine lv_iconst (v := 0) hx hb d_Model_meaning_16 (by decide) ?_
      obtain ⟨e1, -, e3⟩ := re_e hR
      subst e1; subst e3
      exact W.iret (v := (0 : Int32)) hx hb hr (fun t ht hW => ⟨⟨(0 : Int32), (), rfl, rfl, by rw [ht]; exact hP, va_K.moved hW.alike hK, hD⟩, hS.F ht⟩) hS.2.2 d_Model_meaning_17
set_option maxHeartbeats 4000000 in
set_option maxRecDepth 100000 in
theorem sp_Model_doesOutlive (l : Launch) (dC : Nat → ClassId) (dI : Nat → Nat → Nat) (ea ev ad : Nat → Nat) (km : Nat → ClassId) (F : gF) (nf d : Nat) (h_Model_isLive : mt_Model_isLive l dC dI ea ev ad km F d) (T0 : gSt) (p1 : Int32) (p2 : Int32) (r0 : Int32) (rl0 : Int64) (T9 : gSt) (hR : rb_Model_doesOutlive F nf T0 p1 p2 = some (r0, rl0, T9)) : GMi l dC dI LM ad km ea ev y_Model_doesOutlive w_Model_doesOutlive (rmD (d + 1)) [.ref (ad 0), .int p1, .int p2] T0 r0 T9 := by
  intro sz
  refine Met.ofW (cc := b_Model_doesOutlive) (maxL := 4) (ret := (some .boolean)) (by decide) rfl ?_
  intro p e s m args below meth c s₁ B hml hv
  obtain ⟨rfl, hsz, hP, hK, hD0, hnw, henv⟩ := hv
  have hx := B.exec
  have hb := B.bytes
  have hr := B.returns
  have hT : ∀ w ∈ lw_good, w.before _ s = true := fun w h => atoms_spec (ws := w_Model_doesOutlive) B.pre w (List.mem_cons_of_mem _ h)
  have hown : s.vm.findClass R_Model = some m.cls := findClass_of_methodNamed B.named
  subst hsz
  have hD := hD0.self (sz := s.heap.size)
  clear hD0
  generalize hAe : va_A (gW LM ad km T0) s.heap.size = A at hD henv ⊢
  have hA : ∀ q : Nat, s.heap.size ≤ q → A q := fun q h => by rw [← hAe]; exact Or.inr h
  have hS : va_S A s.heap s.heap [] := va_S.rf
  have hl := lv_entry ([.ref (ad 0), .int p1, .int p2]) (n := 4) (Nat.le_of_ble_eq_true rfl)
  rw [lg_entry_eq]
  generalize (lg_sl ([.ref (ad 0), .int p1, .int p2]) ++ List.replicate (4 - (lg_sl ([.ref (ad 0), .int p1, .int p2])).length) Slot.unset).toArray = ls at hl ⊢
  have hl : lv_has ls 4 [(0, .ref (ad 0)), (1, .int p1), (2, .int p2)] := hl
  obtain ⟨G, hG⟩ : ∃ G : Nat → List (Nat × Value) → List Value → gSt → Prop, G = (fun pc lv stk T => ∀ (H : Heap) (locs : List Loc), va_P (dC, dI) cls_all (gW LM ad km T) H → va_D A (gW LM ad km T) → va_S A s.heap H locs → ∀ (ls : Array Slot), lv_has ls 4 lv → W p l e (headSpec w_Model_doesOutlive (rmD (d + 1))).room s m ([.ref (ad 0), .int p1, .int p2] : List Value).toArray below meth c H locs 0 0 (MQ below (va_Qi (fun (z : Int32) (_ : Unit) => z = r0) (fun _ t => gPost dC dI LM ad km T9 A t) A) ([.ref (ad 0), .int p1, .int p2] : List Value).toArray s 0 0 A) (F0 m pc ls stk)) := ⟨_, rfl⟩
  have lb_76 : ∀ (n : Nat) (T : gSt) (x1 : Int32) (x3 : Int32), rl_Model_doesOutlive_76 F nf n T x1 x3 = some (r0, rl0, T9) → G 76 [(0, .ref (ad 0)), (1, .int x1), (3, .int x3)] [] T := by
    intro n
    induction n with
    | zero => intro T x1 x3 hR; rw [rl_Model_doesOutlive_76] at hR; cases hR
    | succ n ih =>
      intro T x1 x3 hR; rw [rl_Model_doesOutlive_76] at hR; rw [hG]; intro H locs hP hD hS ls hl
      refine lv_iload_n hx hb d_Model_doesOutlive_76 rfl (lv_at hl 2 rfl) ?_
      refine lv_if_le (tgt := 95) hx hb d_Model_doesOutlive_77 (by decide) (fun c20 => ?_) (fun c20 => ?_)
      · replace hR := if_p c20 hR
        refine lv_iload_n hx hb d_Model_doesOutlive_95 rfl (lv_at hl 2 rfl) ?_
        refine lv_iload_n hx hb d_Model_doesOutlive_96 rfl (lv_at hl 1 rfl) ?_
        refine lv_icmp_ne (tgt := 104) hx hb d_Model_doesOutlive_97 (by decide) (fun c21 => ?_) (fun c21 => ?_)
        · replace hR := if_n c21 hR
          refine lv_iconst (v := 0) hx hb d_Model_doesOutlive_104 (by decide) ?_
          obtain ⟨e1, -, e3⟩ := re_e hR
          subst e1; subst e3
          exact W.zret (v := (0 : Int32)) hx hb hr (by first | rfl | decide) (fun t ht hW => ⟨⟨(0 : Int32), (), rfl, rfl, by rw [ht]; exact hP, va_K.moved hW.alike hK, hD⟩, hS.F ht⟩) hS.2.2 d_Model_doesOutlive_105
        · replace hR := if_p c21 hR
          refine lv_iconst (v := 1) hx hb d_Model_doesOutlive_100 (by decide) ?_
          refine lv_goto (tgt := 105) hx hb d_Model_doesOutlive_101 (by decide) ?_
          obtain ⟨e1, -, e3⟩ := re_e hR
          subst e1; subst e3
          exact W.zret (v := (1 : Int32)) hx hb hr (by first | rfl | decide) (fun t ht hW => ⟨⟨(1 : Int32), (), rfl, rfl, by rw [ht]; exact hP, va_K.moved hW.alike hK, hD⟩, hS.F ht⟩) hS.2.2 d_Model_doesOutlive_105
      · replace hR := if_n c20 hR
        refine lv_iload_n hx hb d_Model_doesOutlive_80 rfl (lv_at hl 2 rfl) ?_
        refine lv_iload_n hx hb d_Model_doesOutlive_81 rfl (lv_at hl 1 rfl) ?_
        refine lv_icmp_eq (tgt := 95) hx hb d_Model_doesOutlive_82 (by decide) (fun c24 => ?_) (fun c24 => ?_)
        · replace hR := if_p c24 hR
          refine lv_iload_n hx hb d_Model_doesOutlive_95 rfl (lv_at hl 2 rfl) ?_
          refine lv_iload_n hx hb d_Model_doesOutlive_96 rfl (lv_at hl 1 rfl) ?_
          refine lv_icmp_ne (tgt := 104) hx hb d_Model_doesOutlive_97 (by decide) (fun c25 => ?_) (fun c25 => ?_)
          · replace hR := if_n c25 hR
            refine lv_iconst (v := 0) hx hb d_Model_doesOutlive_104 (by decide) ?_
            obtain ⟨e1, -, e3⟩ := re_e hR
            subst e1; subst e3
            exact W.zret (v := (0 : Int32)) hx hb hr (by first | rfl | decide) (fun t ht hW => ⟨⟨(0 : Int32), (), rfl, rfl, by rw [ht]; exact hP, va_K.moved hW.alike hK, hD⟩, hS.F ht⟩) hS.2.2 d_Model_doesOutlive_105
          · replace hR := if_p c25 hR
            refine lv_iconst (v := 1) hx hb d_Model_doesOutlive_100 (by decide) ?_
            refine lv_goto (tgt := 105) hx hb d_Model_doesOutlive_101 (by decide) ?_
            obtain ⟨e1, -, e3⟩ := re_e hR
            subst e1; subst e3
            exact W.zret (v := (1 : Int32)) hx hb hr (by first | rfl | decide) (fun t ht hW => ⟨⟨(1 : Int32), (), rfl, rfl, by rw [ht]; exact hP, va_K.moved hW.alike hK, hD⟩, hS.F ht⟩) hS.2.2 d_Model_doesOutlive_105
        · replace hR := if_n c24 hR
          refine lv_aload_n hx hb d_Model_doesOutlive_85 rfl (lv_at hl 0 rfl) ?_
          refine rd_Model_177 hx hb hT hown hK hP d_Model_doesOutlive_86 ?_
          refine lv_iload_n hx hb d_Model_doesOutlive_89 rfl (lv_at hl 2 rfl) ?_
          replace hR := gd_e hR
          obtain ⟨b28, hR⟩ := hR
          refine laM_54 hx hb hK hP b28 d_Model_doesOutlive_90 ?_
          refine lv_topi (fun z29 e29 => ?_)
          replace hR := vK_e e29 hR
          refine lv_istore_n (lv' := [(3, .int z29), (0, .ref (ad 0)), (1, .int x1)]) hx hb d_Model_doesOutlive_91 rfl hl (by decide) rfl (fun ls hl => ?_)
          refine lv_goto (tgt := 76) hx hb d_Model_doesOutlive_92 (by decide) ?_
          have g := ih T x1 z29 hR
          rw [hG] at g
          exact g _ _ hP hD hS _ (lv_sub hl [1, 2, 0] rfl)
  have lb_47 : ∀ (T : gSt) (x1 : Int32) (x2 : Int32), rj_Model_doesOutlive_47 F nf T x1 x2 = some (r0, rl0, T9) → G 47 [(0, .ref (ad 0)), (1, .int x1), (2, .int x2)] [] T := by
    intro T x1 x2 hR; unfold rj_Model_doesOutlive_47 at hR; rw [hG]; intro H locs hP hD hS ls hl
    refine lv_iload_n hx hb d_Model_doesOutlive_47 rfl (lv_at hl 2 rfl) ?_
    refine lv_iconst (v := 4) hx hb d_Model_doesOutlive_48 (by decide) ?_
    refine lv_icmp_lt (tgt := 60) hx hb d_Model_doesOutlive_49 (by decide) (fun c11 => ?_) (fun c11 => ?_)
    · replace hR := if_p c11 hR
      refine lv_iconst (v := 0) hx hb d_Model_doesOutlive_60 (by decide) ?_
      obtain ⟨e1, -, e3⟩ := re_e hR
      subst e1; subst e3
      exact W.zret (v := (0 : Int32)) hx hb hr (by first | rfl | decide) (fun t ht hW => ⟨⟨(0 : Int32), (), rfl, rfl, by rw [ht]; exact hP, va_K.moved hW.alike hK, hD⟩, hS.F ht⟩) hS.2.2 d_Model_doesOutlive_61
    · replace hR := if_n c11 hR
      refine lv_aload_n hx hb d_Model_doesOutlive_52 rfl (lv_at hl 0 rfl) ?_
      refine lv_iload_n hx hb d_Model_doesOutlive_53 rfl (lv_at hl 1 rfl) ?_
      replace hR := bi_e hR
      obtain ⟨r13, l13, T13, hc13, hR⟩ := hR
      refine gcV_i (rest := []) ⟨hx, hb, hml, hown, hT⟩ (h_Model_isLive _ _ _ _ _ hc13) (cwV 1 hT (gV ml_Model_581 im_Model_isLive se_Model_isLive ini_Model co_Model_isLive) rfl rfl rfl pd_Model_isLive ⟨rm_hi, rm_lo (Nat.le_of_ble_eq_true rfl)⟩) hK hP hD hS hA hnw henv (Nat.le_of_ble_eq_true rfl) rfl rfl hl.1 rfl (Nat.le_of_ble_eq_true rfl) d_Model_doesOutlive_54 ⟨Nat.le_refl _, Nat.le_refl _⟩ (fun H locs hP hD hS => ?_)
      clear hc13
      refine lv_if_ne (tgt := 62) hx hb d_Model_doesOutlive_57 (by decide) (fun c14 => ?_) (fun c14 => ?_)
      · replace hR := if_n c14 hR
        refine lv_iload_n hx hb d_Model_doesOutlive_62 rfl (lv_at hl 1 rfl) ?_
        refine lv_iconst (v := 4) hx hb d_Model_doesOutlive_63 (by decide) ?_
        refine lv_icmp_ge (tgt := 69) hx hb d_Model_doesOutlive_64 (by decide) (fun c15 => ?_) (fun c15 => ?_)
        · replace hR := if_p c15 hR
          refine lv_aload_n hx hb d_Model_doesOutlive_69 rfl (lv_at hl 0 rfl) ?_
          refine rd_Model_177 hx hb hT hown hK hP d_Model_doesOutlive_70 ?_
          refine lv_iload_n hx hb d_Model_doesOutlive_73 rfl (lv_at hl 2 rfl) ?_
          replace hR := gd_e hR
          obtain ⟨b16, hR⟩ := hR
          refine laM_54 hx hb hK hP b16 d_Model_doesOutlive_74 ?_
          refine lv_topi (fun z17 e17 => ?_)
          replace hR := vK_e e17 hR
          refine lv_istore_n (lv' := [(3, .int z17), (0, .ref (ad 0)), (1, .int x1), (2, .int x2)]) hx hb d_Model_doesOutlive_75 rfl hl (by decide) rfl (fun ls hl => ?_)
          have g := lb_76 nf T13 x1 z17 hR
          rw [hG] at g
          exact g _ _ hP hD hS _ (lv_sub hl [1, 2, 0] rfl)
        · replace hR := if_n c15 hR
          refine lv_iconst (v := 1) hx hb d_Model_doesOutlive_67 (by decide) ?_
          obtain ⟨e1, -, e3⟩ := re_e hR
          subst e1; subst e3
          exact W.zret (v := (1 : Int32)) hx hb hr (by first | rfl | decide) (fun t ht hW => ⟨⟨(1 : Int32), (), rfl, rfl, by rw [ht]; exact hP, va_K.moved hW.alike hK, hD⟩, hS.F ht⟩) hS.2.2 d_Model_doesOutlive_68
      · replace hR := if_p c14 hR
        refine lv_iconst (v := 0) hx hb d_Model_doesOutlive_60 (by decide) ?_
        obtain ⟨e1, -, e3⟩ := re_e hR
        subst e1; subst e3
        exact W.zret (v := (0 : Int32)) hx hb hr (by first | rfl | decide) (fun t ht hW => ⟨⟨(0 : Int32), (), rfl, rfl, by rw [ht]; exact hP, va_K.moved hW.alike hK, hD⟩, hS.F ht⟩) hS.2.2 d_Model_doesOutlive_61
  unfold rb_Model_doesOutlive at hR
  refine lv_iload_n hx hb d_Model_doesOutlive_0 rfl (lv_at hl 1 rfl) ?_
  refine lv_iload_n hx hb d_Model_doesOutlive_1 rfl (lv_at hl 2 rfl) ?_
  refine lv_icmp_eq (tgt := 9) hx hb d_Model_doesOutlive_2 (by decide) (fun c1 => ?_) (fun c1 => ?_)
  · replace hR := if_p c1 hR
    refine lv_iconst (v := 1) hx hb d_Model_doesOutlive_9 (by decide) ?_
    obtain ⟨e1, -, e3⟩ := re_e hR
    subst e1; subst e3
    exact W.zret (v := (1 : Int32)) hx hb hr (by first | rfl | decide) (fun t ht hW => ⟨⟨(1 : Int32), (), rfl, rfl, by rw [ht]; exact hP, va_K.moved hW.alike hK, hD⟩, hS.F ht⟩) hS.2.2 d_Model_doesOutlive_10
  · replace hR := if_n c1 hR
    refine lv_iload_n hx hb d_Model_doesOutlive_5 rfl (lv_at hl 1 rfl) ?_
    refine lv_if_ne (tgt := 11) hx hb d_Model_doesOutlive_6 (by decide) (fun c3 => ?_) (fun c3 => ?_)
    · replace hR := if_n c3 hR
      refine lv_iload_n hx hb d_Model_doesOutlive_11 rfl (lv_at hl 1 rfl) ?_
      refine lv_iconst (v := 4) hx hb d_Model_doesOutlive_12 (by decide) ?_
      refine lv_icmp_ge (tgt := 47) hx hb d_Model_doesOutlive_13 (by decide) (fun c4 => ?_) (fun c4 => ?_)
      · replace hR := if_p c4 hR
        have g := lb_47 T0 p1 p2 hR
        rw [hG] at g
        exact g _ _ hP hD hS _ (lv_sub hl [0, 1, 2] rfl)
      · replace hR := if_n c4 hR
        refine lv_iload_n hx hb d_Model_doesOutlive_16 rfl (lv_at hl 2 rfl) ?_
        refine lv_if_le (tgt := 47) hx hb d_Model_doesOutlive_17 (by decide) (fun c5 => ?_) (fun c5 => ?_)
        · replace hR := if_p c5 hR
          have g := lb_47 T0 p1 p2 hR
          rw [hG] at g
          exact g _ _ hP hD hS _ (lv_sub hl [0, 1, 2] rfl)
        · replace hR := if_n c5 hR
          refine lv_iload_n hx hb d_Model_doesOutlive_20 rfl (lv_at hl 2 rfl) ?_
          refine lv_iconst (v := 4) hx hb d_Model_doesOutlive_21 (by decide) ?_
          refine lv_icmp_ge (tgt := 47) hx hb d_Model_doesOutlive_22 (by decide) (fun c6 => ?_) (fun c6 => ?_)
          · replace hR := if_p c6 hR
            have g := lb_47 T0 p1 p2 hR
            rw [hG] at g
            exact g _ _ hP hD hS _ (lv_sub hl [0, 1, 2] rfl)
          · replace hR := if_n c6 hR
            refine lv_aload_n hx hb d_Model_doesOutlive_25 rfl (lv_at hl 0 rfl) ?_
            refine rd_Model_593 hx hb hT hown hK hP d_Model_doesOutlive_26 ?_
            refine lv_iconst (v := 4) hx hb d_Model_doesOutlive_29 (by decide) ?_
            refine lv_iload_n hx hb d_Model_doesOutlive_30 rfl (lv_at hl 1 rfl) ?_
            refine lv_imul hx hb d_Model_doesOutlive_31 ?_
            refine lv_iload_n hx hb d_Model_doesOutlive_32 rfl (lv_at hl 2 rfl) ?_
            refine lv_iadd hx hb d_Model_doesOutlive_33 ?_
            refine lv_ishr hx hb d_Model_doesOutlive_34 ?_
            refine lv_iconst (v := 1) hx hb d_Model_doesOutlive_35 (by decide) ?_
            refine lv_iand hx hb d_Model_doesOutlive_36 ?_
            refine lv_iconst (v := 1) hx hb d_Model_doesOutlive_37 (by decide) ?_
            refine lv_icmp_ne (tgt := 45) hx hb d_Model_doesOutlive_38 (by decide) (fun c7 => ?_) (fun c7 => ?_)
            · replace hR := if_n c7 hR
              refine lv_iconst (v := 0) hx hb d_Model_doesOutlive_45 (by decide) ?_
              obtain ⟨e1, -, e3⟩ := re_e hR
              subst e1; subst e3
              exact W.zret (v := (0 : Int32)) hx hb hr (by first | rfl | decide) (fun t ht hW => ⟨⟨(0 : Int32), (), rfl, rfl, by rw [ht]; exact hP, va_K.moved hW.alike hK, hD⟩, hS.F ht⟩) hS.2.2 d_Model_doesOutlive_46
            · replace hR := if_p c7 hR
              refine lv_iconst (v := 1) hx hb d_Model_doesOutlive_41 (by decide) ?_
              refine lv_goto (tgt := 46) hx hb d_Model_doesOutlive_42 (by decide) ?_
              obtain ⟨e1, -, e3⟩ := re_e hR
              subst e1; subst e3
              exact W.zret (v := (1 : Int32)) hx hb hr (by first | rfl | decide) (fun t ht hW => ⟨⟨(1 : Int32), (), rfl, rfl, by rw [ht]; exact hP, va_K.moved hW.alike hK, hD⟩, hS.F ht⟩) hS.2.2 d_Model_doesOutlive_46
    · replace hR := if_p c3 hR
      refine lv_iconst (v := 1) hx hb d_Model_doesOutlive_9 (by decide) ?_
      obtain ⟨e1, -, e3⟩ := re_e hR
      subst e1; subst e3
      exact W.zret (v := (1 : Int32)) hx hb hr (by first | rfl | decide) (fun t ht hW => ⟨⟨(1 : Int32), (), rfl, rfl, by rw [ht]; exact hP, va_K.moved hW.alike hK, hD⟩, hS.F ht⟩) hS.2.2 d_Model_doesOutlive_10
set_option maxHeartbeats 4000000 in
set_option maxRecDepth 100000 in
theorem sp_Model_misfit (l : Launch) (dC : Nat → ClassId) (dI : Nat → Nat → Nat) (ea ev ad : Nat → Nat) (km : Nat → ClassId) (F : gF) (nf d : Nat) (h_Model_sameCell : mt_Model_sameCell l dC dI ea ev ad km F d) (h_Model_doesOutlive : mt_Model_doesOutlive l dC dI ea ev ad km F d) (T0 : gSt) (p1 : Int32) (p2 : Int32) (r0 : Int32) (rl0 : Int64) (T9 : gSt) (hR : rb_Model_misfit F nf T0 p1 p2 = some (r0, rl0, T9)) : GMi l dC dI LM ad km ea ev y_Model_misfit w_Model_misfit (rmD (d + 1)) [.ref (ad 0), .int p1, .int p2] T0 r0 T9 := by
  intro sz
  refine Met.ofW (cc := b_Model_misfit) (maxL := 4) (ret := (some .int)) (by decide) rfl ?_
  intro p e s m args below meth c s₁ B hml hv
  obtain ⟨rfl, hsz, hP, hK, hD0, hnw, henv⟩ := hv
  have hx := B.exec
  have hb := B.bytes
  have hr := B.returns
  have hT : ∀ w ∈ lw_good, w.before _ s = true := fun w h => atoms_spec (ws := w_Model_misfit) B.pre w (List.mem_cons_of_mem _ h)
  have hown : s.vm.findClass R_Model = some m.cls := findClass_of_methodNamed B.named
  subst hsz
  have hD := hD0.self (sz := s.heap.size)
  clear hD0
  generalize hAe : va_A (gW LM ad km T0) s.heap.size = A at hD henv ⊢
  have hA : ∀ q : Nat, s.heap.size ≤ q → A q := fun q h => by rw [← hAe]; exact Or.inr h
  have hS : va_S A s.heap s.heap [] := va_S.rf
  have hl := lv_entry ([.ref (ad 0), .int p1, .int p2]) (n := 4) (Nat.le_of_ble_eq_true rfl)
  rw [lg_entry_eq]
  generalize (lg_sl ([.ref (ad 0), .int p1, .int p2]) ++ List.replicate (4 - (lg_sl ([.ref (ad 0), .int p1, .int p2])).length) Slot.unset).toArray = ls at hl ⊢
  have hl : lv_has ls 4 [(0, .ref (ad 0)), (1, .int p1), (2, .int p2)] := hl
  obtain ⟨G, hG⟩ : ∃ G : Nat → List (Nat × Value) → List Value → gSt → Prop, G = (fun pc lv stk T => ∀ (H : Heap) (locs : List Loc), va_P (dC, dI) cls_all (gW LM ad km T) H → va_D A (gW LM ad km T) → va_S A s.heap H locs → ∀ (ls : Array Slot), lv_has ls 4 lv → W p l e (headSpec w_Model_misfit (rmD (d + 1))).room s m ([.ref (ad 0), .int p1, .int p2] : List Value).toArray below meth c H locs 0 0 (MQ below (va_Qi (fun (z : Int32) (_ : Unit) => z = r0) (fun _ t => gPost dC dI LM ad km T9 A t) A) ([.ref (ad 0), .int p1, .int p2] : List Value).toArray s 0 0 A) (F0 m pc ls stk)) := ⟨_, rfl⟩
  have lb_88 : ∀ (T : gSt) (x1 : Int32) (x2 : Int32) (y0 : Int32), rj_Model_misfit_88 F nf T x1 x2 y0 = some (r0, rl0, T9) → G 88 [(0, .ref (ad 0)), (1, .int x1), (2, .int x2)] [.int y0] T := by
    intro T x1 x2 y0 hR; unfold rj_Model_misfit_88 at hR; rw [hG]; intro H locs hP hD hS ls hl
    refine lv_istore_n (lv' := [(3, .int y0), (0, .ref (ad 0)), (1, .int x1), (2, .int x2)]) hx hb d_Model_misfit_88 rfl hl (by decide) rfl (fun ls hl => ?_)
    refine lv_iload_n hx hb d_Model_misfit_89 rfl (lv_at hl 0 rfl) ?_
    refine lv_if_eq (tgt := 102) hx hb d_Model_misfit_90 (by decide) (fun c23 => ?_) (fun c23 => ?_)
    · replace hR := if_p c23 hR
      refine lv_iconst (v := 4) hx hb d_Model_misfit_102 (by decide) ?_
      obtain ⟨e1, -, e3⟩ := re_e hR
      subst e1; subst e3
      exact W.iret (v := (4 : Int32)) hx hb hr (fun t ht hW => ⟨⟨(4 : Int32), (), rfl, rfl, by rw [ht]; exact hP, va_K.moved hW.alike hK, hD⟩, hS.F ht⟩) hS.2.2 d_Model_misfit_103
    · replace hR := if_n c23 hR
      refine lv_aload_n hx hb d_Model_misfit_93 rfl (lv_at hl 1 rfl) ?_
      refine lv_iload_n hx hb d_Model_misfit_94 rfl (lv_at hl 2 rfl) ?_
      refine lv_iload_n hx hb d_Model_misfit_95 rfl (lv_at hl 3 rfl) ?_
      replace hR := bi_e hR
      obtain ⟨r25, l25, T25, hc25, hR⟩ := hR
      refine gcV_i (rest := []) ⟨hx, hb, hml, hown, hT⟩ (h_Model_sameCell _ _ _ _ _ _ hc25) (cwV 2 hT (gV ml_Model_596 im_Model_sameCell se_Model_sameCell ini_Model co_Model_sameCell) rfl rfl rfl pd_Model_sameCell ⟨rm_hi, rm_lo (Nat.le_of_ble_eq_true rfl)⟩) hK hP hD hS hA hnw henv (Nat.le_of_ble_eq_true rfl) rfl rfl hl.1 rfl (Nat.le_of_ble_eq_true rfl) d_Model_misfit_96 ⟨Nat.le_refl _, Nat.le_refl _⟩ (fun H locs hP hD hS => ?_)
      clear hc25
      refine lv_if_ne (tgt := 104) hx hb d_Model_misfit_99 (by decide) (fun c26 => ?_) (fun c26 => ?_)
      · replace hR := if_n c26 hR
        refine lv_aload_n hx hb d_Model_misfit_104 rfl (lv_at hl 1 rfl) ?_
        refine lv_aload_n hx hb d_Model_misfit_105 rfl (lv_at hl 1 rfl) ?_
        refine rd_Model_159 hx hb hT hown hK hP d_Model_misfit_106 ?_
        refine lv_iload_n hx hb d_Model_misfit_109 rfl (lv_at hl 2 rfl) ?_
        replace hR := gd_e hR
        obtain ⟨b27, hR⟩ := hR
        refine laM_48 hx hb hK hP b27 d_Model_misfit_110 ?_
        refine lv_aload_n hx hb d_Model_misfit_111 rfl (lv_at hl 1 rfl) ?_
        refine rd_Model_159 hx hb hT hown hK hP d_Model_misfit_112 ?_
        refine lv_iload_n hx hb d_Model_misfit_115 rfl (lv_at hl 3 rfl) ?_
        replace hR := gd_e hR
        obtain ⟨b28, hR⟩ := hR
        refine laM_48 hx hb hK hP b28 d_Model_misfit_116 ?_
        replace hR := bi_e hR
        obtain ⟨r29, l29, T29, hc29, hR⟩ := hR
        refine gcV_i (rest := []) ⟨hx, hb, hml, hown, hT⟩ (h_Model_doesOutlive _ _ _ _ _ _ hc29) (cwV 2 hT (gV ml_Model_600 im_Model_doesOutlive se_Model_doesOutlive ini_Model co_Model_doesOutlive) rfl rfl rfl pd_Model_doesOutlive ⟨rm_hi, rm_lo (Nat.le_of_ble_eq_true rfl)⟩) hK hP hD hS hA hnw henv (Nat.le_of_ble_eq_true rfl) rfl rfl hl.1 rfl (Nat.le_of_ble_eq_true rfl) d_Model_misfit_117 ⟨Nat.le_refl _, Nat.le_refl _⟩ (fun H locs hP hD hS => ?_)
        clear hc29
        refine lv_if_eq (tgt := 127) hx hb d_Model_misfit_120 (by decide) (fun c30 => ?_) (fun c30 => ?_)
        · replace hR := if_p c30 hR
          refine lv_iconst (v := 5) hx hb d_Model_misfit_127 (by decide) ?_
          obtain ⟨e1, -, e3⟩ := re_e hR
          subst e1; subst e3
          exact W.iret (v := (5 : Int32)) hx hb hr (fun t ht hW => ⟨⟨(5 : Int32), (), rfl, rfl, by rw [ht]; exact hP, va_K.moved hW.alike hK, hD⟩, hS.F ht⟩) hS.2.2 d_Model_misfit_128
        · replace hR := if_n c30 hR
          refine lv_iconst (v := 0) hx hb d_Model_misfit_123 (by decide) ?_
          refine lv_goto (tgt := 128) hx hb d_Model_misfit_124 (by decide) ?_
          obtain ⟨e1, -, e3⟩ := re_e hR
          subst e1; subst e3
          exact W.iret (v := (0 : Int32)) hx hb hr (fun t ht hW => ⟨⟨(0 : Int32), (), rfl, rfl, by rw [ht]; exact hP, va_K.moved hW.alike hK, hD⟩, hS.F ht⟩) hS.2.2 d_Model_misfit_128
      · replace hR := if_p c26 hR
        refine lv_iconst (v := 4) hx hb d_Model_misfit_102 (by decide) ?_
        obtain ⟨e1, -, e3⟩ := re_e hR
        subst e1; subst e3
        exact W.iret (v := (4 : Int32)) hx hb hr (fun t ht hW => ⟨⟨(4 : Int32), (), rfl, rfl, by rw [ht]; exact hP, va_K.moved hW.alike hK, hD⟩, hS.F ht⟩) hS.2.2 d_Model_misfit_103
  unfold rb_Model_misfit at hR
  refine lv_iload_n hx hb d_Model_misfit_0 rfl (lv_at hl 1 rfl) ?_
  refine lv_if_eq (tgt := 8) hx hb d_Model_misfit_1 (by decide) (fun c1 => ?_) (fun c1 => ?_)
  · replace hR := if_p c1 hR
    refine lv_iload_n hx hb d_Model_misfit_8 rfl (lv_at hl 1 rfl) ?_
    refine lv_iload_n hx hb d_Model_misfit_9 rfl (lv_at hl 2 rfl) ?_
    refine lv_icmp_ne (tgt := 17) hx hb d_Model_misfit_10 (by decide) (fun c2 => ?_) (fun c2 => ?_)
    · replace hR := if_n c2 hR
      refine lv_iconst (v := 4) hx hb d_Model_misfit_17 (by decide) ?_
      obtain ⟨e1, -, e3⟩ := re_e hR
      subst e1; subst e3
      exact W.iret (v := (4 : Int32)) hx hb hr (fun t ht hW => ⟨⟨(4 : Int32), (), rfl, rfl, by rw [ht]; exact hP, va_K.moved hW.alike hK, hD⟩, hS.F ht⟩) hS.2.2 d_Model_misfit_18
    · replace hR := if_p c2 hR
      refine lv_iconst (v := 0) hx hb d_Model_misfit_13 (by decide) ?_
      refine lv_goto (tgt := 18) hx hb d_Model_misfit_14 (by decide) ?_
      obtain ⟨e1, -, e3⟩ := re_e hR
      subst e1; subst e3
      exact W.iret (v := (0 : Int32)) hx hb hr (fun t ht hW => ⟨⟨(0 : Int32), (), rfl, rfl, by rw [ht]; exact hP, va_K.moved hW.alike hK, hD⟩, hS.F ht⟩) hS.2.2 d_Model_misfit_18
  · replace hR := if_n c1 hR
    refine lv_iload_n hx hb d_Model_misfit_4 rfl (lv_at hl 2 rfl) ?_
    refine lv_if_ne (tgt := 19) hx hb d_Model_misfit_5 (by decide) (fun c5 => ?_) (fun c5 => ?_)
    · replace hR := if_n c5 hR
      refine lv_iload_n hx hb d_Model_misfit_19 rfl (lv_at hl 1 rfl) ?_
      refine lv_bipush (v := (-2)) hx hb d_Model_misfit_20 (by decide) ?_
      refine lv_icmp_ne (tgt := 41) hx hb d_Model_misfit_22 (by decide) (fun c6 => ?_) (fun c6 => ?_)
      · replace hR := if_n c6 hR
        refine lv_iload_n hx hb d_Model_misfit_41 rfl (lv_at hl 1 rfl) ?_
        refine lv_iconst (v := (-1)) hx hb d_Model_misfit_42 (by decide) ?_
        refine lv_icmp_ne (tgt := 48) hx hb d_Model_misfit_43 (by decide) (fun c7 => ?_) (fun c7 => ?_)
        · replace hR := if_n c7 hR
          refine lv_aload_n hx hb d_Model_misfit_48 rfl (lv_at hl 0 rfl) ?_
          refine rd_Model_156 hx hb hT hown hK hP d_Model_misfit_49 ?_
          refine lv_iload_n hx hb d_Model_misfit_52 rfl (lv_at hl 1 rfl) ?_
          replace hR := gd_e hR
          obtain ⟨b8, hR⟩ := hR
          refine laM_47 hx hb hK hP b8 d_Model_misfit_53 ?_
          refine lv_aload_n hx hb d_Model_misfit_54 rfl (lv_at hl 0 rfl) ?_
          refine rd_Model_156 hx hb hT hown hK hP d_Model_misfit_55 ?_
          refine lv_iload_n hx hb d_Model_misfit_58 rfl (lv_at hl 2 rfl) ?_
          replace hR := gd_e hR
          obtain ⟨b9, hR⟩ := hR
          refine laM_47 hx hb hK hP b9 d_Model_misfit_59 ?_
          refine lv_icmp_eq (tgt := 83) hx hb d_Model_misfit_60 (by decide) (fun c10 => ?_) (fun c10 => ?_)
          · replace hR := if_p c10 hR
            refine lv_iconst (v := 1) hx hb d_Model_misfit_83 (by decide) ?_
            refine lv_goto (tgt := 88) hx hb d_Model_misfit_84 (by decide) ?_
            have g := lb_88 T0 p1 p2 (1 : Int32) hR
            rw [hG] at g
            exact g _ _ hP hD hS _ (lv_sub hl [0, 1, 2] rfl)
          · replace hR := if_n c10 hR
            refine lv_aload_n hx hb d_Model_misfit_63 rfl (lv_at hl 0 rfl) ?_
            refine rd_Model_156 hx hb hT hown hK hP d_Model_misfit_64 ?_
            refine lv_iload_n hx hb d_Model_misfit_67 rfl (lv_at hl 1 rfl) ?_
            replace hR := gd_e hR
            obtain ⟨b11, hR⟩ := hR
            refine laM_47 hx hb hK hP b11 d_Model_misfit_68 ?_
            refine lv_iconst (v := 1) hx hb d_Model_misfit_69 (by decide) ?_
            refine lv_icmp_ne (tgt := 87) hx hb d_Model_misfit_70 (by decide) (fun c12 => ?_) (fun c12 => ?_)
            · replace hR := if_n c12 hR
              refine lv_iconst (v := 0) hx hb d_Model_misfit_87 (by decide) ?_
              have g := lb_88 T0 p1 p2 (0 : Int32) hR
              rw [hG] at g
              exact g _ _ hP hD hS _ (lv_sub hl [0, 1, 2] rfl)
            · replace hR := if_p c12 hR
              refine lv_aload_n hx hb d_Model_misfit_73 rfl (lv_at hl 0 rfl) ?_
              refine rd_Model_156 hx hb hT hown hK hP d_Model_misfit_74 ?_
              refine lv_iload_n hx hb d_Model_misfit_77 rfl (lv_at hl 2 rfl) ?_
              replace hR := gd_e hR
              obtain ⟨b13, hR⟩ := hR
              refine laM_47 hx hb hK hP b13 d_Model_misfit_78 ?_
              refine lv_iconst (v := 2) hx hb d_Model_misfit_79 (by decide) ?_
              refine lv_icmp_ne (tgt := 87) hx hb d_Model_misfit_80 (by decide) (fun c14 => ?_) (fun c14 => ?_)
              · replace hR := if_n c14 hR
                refine lv_iconst (v := 0) hx hb d_Model_misfit_87 (by decide) ?_
                have g := lb_88 T0 p1 p2 (0 : Int32) hR
                rw [hG] at g
                exact g _ _ hP hD hS _ (lv_sub hl [0, 1, 2] rfl)
              · replace hR := if_p c14 hR
                refine lv_iconst (v := 1) hx hb d_Model_misfit_83 (by decide) ?_
                refine lv_goto (tgt := 88) hx hb d_Model_misfit_84 (by decide) ?_
                have g := lb_88 T0 p1 p2 (1 : Int32) hR
                rw [hG] at g
                exact g _ _ hP hD hS _ (lv_sub hl [0, 1, 2] rfl)
        · replace hR := if_p c7 hR
          refine lv_iconst (v := 4) hx hb d_Model_misfit_46 (by decide) ?_
          obtain ⟨e1, -, e3⟩ := re_e hR
          subst e1; subst e3
          exact W.iret (v := (4 : Int32)) hx hb hr (fun t ht hW => ⟨⟨(4 : Int32), (), rfl, rfl, by rw [ht]; exact hP, va_K.moved hW.alike hK, hD⟩, hS.F ht⟩) hS.2.2 d_Model_misfit_47
      · replace hR := if_p c6 hR
        refine lv_aload_n hx hb d_Model_misfit_25 rfl (lv_at hl 0 rfl) ?_
        refine rd_Model_156 hx hb hT hown hK hP d_Model_misfit_26 ?_
        refine lv_iload_n hx hb d_Model_misfit_29 rfl (lv_at hl 2 rfl) ?_
        replace hR := gd_e hR
        obtain ⟨b16, hR⟩ := hR
        refine laM_47 hx hb hK hP b16 d_Model_misfit_30 ?_
        refine lv_iconst (v := 2) hx hb d_Model_misfit_31 (by decide) ?_
        refine lv_icmp_ne (tgt := 39) hx hb d_Model_misfit_32 (by decide) (fun c17 => ?_) (fun c17 => ?_)
        · replace hR := if_n c17 hR
          refine lv_iconst (v := 4) hx hb d_Model_misfit_39 (by decide) ?_
          obtain ⟨e1, -, e3⟩ := re_e hR
          subst e1; subst e3
          exact W.iret (v := (4 : Int32)) hx hb hr (fun t ht hW => ⟨⟨(4 : Int32), (), rfl, rfl, by rw [ht]; exact hP, va_K.moved hW.alike hK, hD⟩, hS.F ht⟩) hS.2.2 d_Model_misfit_40
        · replace hR := if_p c17 hR
          refine lv_iconst (v := 0) hx hb d_Model_misfit_35 (by decide) ?_
          refine lv_goto (tgt := 40) hx hb d_Model_misfit_36 (by decide) ?_
          obtain ⟨e1, -, e3⟩ := re_e hR
          subst e1; subst e3
          exact W.iret (v := (0 : Int32)) hx hb hr (fun t ht hW => ⟨⟨(0 : Int32), (), rfl, rfl, by rw [ht]; exact hP, va_K.moved hW.alike hK, hD⟩, hS.F ht⟩) hS.2.2 d_Model_misfit_40
    · replace hR := if_p c5 hR
      refine lv_iload_n hx hb d_Model_misfit_8 rfl (lv_at hl 1 rfl) ?_
      refine lv_iload_n hx hb d_Model_misfit_9 rfl (lv_at hl 2 rfl) ?_
      refine lv_icmp_ne (tgt := 17) hx hb d_Model_misfit_10 (by decide) (fun c20 => ?_) (fun c20 => ?_)
      · replace hR := if_n c20 hR
        refine lv_iconst (v := 4) hx hb d_Model_misfit_17 (by decide) ?_
        obtain ⟨e1, -, e3⟩ := re_e hR
        subst e1; subst e3
        exact W.iret (v := (4 : Int32)) hx hb hr (fun t ht hW => ⟨⟨(4 : Int32), (), rfl, rfl, by rw [ht]; exact hP, va_K.moved hW.alike hK, hD⟩, hS.F ht⟩) hS.2.2 d_Model_misfit_18
      · replace hR := if_p c20 hR
        refine lv_iconst (v := 0) hx hb d_Model_misfit_13 (by decide) ?_
        refine lv_goto (tgt := 18) hx hb d_Model_misfit_14 (by decide) ?_
        obtain ⟨e1, -, e3⟩ := re_e hR
        subst e1; subst e3
        exact W.iret (v := (0 : Int32)) hx hb hr (fun t ht hW => ⟨⟨(0 : Int32), (), rfl, rfl, by rw [ht]; exact hP, va_K.moved hW.alike hK, hD⟩, hS.F ht⟩) hS.2.2 d_Model_misfit_18
set_option maxHeartbeats 4000000 in
set_option maxRecDepth 100000 in
theorem sp_Model_fit (l : Launch) (dC : Nat → ClassId) (dI : Nat → Nat → Nat) (ea ev ad : Nat → Nat) (km : Nat → ClassId) (F : gF) (nf d : Nat) (h_Model_bad : mt_Model_bad l dC dI ea ev ad km F d) (h_Model_misfit : mt_Model_misfit l dC dI ea ev ad km F d) (h_Model_fail : mt_Model_fail l dC dI ea ev ad km F d) (T0 : gSt) (p1 : Int32) (p2 : Int32) (p3 : Int32) (r0 : Int32) (rl0 : Int64) (T9 : gSt) (hR : rb_Model_fit F nf T0 p1 p2 p3 = some (r0, rl0, T9)) : GMv l dC dI LM ad km ea ev y_Model_fit w_Model_fit (rmD (d + 1)) [.ref (ad 0), .int p1, .int p2, .int p3] T0 T9 := by
  intro sz
  refine Met.ofW (cc := b_Model_fit) (maxL := 5) (ret := none) (by decide) rfl ?_
  intro p e s m args below meth c s₁ B hml hv
  obtain ⟨rfl, hsz, hP, hK, hD0, hnw, henv⟩ := hv
  have hx := B.exec
  have hb := B.bytes
  have hr := B.returns
  have hT : ∀ w ∈ lw_good, w.before _ s = true := fun w h => atoms_spec (ws := w_Model_fit) B.pre w (List.mem_cons_of_mem _ h)
  have hown : s.vm.findClass R_Model = some m.cls := findClass_of_methodNamed B.named
  subst hsz
  have hD := hD0.self (sz := s.heap.size)
  clear hD0
  generalize hAe : va_A (gW LM ad km T0) s.heap.size = A at hD henv ⊢
  have hA : ∀ q : Nat, s.heap.size ≤ q → A q := fun q h => by rw [← hAe]; exact Or.inr h
  have hS : va_S A s.heap s.heap [] := va_S.rf
  have hl := lv_entry ([.ref (ad 0), .int p1, .int p2, .int p3]) (n := 5) (Nat.le_of_ble_eq_true rfl)
  rw [lg_entry_eq]
  generalize (lg_sl ([.ref (ad 0), .int p1, .int p2, .int p3]) ++ List.replicate (5 - (lg_sl ([.ref (ad 0), .int p1, .int p2, .int p3])).length) Slot.unset).toArray = ls at hl ⊢
  have hl : lv_has ls 5 [(0, .ref (ad 0)), (1, .int p1), (2, .int p2), (3, .int p3)] := hl
  unfold rb_Model_fit at hR
  refine lv_aload_n hx hb d_Model_fit_0 rfl (lv_at hl 0 rfl) ?_
  replace hR := bi_e hR
  obtain ⟨r1, l1, T1, hc1, hR⟩ := hR
  refine gcV_i (rest := []) ⟨hx, hb, hml, hown, hT⟩ (h_Model_bad _ _ _ _ hc1) (cwV 0 hT (gV ml_Model_385 im_Model_bad se_Model_bad ini_Model co_Model_bad) rfl rfl rfl pd_Model_bad ⟨rm_hi, rm_lo (Nat.le_of_ble_eq_true rfl)⟩) hK hP hD hS hA hnw henv (Nat.le_of_ble_eq_true rfl) rfl rfl hl.1 rfl (Nat.le_of_ble_eq_true rfl) d_Model_fit_1 ⟨Nat.le_refl _, Nat.le_refl _⟩ (fun H locs hP hD hS => ?_)
  clear hc1
  refine lv_if_eq (tgt := 11) hx hb d_Model_fit_4 (by decide) (fun c2 => ?_) (fun c2 => ?_)
  · replace hR := if_p c2 hR
    refine lv_aload_n hx hb d_Model_fit_11 rfl (lv_at hl 0 rfl) ?_
    refine lv_iload_n hx hb d_Model_fit_12 rfl (lv_at hl 1 rfl) ?_
    refine lv_iload_n hx hb d_Model_fit_13 rfl (lv_at hl 2 rfl) ?_
    replace hR := bi_e hR
    obtain ⟨r3, l3, T3, hc3, hR⟩ := hR
    refine gcV_i (rest := []) ⟨hx, hb, hml, hown, hT⟩ (h_Model_misfit _ _ _ _ _ _ hc3) (cwV 2 hT (gV ml_Model_603 im_Model_misfit se_Model_misfit ini_Model co_Model_misfit) rfl rfl rfl pd_Model_misfit ⟨rm_hi, rm_lo (Nat.le_of_ble_eq_true rfl)⟩) hK hP hD hS hA hnw henv (Nat.le_of_ble_eq_true rfl) rfl rfl hl.1 rfl (Nat.le_of_ble_eq_true rfl) d_Model_fit_14 ⟨Nat.le_refl _, Nat.le_refl _⟩ (fun H locs hP hD hS => ?_)
    clear hc3
    refine lv_istore (lv' := [(4, .int r3), (0, .ref (ad 0)), (1, .int p1), (2, .int p2), (3, .int p3)]) hx hb d_Model_fit_17 hl (by decide) rfl (fun ls hl => ?_)
    refine lv_iload hx hb d_Model_fit_19 (lv_at hl 0 rfl) ?_
    refine lv_if_le (tgt := 31) hx hb d_Model_fit_21 (by decide) (fun c4 => ?_) (fun c4 => ?_)
    · replace hR := if_p c4 hR
      obtain ⟨-, -, e3⟩ := re_e hR
      subst e3
      exact W.vret hx hb hr (fun t ht hW => ⟨⟨(), rfl, trivial, by rw [ht]; exact hP, va_K.moved hW.alike hK, hD⟩, hS.F ht⟩) hS.2.2 d_Model_fit_31
    · replace hR := if_n c4 hR
      refine lv_aload_n hx hb d_Model_fit_24 rfl (lv_at hl 1 rfl) ?_
      refine lv_iload hx hb d_Model_fit_25 (lv_at hl 0 rfl) ?_
      refine lv_iload_n hx hb d_Model_fit_27 rfl (lv_at hl 4 rfl) ?_
      replace hR := bi_e hR
      obtain ⟨r5, l5, T5, hc5, hR⟩ := hR
      refine gcV_v (rest := []) ⟨hx, hb, hml, hown, hT⟩ (h_Model_fail _ _ _ _ _ _ hc5) (cwV 2 hT (gV ml_Model_381 im_Model_fail se_Model_fail ini_Model co_Model_fail) rfl rfl rfl pd_Model_fail ⟨rm_hi, rm_lo (Nat.le_of_ble_eq_true rfl)⟩) hK hP hD hS hA hnw henv (Nat.le_of_ble_eq_true rfl) rfl rfl hl.1 rfl (Nat.le_of_ble_eq_true rfl) d_Model_fit_28 ⟨Nat.le_refl _, Nat.le_refl _⟩ (fun H locs hP hD hS => ?_)
      clear hc5
      obtain ⟨-, -, e3⟩ := re_e hR
      subst e3
      exact W.vret hx hb hr (fun t ht hW => ⟨⟨(), rfl, trivial, by rw [ht]; exact hP, va_K.moved hW.alike hK, hD⟩, hS.F ht⟩) hS.2.2 d_Model_fit_31
  · replace hR := if_n c2 hR
    refine lv_iconst (v := 0) hx hb d_Model_fit_7 (by decide) ?_
    refine lv_goto (tgt := 17) hx hb d_Model_fit_8 (by decide) ?_
    refine lv_istore (lv' := [(4, .int (0 : Int32)), (0, .ref (ad 0)), (1, .int p1), (2, .int p2), (3, .int p3)]) hx hb d_Model_fit_17 hl (by decide) rfl (fun ls hl => ?_)
    refine lv_iload hx hb d_Model_fit_19 (lv_at hl 0 rfl) ?_
    refine lv_if_le (tgt := 31) hx hb d_Model_fit_21 (by decide) (fun _ => ?_) (fun c6 => absurd (by decide) c6)
    obtain ⟨-, -, e3⟩ := re_e hR
    subst e3
    exact W.vret hx hb hr (fun t ht hW => ⟨⟨(), rfl, trivial, by rw [ht]; exact hP, va_K.moved hW.alike hK, hD⟩, hS.F ht⟩) hS.2.2 d_Model_fit_31
set_option maxHeartbeats 4000000 in
set_option maxRecDepth 100000 in
theorem sp_Model_seeRegions (l : Launch) (dC : Nat → ClassId) (dI : Nat → Nat → Nat) (ea ev ad : Nat → Nat) (km : Nat → ClassId) (F : gF) (nf d : Nat) (T0 : gSt) (p1 : Int32) (r0 : Int32) (rl0 : Int64) (T9 : gSt) (hR : rb_Model_seeRegions F nf T0 p1 = some (r0, rl0, T9)) : GMv l dC dI LM ad km ea ev y_Model_seeRegions w_Model_seeRegions (rmD (d + 1)) [.ref (ad 0), .int p1] T0 T9 := by
  intro sz
  refine Met.ofW (cc := b_Model_seeRegions) (maxL := 3) (ret := none) (by decide) rfl ?_
  intro p e s m args below meth c s₁ B hml hv
  obtain ⟨rfl, hsz, hP, hK, hD0, hnw, henv⟩ := hv
  have hx := B.exec
  have hb := B.bytes
  have hr := B.returns
  have hT : ∀ w ∈ lw_good, w.before _ s = true := fun w h => atoms_spec (ws := w_Model_seeRegions) B.pre w (List.mem_cons_of_mem _ h)
  have hown : s.vm.findClass R_Model = some m.cls := findClass_of_methodNamed B.named
  subst hsz
  have hD := hD0.self (sz := s.heap.size)
  clear hD0
  generalize hAe : va_A (gW LM ad km T0) s.heap.size = A at hD henv ⊢
  have hA : ∀ q : Nat, s.heap.size ≤ q → A q := fun q h => by rw [← hAe]; exact Or.inr h
  have hS : va_S A s.heap s.heap [] := va_S.rf
  have hl := lv_entry ([.ref (ad 0), .int p1]) (n := 3) (Nat.le_of_ble_eq_true rfl)
  rw [lg_entry_eq]
  generalize (lg_sl ([.ref (ad 0), .int p1]) ++ List.replicate (3 - (lg_sl ([.ref (ad 0), .int p1])).length) Slot.unset).toArray = ls at hl ⊢
  have hl : lv_has ls 3 [(0, .ref (ad 0)), (1, .int p1)] := hl
  obtain ⟨G, hG⟩ : ∃ G : Nat → List (Nat × Value) → List Value → gSt → Prop, G = (fun pc lv stk T => ∀ (H : Heap) (locs : List Loc), va_P (dC, dI) cls_all (gW LM ad km T) H → va_D A (gW LM ad km T) → va_S A s.heap H locs → ∀ (ls : Array Slot), lv_has ls 3 lv → W p l e (headSpec w_Model_seeRegions (rmD (d + 1))).room s m ([.ref (ad 0), .int p1] : List Value).toArray below meth c H locs 0 0 (MQ below (va_Qv (fun (_ : Unit) => True) (fun _ t => gPost dC dI LM ad km T9 A t) A) ([.ref (ad 0), .int p1] : List Value).toArray s 0 0 A) (F0 m pc ls stk)) := ⟨_, rfl⟩
  have lb_7 : ∀ (n : Nat) (T : gSt) (x1 : Int32) (x2 : Int32), rl_Model_seeRegions_7 F nf n T x1 x2 = some (r0, rl0, T9) → G 7 [(0, .ref (ad 0)), (1, .int x1), (2, .int x2)] [] T := by
    intro n
    induction n with
    | zero => intro T x1 x2 hR; rw [rl_Model_seeRegions_7] at hR; cases hR
    | succ n ih =>
      intro T x1 x2 hR; rw [rl_Model_seeRegions_7] at hR; rw [hG]; intro H locs hP hD hS ls hl
      refine lv_iload_n hx hb d_Model_seeRegions_7 rfl (lv_at hl 2 rfl) ?_
      refine lv_aload_n hx hb d_Model_seeRegions_8 rfl (lv_at hl 0 rfl) ?_
      refine rd_Model_27 hx hb hT hown hK hP d_Model_seeRegions_9 ?_
      refine lv_iload_n hx hb d_Model_seeRegions_12 rfl (lv_at hl 1 rfl) ?_
      replace hR := gd_e hR
      obtain ⟨b2, hR⟩ := hR
      refine laM_4 hx hb hK hP b2 d_Model_seeRegions_13 ?_
      refine lv_icmp_ge (tgt := 64) hx hb d_Model_seeRegions_14 (by decide) (fun c3 => ?_) (fun c3 => ?_)
      · replace hR := if_p c3 hR
        obtain ⟨-, -, e3⟩ := re_e hR
        subst e3
        exact W.vret hx hb hr (fun t ht hW => ⟨⟨(), rfl, trivial, by rw [ht]; exact hP, va_K.moved hW.alike hK, hD⟩, hS.F ht⟩) hS.2.2 d_Model_seeRegions_64
      · replace hR := if_n c3 hR
        refine lv_aload_n hx hb d_Model_seeRegions_17 rfl (lv_at hl 0 rfl) ?_
        refine rd_Model_171 hx hb hT hown hK hP d_Model_seeRegions_18 ?_
        refine lv_aload_n hx hb d_Model_seeRegions_21 rfl (lv_at hl 0 rfl) ?_
        refine rd_Model_568 hx hb hT hown hK hP d_Model_seeRegions_22 ?_
        refine lv_aload_n hx hb d_Model_seeRegions_25 rfl (lv_at hl 0 rfl) ?_
        refine rd_Model_30 hx hb hT hown hK hP d_Model_seeRegions_26 ?_
        refine lv_iconst (v := 3) hx hb d_Model_seeRegions_29 (by decide) ?_
        refine lv_iload_n hx hb d_Model_seeRegions_30 rfl (lv_at hl 1 rfl) ?_
        refine lv_imul hx hb d_Model_seeRegions_31 ?_
        refine lv_iload_n hx hb d_Model_seeRegions_32 rfl (lv_at hl 2 rfl) ?_
        refine lv_iadd hx hb d_Model_seeRegions_33 ?_
        replace hR := gd_e hR
        obtain ⟨b4, hR⟩ := hR
        refine laM_5 hx hb hK hP b4 d_Model_seeRegions_34 ?_
        replace hR := gd_e hR
        obtain ⟨b5, hR⟩ := hR
        refine saM_52 hx hb hK hP hD hS b5 d_Model_seeRegions_35 (fun T5 eT H locs hP hD hS => ?_)
        replace hR := stK_e eT hR
        clear eT
        refine lv_aload_n hx hb d_Model_seeRegions_36 rfl (lv_at hl 0 rfl) ?_
        refine rd_Model_174 hx hb hT hown hK hP d_Model_seeRegions_37 ?_
        refine lv_aload_n hx hb d_Model_seeRegions_40 rfl (lv_at hl 0 rfl) ?_
        refine rd_Model_568 hx hb hT hown hK hP d_Model_seeRegions_41 ?_
        refine lv_iload_n hx hb d_Model_seeRegions_44 rfl (lv_at hl 2 rfl) ?_
        refine lv_iconst (v := 1) hx hb d_Model_seeRegions_45 (by decide) ?_
        refine lv_iadd hx hb d_Model_seeRegions_46 ?_
        replace hR := gd_e hR
        obtain ⟨b6, hR⟩ := hR
        refine saM_53 hx hb hK hP hD hS b6 d_Model_seeRegions_47 (fun T6 eT H locs hP hD hS => ?_)
        replace hR := stK_e eT hR
        clear eT
        refine lv_aload_n hx hb d_Model_seeRegions_48 rfl (lv_at hl 0 rfl) ?_
        refine lv_dup hx hb d_Model_seeRegions_49 rfl ?_
        refine rd_Model_568 hx hb hT hown hK hP d_Model_seeRegions_50 ?_
        refine lv_iconst (v := 1) hx hb d_Model_seeRegions_53 (by decide) ?_
        refine lv_iadd hx hb d_Model_seeRegions_54 ?_
        refine wr_Model_568 hx hb hT hown hK hP hD hS d_Model_seeRegions_55 (fun T7 eT H locs hP hD hS => ?_)
        replace hR := stK_e eT hR
        clear eT
        obtain ⟨z8, e8⟩ : ∃ y : Int32, y = x2 + (1 : Int32) := ⟨_, rfl⟩
        replace hR := vK_e e8 hR
        refine lv_iinc (v := z8) (lv' := [(2, .int z8), (0, .ref (ad 0)), (1, .int x1)]) hx hb d_Model_seeRegions_58 hl (k := 2) rfl (by rw [e8]; rfl) (by decide) rfl (fun ls hl => ?_)
        refine lv_goto (tgt := 7) hx hb d_Model_seeRegions_61 (by decide) ?_
        have g := ih T7 x1 z8 hR
        rw [hG] at g
        exact g _ _ hP hD hS _ (lv_sub hl [1, 2, 0] rfl)
  unfold rb_Model_seeRegions at hR
  refine lv_aload_n hx hb d_Model_seeRegions_0 rfl (lv_at hl 0 rfl) ?_
  refine lv_iconst (v := 0) hx hb d_Model_seeRegions_1 (by decide) ?_
  refine wr_Model_568 hx hb hT hown hK hP hD hS d_Model_seeRegions_2 (fun T1 eT H locs hP hD hS => ?_)
  replace hR := stK_e eT hR
  clear eT
  refine lv_iconst (v := 0) hx hb d_Model_seeRegions_5 (by decide) ?_
  refine lv_istore_n (lv' := [(2, .int (0 : Int32)), (0, .ref (ad 0)), (1, .int p1)]) hx hb d_Model_seeRegions_6 rfl hl (by decide) rfl (fun ls hl => ?_)
  have g := lb_7 nf T1 p1 (0 : Int32) hR
  rw [hG] at g
  exact g _ _ hP hD hS _ (lv_sub hl [1, 2, 0] rfl)
set_option maxHeartbeats 4000000 in
set_option maxRecDepth 100000 in
theorem sp_Model_regionOfItem (l : Launch) (dC : Nat → ClassId) (dI : Nat → Nat → Nat) (ea ev ad : Nat → Nat) (km : Nat → ClassId) (F : gF) (nf d : Nat) (T0 : gSt) (p1 : Int32) (p2 : Int64) (r0 : Int32) (rl0 : Int64) (T9 : gSt) (hR : rb_Model_regionOfItem F nf T0 p1 p2 = some (r0, rl0, T9)) : GMi l dC dI LM ad km ea ev y_Model_regionOfItem w_Model_regionOfItem (rmD (d + 1)) [.ref (ad 0), .int p1, .long p2] T0 r0 T9 := by
  intro sz
  refine Met.ofW (cc := b_Model_regionOfItem) (maxL := 5) (ret := (some .int)) (by decide) rfl ?_
  intro p e s m args below meth c s₁ B hml hv
  obtain ⟨rfl, hsz, hP, hK, hD0, hnw, henv⟩ := hv
  have hx := B.exec
  have hb := B.bytes
  have hr := B.returns
  have hT : ∀ w ∈ lw_good, w.before _ s = true := fun w h => atoms_spec (ws := w_Model_regionOfItem) B.pre w (List.mem_cons_of_mem _ h)
  have hown : s.vm.findClass R_Model = some m.cls := findClass_of_methodNamed B.named
  subst hsz
  have hD := hD0.self (sz := s.heap.size)
  clear hD0
  generalize hAe : va_A (gW LM ad km T0) s.heap.size = A at hD henv ⊢
  have hA : ∀ q : Nat, s.heap.size ≤ q → A q := fun q h => by rw [← hAe]; exact Or.inr h
  have hS : va_S A s.heap s.heap [] := va_S.rf
  have hl := lv_entry ([.ref (ad 0), .int p1, .long p2]) (n := 5) (Nat.le_of_ble_eq_true rfl)
  rw [lg_entry_eq]
  generalize (lg_sl ([.ref (ad 0), .int p1, .long p2]) ++ List.replicate (5 - (lg_sl ([.ref (ad 0), .int p1, .long p2])).length) Slot.unset).toArray = ls at hl ⊢
  have hl : lv_has ls 5 [(0, .ref (ad 0)), (1, .int p1), (2, .long p2)] := hl
  obtain ⟨G, hG⟩ : ∃ G : Nat → List (Nat × Value) → List Value → gSt → Prop, G = (fun pc lv stk T => ∀ (H : Heap) (locs : List Loc), va_P (dC, dI) cls_all (gW LM ad km T) H → va_D A (gW LM ad km T) → va_S A s.heap H locs → ∀ (ls : Array Slot), lv_has ls 5 lv → W p l e (headSpec w_Model_regionOfItem (rmD (d + 1))).room s m ([.ref (ad 0), .int p1, .long p2] : List Value).toArray below meth c H locs 0 0 (MQ below (va_Qi (fun (z : Int32) (_ : Unit) => z = r0) (fun _ t => gPost dC dI LM ad km T9 A t) A) ([.ref (ad 0), .int p1, .long p2] : List Value).toArray s 0 0 A) (F0 m pc ls stk)) := ⟨_, rfl⟩
  have lb_3 : ∀ (n : Nat) (T : gSt) (x1 : Int32) (x2 : Int64) (x4 : Int32), rl_Model_regionOfItem_3 F nf n T x1 x2 x4 = some (r0, rl0, T9) → G 3 [(0, .ref (ad 0)), (1, .int x1), (2, .long x2), (4, .int x4)] [] T := by
    intro n
    induction n with
    | zero => intro T x1 x2 x4 hR; rw [rl_Model_regionOfItem_3] at hR; cases hR
    | succ n ih =>
      intro T x1 x2 x4 hR; rw [rl_Model_regionOfItem_3] at hR; rw [hG]; intro H locs hP hD hS ls hl
      refine lv_iload hx hb d_Model_regionOfItem_3 (lv_at hl 3 rfl) ?_
      refine lv_aload_n hx hb d_Model_regionOfItem_5 rfl (lv_at hl 0 rfl) ?_
      refine rd_Model_27 hx hb hT hown hK hP d_Model_regionOfItem_6 ?_
      refine lv_iload_n hx hb d_Model_regionOfItem_9 rfl (lv_at hl 1 rfl) ?_
      replace hR := gd_e hR
      obtain ⟨b1, hR⟩ := hR
      refine laM_4 hx hb hK hP b1 d_Model_regionOfItem_10 ?_
      refine lv_icmp_ge (tgt := 41) hx hb d_Model_regionOfItem_11 (by decide) (fun c2 => ?_) (fun c2 => ?_)
      · replace hR := if_p c2 hR
        refine lv_iconst (v := (-1)) hx hb d_Model_regionOfItem_41 (by decide) ?_
        obtain ⟨e1, -, e3⟩ := re_e hR
        subst e1; subst e3
        exact W.iret (v := (-1 : Int32)) hx hb hr (fun t ht hW => ⟨⟨(-1 : Int32), (), rfl, rfl, by rw [ht]; exact hP, va_K.moved hW.alike hK, hD⟩, hS.F ht⟩) hS.2.2 d_Model_regionOfItem_42
      · replace hR := if_n c2 hR
        refine lv_aload_n hx hb d_Model_regionOfItem_14 rfl (lv_at hl 0 rfl) ?_
        refine rd_Model_30 hx hb hT hown hK hP d_Model_regionOfItem_15 ?_
        refine lv_iconst (v := 3) hx hb d_Model_regionOfItem_18 (by decide) ?_
        refine lv_iload_n hx hb d_Model_regionOfItem_19 rfl (lv_at hl 1 rfl) ?_
        refine lv_imul hx hb d_Model_regionOfItem_20 ?_
        refine lv_iload hx hb d_Model_regionOfItem_21 (lv_at hl 3 rfl) ?_
        refine lv_iadd hx hb d_Model_regionOfItem_23 ?_
        replace hR := gd_e hR
        obtain ⟨b4, hR⟩ := hR
        refine laM_5 hx hb hK hP b4 d_Model_regionOfItem_24 ?_
        refine lv_lload_n hx hb d_Model_regionOfItem_25 rfl (lv_at hl 2 rfl) ?_
        refine W.lcmp hx hb d_Model_regionOfItem_26 ?_
        refine lv_if_ne (tgt := 35) hx hb d_Model_regionOfItem_27 (by decide) (fun c5 => ?_) (fun c5 => ?_)
        · replace hR := if_n c5 hR
          obtain ⟨z6, e6⟩ : ∃ y : Int32, y = x4 + (1 : Int32) := ⟨_, rfl⟩
          replace hR := vK_e e6 hR
          refine lv_iinc (v := z6) (lv' := [(4, .int z6), (0, .ref (ad 0)), (1, .int x1), (2, .long x2)]) hx hb d_Model_regionOfItem_35 hl (k := 3) rfl (by rw [e6]; rfl) (by decide) rfl (fun ls hl => ?_)
          refine lv_goto (tgt := 3) hx hb d_Model_regionOfItem_38 (by decide) ?_
          have g := ih T x1 x2 z6 hR
          rw [hG] at g
          exact g _ _ hP hD hS _ (lv_sub hl [1, 2, 3, 0] rfl)
        · replace hR := if_p c5 hR
          refine lv_iload hx hb d_Model_regionOfItem_30 (lv_at hl 3 rfl) ?_
          refine lv_iconst (v := 1) hx hb d_Model_regionOfItem_32 (by decide) ?_
          refine lv_iadd hx hb d_Model_regionOfItem_33 ?_
          obtain ⟨e1, -, e3⟩ := re_e hR
          subst e1; subst e3
          exact W.iret (v := x4 + (1 : Int32)) hx hb hr (fun t ht hW => ⟨⟨x4 + (1 : Int32), (), rfl, rfl, by rw [ht]; exact hP, va_K.moved hW.alike hK, hD⟩, hS.F ht⟩) hS.2.2 d_Model_regionOfItem_34
  unfold rb_Model_regionOfItem at hR
  refine lv_iconst (v := 0) hx hb d_Model_regionOfItem_0 (by decide) ?_
  refine lv_istore (lv' := [(4, .int (0 : Int32)), (0, .ref (ad 0)), (1, .int p1), (2, .long p2)]) hx hb d_Model_regionOfItem_1 hl (by decide) rfl (fun ls hl => ?_)
  have g := lb_3 nf T0 p1 p2 (0 : Int32) hR
  rw [hG] at g
  exact g _ _ hP hD hS _ (lv_sub hl [1, 2, 3, 0] rfl)
set_option maxHeartbeats 4000000 in
set_option maxRecDepth 100000 in
theorem sp_Model_checkHead (l : Launch) (dC : Nat → ClassId) (dI : Nat → Nat → Nat) (ea ev ad : Nat → Nat) (km : Nat → ClassId) (F : gF) (nf d : Nat) (h_Model_findTitle : mt_Model_findTitle l dC dI ea ev ad km F d) (h_Model_findFun : mt_Model_findFun l dC dI ea ev ad km F d) (h_Model_fail : mt_Model_fail l dC dI ea ev ad km F d) (h_Model_seeRegions : mt_Model_seeRegions l dC dI ea ev ad km F d) (h_Model_bad : mt_Model_bad l dC dI ea ev ad km F d) (h_Model_findField : mt_Model_findField l dC dI ea ev ad km F d) (h_Model_meaning : mt_Model_meaning l dC dI ea ev ad km F d) (h_Model_regionOfItem : mt_Model_regionOfItem l dC dI ea ev ad km F d) (T0 : gSt) (p1 : Int32) (r0 : Int32) (rl0 : Int64) (T9 : gSt) (hR : rb_Model_checkHead F nf T0 p1 = some (r0, rl0, T9)) : GMv l dC dI LM ad km ea ev y_Model_checkHead w_Model_checkHead (rmD (d + 1)) [.ref (ad 0), .int p1] T0 T9 := by
  intro sz
  refine Met.ofW (cc := b_Model_checkHead) (maxL := 6) (ret := none) (by decide) rfl ?_
  intro p e s m args below meth c s₁ B hml hv
  obtain ⟨rfl, hsz, hP, hK, hD0, hnw, henv⟩ := hv
  have hx := B.exec
  have hb := B.bytes
  have hr := B.returns
  have hT : ∀ w ∈ lw_good, w.before _ s = true := fun w h => atoms_spec (ws := w_Model_checkHead) B.pre w (List.mem_cons_of_mem _ h)
  have hown : s.vm.findClass R_Model = some m.cls := findClass_of_methodNamed B.named
  subst hsz
  have hD := hD0.self (sz := s.heap.size)
  clear hD0
  generalize hAe : va_A (gW LM ad km T0) s.heap.size = A at hD henv ⊢
  have hA : ∀ q : Nat, s.heap.size ≤ q → A q := fun q h => by rw [← hAe]; exact Or.inr h
  have hS : va_S A s.heap s.heap [] := va_S.rf
  have hl := lv_entry ([.ref (ad 0), .int p1]) (n := 6) (Nat.le_of_ble_eq_true rfl)
  rw [lg_entry_eq]
  generalize (lg_sl ([.ref (ad 0), .int p1]) ++ List.replicate (6 - (lg_sl ([.ref (ad 0), .int p1])).length) Slot.unset).toArray = ls at hl ⊢
  have hl : lv_has ls 6 [(0, .ref (ad 0)), (1, .int p1)] := hl
  obtain ⟨G, hG⟩ : ∃ G : Nat → List (Nat × Value) → List Value → gSt → Prop, G = (fun pc lv stk T => ∀ (H : Heap) (locs : List Loc), va_P (dC, dI) cls_all (gW LM ad km T) H → va_D A (gW LM ad km T) → va_S A s.heap H locs → ∀ (ls : Array Slot), lv_has ls 6 lv → W p l e (headSpec w_Model_checkHead (rmD (d + 1))).room s m ([.ref (ad 0), .int p1] : List Value).toArray below meth c H locs 0 0 (MQ below (va_Qv (fun (_ : Unit) => True) (fun _ t => gPost dC dI LM ad km T9 A t) A) ([.ref (ad 0), .int p1] : List Value).toArray s 0 0 A) (F0 m pc ls stk)) := ⟨_, rfl⟩
  have lb_417 : ∀ (n : Nat) (T : gSt) (x1 : Int32) (x3 : Int32), rl_Model_checkHead_417 F nf n T x1 x3 = some (r0, rl0, T9) → G 417 [(0, .ref (ad 0)), (1, .int x1), (3, .int x3)] [] T := by
    intro n
    induction n with
    | zero => intro T x1 x3 hR; rw [rl_Model_checkHead_417] at hR; cases hR
    | succ n ih =>
      intro T x1 x3 hR; rw [rl_Model_checkHead_417] at hR; rw [hG]; intro H locs hP hD hS ls hl
      refine lv_iload_n hx hb d_Model_checkHead_417 rfl (lv_at hl 2 rfl) ?_
      refine lv_iconst (v := 2) hx hb d_Model_checkHead_418 (by decide) ?_
      refine lv_aload_n hx hb d_Model_checkHead_419 rfl (lv_at hl 0 rfl) ?_
      refine rd_Model_72 hx hb hT hown hK hP d_Model_checkHead_420 ?_
      refine lv_iload_n hx hb d_Model_checkHead_423 rfl (lv_at hl 1 rfl) ?_
      replace hR := gd_e hR
      obtain ⟨b78, hR⟩ := hR
      refine laM_19 hx hb hK hP b78 d_Model_checkHead_424 ?_
      refine lv_imul hx hb d_Model_checkHead_425 ?_
      refine lv_icmp_ge (tgt := 477) hx hb d_Model_checkHead_426 (by decide) (fun c79 => ?_) (fun c79 => ?_)
      · replace hR := if_p c79 hR
        obtain ⟨-, -, e3⟩ := re_e hR
        subst e3
        exact W.vret hx hb hr (fun t ht hW => ⟨⟨(), rfl, trivial, by rw [ht]; exact hP, va_K.moved hW.alike hK, hD⟩, hS.F ht⟩) hS.2.2 d_Model_checkHead_477
      · replace hR := if_n c79 hR
        refine lv_aload_n hx hb d_Model_checkHead_429 rfl (lv_at hl 0 rfl) ?_
        replace hR := bi_e hR
        obtain ⟨r80, l80, T80, hc80, hR⟩ := hR
        refine gcV_i (rest := []) ⟨hx, hb, hml, hown, hT⟩ (h_Model_bad _ _ _ _ hc80) (cwV 0 hT (gV ml_Model_385 im_Model_bad se_Model_bad ini_Model co_Model_bad) rfl rfl rfl pd_Model_bad ⟨rm_hi, rm_lo (Nat.le_of_ble_eq_true rfl)⟩) hK hP hD hS hA hnw henv (Nat.le_of_ble_eq_true rfl) rfl rfl hl.1 rfl (Nat.le_of_ble_eq_true rfl) d_Model_checkHead_430 ⟨Nat.le_refl _, Nat.le_refl _⟩ (fun H locs hP hD hS => ?_)
        clear hc80
        refine lv_if_ne (tgt := 477) hx hb d_Model_checkHead_433 (by decide) (fun c81 => ?_) (fun c81 => ?_)
        · replace hR := if_n c81 hR
          obtain ⟨-, -, e3⟩ := re_e hR
          subst e3
          exact W.vret hx hb hr (fun t ht hW => ⟨⟨(), rfl, trivial, by rw [ht]; exact hP, va_K.moved hW.alike hK, hD⟩, hS.F ht⟩) hS.2.2 d_Model_checkHead_477
        · replace hR := if_p c81 hR
          refine lv_aload_n hx hb d_Model_checkHead_436 rfl (lv_at hl 0 rfl) ?_
          refine lv_iload_n hx hb d_Model_checkHead_437 rfl (lv_at hl 1 rfl) ?_
          refine lv_aload_n hx hb d_Model_checkHead_438 rfl (lv_at hl 0 rfl) ?_
          refine rd_Model_75 hx hb hT hown hK hP d_Model_checkHead_439 ?_
          refine lv_bipush (v := 6) hx hb d_Model_checkHead_442 (by decide) ?_
          refine lv_iload_n hx hb d_Model_checkHead_444 rfl (lv_at hl 1 rfl) ?_
          refine lv_imul hx hb d_Model_checkHead_445 ?_
          refine lv_iload_n hx hb d_Model_checkHead_446 rfl (lv_at hl 2 rfl) ?_
          refine lv_iadd hx hb d_Model_checkHead_447 ?_
          replace hR := gd_e hR
          obtain ⟨b82, hR⟩ := hR
          refine laM_20 hx hb hK hP b82 d_Model_checkHead_448 ?_
          replace hR := bi_e hR
          obtain ⟨r83, l83, T83, hc83, hR⟩ := hR
          refine gcV_i (rest := []) ⟨hx, hb, hml, hown, hT⟩ (h_Model_regionOfItem _ _ _ _ _ _ hc83) (cwV 2 hT (gV ml_Model_616 im_Model_regionOfItem se_Model_regionOfItem ini_Model co_Model_regionOfItem) rfl rfl rfl pd_Model_regionOfItem ⟨rm_hi, rm_lo (Nat.le_of_ble_eq_true rfl)⟩) hK hP hD hS hA hnw henv (Nat.le_of_ble_eq_true rfl) rfl rfl hl.1 rfl (Nat.le_of_ble_eq_true rfl) d_Model_checkHead_449 ⟨Nat.le_refl _, Nat.le_refl _⟩ (fun H locs hP hD hS => ?_)
          clear hc83
          refine lv_if_ge (tgt := 471) hx hb d_Model_checkHead_452 (by decide) (fun c84 => ?_) (fun c84 => ?_)
          · replace hR := if_p c84 hR
            obtain ⟨z85, e85⟩ : ∃ y : Int32, y = x3 + (1 : Int32) := ⟨_, rfl⟩
            replace hR := vK_e e85 hR
            refine lv_iinc (v := z85) (lv' := [(3, .int z85), (0, .ref (ad 0)), (1, .int x1)]) hx hb d_Model_checkHead_471 hl (k := 2) rfl (by rw [e85]; rfl) (by decide) rfl (fun ls hl => ?_)
            refine lv_goto (tgt := 417) hx hb d_Model_checkHead_474 (by decide) ?_
            have g := ih T83 x1 z85 hR
            rw [hG] at g
            exact g _ _ hP hD hS _ (lv_sub hl [1, 2, 0] rfl)
          · replace hR := if_n c84 hR
            refine lv_aload_n hx hb d_Model_checkHead_455 rfl (lv_at hl 0 rfl) ?_
            refine lv_iconst (v := 3) hx hb d_Model_checkHead_456 (by decide) ?_
            refine lv_aload_n hx hb d_Model_checkHead_457 rfl (lv_at hl 0 rfl) ?_
            refine rd_Model_78 hx hb hT hown hK hP d_Model_checkHead_458 ?_
            refine lv_bipush (v := 6) hx hb d_Model_checkHead_461 (by decide) ?_
            refine lv_iload_n hx hb d_Model_checkHead_463 rfl (lv_at hl 1 rfl) ?_
            refine lv_imul hx hb d_Model_checkHead_464 ?_
            refine lv_iload_n hx hb d_Model_checkHead_465 rfl (lv_at hl 2 rfl) ?_
            refine lv_iadd hx hb d_Model_checkHead_466 ?_
            replace hR := gd_e hR
            obtain ⟨b86, hR⟩ := hR
            refine laM_21 hx hb hK hP b86 d_Model_checkHead_467 ?_
            replace hR := bi_e hR
            obtain ⟨r87, l87, T87, hc87, hR⟩ := hR
            refine gcV_v (rest := []) ⟨hx, hb, hml, hown, hT⟩ (h_Model_fail _ _ _ _ _ _ hc87) (cwV 2 hT (gV ml_Model_381 im_Model_fail se_Model_fail ini_Model co_Model_fail) rfl rfl rfl pd_Model_fail ⟨rm_hi, rm_lo (Nat.le_of_ble_eq_true rfl)⟩) hK hP hD hS hA hnw henv (Nat.le_of_ble_eq_true rfl) rfl rfl hl.1 rfl (Nat.le_of_ble_eq_true rfl) d_Model_checkHead_468 ⟨Nat.le_refl _, Nat.le_refl _⟩ (fun H locs hP hD hS => ?_)
            clear hc87
            obtain ⟨z88, e88⟩ : ∃ y : Int32, y = x3 + (1 : Int32) := ⟨_, rfl⟩
            replace hR := vK_e e88 hR
            refine lv_iinc (v := z88) (lv' := [(3, .int z88), (0, .ref (ad 0)), (1, .int x1)]) hx hb d_Model_checkHead_471 hl (k := 2) rfl (by rw [e88]; rfl) (by decide) rfl (fun ls hl => ?_)
            refine lv_goto (tgt := 417) hx hb d_Model_checkHead_474 (by decide) ?_
            have g := ih T87 x1 z88 hR
            rw [hG] at g
            exact g _ _ hP hD hS _ (lv_sub hl [1, 2, 0] rfl)
  have lb_306 : ∀ (n : Nat) (T : gSt) (x1 : Int32) (x3 : Int32), rl_Model_checkHead_306 F nf n T x1 x3 = some (r0, rl0, T9) → G 306 [(0, .ref (ad 0)), (1, .int x1), (3, .int x3)] [] T := by
    intro n
    induction n with
    | zero => intro T x1 x3 hR; rw [rl_Model_checkHead_306] at hR; cases hR
    | succ n ih =>
      intro T x1 x3 hR; rw [rl_Model_checkHead_306] at hR; rw [hG]; intro H locs hP hD hS ls hl
      refine lv_iload_n hx hb d_Model_checkHead_306 rfl (lv_at hl 2 rfl) ?_
      refine lv_aload_n hx hb d_Model_checkHead_307 rfl (lv_at hl 0 rfl) ?_
      refine rd_Model_60 hx hb hT hown hK hP d_Model_checkHead_308 ?_
      refine lv_iload_n hx hb d_Model_checkHead_311 rfl (lv_at hl 1 rfl) ?_
      replace hR := gd_e hR
      obtain ⟨b60, hR⟩ := hR
      refine laM_15 hx hb hK hP b60 d_Model_checkHead_312 ?_
      refine lv_icmp_ge (tgt := 415) hx hb d_Model_checkHead_313 (by decide) (fun c61 => ?_) (fun c61 => ?_)
      · replace hR := if_p c61 hR
        refine lv_iconst (v := 0) hx hb d_Model_checkHead_415 (by decide) ?_
        refine lv_istore_n (lv' := [(3, .int (0 : Int32)), (0, .ref (ad 0)), (1, .int x1)]) hx hb d_Model_checkHead_416 rfl hl (by decide) rfl (fun ls hl => ?_)
        have g := lb_417 nf T x1 (0 : Int32) hR
        rw [hG] at g
        exact g _ _ hP hD hS _ (lv_sub hl [1, 2, 0] rfl)
      · replace hR := if_n c61 hR
        refine lv_aload_n hx hb d_Model_checkHead_316 rfl (lv_at hl 0 rfl) ?_
        replace hR := bi_e hR
        obtain ⟨r62, l62, T62, hc62, hR⟩ := hR
        refine gcV_i (rest := []) ⟨hx, hb, hml, hown, hT⟩ (h_Model_bad _ _ _ _ hc62) (cwV 0 hT (gV ml_Model_385 im_Model_bad se_Model_bad ini_Model co_Model_bad) rfl rfl rfl pd_Model_bad ⟨rm_hi, rm_lo (Nat.le_of_ble_eq_true rfl)⟩) hK hP hD hS hA hnw henv (Nat.le_of_ble_eq_true rfl) rfl rfl hl.1 rfl (Nat.le_of_ble_eq_true rfl) d_Model_checkHead_317 ⟨Nat.le_refl _, Nat.le_refl _⟩ (fun H locs hP hD hS => ?_)
        clear hc62
        refine lv_if_ne (tgt := 415) hx hb d_Model_checkHead_320 (by decide) (fun c63 => ?_) (fun c63 => ?_)
        · replace hR := if_n c63 hR
          refine lv_iconst (v := 0) hx hb d_Model_checkHead_415 (by decide) ?_
          refine lv_istore_n (lv' := [(3, .int (0 : Int32)), (0, .ref (ad 0)), (1, .int x1)]) hx hb d_Model_checkHead_416 rfl hl (by decide) rfl (fun ls hl => ?_)
          have g := lb_417 nf T62 x1 (0 : Int32) hR
          rw [hG] at g
          exact g _ _ hP hD hS _ (lv_sub hl [1, 2, 0] rfl)
        · replace hR := if_p c63 hR
          refine lv_aload_n hx hb d_Model_checkHead_323 rfl (lv_at hl 0 rfl) ?_
          refine lv_iload_n hx hb d_Model_checkHead_324 rfl (lv_at hl 1 rfl) ?_
          refine lv_aload_n hx hb d_Model_checkHead_325 rfl (lv_at hl 0 rfl) ?_
          refine rd_Model_63 hx hb hT hown hK hP d_Model_checkHead_326 ?_
          refine lv_iconst (v := 3) hx hb d_Model_checkHead_329 (by decide) ?_
          refine lv_iload_n hx hb d_Model_checkHead_330 rfl (lv_at hl 1 rfl) ?_
          refine lv_imul hx hb d_Model_checkHead_331 ?_
          refine lv_iload_n hx hb d_Model_checkHead_332 rfl (lv_at hl 2 rfl) ?_
          refine lv_iadd hx hb d_Model_checkHead_333 ?_
          replace hR := gd_e hR
          obtain ⟨b64, hR⟩ := hR
          refine laM_16 hx hb hK hP b64 d_Model_checkHead_334 ?_
          replace hR := bi_e hR
          obtain ⟨r65, l65, T65, hc65, hR⟩ := hR
          refine gcV_i (rest := []) ⟨hx, hb, hml, hown, hT⟩ (h_Model_regionOfItem _ _ _ _ _ _ hc65) (cwV 2 hT (gV ml_Model_616 im_Model_regionOfItem se_Model_regionOfItem ini_Model co_Model_regionOfItem) rfl rfl rfl pd_Model_regionOfItem ⟨rm_hi, rm_lo (Nat.le_of_ble_eq_true rfl)⟩) hK hP hD hS hA hnw henv (Nat.le_of_ble_eq_true rfl) rfl rfl hl.1 rfl (Nat.le_of_ble_eq_true rfl) d_Model_checkHead_335 ⟨Nat.le_refl _, Nat.le_refl _⟩ (fun H locs hP hD hS => ?_)
          clear hc65
          refine lv_istore (lv' := [(4, .int r65), (0, .ref (ad 0)), (1, .int x1), (3, .int x3)]) hx hb d_Model_checkHead_338 hl (by decide) rfl (fun ls hl => ?_)
          refine lv_iload hx hb d_Model_checkHead_340 (lv_at hl 0 rfl) ?_
          refine lv_if_ge (tgt := 363) hx hb d_Model_checkHead_342 (by decide) (fun c66 => ?_) (fun c66 => ?_)
          · replace hR := if_p c66 hR
            refine lv_aload_n hx hb d_Model_checkHead_363 rfl (lv_at hl 1 rfl) ?_
            refine rd_Model_69 hx hb hT hown hK hP d_Model_checkHead_364 ?_
            refine lv_iload_n hx hb d_Model_checkHead_367 rfl (lv_at hl 2 rfl) ?_
            replace hR := gd_e hR
            obtain ⟨b67, hR⟩ := hR
            refine laM_18 hx hb hK hP b67 d_Model_checkHead_368 ?_
            refine lv_iload hx hb d_Model_checkHead_369 (lv_at hl 0 rfl) ?_
            refine lv_ishr hx hb d_Model_checkHead_371 ?_
            refine lv_iconst (v := 1) hx hb d_Model_checkHead_372 (by decide) ?_
            refine lv_iand hx hb d_Model_checkHead_373 ?_
            refine lv_iconst (v := 1) hx hb d_Model_checkHead_374 (by decide) ?_
            refine lv_icmp_ne (tgt := 396) hx hb d_Model_checkHead_375 (by decide) (fun c68 => ?_) (fun c68 => ?_)
            · replace hR := if_n c68 hR
              refine lv_aload_n hx hb d_Model_checkHead_396 rfl (lv_at hl 1 rfl) ?_
              refine rd_Model_69 hx hb hT hown hK hP d_Model_checkHead_397 ?_
              refine lv_iload_n hx hb d_Model_checkHead_400 rfl (lv_at hl 2 rfl) ?_
              refine lv_dup2_11 hx hb d_Model_checkHead_401 rfl rfl ?_
              replace hR := gd_e hR
              obtain ⟨b69, hR⟩ := hR
              refine laM_18 hx hb hK hP b69 d_Model_checkHead_402 ?_
              refine lv_iconst (v := 1) hx hb d_Model_checkHead_403 (by decide) ?_
              refine lv_iload hx hb d_Model_checkHead_404 (lv_at hl 0 rfl) ?_
              refine lv_ishl hx hb d_Model_checkHead_406 ?_
              refine lv_ior hx hb d_Model_checkHead_407 ?_
              replace hR := gd_e hR
              obtain ⟨b70, hR⟩ := hR
              refine saM_18 hx hb hK hP hD hS b70 d_Model_checkHead_408 (fun T70 eT H locs hP hD hS => ?_)
              replace hR := stK_e eT hR
              clear eT
              obtain ⟨z71, e71⟩ : ∃ y : Int32, y = x3 + (1 : Int32) := ⟨_, rfl⟩
              replace hR := vK_e e71 hR
              refine lv_iinc (v := z71) (lv' := [(3, .int z71), (4, .int r65), (0, .ref (ad 0)), (1, .int x1)]) hx hb d_Model_checkHead_409 hl (k := 3) rfl (by rw [e71]; rfl) (by decide) rfl (fun ls hl => ?_)
              refine lv_goto (tgt := 306) hx hb d_Model_checkHead_412 (by decide) ?_
              have g := ih T70 x1 z71 hR
              rw [hG] at g
              exact g _ _ hP hD hS _ (lv_sub hl [2, 3, 0] rfl)
            · replace hR := if_p c68 hR
              refine lv_aload_n hx hb d_Model_checkHead_378 rfl (lv_at hl 1 rfl) ?_
              refine lv_iconst (v := 2) hx hb d_Model_checkHead_379 (by decide) ?_
              refine lv_aload_n hx hb d_Model_checkHead_380 rfl (lv_at hl 1 rfl) ?_
              refine rd_Model_66 hx hb hT hown hK hP d_Model_checkHead_381 ?_
              refine lv_iconst (v := 3) hx hb d_Model_checkHead_384 (by decide) ?_
              refine lv_iload_n hx hb d_Model_checkHead_385 rfl (lv_at hl 2 rfl) ?_
              refine lv_imul hx hb d_Model_checkHead_386 ?_
              refine lv_iload_n hx hb d_Model_checkHead_387 rfl (lv_at hl 3 rfl) ?_
              refine lv_iadd hx hb d_Model_checkHead_388 ?_
              replace hR := gd_e hR
              obtain ⟨b72, hR⟩ := hR
              refine laM_17 hx hb hK hP b72 d_Model_checkHead_389 ?_
              replace hR := bi_e hR
              obtain ⟨r73, l73, T73, hc73, hR⟩ := hR
              refine gcV_v (rest := []) ⟨hx, hb, hml, hown, hT⟩ (h_Model_fail _ _ _ _ _ _ hc73) (cwV 2 hT (gV ml_Model_381 im_Model_fail se_Model_fail ini_Model co_Model_fail) rfl rfl rfl pd_Model_fail ⟨rm_hi, rm_lo (Nat.le_of_ble_eq_true rfl)⟩) hK hP hD hS hA hnw henv (Nat.le_of_ble_eq_true rfl) rfl rfl hl.1 rfl (Nat.le_of_ble_eq_true rfl) d_Model_checkHead_390 ⟨Nat.le_refl _, Nat.le_refl _⟩ (fun H locs hP hD hS => ?_)
              clear hc73
              refine lv_goto (tgt := 409) hx hb d_Model_checkHead_393 (by decide) ?_
              obtain ⟨z74, e74⟩ : ∃ y : Int32, y = x3 + (1 : Int32) := ⟨_, rfl⟩
              replace hR := vK_e e74 hR
              refine lv_iinc (v := z74) (lv' := [(3, .int z74), (4, .int r65), (0, .ref (ad 0)), (1, .int x1)]) hx hb d_Model_checkHead_409 hl (k := 3) rfl (by rw [e74]; rfl) (by decide) rfl (fun ls hl => ?_)
              refine lv_goto (tgt := 306) hx hb d_Model_checkHead_412 (by decide) ?_
              have g := ih T73 x1 z74 hR
              rw [hG] at g
              exact g _ _ hP hD hS _ (lv_sub hl [2, 3, 0] rfl)
          · replace hR := if_n c66 hR
            refine lv_aload_n hx hb d_Model_checkHead_345 rfl (lv_at hl 1 rfl) ?_
            refine lv_iconst (v := 3) hx hb d_Model_checkHead_346 (by decide) ?_
            refine lv_aload_n hx hb d_Model_checkHead_347 rfl (lv_at hl 1 rfl) ?_
            refine rd_Model_66 hx hb hT hown hK hP d_Model_checkHead_348 ?_
            refine lv_iconst (v := 3) hx hb d_Model_checkHead_351 (by decide) ?_
            refine lv_iload_n hx hb d_Model_checkHead_352 rfl (lv_at hl 2 rfl) ?_
            refine lv_imul hx hb d_Model_checkHead_353 ?_
            refine lv_iload_n hx hb d_Model_checkHead_354 rfl (lv_at hl 3 rfl) ?_
            refine lv_iadd hx hb d_Model_checkHead_355 ?_
            replace hR := gd_e hR
            obtain ⟨b75, hR⟩ := hR
            refine laM_17 hx hb hK hP b75 d_Model_checkHead_356 ?_
            replace hR := bi_e hR
            obtain ⟨r76, l76, T76, hc76, hR⟩ := hR
            refine gcV_v (rest := []) ⟨hx, hb, hml, hown, hT⟩ (h_Model_fail _ _ _ _ _ _ hc76) (cwV 2 hT (gV ml_Model_381 im_Model_fail se_Model_fail ini_Model co_Model_fail) rfl rfl rfl pd_Model_fail ⟨rm_hi, rm_lo (Nat.le_of_ble_eq_true rfl)⟩) hK hP hD hS hA hnw henv (Nat.le_of_ble_eq_true rfl) rfl rfl hl.1 rfl (Nat.le_of_ble_eq_true rfl) d_Model_checkHead_357 ⟨Nat.le_refl _, Nat.le_refl _⟩ (fun H locs hP hD hS => ?_)
            clear hc76
            refine lv_goto (tgt := 409) hx hb d_Model_checkHead_360 (by decide) ?_
            obtain ⟨z77, e77⟩ : ∃ y : Int32, y = x3 + (1 : Int32) := ⟨_, rfl⟩
            replace hR := vK_e e77 hR
            refine lv_iinc (v := z77) (lv' := [(3, .int z77), (4, .int r65), (0, .ref (ad 0)), (1, .int x1)]) hx hb d_Model_checkHead_409 hl (k := 3) rfl (by rw [e77]; rfl) (by decide) rfl (fun ls hl => ?_)
            refine lv_goto (tgt := 306) hx hb d_Model_checkHead_412 (by decide) ?_
            have g := ih T76 x1 z77 hR
            rw [hG] at g
            exact g _ _ hP hD hS _ (lv_sub hl [2, 3, 0] rfl)
  have lb_257 : ∀ (T : gSt) (x1 : Int32), rj_Model_checkHead_257 F nf T x1 = some (r0, rl0, T9) → G 257 [(0, .ref (ad 0)), (1, .int x1)] [] T := by
    intro T x1 hR; unfold rj_Model_checkHead_257 at hR; rw [hG]; intro H locs hP hD hS ls hl
    refine lv_aload_n hx hb d_Model_checkHead_257 rfl (lv_at hl 0 rfl) ?_
    refine rd_Model_17 hx hb hT hown hK hP d_Model_checkHead_258 ?_
    refine lv_iload_n hx hb d_Model_checkHead_261 rfl (lv_at hl 1 rfl) ?_
    replace hR := gd_e hR
    obtain ⟨b50, hR⟩ := hR
    refine laM_1 hx hb hK hP b50 d_Model_checkHead_262 ?_
    refine lv_iconst (v := 2) hx hb d_Model_checkHead_263 (by decide) ?_
    refine lv_icmp_ge (tgt := 268) hx hb d_Model_checkHead_264 (by decide) (fun c51 => ?_) (fun c51 => ?_)
    · replace hR := if_p c51 hR
      refine lv_aload_n hx hb d_Model_checkHead_268 rfl (lv_at hl 0 rfl) ?_
      refine rd_Model_57 hx hb hT hown hK hP d_Model_checkHead_269 ?_
      refine lv_iload_n hx hb d_Model_checkHead_272 rfl (lv_at hl 1 rfl) ?_
      refine lv_aload_n hx hb d_Model_checkHead_273 rfl (lv_at hl 0 rfl) ?_
      refine rd_Model_54 hx hb hT hown hK hP d_Model_checkHead_274 ?_
      refine lv_iload_n hx hb d_Model_checkHead_277 rfl (lv_at hl 1 rfl) ?_
      replace hR := gd_e hR
      obtain ⟨b52, hR⟩ := hR
      refine laM_13 hx hb hK hP b52 d_Model_checkHead_278 ?_
      refine lv_if_ge (tgt := 286) hx hb d_Model_checkHead_279 (by decide) (fun c53 => ?_) (fun c53 => ?_)
      · replace hR := if_p c53 hR
        refine lv_aload_n hx hb d_Model_checkHead_286 rfl (lv_at hl 0 rfl) ?_
        refine lv_aload_n hx hb d_Model_checkHead_287 rfl (lv_at hl 0 rfl) ?_
        refine rd_Model_54 hx hb hT hown hK hP d_Model_checkHead_288 ?_
        refine lv_iload_n hx hb d_Model_checkHead_291 rfl (lv_at hl 1 rfl) ?_
        replace hR := gd_e hR
        obtain ⟨b54, hR⟩ := hR
        refine laM_13 hx hb hK hP b54 d_Model_checkHead_292 ?_
        replace hR := bi_e hR
        obtain ⟨r55, l55, T55, hc55, hR⟩ := hR
        refine gcV_i (rest := [.int x1, .ref (ad 15)]) ⟨hx, hb, hml, hown, hT⟩ (h_Model_meaning _ _ _ _ _ hc55) (cwV 1 hT (gV ml_Model_584 im_Model_meaning se_Model_meaning ini_Model co_Model_meaning) rfl rfl rfl pd_Model_meaning ⟨rm_hi, rm_lo (Nat.le_of_ble_eq_true rfl)⟩) hK hP hD hS hA hnw henv (Nat.le_of_ble_eq_true rfl) rfl rfl hl.1 rfl (Nat.le_of_ble_eq_true rfl) d_Model_checkHead_293 ⟨Nat.le_refl _, Nat.le_refl _⟩ (fun H locs hP hD hS => ?_)
        clear hc55
        replace hR := gd_e hR
        obtain ⟨b56, hR⟩ := hR
        refine saM_14 hx hb hK hP hD hS b56 d_Model_checkHead_296 (fun T56 eT H locs hP hD hS => ?_)
        replace hR := stK_e eT hR
        clear eT
        refine lv_aload_n hx hb d_Model_checkHead_297 rfl (lv_at hl 0 rfl) ?_
        refine rd_Model_69 hx hb hT hown hK hP d_Model_checkHead_298 ?_
        refine lv_iload_n hx hb d_Model_checkHead_301 rfl (lv_at hl 1 rfl) ?_
        refine lv_iconst (v := 0) hx hb d_Model_checkHead_302 (by decide) ?_
        replace hR := gd_e hR
        obtain ⟨b57, hR⟩ := hR
        refine saM_18 hx hb hK hP hD hS b57 d_Model_checkHead_303 (fun T57 eT H locs hP hD hS => ?_)
        replace hR := stK_e eT hR
        clear eT
        refine lv_iconst (v := 0) hx hb d_Model_checkHead_304 (by decide) ?_
        refine lv_istore_n (lv' := [(3, .int (0 : Int32)), (0, .ref (ad 0)), (1, .int x1)]) hx hb d_Model_checkHead_305 rfl hl (by decide) rfl (fun ls hl => ?_)
        have g := lb_306 nf T57 x1 (0 : Int32) hR
        rw [hG] at g
        exact g _ _ hP hD hS _ (lv_sub hl [1, 2, 0] rfl)
      · replace hR := if_n c53 hR
        refine lv_iconst (v := (-1)) hx hb d_Model_checkHead_282 (by decide) ?_
        refine lv_goto (tgt := 296) hx hb d_Model_checkHead_283 (by decide) ?_
        replace hR := gd_e hR
        obtain ⟨b58, hR⟩ := hR
        refine saM_14 hx hb hK hP hD hS b58 d_Model_checkHead_296 (fun T58 eT H locs hP hD hS => ?_)
        replace hR := stK_e eT hR
        clear eT
        refine lv_aload_n hx hb d_Model_checkHead_297 rfl (lv_at hl 0 rfl) ?_
        refine rd_Model_69 hx hb hT hown hK hP d_Model_checkHead_298 ?_
        refine lv_iload_n hx hb d_Model_checkHead_301 rfl (lv_at hl 1 rfl) ?_
        refine lv_iconst (v := 0) hx hb d_Model_checkHead_302 (by decide) ?_
        replace hR := gd_e hR
        obtain ⟨b59, hR⟩ := hR
        refine saM_18 hx hb hK hP hD hS b59 d_Model_checkHead_303 (fun T59 eT H locs hP hD hS => ?_)
        replace hR := stK_e eT hR
        clear eT
        refine lv_iconst (v := 0) hx hb d_Model_checkHead_304 (by decide) ?_
        refine lv_istore_n (lv' := [(3, .int (0 : Int32)), (0, .ref (ad 0)), (1, .int x1)]) hx hb d_Model_checkHead_305 rfl hl (by decide) rfl (fun ls hl => ?_)
        have g := lb_306 nf T59 x1 (0 : Int32) hR
        rw [hG] at g
        exact g _ _ hP hD hS _ (lv_sub hl [1, 2, 0] rfl)
    · replace hR := if_n c51 hR
      obtain ⟨-, -, e3⟩ := re_e hR
      subst e3
      exact W.vret hx hb hr (fun t ht hW => ⟨⟨(), rfl, trivial, by rw [ht]; exact hP, va_K.moved hW.alike hK, hD⟩, hS.F ht⟩) hS.2.2 d_Model_checkHead_267
  have lb_178 : ∀ (n : Nat) (T : gSt) (x1 : Int32) (x3 : Int32), rl_Model_checkHead_178 F nf n T x1 x3 = some (r0, rl0, T9) → G 178 [(0, .ref (ad 0)), (1, .int x1), (3, .int x3)] [] T := by
    intro n
    induction n with
    | zero => intro T x1 x3 hR; rw [rl_Model_checkHead_178] at hR; cases hR
    | succ n ih =>
      intro T x1 x3 hR; rw [rl_Model_checkHead_178] at hR; rw [hG]; intro H locs hP hD hS ls hl
      refine lv_iload_n hx hb d_Model_checkHead_178 rfl (lv_at hl 2 rfl) ?_
      refine lv_aload_n hx hb d_Model_checkHead_179 rfl (lv_at hl 0 rfl) ?_
      refine rd_Model_39 hx hb hT hown hK hP d_Model_checkHead_180 ?_
      refine lv_iload_n hx hb d_Model_checkHead_183 rfl (lv_at hl 1 rfl) ?_
      replace hR := gd_e hR
      obtain ⟨b31, hR⟩ := hR
      refine laM_8 hx hb hK hP b31 d_Model_checkHead_184 ?_
      refine lv_icmp_ge (tgt := 257) hx hb d_Model_checkHead_185 (by decide) (fun c32 => ?_) (fun c32 => ?_)
      · replace hR := if_p c32 hR
        have g := lb_257 T x1 hR
        rw [hG] at g
        exact g _ _ hP hD hS _ (lv_sub hl [0, 1] rfl)
      · replace hR := if_n c32 hR
        refine lv_aload_n hx hb d_Model_checkHead_188 rfl (lv_at hl 0 rfl) ?_
        replace hR := bi_e hR
        obtain ⟨r33, l33, T33, hc33, hR⟩ := hR
        refine gcV_i (rest := []) ⟨hx, hb, hml, hown, hT⟩ (h_Model_bad _ _ _ _ hc33) (cwV 0 hT (gV ml_Model_385 im_Model_bad se_Model_bad ini_Model co_Model_bad) rfl rfl rfl pd_Model_bad ⟨rm_hi, rm_lo (Nat.le_of_ble_eq_true rfl)⟩) hK hP hD hS hA hnw henv (Nat.le_of_ble_eq_true rfl) rfl rfl hl.1 rfl (Nat.le_of_ble_eq_true rfl) d_Model_checkHead_189 ⟨Nat.le_refl _, Nat.le_refl _⟩ (fun H locs hP hD hS => ?_)
        clear hc33
        refine lv_if_ne (tgt := 257) hx hb d_Model_checkHead_192 (by decide) (fun c34 => ?_) (fun c34 => ?_)
        · replace hR := if_n c34 hR
          have g := lb_257 T33 x1 hR
          rw [hG] at g
          exact g _ _ hP hD hS _ (lv_sub hl [0, 1] rfl)
        · replace hR := if_p c34 hR
          refine lv_aload_n hx hb d_Model_checkHead_195 rfl (lv_at hl 0 rfl) ?_
          refine rd_Model_36 hx hb hT hown hK hP d_Model_checkHead_196 ?_
          refine lv_iload_n hx hb d_Model_checkHead_199 rfl (lv_at hl 1 rfl) ?_
          replace hR := gd_e hR
          obtain ⟨b35, hR⟩ := hR
          refine laM_7 hx hb hK hP b35 d_Model_checkHead_200 ?_
          refine lv_iload_n hx hb d_Model_checkHead_201 rfl (lv_at hl 2 rfl) ?_
          refine lv_iadd hx hb d_Model_checkHead_202 ?_
          refine lv_topi (fun z36 e36 => ?_)
          replace hR := vK_e e36 hR
          refine lv_istore (lv' := [(4, .int z36), (0, .ref (ad 0)), (1, .int x1), (3, .int x3)]) hx hb d_Model_checkHead_203 hl (by decide) rfl (fun ls hl => ?_)
          refine lv_aload_n hx hb d_Model_checkHead_205 rfl (lv_at hl 1 rfl) ?_
          refine lv_iload_n hx hb d_Model_checkHead_206 rfl (lv_at hl 2 rfl) ?_
          refine lv_aload_n hx hb d_Model_checkHead_207 rfl (lv_at hl 1 rfl) ?_
          refine rd_Model_42 hx hb hT hown hK hP d_Model_checkHead_208 ?_
          refine lv_iload hx hb d_Model_checkHead_211 (lv_at hl 0 rfl) ?_
          replace hR := gd_e hR
          obtain ⟨b37, hR⟩ := hR
          refine laM_9 hx hb hK hP b37 d_Model_checkHead_213 ?_
          replace hR := bi_e hR
          obtain ⟨r38, l38, T38, hc38, hR⟩ := hR
          refine gcV_i (rest := []) ⟨hx, hb, hml, hown, hT⟩ (h_Model_findField _ _ _ _ _ _ hc38) (cwV 2 hT (gV ml_Model_612 im_Model_findField se_Model_findField ini_Model co_Model_findField) rfl rfl rfl pd_Model_findField ⟨rm_hi, rm_lo (Nat.le_of_ble_eq_true rfl)⟩) hK hP hD hS hA hnw henv (Nat.le_of_ble_eq_true rfl) rfl rfl hl.1 rfl (Nat.le_of_ble_eq_true rfl) d_Model_checkHead_214 ⟨Nat.le_refl _, Nat.le_refl _⟩ (fun H locs hP hD hS => ?_)
          clear hc38
          refine lv_iload_n hx hb d_Model_checkHead_217 rfl (lv_at hl 3 rfl) ?_
          refine lv_icmp_eq (tgt := 233) hx hb d_Model_checkHead_218 (by decide) (fun c39 => ?_) (fun c39 => ?_)
          · replace hR := if_p c39 hR
            refine lv_aload_n hx hb d_Model_checkHead_233 rfl (lv_at hl 1 rfl) ?_
            refine rd_Model_51 hx hb hT hown hK hP d_Model_checkHead_234 ?_
            refine lv_iload hx hb d_Model_checkHead_237 (lv_at hl 0 rfl) ?_
            refine lv_aload_n hx hb d_Model_checkHead_239 rfl (lv_at hl 1 rfl) ?_
            refine lv_aload_n hx hb d_Model_checkHead_240 rfl (lv_at hl 1 rfl) ?_
            refine rd_Model_48 hx hb hT hown hK hP d_Model_checkHead_241 ?_
            refine lv_iload hx hb d_Model_checkHead_244 (lv_at hl 0 rfl) ?_
            replace hR := gd_e hR
            obtain ⟨b40, hR⟩ := hR
            refine laM_11 hx hb hK hP b40 d_Model_checkHead_246 ?_
            replace hR := bi_e hR
            obtain ⟨r41, l41, T41, hc41, hR⟩ := hR
            refine gcV_i (rest := [.int z36, .ref (ad 13)]) ⟨hx, hb, hml, hown, hT⟩ (h_Model_meaning _ _ _ _ _ hc41) (cwV 1 hT (gV ml_Model_584 im_Model_meaning se_Model_meaning ini_Model co_Model_meaning) rfl rfl rfl pd_Model_meaning ⟨rm_hi, rm_lo (Nat.le_of_ble_eq_true rfl)⟩) hK hP hD hS hA hnw henv (Nat.le_of_ble_eq_true rfl) rfl rfl hl.1 rfl (Nat.le_of_ble_eq_true rfl) d_Model_checkHead_247 ⟨Nat.le_refl _, Nat.le_refl _⟩ (fun H locs hP hD hS => ?_)
            clear hc41
            replace hR := gd_e hR
            obtain ⟨b42, hR⟩ := hR
            refine saM_12 hx hb hK hP hD hS b42 d_Model_checkHead_250 (fun T42 eT H locs hP hD hS => ?_)
            replace hR := stK_e eT hR
            clear eT
            obtain ⟨z43, e43⟩ : ∃ y : Int32, y = x3 + (1 : Int32) := ⟨_, rfl⟩
            replace hR := vK_e e43 hR
            refine lv_iinc (v := z43) (lv' := [(3, .int z43), (4, .int z36), (0, .ref (ad 0)), (1, .int x1)]) hx hb d_Model_checkHead_251 hl (k := 3) rfl (by rw [e43]; rfl) (by decide) rfl (fun ls hl => ?_)
            refine lv_goto (tgt := 178) hx hb d_Model_checkHead_254 (by decide) ?_
            have g := ih T42 x1 z43 hR
            rw [hG] at g
            exact g _ _ hP hD hS _ (lv_sub hl [2, 3, 0] rfl)
          · replace hR := if_n c39 hR
            refine lv_aload_n hx hb d_Model_checkHead_221 rfl (lv_at hl 1 rfl) ?_
            refine lv_iconst (v := 2) hx hb d_Model_checkHead_222 (by decide) ?_
            refine lv_aload_n hx hb d_Model_checkHead_223 rfl (lv_at hl 1 rfl) ?_
            refine rd_Model_45 hx hb hT hown hK hP d_Model_checkHead_224 ?_
            refine lv_iload hx hb d_Model_checkHead_227 (lv_at hl 0 rfl) ?_
            replace hR := gd_e hR
            obtain ⟨b44, hR⟩ := hR
            refine laM_10 hx hb hK hP b44 d_Model_checkHead_229 ?_
            replace hR := bi_e hR
            obtain ⟨r45, l45, T45, hc45, hR⟩ := hR
            refine gcV_v (rest := []) ⟨hx, hb, hml, hown, hT⟩ (h_Model_fail _ _ _ _ _ _ hc45) (cwV 2 hT (gV ml_Model_381 im_Model_fail se_Model_fail ini_Model co_Model_fail) rfl rfl rfl pd_Model_fail ⟨rm_hi, rm_lo (Nat.le_of_ble_eq_true rfl)⟩) hK hP hD hS hA hnw henv (Nat.le_of_ble_eq_true rfl) rfl rfl hl.1 rfl (Nat.le_of_ble_eq_true rfl) d_Model_checkHead_230 ⟨Nat.le_refl _, Nat.le_refl _⟩ (fun H locs hP hD hS => ?_)
            clear hc45
            refine lv_aload_n hx hb d_Model_checkHead_233 rfl (lv_at hl 1 rfl) ?_
            refine rd_Model_51 hx hb hT hown hK hP d_Model_checkHead_234 ?_
            refine lv_iload hx hb d_Model_checkHead_237 (lv_at hl 0 rfl) ?_
            refine lv_aload_n hx hb d_Model_checkHead_239 rfl (lv_at hl 1 rfl) ?_
            refine lv_aload_n hx hb d_Model_checkHead_240 rfl (lv_at hl 1 rfl) ?_
            refine rd_Model_48 hx hb hT hown hK hP d_Model_checkHead_241 ?_
            refine lv_iload hx hb d_Model_checkHead_244 (lv_at hl 0 rfl) ?_
            replace hR := gd_e hR
            obtain ⟨b46, hR⟩ := hR
            refine laM_11 hx hb hK hP b46 d_Model_checkHead_246 ?_
            replace hR := bi_e hR
            obtain ⟨r47, l47, T47, hc47, hR⟩ := hR
            refine gcV_i (rest := [.int z36, .ref (ad 13)]) ⟨hx, hb, hml, hown, hT⟩ (h_Model_meaning _ _ _ _ _ hc47) (cwV 1 hT (gV ml_Model_584 im_Model_meaning se_Model_meaning ini_Model co_Model_meaning) rfl rfl rfl pd_Model_meaning ⟨rm_hi, rm_lo (Nat.le_of_ble_eq_true rfl)⟩) hK hP hD hS hA hnw henv (Nat.le_of_ble_eq_true rfl) rfl rfl hl.1 rfl (Nat.le_of_ble_eq_true rfl) d_Model_checkHead_247 ⟨Nat.le_refl _, Nat.le_refl _⟩ (fun H locs hP hD hS => ?_)
            clear hc47
            replace hR := gd_e hR
            obtain ⟨b48, hR⟩ := hR
            refine saM_12 hx hb hK hP hD hS b48 d_Model_checkHead_250 (fun T48 eT H locs hP hD hS => ?_)
            replace hR := stK_e eT hR
            clear eT
            obtain ⟨z49, e49⟩ : ∃ y : Int32, y = x3 + (1 : Int32) := ⟨_, rfl⟩
            replace hR := vK_e e49 hR
            refine lv_iinc (v := z49) (lv' := [(3, .int z49), (4, .int z36), (0, .ref (ad 0)), (1, .int x1)]) hx hb d_Model_checkHead_251 hl (k := 3) rfl (by rw [e49]; rfl) (by decide) rfl (fun ls hl => ?_)
            refine lv_goto (tgt := 178) hx hb d_Model_checkHead_254 (by decide) ?_
            have g := ih T48 x1 z49 hR
            rw [hG] at g
            exact g _ _ hP hD hS _ (lv_sub hl [2, 3, 0] rfl)
  have lb_96 : ∀ (rec_52 : gSt → Int32 → Int32 → gR) (hrec_52 : ∀ (T : gSt) (x1 : Int32) (x3 : Int32), rec_52 T x1 x3 = some (r0, rl0, T9) → G 52 [(0, .ref (ad 0)), (1, .int x1), (3, .int x3)] [] T) (n : Nat) (T : gSt) (x1 : Int32) (x3 : Int32) (x4 : Int32) (x5 : Int32), rl_Model_checkHead_96 F nf rec_52 n T x1 x3 x4 x5 = some (r0, rl0, T9) → G 96 [(0, .ref (ad 0)), (1, .int x1), (3, .int x3), (4, .int x4), (5, .int x5)] [] T := by
    intro rec_52 hrec_52 n
    induction n with
    | zero => intro T x1 x3 x4 x5 hR; rw [rl_Model_checkHead_96] at hR; cases hR
    | succ n ih =>
      intro T x1 x3 x4 x5 hR; rw [rl_Model_checkHead_96] at hR; rw [hG]; intro H locs hP hD hS ls hl
      refine lv_iload hx hb d_Model_checkHead_96 (lv_at hl 4 rfl) ?_
      refine lv_iload_n hx hb d_Model_checkHead_98 rfl (lv_at hl 2 rfl) ?_
      refine lv_icmp_ge (tgt := 145) hx hb d_Model_checkHead_99 (by decide) (fun c18 => ?_) (fun c18 => ?_)
      · replace hR := if_p c18 hR
        refine lv_iload hx hb d_Model_checkHead_145 (lv_at hl 3 rfl) ?_
        refine lv_if_eq (tgt := 165) hx hb d_Model_checkHead_147 (by decide) (fun c19 => ?_) (fun c19 => ?_)
        · replace hR := if_p c19 hR
          obtain ⟨z20, e20⟩ : ∃ y : Int32, y = x3 + (1 : Int32) := ⟨_, rfl⟩
          replace hR := vK_e e20 hR
          refine lv_iinc (v := z20) (lv' := [(3, .int z20), (0, .ref (ad 0)), (1, .int x1), (4, .int x4), (5, .int x5)]) hx hb d_Model_checkHead_165 hl (k := 2) rfl (by rw [e20]; rfl) (by decide) rfl (fun ls hl => ?_)
          refine lv_goto (tgt := 52) hx hb d_Model_checkHead_168 (by decide) ?_
          have g := hrec_52 T x1 z20 hR
          rw [hG] at g
          exact g _ _ hP hD hS _ (lv_sub hl [1, 2, 0] rfl)
        · replace hR := if_n c19 hR
          refine lv_aload_n hx hb d_Model_checkHead_150 rfl (lv_at hl 0 rfl) ?_
          refine lv_iconst (v := 2) hx hb d_Model_checkHead_151 (by decide) ?_
          refine lv_aload_n hx hb d_Model_checkHead_152 rfl (lv_at hl 0 rfl) ?_
          refine rd_Model_33 hx hb hT hown hK hP d_Model_checkHead_153 ?_
          refine lv_iconst (v := 3) hx hb d_Model_checkHead_156 (by decide) ?_
          refine lv_iload_n hx hb d_Model_checkHead_157 rfl (lv_at hl 1 rfl) ?_
          refine lv_imul hx hb d_Model_checkHead_158 ?_
          refine lv_iload_n hx hb d_Model_checkHead_159 rfl (lv_at hl 2 rfl) ?_
          refine lv_iadd hx hb d_Model_checkHead_160 ?_
          replace hR := gd_e hR
          obtain ⟨b21, hR⟩ := hR
          refine laM_6 hx hb hK hP b21 d_Model_checkHead_161 ?_
          replace hR := bi_e hR
          obtain ⟨r22, l22, T22, hc22, hR⟩ := hR
          refine gcV_v (rest := []) ⟨hx, hb, hml, hown, hT⟩ (h_Model_fail _ _ _ _ _ _ hc22) (cwV 2 hT (gV ml_Model_381 im_Model_fail se_Model_fail ini_Model co_Model_fail) rfl rfl rfl pd_Model_fail ⟨rm_hi, rm_lo (Nat.le_of_ble_eq_true rfl)⟩) hK hP hD hS hA hnw henv (Nat.le_of_ble_eq_true rfl) rfl rfl hl.1 rfl (Nat.le_of_ble_eq_true rfl) d_Model_checkHead_162 ⟨Nat.le_refl _, Nat.le_refl _⟩ (fun H locs hP hD hS => ?_)
          clear hc22
          obtain ⟨z23, e23⟩ : ∃ y : Int32, y = x3 + (1 : Int32) := ⟨_, rfl⟩
          replace hR := vK_e e23 hR
          refine lv_iinc (v := z23) (lv' := [(3, .int z23), (0, .ref (ad 0)), (1, .int x1), (4, .int x4), (5, .int x5)]) hx hb d_Model_checkHead_165 hl (k := 2) rfl (by rw [e23]; rfl) (by decide) rfl (fun ls hl => ?_)
          refine lv_goto (tgt := 52) hx hb d_Model_checkHead_168 (by decide) ?_
          have g := hrec_52 T22 x1 z23 hR
          rw [hG] at g
          exact g _ _ hP hD hS _ (lv_sub hl [1, 2, 0] rfl)
      · replace hR := if_n c18 hR
        refine lv_iload hx hb d_Model_checkHead_102 (lv_at hl 3 rfl) ?_
        refine lv_if_ne (tgt := 132) hx hb d_Model_checkHead_104 (by decide) (fun c24 => ?_) (fun c24 => ?_)
        · replace hR := if_n c24 hR
          refine lv_iconst (v := 1) hx hb d_Model_checkHead_132 (by decide) ?_
          refine lv_goto (tgt := 137) hx hb d_Model_checkHead_133 (by decide) ?_
          refine lv_istore (lv' := [(4, .int (1 : Int32)), (0, .ref (ad 0)), (1, .int x1), (3, .int x3), (5, .int x5)]) hx hb d_Model_checkHead_137 hl (by decide) rfl (fun ls hl => ?_)
          obtain ⟨z25, e25⟩ : ∃ y : Int32, y = x5 + (1 : Int32) := ⟨_, rfl⟩
          replace hR := vK_e e25 hR
          refine lv_iinc (v := z25) (lv' := [(5, .int z25), (4, .int (1 : Int32)), (0, .ref (ad 0)), (1, .int x1), (3, .int x3)]) hx hb d_Model_checkHead_139 hl (k := 4) rfl (by rw [e25]; rfl) (by decide) rfl (fun ls hl => ?_)
          refine lv_goto (tgt := 96) hx hb d_Model_checkHead_142 (by decide) ?_
          have g := ih T x1 x3 (1 : Int32) z25 hR
          rw [hG] at g
          exact g _ _ hP hD hS _ (lv_sub hl [2, 3, 4, 1, 0] rfl)
        · replace hR := if_p c24 hR
          refine lv_aload_n hx hb d_Model_checkHead_107 rfl (lv_at hl 0 rfl) ?_
          refine rd_Model_30 hx hb hT hown hK hP d_Model_checkHead_108 ?_
          refine lv_iconst (v := 3) hx hb d_Model_checkHead_111 (by decide) ?_
          refine lv_iload_n hx hb d_Model_checkHead_112 rfl (lv_at hl 1 rfl) ?_
          refine lv_imul hx hb d_Model_checkHead_113 ?_
          refine lv_iload hx hb d_Model_checkHead_114 (lv_at hl 4 rfl) ?_
          refine lv_iadd hx hb d_Model_checkHead_116 ?_
          replace hR := gd_e hR
          obtain ⟨b26, hR⟩ := hR
          refine laM_5 hx hb hK hP b26 d_Model_checkHead_117 ?_
          refine lv_aload_n hx hb d_Model_checkHead_118 rfl (lv_at hl 0 rfl) ?_
          refine rd_Model_30 hx hb hT hown hK hP d_Model_checkHead_119 ?_
          refine lv_iconst (v := 3) hx hb d_Model_checkHead_122 (by decide) ?_
          refine lv_iload_n hx hb d_Model_checkHead_123 rfl (lv_at hl 1 rfl) ?_
          refine lv_imul hx hb d_Model_checkHead_124 ?_
          refine lv_iload_n hx hb d_Model_checkHead_125 rfl (lv_at hl 2 rfl) ?_
          refine lv_iadd hx hb d_Model_checkHead_126 ?_
          replace hR := gd_e hR
          obtain ⟨b27, hR⟩ := hR
          refine laM_5 hx hb hK hP b27 d_Model_checkHead_127 ?_
          refine W.lcmp hx hb d_Model_checkHead_128 ?_
          refine lv_if_ne (tgt := 136) hx hb d_Model_checkHead_129 (by decide) (fun c28 => ?_) (fun c28 => ?_)
          · replace hR := if_n c28 hR
            refine lv_iconst (v := 0) hx hb d_Model_checkHead_136 (by decide) ?_
            refine lv_istore (lv' := [(4, .int (0 : Int32)), (0, .ref (ad 0)), (1, .int x1), (3, .int x3), (5, .int x5)]) hx hb d_Model_checkHead_137 hl (by decide) rfl (fun ls hl => ?_)
            obtain ⟨z29, e29⟩ : ∃ y : Int32, y = x5 + (1 : Int32) := ⟨_, rfl⟩
            replace hR := vK_e e29 hR
            refine lv_iinc (v := z29) (lv' := [(5, .int z29), (4, .int (0 : Int32)), (0, .ref (ad 0)), (1, .int x1), (3, .int x3)]) hx hb d_Model_checkHead_139 hl (k := 4) rfl (by rw [e29]; rfl) (by decide) rfl (fun ls hl => ?_)
            refine lv_goto (tgt := 96) hx hb d_Model_checkHead_142 (by decide) ?_
            have g := ih T x1 x3 (0 : Int32) z29 hR
            rw [hG] at g
            exact g _ _ hP hD hS _ (lv_sub hl [2, 3, 4, 1, 0] rfl)
          · replace hR := if_p c28 hR
            refine lv_iconst (v := 1) hx hb d_Model_checkHead_132 (by decide) ?_
            refine lv_goto (tgt := 137) hx hb d_Model_checkHead_133 (by decide) ?_
            refine lv_istore (lv' := [(4, .int (1 : Int32)), (0, .ref (ad 0)), (1, .int x1), (3, .int x3), (5, .int x5)]) hx hb d_Model_checkHead_137 hl (by decide) rfl (fun ls hl => ?_)
            obtain ⟨z30, e30⟩ : ∃ y : Int32, y = x5 + (1 : Int32) := ⟨_, rfl⟩
            replace hR := vK_e e30 hR
            refine lv_iinc (v := z30) (lv' := [(5, .int z30), (4, .int (1 : Int32)), (0, .ref (ad 0)), (1, .int x1), (3, .int x3)]) hx hb d_Model_checkHead_139 hl (k := 4) rfl (by rw [e30]; rfl) (by decide) rfl (fun ls hl => ?_)
            refine lv_goto (tgt := 96) hx hb d_Model_checkHead_142 (by decide) ?_
            have g := ih T x1 x3 (1 : Int32) z30 hR
            rw [hG] at g
            exact g _ _ hP hD hS _ (lv_sub hl [2, 3, 4, 1, 0] rfl)
  have lb_52 : ∀ (n : Nat) (T : gSt) (x1 : Int32) (x3 : Int32), rl_Model_checkHead_52 F nf n T x1 x3 = some (r0, rl0, T9) → G 52 [(0, .ref (ad 0)), (1, .int x1), (3, .int x3)] [] T := by
    intro n
    induction n with
    | zero => intro T x1 x3 hR; rw [rl_Model_checkHead_52] at hR; cases hR
    | succ n ih =>
      intro T x1 x3 hR; rw [rl_Model_checkHead_52] at hR; rw [hG]; intro H locs hP hD hS ls hl
      refine lv_iload_n hx hb d_Model_checkHead_52 rfl (lv_at hl 2 rfl) ?_
      refine lv_aload_n hx hb d_Model_checkHead_53 rfl (lv_at hl 0 rfl) ?_
      refine rd_Model_27 hx hb hT hown hK hP d_Model_checkHead_54 ?_
      refine lv_iload_n hx hb d_Model_checkHead_57 rfl (lv_at hl 1 rfl) ?_
      replace hR := gd_e hR
      obtain ⟨b10, hR⟩ := hR
      refine laM_4 hx hb hK hP b10 d_Model_checkHead_58 ?_
      refine lv_icmp_ge (tgt := 171) hx hb d_Model_checkHead_59 (by decide) (fun c11 => ?_) (fun c11 => ?_)
      · replace hR := if_p c11 hR
        refine lv_aload_n hx hb d_Model_checkHead_171 rfl (lv_at hl 0 rfl) ?_
        refine lv_iload_n hx hb d_Model_checkHead_172 rfl (lv_at hl 1 rfl) ?_
        replace hR := bi_e hR
        obtain ⟨r12, l12, T12, hc12, hR⟩ := hR
        refine gcV_v (rest := []) ⟨hx, hb, hml, hown, hT⟩ (h_Model_seeRegions _ _ _ _ _ hc12) (cwV 1 hT (gV ml_Model_609 im_Model_seeRegions se_Model_seeRegions ini_Model co_Model_seeRegions) rfl rfl rfl pd_Model_seeRegions ⟨rm_hi, rm_lo (Nat.le_of_ble_eq_true rfl)⟩) hK hP hD hS hA hnw henv (Nat.le_of_ble_eq_true rfl) rfl rfl hl.1 rfl (Nat.le_of_ble_eq_true rfl) d_Model_checkHead_173 ⟨Nat.le_refl _, Nat.le_refl _⟩ (fun H locs hP hD hS => ?_)
        clear hc12
        refine lv_iconst (v := 0) hx hb d_Model_checkHead_176 (by decide) ?_
        refine lv_istore_n (lv' := [(3, .int (0 : Int32)), (0, .ref (ad 0)), (1, .int x1)]) hx hb d_Model_checkHead_177 rfl hl (by decide) rfl (fun ls hl => ?_)
        have g := lb_178 nf T12 x1 (0 : Int32) hR
        rw [hG] at g
        exact g _ _ hP hD hS _ (lv_sub hl [1, 2, 0] rfl)
      · replace hR := if_n c11 hR
        refine lv_aload_n hx hb d_Model_checkHead_62 rfl (lv_at hl 0 rfl) ?_
        replace hR := bi_e hR
        obtain ⟨r13, l13, T13, hc13, hR⟩ := hR
        refine gcV_i (rest := []) ⟨hx, hb, hml, hown, hT⟩ (h_Model_bad _ _ _ _ hc13) (cwV 0 hT (gV ml_Model_385 im_Model_bad se_Model_bad ini_Model co_Model_bad) rfl rfl rfl pd_Model_bad ⟨rm_hi, rm_lo (Nat.le_of_ble_eq_true rfl)⟩) hK hP hD hS hA hnw henv (Nat.le_of_ble_eq_true rfl) rfl rfl hl.1 rfl (Nat.le_of_ble_eq_true rfl) d_Model_checkHead_63 ⟨Nat.le_refl _, Nat.le_refl _⟩ (fun H locs hP hD hS => ?_)
        clear hc13
        refine lv_if_ne (tgt := 171) hx hb d_Model_checkHead_66 (by decide) (fun c14 => ?_) (fun c14 => ?_)
        · replace hR := if_n c14 hR
          refine lv_aload_n hx hb d_Model_checkHead_171 rfl (lv_at hl 0 rfl) ?_
          refine lv_iload_n hx hb d_Model_checkHead_172 rfl (lv_at hl 1 rfl) ?_
          replace hR := bi_e hR
          obtain ⟨r15, l15, T15, hc15, hR⟩ := hR
          refine gcV_v (rest := []) ⟨hx, hb, hml, hown, hT⟩ (h_Model_seeRegions _ _ _ _ _ hc15) (cwV 1 hT (gV ml_Model_609 im_Model_seeRegions se_Model_seeRegions ini_Model co_Model_seeRegions) rfl rfl rfl pd_Model_seeRegions ⟨rm_hi, rm_lo (Nat.le_of_ble_eq_true rfl)⟩) hK hP hD hS hA hnw henv (Nat.le_of_ble_eq_true rfl) rfl rfl hl.1 rfl (Nat.le_of_ble_eq_true rfl) d_Model_checkHead_173 ⟨Nat.le_refl _, Nat.le_refl _⟩ (fun H locs hP hD hS => ?_)
          clear hc15
          refine lv_iconst (v := 0) hx hb d_Model_checkHead_176 (by decide) ?_
          refine lv_istore_n (lv' := [(3, .int (0 : Int32)), (0, .ref (ad 0)), (1, .int x1)]) hx hb d_Model_checkHead_177 rfl hl (by decide) rfl (fun ls hl => ?_)
          have g := lb_178 nf T15 x1 (0 : Int32) hR
          rw [hG] at g
          exact g _ _ hP hD hS _ (lv_sub hl [1, 2, 0] rfl)
        · replace hR := if_p c14 hR
          refine lv_aload_n hx hb d_Model_checkHead_69 rfl (lv_at hl 0 rfl) ?_
          refine rd_Model_30 hx hb hT hown hK hP d_Model_checkHead_70 ?_
          refine lv_iconst (v := 3) hx hb d_Model_checkHead_73 (by decide) ?_
          refine lv_iload_n hx hb d_Model_checkHead_74 rfl (lv_at hl 1 rfl) ?_
          refine lv_imul hx hb d_Model_checkHead_75 ?_
          refine lv_iload_n hx hb d_Model_checkHead_76 rfl (lv_at hl 2 rfl) ?_
          refine lv_iadd hx hb d_Model_checkHead_77 ?_
          replace hR := gd_e hR
          obtain ⟨b16, hR⟩ := hR
          refine laM_5 hx hb hK hP b16 d_Model_checkHead_78 ?_
          refine lv_ldc2 hx hb hown (hT _ k_Model_566) d_Model_checkHead_79 ?_
          refine W.lcmp hx hb d_Model_checkHead_82 ?_
          refine lv_if_ne (tgt := 90) hx hb d_Model_checkHead_83 (by decide) (fun c17 => ?_) (fun c17 => ?_)
          · replace hR := if_n c17 hR
            refine lv_iconst (v := 0) hx hb d_Model_checkHead_90 (by decide) ?_
            refine lv_istore (lv' := [(4, .int (0 : Int32)), (0, .ref (ad 0)), (1, .int x1), (3, .int x3)]) hx hb d_Model_checkHead_91 hl (by decide) rfl (fun ls hl => ?_)
            refine lv_iconst (v := 0) hx hb d_Model_checkHead_93 (by decide) ?_
            refine lv_istore (lv' := [(5, .int (0 : Int32)), (4, .int (0 : Int32)), (0, .ref (ad 0)), (1, .int x1), (3, .int x3)]) hx hb d_Model_checkHead_94 hl (by decide) rfl (fun ls hl => ?_)
            have g := lb_96 (rl_Model_checkHead_52 F nf n) ih nf T13 x1 x3 (0 : Int32) (0 : Int32) hR
            rw [hG] at g
            exact g _ _ hP hD hS _ (lv_sub hl [2, 3, 4, 1, 0] rfl)
          · replace hR := if_p c17 hR
            refine lv_iconst (v := 1) hx hb d_Model_checkHead_86 (by decide) ?_
            refine lv_goto (tgt := 91) hx hb d_Model_checkHead_87 (by decide) ?_
            refine lv_istore (lv' := [(4, .int (1 : Int32)), (0, .ref (ad 0)), (1, .int x1), (3, .int x3)]) hx hb d_Model_checkHead_91 hl (by decide) rfl (fun ls hl => ?_)
            refine lv_iconst (v := 0) hx hb d_Model_checkHead_93 (by decide) ?_
            refine lv_istore (lv' := [(5, .int (0 : Int32)), (4, .int (1 : Int32)), (0, .ref (ad 0)), (1, .int x1), (3, .int x3)]) hx hb d_Model_checkHead_94 hl (by decide) rfl (fun ls hl => ?_)
            have g := lb_96 (rl_Model_checkHead_52 F nf n) ih nf T13 x1 x3 (1 : Int32) (0 : Int32) hR
            rw [hG] at g
            exact g _ _ hP hD hS _ (lv_sub hl [2, 3, 4, 1, 0] rfl)
  have lb_33 : ∀ (T : gSt) (x1 : Int32) (y0 : Int32), rj_Model_checkHead_33 F nf T x1 y0 = some (r0, rl0, T9) → G 33 [(0, .ref (ad 0)), (1, .int x1)] [.int y0] T := by
    intro T x1 y0 hR; unfold rj_Model_checkHead_33 at hR; rw [hG]; intro H locs hP hD hS ls hl
    refine lv_istore_n (lv' := [(2, .int y0), (0, .ref (ad 0)), (1, .int x1)]) hx hb d_Model_checkHead_33 rfl hl (by decide) rfl (fun ls hl => ?_)
    refine lv_iload_n hx hb d_Model_checkHead_34 rfl (lv_at hl 0 rfl) ?_
    refine lv_iload_n hx hb d_Model_checkHead_35 rfl (lv_at hl 2 rfl) ?_
    refine lv_icmp_eq (tgt := 50) hx hb d_Model_checkHead_36 (by decide) (fun c7 => ?_) (fun c7 => ?_)
    · replace hR := if_p c7 hR
      refine lv_iconst (v := 0) hx hb d_Model_checkHead_50 (by decide) ?_
      refine lv_istore_n (lv' := [(3, .int (0 : Int32)), (2, .int y0), (0, .ref (ad 0)), (1, .int x1)]) hx hb d_Model_checkHead_51 rfl hl (by decide) rfl (fun ls hl => ?_)
      have g := lb_52 nf T x1 (0 : Int32) hR
      rw [hG] at g
      exact g _ _ hP hD hS _ (lv_sub hl [2, 3, 0] rfl)
    · replace hR := if_n c7 hR
      refine lv_aload_n hx hb d_Model_checkHead_39 rfl (lv_at hl 1 rfl) ?_
      refine lv_iconst (v := 2) hx hb d_Model_checkHead_40 (by decide) ?_
      refine lv_aload_n hx hb d_Model_checkHead_41 rfl (lv_at hl 1 rfl) ?_
      refine rd_Model_24 hx hb hT hown hK hP d_Model_checkHead_42 ?_
      refine lv_iload_n hx hb d_Model_checkHead_45 rfl (lv_at hl 2 rfl) ?_
      replace hR := gd_e hR
      obtain ⟨b8, hR⟩ := hR
      refine laM_3 hx hb hK hP b8 d_Model_checkHead_46 ?_
      replace hR := bi_e hR
      obtain ⟨r9, l9, T9, hc9, hR⟩ := hR
      refine gcV_v (rest := []) ⟨hx, hb, hml, hown, hT⟩ (h_Model_fail _ _ _ _ _ _ hc9) (cwV 2 hT (gV ml_Model_381 im_Model_fail se_Model_fail ini_Model co_Model_fail) rfl rfl rfl pd_Model_fail ⟨rm_hi, rm_lo (Nat.le_of_ble_eq_true rfl)⟩) hK hP hD hS hA hnw henv (Nat.le_of_ble_eq_true rfl) rfl rfl hl.1 rfl (Nat.le_of_ble_eq_true rfl) d_Model_checkHead_47 ⟨Nat.le_refl _, Nat.le_refl _⟩ (fun H locs hP hD hS => ?_)
      clear hc9
      refine lv_iconst (v := 0) hx hb d_Model_checkHead_50 (by decide) ?_
      refine lv_istore_n (lv' := [(3, .int (0 : Int32)), (2, .int y0), (0, .ref (ad 0)), (1, .int x1)]) hx hb d_Model_checkHead_51 rfl hl (by decide) rfl (fun ls hl => ?_)
      have g := lb_52 nf T9 x1 (0 : Int32) hR
      rw [hG] at g
      exact g _ _ hP hD hS _ (lv_sub hl [2, 3, 0] rfl)
  unfold rb_Model_checkHead at hR
  refine lv_aload_n hx hb d_Model_checkHead_0 rfl (lv_at hl 0 rfl) ?_
  refine rd_Model_17 hx hb hT hown hK hP d_Model_checkHead_1 ?_
  refine lv_iload_n hx hb d_Model_checkHead_4 rfl (lv_at hl 1 rfl) ?_
  replace hR := gd_e hR
  obtain ⟨b1, hR⟩ := hR
  refine laM_1 hx hb hK hP b1 d_Model_checkHead_5 ?_
  refine lv_iconst (v := 2) hx hb d_Model_checkHead_6 (by decide) ?_
  refine lv_icmp_ne (tgt := 23) hx hb d_Model_checkHead_7 (by decide) (fun c2 => ?_) (fun c2 => ?_)
  · replace hR := if_n c2 hR
    refine lv_aload_n hx hb d_Model_checkHead_23 rfl (lv_at hl 0 rfl) ?_
    refine lv_aload_n hx hb d_Model_checkHead_24 rfl (lv_at hl 0 rfl) ?_
    refine rd_Model_20 hx hb hT hown hK hP d_Model_checkHead_25 ?_
    refine lv_iload_n hx hb d_Model_checkHead_28 rfl (lv_at hl 1 rfl) ?_
    replace hR := gd_e hR
    obtain ⟨b3, hR⟩ := hR
    refine laM_2 hx hb hK hP b3 d_Model_checkHead_29 ?_
    replace hR := bi_e hR
    obtain ⟨r4, l4, T4, hc4, hR⟩ := hR
    refine gcV_i (rest := []) ⟨hx, hb, hml, hown, hT⟩ (h_Model_findTitle _ _ _ _ _ hc4) (cwV 1 hT (gV ml_Model_587 im_Model_findTitle se_Model_findTitle ini_Model co_Model_findTitle) rfl rfl rfl pd_Model_findTitle ⟨rm_hi, rm_lo (Nat.le_of_ble_eq_true rfl)⟩) hK hP hD hS hA hnw henv (Nat.le_of_ble_eq_true rfl) rfl rfl hl.1 rfl (Nat.le_of_ble_eq_true rfl) d_Model_checkHead_30 ⟨Nat.le_refl _, Nat.le_refl _⟩ (fun H locs hP hD hS => ?_)
    clear hc4
    have g := lb_33 T4 p1 r4 hR
    rw [hG] at g
    exact g _ _ hP hD hS _ (lv_sub hl [0, 1] rfl)
  · replace hR := if_p c2 hR
    refine lv_aload_n hx hb d_Model_checkHead_10 rfl (lv_at hl 0 rfl) ?_
    refine lv_aload_n hx hb d_Model_checkHead_11 rfl (lv_at hl 0 rfl) ?_
    refine rd_Model_20 hx hb hT hown hK hP d_Model_checkHead_12 ?_
    refine lv_iload_n hx hb d_Model_checkHead_15 rfl (lv_at hl 1 rfl) ?_
    replace hR := gd_e hR
    obtain ⟨b5, hR⟩ := hR
    refine laM_2 hx hb hK hP b5 d_Model_checkHead_16 ?_
    replace hR := bi_e hR
    obtain ⟨r6, l6, T6, hc6, hR⟩ := hR
    refine gcV_i (rest := []) ⟨hx, hb, hml, hown, hT⟩ (h_Model_findFun _ _ _ _ _ hc6) (cwV 1 hT (gV ml_Model_606 im_Model_findFun se_Model_findFun ini_Model co_Model_findFun) rfl rfl rfl pd_Model_findFun ⟨rm_hi, rm_lo (Nat.le_of_ble_eq_true rfl)⟩) hK hP hD hS hA hnw henv (Nat.le_of_ble_eq_true rfl) rfl rfl hl.1 rfl (Nat.le_of_ble_eq_true rfl) d_Model_checkHead_17 ⟨Nat.le_refl _, Nat.le_refl _⟩ (fun H locs hP hD hS => ?_)
    clear hc6
    refine lv_goto (tgt := 33) hx hb d_Model_checkHead_20 (by decide) ?_
    have g := lb_33 T6 p1 r6 hR
    rw [hG] at g
    exact g _ _ hP hD hS _ (lv_sub hl [0, 1] rfl)
set_option maxHeartbeats 4000000 in
set_option maxRecDepth 100000 in
theorem sp_Model_checkHeads (l : Launch) (dC : Nat → ClassId) (dI : Nat → Nat → Nat) (ea ev ad : Nat → Nat) (km : Nat → ClassId) (F : gF) (nf d : Nat) (h_Model_bad : mt_Model_bad l dC dI ea ev ad km F d) (h_Model_checkHead : mt_Model_checkHead l dC dI ea ev ad km F d) (h_Model_packed : mt_Model_packed l dC dI ea ev ad km F d) (h_Model_findFun : mt_Model_findFun l dC dI ea ev ad km F d) (h_Model_fail : mt_Model_fail l dC dI ea ev ad km F d) (T0 : gSt) (r0 : Int32) (rl0 : Int64) (T9 : gSt) (hR : rb_Model_checkHeads F nf T0 = some (r0, rl0, T9)) : GMv l dC dI LM ad km ea ev y_Model_checkHeads w_Model_checkHeads (rmD (d + 1)) [.ref (ad 0)] T0 T9 := by
  intro sz
  refine Met.ofW (cc := b_Model_checkHeads) (maxL := 2) (ret := none) (by decide) rfl ?_
  intro p e s m args below meth c s₁ B hml hv
  obtain ⟨rfl, hsz, hP, hK, hD0, hnw, henv⟩ := hv
  have hx := B.exec
  have hb := B.bytes
  have hr := B.returns
  have hT : ∀ w ∈ lw_good, w.before _ s = true := fun w h => atoms_spec (ws := w_Model_checkHeads) B.pre w (List.mem_cons_of_mem _ h)
  have hown : s.vm.findClass R_Model = some m.cls := findClass_of_methodNamed B.named
  subst hsz
  have hD := hD0.self (sz := s.heap.size)
  clear hD0
  generalize hAe : va_A (gW LM ad km T0) s.heap.size = A at hD henv ⊢
  have hA : ∀ q : Nat, s.heap.size ≤ q → A q := fun q h => by rw [← hAe]; exact Or.inr h
  have hS : va_S A s.heap s.heap [] := va_S.rf
  have hl := lv_entry ([.ref (ad 0)]) (n := 2) (Nat.le_of_ble_eq_true rfl)
  rw [lg_entry_eq]
  generalize (lg_sl ([.ref (ad 0)]) ++ List.replicate (2 - (lg_sl ([.ref (ad 0)])).length) Slot.unset).toArray = ls at hl ⊢
  have hl : lv_has ls 2 [(0, .ref (ad 0))] := hl
  obtain ⟨G, hG⟩ : ∃ G : Nat → List (Nat × Value) → List Value → gSt → Prop, G = (fun pc lv stk T => ∀ (H : Heap) (locs : List Loc), va_P (dC, dI) cls_all (gW LM ad km T) H → va_D A (gW LM ad km T) → va_S A s.heap H locs → ∀ (ls : Array Slot), lv_has ls 2 lv → W p l e (headSpec w_Model_checkHeads (rmD (d + 1))).room s m ([.ref (ad 0)] : List Value).toArray below meth c H locs 0 0 (MQ below (va_Qv (fun (_ : Unit) => True) (fun _ t => gPost dC dI LM ad km T9 A t) A) ([.ref (ad 0)] : List Value).toArray s 0 0 A) (F0 m pc ls stk)) := ⟨_, rfl⟩
  have lb_33 : ∀ (T : gSt), rj_Model_checkHeads_33 F nf T = some (r0, rl0, T9) → G 33 [(0, .ref (ad 0))] [] T := by
    intro T hR; unfold rj_Model_checkHeads_33 at hR; rw [hG]; intro H locs hP hD hS ls hl
    refine lv_aload_n hx hb d_Model_checkHeads_33 rfl (lv_at hl 0 rfl) ?_
    refine gldcw (own := R_Model) (index := 622) (q := ea 32) hx hb hown (henv.2.2 32 (by decide)).2 d_Model_checkHeads_34 ?_
    replace hR := bi_e hR
    obtain ⟨r7, l7, T7, hc7, hR⟩ := hR
    refine gcS_l (rest := [.ref (ad 0)]) ⟨hx, hb, hml, hown, hT⟩ (h_Model_packed _ 32 _ _ _ (by first | decide | assumption) hc7) (va_cwS 1 hT (gS ml_Model_389 st_Model_packed ini_Model co_Model_packed) rfl rfl rfl pd_Model_packed ⟨rm_hi, rm_lo (Nat.le_of_ble_eq_true rfl)⟩) hK hP hD hS hA hnw henv rfl hl.1 rfl (Nat.le_of_ble_eq_true rfl) d_Model_checkHeads_37 ⟨Nat.le_refl _, Nat.le_refl _⟩ (fun H locs hP hD hS => ?_)
    clear hc7
    replace hR := bi_e hR
    obtain ⟨r8, l8, T8, hc8, hR⟩ := hR
    refine gcV_i (rest := []) ⟨hx, hb, hml, hown, hT⟩ (h_Model_findFun _ _ _ _ _ hc8) (cwV 1 hT (gV ml_Model_606 im_Model_findFun se_Model_findFun ini_Model co_Model_findFun) rfl rfl rfl pd_Model_findFun ⟨rm_hi, rm_lo (Nat.le_of_ble_eq_true rfl)⟩) hK hP hD hS hA hnw henv (Nat.le_of_ble_eq_true rfl) rfl rfl hl.1 rfl (Nat.le_of_ble_eq_true rfl) d_Model_checkHeads_40 ⟨Nat.le_refl _, Nat.le_refl _⟩ (fun H locs hP hD hS => ?_)
    clear hc8
    refine lv_istore_n (lv' := [(1, .int r8), (0, .ref (ad 0))]) hx hb d_Model_checkHeads_43 rfl hl (by decide) rfl (fun ls hl => ?_)
    refine lv_iload_n hx hb d_Model_checkHeads_44 rfl (lv_at hl 0 rfl) ?_
    refine lv_if_lt (tgt := 75) hx hb d_Model_checkHeads_45 (by decide) (fun c9 => ?_) (fun c9 => ?_)
    · replace hR := if_p c9 hR
      refine lv_aload_n hx hb d_Model_checkHeads_75 rfl (lv_at hl 1 rfl) ?_
      refine lv_bipush (v := 8) hx hb d_Model_checkHeads_76 (by decide) ?_
      refine lv_aload_n hx hb d_Model_checkHeads_78 rfl (lv_at hl 1 rfl) ?_
      refine rd_Model_313 hx hb hT hown hK hP d_Model_checkHeads_79 ?_
      replace hR := bi_e hR
      obtain ⟨r10, l10, T10, hc10, hR⟩ := hR
      refine gcV_v (rest := []) ⟨hx, hb, hml, hown, hT⟩ (h_Model_fail _ _ _ _ _ _ hc10) (cwV 2 hT (gV ml_Model_381 im_Model_fail se_Model_fail ini_Model co_Model_fail) rfl rfl rfl pd_Model_fail ⟨rm_hi, rm_lo (Nat.le_of_ble_eq_true rfl)⟩) hK hP hD hS hA hnw henv (Nat.le_of_ble_eq_true rfl) rfl rfl hl.1 rfl (Nat.le_of_ble_eq_true rfl) d_Model_checkHeads_82 ⟨Nat.le_refl _, Nat.le_refl _⟩ (fun H locs hP hD hS => ?_)
      clear hc10
      obtain ⟨-, -, e3⟩ := re_e hR
      subst e3
      exact W.vret hx hb hr (fun t ht hW => ⟨⟨(), rfl, trivial, by rw [ht]; exact hP, va_K.moved hW.alike hK, hD⟩, hS.F ht⟩) hS.2.2 d_Model_checkHeads_85
    · replace hR := if_n c9 hR
      refine lv_aload_n hx hb d_Model_checkHeads_48 rfl (lv_at hl 1 rfl) ?_
      refine rd_Model_27 hx hb hT hown hK hP d_Model_checkHeads_49 ?_
      refine lv_iload_n hx hb d_Model_checkHeads_52 rfl (lv_at hl 0 rfl) ?_
      replace hR := gd_e hR
      obtain ⟨b11, hR⟩ := hR
      refine laM_4 hx hb hK hP b11 d_Model_checkHeads_53 ?_
      refine lv_if_gt (tgt := 75) hx hb d_Model_checkHeads_54 (by decide) (fun c12 => ?_) (fun c12 => ?_)
      · replace hR := if_p c12 hR
        refine lv_aload_n hx hb d_Model_checkHeads_75 rfl (lv_at hl 1 rfl) ?_
        refine lv_bipush (v := 8) hx hb d_Model_checkHeads_76 (by decide) ?_
        refine lv_aload_n hx hb d_Model_checkHeads_78 rfl (lv_at hl 1 rfl) ?_
        refine rd_Model_313 hx hb hT hown hK hP d_Model_checkHeads_79 ?_
        replace hR := bi_e hR
        obtain ⟨r13, l13, T13, hc13, hR⟩ := hR
        refine gcV_v (rest := []) ⟨hx, hb, hml, hown, hT⟩ (h_Model_fail _ _ _ _ _ _ hc13) (cwV 2 hT (gV ml_Model_381 im_Model_fail se_Model_fail ini_Model co_Model_fail) rfl rfl rfl pd_Model_fail ⟨rm_hi, rm_lo (Nat.le_of_ble_eq_true rfl)⟩) hK hP hD hS hA hnw henv (Nat.le_of_ble_eq_true rfl) rfl rfl hl.1 rfl (Nat.le_of_ble_eq_true rfl) d_Model_checkHeads_82 ⟨Nat.le_refl _, Nat.le_refl _⟩ (fun H locs hP hD hS => ?_)
        clear hc13
        obtain ⟨-, -, e3⟩ := re_e hR
        subst e3
        exact W.vret hx hb hr (fun t ht hW => ⟨⟨(), rfl, trivial, by rw [ht]; exact hP, va_K.moved hW.alike hK, hD⟩, hS.F ht⟩) hS.2.2 d_Model_checkHeads_85
      · replace hR := if_n c12 hR
        refine lv_aload_n hx hb d_Model_checkHeads_57 rfl (lv_at hl 1 rfl) ?_
        refine rd_Model_39 hx hb hT hown hK hP d_Model_checkHeads_58 ?_
        refine lv_iload_n hx hb d_Model_checkHeads_61 rfl (lv_at hl 0 rfl) ?_
        replace hR := gd_e hR
        obtain ⟨b14, hR⟩ := hR
        refine laM_8 hx hb hK hP b14 d_Model_checkHeads_62 ?_
        refine lv_if_gt (tgt := 75) hx hb d_Model_checkHeads_63 (by decide) (fun c15 => ?_) (fun c15 => ?_)
        · replace hR := if_p c15 hR
          refine lv_aload_n hx hb d_Model_checkHeads_75 rfl (lv_at hl 1 rfl) ?_
          refine lv_bipush (v := 8) hx hb d_Model_checkHeads_76 (by decide) ?_
          refine lv_aload_n hx hb d_Model_checkHeads_78 rfl (lv_at hl 1 rfl) ?_
          refine rd_Model_313 hx hb hT hown hK hP d_Model_checkHeads_79 ?_
          replace hR := bi_e hR
          obtain ⟨r16, l16, T16, hc16, hR⟩ := hR
          refine gcV_v (rest := []) ⟨hx, hb, hml, hown, hT⟩ (h_Model_fail _ _ _ _ _ _ hc16) (cwV 2 hT (gV ml_Model_381 im_Model_fail se_Model_fail ini_Model co_Model_fail) rfl rfl rfl pd_Model_fail ⟨rm_hi, rm_lo (Nat.le_of_ble_eq_true rfl)⟩) hK hP hD hS hA hnw henv (Nat.le_of_ble_eq_true rfl) rfl rfl hl.1 rfl (Nat.le_of_ble_eq_true rfl) d_Model_checkHeads_82 ⟨Nat.le_refl _, Nat.le_refl _⟩ (fun H locs hP hD hS => ?_)
          clear hc16
          obtain ⟨-, -, e3⟩ := re_e hR
          subst e3
          exact W.vret hx hb hr (fun t ht hW => ⟨⟨(), rfl, trivial, by rw [ht]; exact hP, va_K.moved hW.alike hK, hD⟩, hS.F ht⟩) hS.2.2 d_Model_checkHeads_85
        · replace hR := if_n c15 hR
          refine lv_aload_n hx hb d_Model_checkHeads_66 rfl (lv_at hl 1 rfl) ?_
          refine rd_Model_54 hx hb hT hown hK hP d_Model_checkHeads_67 ?_
          refine lv_iload_n hx hb d_Model_checkHeads_70 rfl (lv_at hl 0 rfl) ?_
          replace hR := gd_e hR
          obtain ⟨b17, hR⟩ := hR
          refine laM_13 hx hb hK hP b17 d_Model_checkHeads_71 ?_
          refine lv_if_lt (tgt := 85) hx hb d_Model_checkHeads_72 (by decide) (fun c18 => ?_) (fun c18 => ?_)
          · replace hR := if_p c18 hR
            obtain ⟨-, -, e3⟩ := re_e hR
            subst e3
            exact W.vret hx hb hr (fun t ht hW => ⟨⟨(), rfl, trivial, by rw [ht]; exact hP, va_K.moved hW.alike hK, hD⟩, hS.F ht⟩) hS.2.2 d_Model_checkHeads_85
          · replace hR := if_n c18 hR
            refine lv_aload_n hx hb d_Model_checkHeads_75 rfl (lv_at hl 1 rfl) ?_
            refine lv_bipush (v := 8) hx hb d_Model_checkHeads_76 (by decide) ?_
            refine lv_aload_n hx hb d_Model_checkHeads_78 rfl (lv_at hl 1 rfl) ?_
            refine rd_Model_313 hx hb hT hown hK hP d_Model_checkHeads_79 ?_
            replace hR := bi_e hR
            obtain ⟨r19, l19, T19, hc19, hR⟩ := hR
            refine gcV_v (rest := []) ⟨hx, hb, hml, hown, hT⟩ (h_Model_fail _ _ _ _ _ _ hc19) (cwV 2 hT (gV ml_Model_381 im_Model_fail se_Model_fail ini_Model co_Model_fail) rfl rfl rfl pd_Model_fail ⟨rm_hi, rm_lo (Nat.le_of_ble_eq_true rfl)⟩) hK hP hD hS hA hnw henv (Nat.le_of_ble_eq_true rfl) rfl rfl hl.1 rfl (Nat.le_of_ble_eq_true rfl) d_Model_checkHeads_82 ⟨Nat.le_refl _, Nat.le_refl _⟩ (fun H locs hP hD hS => ?_)
            clear hc19
            obtain ⟨-, -, e3⟩ := re_e hR
            subst e3
            exact W.vret hx hb hr (fun t ht hW => ⟨⟨(), rfl, trivial, by rw [ht]; exact hP, va_K.moved hW.alike hK, hD⟩, hS.F ht⟩) hS.2.2 d_Model_checkHeads_85
  have lb_7 : ∀ (n : Nat) (T : gSt) (x1 : Int32), rl_Model_checkHeads_7 F nf n T x1 = some (r0, rl0, T9) → G 7 [(0, .ref (ad 0)), (1, .int x1)] [] T := by
    intro n
    induction n with
    | zero => intro T x1 hR; rw [rl_Model_checkHeads_7] at hR; cases hR
    | succ n ih =>
      intro T x1 hR; rw [rl_Model_checkHeads_7] at hR; rw [hG]; intro H locs hP hD hS ls hl
      refine lv_iload_n hx hb d_Model_checkHeads_7 rfl (lv_at hl 1 rfl) ?_
      refine lv_aload_n hx hb d_Model_checkHeads_8 rfl (lv_at hl 0 rfl) ?_
      refine rd_Model_412 hx hb hT hown hK hP d_Model_checkHeads_9 ?_
      refine lv_icmp_ge (tgt := 33) hx hb d_Model_checkHeads_12 (by decide) (fun c2 => ?_) (fun c2 => ?_)
      · replace hR := if_p c2 hR
        have g := lb_33 T hR
        rw [hG] at g
        exact g _ _ hP hD hS _ (lv_sub hl [0] rfl)
      · replace hR := if_n c2 hR
        refine lv_aload_n hx hb d_Model_checkHeads_15 rfl (lv_at hl 0 rfl) ?_
        replace hR := bi_e hR
        obtain ⟨r3, l3, T3, hc3, hR⟩ := hR
        refine gcV_i (rest := []) ⟨hx, hb, hml, hown, hT⟩ (h_Model_bad _ _ _ _ hc3) (cwV 0 hT (gV ml_Model_385 im_Model_bad se_Model_bad ini_Model co_Model_bad) rfl rfl rfl pd_Model_bad ⟨rm_hi, rm_lo (Nat.le_of_ble_eq_true rfl)⟩) hK hP hD hS hA hnw henv (Nat.le_of_ble_eq_true rfl) rfl rfl hl.1 rfl (Nat.le_of_ble_eq_true rfl) d_Model_checkHeads_16 ⟨Nat.le_refl _, Nat.le_refl _⟩ (fun H locs hP hD hS => ?_)
        clear hc3
        refine lv_if_ne (tgt := 33) hx hb d_Model_checkHeads_19 (by decide) (fun c4 => ?_) (fun c4 => ?_)
        · replace hR := if_n c4 hR
          have g := lb_33 T3 hR
          rw [hG] at g
          exact g _ _ hP hD hS _ (lv_sub hl [0] rfl)
        · replace hR := if_p c4 hR
          refine lv_aload_n hx hb d_Model_checkHeads_22 rfl (lv_at hl 0 rfl) ?_
          refine lv_iload_n hx hb d_Model_checkHeads_23 rfl (lv_at hl 1 rfl) ?_
          replace hR := bi_e hR
          obtain ⟨r5, l5, T5, hc5, hR⟩ := hR
          refine gcV_v (rest := []) ⟨hx, hb, hml, hown, hT⟩ (h_Model_checkHead _ _ _ _ _ hc5) (cwV 1 hT (gV ml_Model_619 im_Model_checkHead se_Model_checkHead ini_Model co_Model_checkHead) rfl rfl rfl pd_Model_checkHead ⟨rm_hi, rm_lo (Nat.le_of_ble_eq_true rfl)⟩) hK hP hD hS hA hnw henv (Nat.le_of_ble_eq_true rfl) rfl rfl hl.1 rfl (Nat.le_of_ble_eq_true rfl) d_Model_checkHeads_24 ⟨Nat.le_refl _, Nat.le_refl _⟩ (fun H locs hP hD hS => ?_)
          clear hc5
          obtain ⟨z6, e6⟩ : ∃ y : Int32, y = x1 + (1 : Int32) := ⟨_, rfl⟩
          replace hR := vK_e e6 hR
          refine lv_iinc (v := z6) (lv' := [(1, .int z6), (0, .ref (ad 0))]) hx hb d_Model_checkHeads_27 hl (k := 1) rfl (by rw [e6]; rfl) (by decide) rfl (fun ls hl => ?_)
          refine lv_goto (tgt := 7) hx hb d_Model_checkHeads_30 (by decide) ?_
          have g := ih T5 z6 hR
          rw [hG] at g
          exact g _ _ hP hD hS _ (lv_sub hl [1, 0] rfl)
  unfold rb_Model_checkHeads at hR
  refine lv_aload_n hx hb d_Model_checkHeads_0 rfl (lv_at hl 0 rfl) ?_
  refine lv_iconst (v := 1) hx hb d_Model_checkHeads_1 (by decide) ?_
  refine wr_Model_547 hx hb hT hown hK hP hD hS d_Model_checkHeads_2 (fun T1 eT H locs hP hD hS => ?_)
  replace hR := stK_e eT hR
  clear eT
  refine lv_iconst (v := 0) hx hb d_Model_checkHeads_5 (by decide) ?_
  refine lv_istore_n (lv' := [(1, .int (0 : Int32)), (0, .ref (ad 0))]) hx hb d_Model_checkHeads_6 rfl hl (by decide) rfl (fun ls hl => ?_)
  have g := lb_7 nf T1 (0 : Int32) hR
  rw [hG] at g
  exact g _ _ hP hD hS _ (lv_sub hl [1, 0] rfl)
