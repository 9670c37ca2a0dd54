abbrev b_Model_makeRow : ByteArray := prog_14_method_126_code
abbrev y_Model_makeRow : MethodName := ⟨R_Model, "makeRow", "(II)V"⟩
theorem co_Model_makeRow : Cond.code y_Model_makeRow b_Model_makeRow 6 none ∈ lw_good := lg_in (tin_12 _ (List.mem_of_getElem? (i := 158) rfl)) rfl
abbrev w_Model_makeRow : List Cond := Cond.code y_Model_makeRow b_Model_makeRow 6 none :: lw_good
theorem im_Model_makeRow : Cond.instanceMethod y_Model_makeRow ∈ lw_good := lg_right (i := 2797) (by decide +kernel) rfl
theorem se_Model_makeRow : Cond.selects R_Model y_Model_makeRow y_Model_makeRow ∈ lw_good := lg_left (i := 223) (by decide +kernel) rfl
theorem d_Model_makeRow_0 : decode b_Model_makeRow 0 = .ok (.aload_n 0, 1) := by decide +kernel
theorem d_Model_makeRow_1 : decode b_Model_makeRow 1 = .ok (.getfield 207, 3) := by decide +kernel
theorem d_Model_makeRow_4 : decode b_Model_makeRow 4 = .ok (.aload_n 0, 1) := by decide +kernel
theorem d_Model_makeRow_5 : decode b_Model_makeRow 5 = .ok (.getfield 799, 3) := by decide +kernel
theorem d_Model_makeRow_8 : decode b_Model_makeRow 8 = .ok (.iconst 2, 1) := by decide +kernel
theorem d_Model_makeRow_9 : decode b_Model_makeRow 9 = .ok (.isub, 1) := by decide +kernel
theorem d_Model_makeRow_10 : decode b_Model_makeRow 10 = .ok (.iaload, 1) := by decide +kernel
theorem d_Model_makeRow_11 : decode b_Model_makeRow 11 = .ok (.istore_n 3, 1) := by decide +kernel
theorem d_Model_makeRow_12 : decode b_Model_makeRow 12 = .ok (.iload_n 3, 1) := by decide +kernel
theorem d_Model_makeRow_13 : decode b_Model_makeRow 13 = .ok (.ifCond .ge 9, 3) := by decide +kernel
theorem d_Model_makeRow_16 : decode b_Model_makeRow 16 = .ok (.aload_n 0, 1) := by decide +kernel
theorem d_Model_makeRow_17 : decode b_Model_makeRow 17 = .ok (.iconst 5, 1) := by decide +kernel
theorem d_Model_makeRow_18 : decode b_Model_makeRow 18 = .ok (.invokevirtual 847, 3) := by decide +kernel
theorem d_Model_makeRow_21 : decode b_Model_makeRow 21 = .ok (.return_, 1) := by decide +kernel
theorem d_Model_makeRow_22 : decode b_Model_makeRow 22 = .ok (.aload_n 0, 1) := by decide +kernel
theorem d_Model_makeRow_23 : decode b_Model_makeRow 23 = .ok (.iload_n 1, 1) := by decide +kernel
theorem d_Model_makeRow_24 : decode b_Model_makeRow 24 = .ok (.iload_n 3, 1) := by decide +kernel
theorem d_Model_makeRow_25 : decode b_Model_makeRow 25 = .ok (.i2l, 1) := by decide +kernel
theorem d_Model_makeRow_26 : decode b_Model_makeRow 26 = .ok (.iload_n 2, 1) := by decide +kernel
theorem d_Model_makeRow_27 : decode b_Model_makeRow 27 = .ok (.i2l, 1) := by decide +kernel
theorem d_Model_makeRow_28 : decode b_Model_makeRow 28 = .ok (.lmul, 1) := by decide +kernel
theorem d_Model_makeRow_29 : decode b_Model_makeRow 29 = .ok (.iload_n 3, 1) := by decide +kernel
theorem d_Model_makeRow_30 : decode b_Model_makeRow 30 = .ok (.invokevirtual 899, 3) := by decide +kernel
theorem d_Model_makeRow_33 : decode b_Model_makeRow 33 = .ok (.istore 4, 2) := by decide +kernel
theorem d_Model_makeRow_35 : decode b_Model_makeRow 35 = .ok (.iload 4, 2) := by decide +kernel
theorem d_Model_makeRow_37 : decode b_Model_makeRow 37 = .ok (.iconst (-1), 1) := by decide +kernel
theorem d_Model_makeRow_38 : decode b_Model_makeRow 38 = .ok (.if_icmp .ne 4, 3) := by decide +kernel
theorem d_Model_makeRow_41 : decode b_Model_makeRow 41 = .ok (.return_, 1) := by decide +kernel
theorem d_Model_makeRow_42 : decode b_Model_makeRow 42 = .ok (.iconst 0, 1) := by decide +kernel
theorem d_Model_makeRow_43 : decode b_Model_makeRow 43 = .ok (.istore 5, 2) := by decide +kernel
theorem d_Model_makeRow_45 : decode b_Model_makeRow 45 = .ok (.iload 5, 2) := by decide +kernel
theorem d_Model_makeRow_47 : decode b_Model_makeRow 47 = .ok (.iload_n 3, 1) := by decide +kernel
theorem d_Model_makeRow_48 : decode b_Model_makeRow 48 = .ok (.if_icmp .ge 30, 3) := by decide +kernel
theorem d_Model_makeRow_51 : decode b_Model_makeRow 51 = .ok (.aload_n 0, 1) := by decide +kernel
theorem d_Model_makeRow_52 : decode b_Model_makeRow 52 = .ok (.iload 4, 2) := by decide +kernel
theorem d_Model_makeRow_54 : decode b_Model_makeRow 54 = .ok (.aload_n 0, 1) := by decide +kernel
theorem d_Model_makeRow_55 : decode b_Model_makeRow 55 = .ok (.getfield 273, 3) := by decide +kernel
theorem d_Model_makeRow_58 : decode b_Model_makeRow 58 = .ok (.iload 4, 2) := by decide +kernel
theorem d_Model_makeRow_60 : decode b_Model_makeRow 60 = .ok (.iaload, 1) := by decide +kernel
theorem d_Model_makeRow_61 : decode b_Model_makeRow 61 = .ok (.iload 5, 2) := by decide +kernel
theorem d_Model_makeRow_63 : decode b_Model_makeRow 63 = .ok (.aload_n 0, 1) := by decide +kernel
theorem d_Model_makeRow_64 : decode b_Model_makeRow 64 = .ok (.getfield 799, 3) := by decide +kernel
theorem d_Model_makeRow_67 : decode b_Model_makeRow 67 = .ok (.iconst 1, 1) := by decide +kernel
theorem d_Model_makeRow_68 : decode b_Model_makeRow 68 = .ok (.isub, 1) := by decide +kernel
theorem d_Model_makeRow_69 : decode b_Model_makeRow 69 = .ok (.invokevirtual 903, 3) := by decide +kernel
theorem d_Model_makeRow_72 : decode b_Model_makeRow 72 = .ok (.iinc 5 1, 3) := by decide +kernel
theorem d_Model_makeRow_75 : decode b_Model_makeRow 75 = .ok (.goto (-30), 3) := by decide +kernel
theorem d_Model_makeRow_78 : decode b_Model_makeRow 78 = .ok (.aload_n 0, 1) := by decide +kernel
theorem d_Model_makeRow_79 : decode b_Model_makeRow 79 = .ok (.dup, 1) := by decide +kernel
theorem d_Model_makeRow_80 : decode b_Model_makeRow 80 = .ok (.getfield 799, 3) := by decide +kernel
theorem d_Model_makeRow_83 : decode b_Model_makeRow 83 = .ok (.iconst 2, 1) := by decide +kernel
theorem d_Model_makeRow_84 : decode b_Model_makeRow 84 = .ok (.isub, 1) := by decide +kernel
theorem d_Model_makeRow_85 : decode b_Model_makeRow 85 = .ok (.putfield 799, 3) := by decide +kernel
theorem d_Model_makeRow_88 : decode b_Model_makeRow 88 = .ok (.aload_n 0, 1) := by decide +kernel
theorem d_Model_makeRow_89 : decode b_Model_makeRow 89 = .ok (.iconst 0, 1) := by decide +kernel
theorem d_Model_makeRow_90 : decode b_Model_makeRow 90 = .ok (.iload 4, 2) := by decide +kernel
theorem d_Model_makeRow_92 : decode b_Model_makeRow 92 = .ok (.iload 4, 2) := by decide +kernel
theorem d_Model_makeRow_94 : decode b_Model_makeRow 94 = .ok (.ifCond .ge 7, 3) := by decide +kernel
theorem d_Model_makeRow_97 : decode b_Model_makeRow 97 = .ok (.iconst 0, 1) := by decide +kernel
theorem d_Model_makeRow_98 : decode b_Model_makeRow 98 = .ok (.goto 10, 3) := by decide +kernel
theorem d_Model_makeRow_101 : decode b_Model_makeRow 101 = .ok (.aload_n 0, 1) := by decide +kernel
theorem d_Model_makeRow_102 : decode b_Model_makeRow 102 = .ok (.getfield 273, 3) := by decide +kernel
theorem d_Model_makeRow_105 : decode b_Model_makeRow 105 = .ok (.iload 4, 2) := by decide +kernel
theorem d_Model_makeRow_107 : decode b_Model_makeRow 107 = .ok (.iaload, 1) := by decide +kernel
theorem d_Model_makeRow_108 : decode b_Model_makeRow 108 = .ok (.invokevirtual 857, 3) := by decide +kernel
theorem d_Model_makeRow_111 : decode b_Model_makeRow 111 = .ok (.aload_n 0, 1) := by decide +kernel
theorem d_Model_makeRow_112 : decode b_Model_makeRow 112 = .ok (.getfield 216, 3) := by decide +kernel
theorem d_Model_makeRow_115 : decode b_Model_makeRow 115 = .ok (.aload_n 0, 1) := by decide +kernel
theorem d_Model_makeRow_116 : decode b_Model_makeRow 116 = .ok (.getfield 799, 3) := by decide +kernel
theorem d_Model_makeRow_119 : decode b_Model_makeRow 119 = .ok (.iconst 1, 1) := by decide +kernel
theorem d_Model_makeRow_120 : decode b_Model_makeRow 120 = .ok (.isub, 1) := by decide +kernel
theorem d_Model_makeRow_121 : decode b_Model_makeRow 121 = .ok (.iload_n 3, 1) := by decide +kernel
theorem d_Model_makeRow_122 : decode b_Model_makeRow 122 = .ok (.iastore, 1) := by decide +kernel
theorem d_Model_makeRow_123 : decode b_Model_makeRow 123 = .ok (.return_, 1) := by decide +kernel
abbrev b_Model_build : ByteArray := prog_14_method_129_code
abbrev y_Model_build : MethodName := ⟨R_Model, "build", "()I"⟩
theorem co_Model_build : Cond.code y_Model_build b_Model_build 2 (some .int) ∈ lw_good := lg_in (tin_10 _ (List.mem_of_getElem? (i := 134) rfl)) rfl
abbrev w_Model_build : List Cond := Cond.code y_Model_build b_Model_build 2 (some .int) :: lw_good
theorem im_Model_build : Cond.instanceMethod y_Model_build ∈ lw_good := lg_right (i := 2292) (by decide +kernel) rfl
theorem se_Model_build : Cond.selects R_Model y_Model_build y_Model_build ∈ lw_good := lg_right (i := 2293) (by decide +kernel) rfl
theorem d_Model_build_0 : decode b_Model_build 0 = .ok (.aload_n 0, 1) := by decide +kernel
theorem d_Model_build_1 : decode b_Model_build 1 = .ok (.invokevirtual 909, 3) := by decide +kernel
theorem ml_Model_909 : Cond.methodLink R_Model 909 ⟨"PointerHouseModel", "stopAll", "()V"⟩ ∈ lw_good := lg_right (i := 2295) (by decide +kernel) rfl
theorem d_Model_build_4 : decode b_Model_build 4 = .ok (.aload_n 0, 1) := by decide +kernel
theorem d_Model_build_5 : decode b_Model_build 5 = .ok (.iconst 1, 1) := by decide +kernel
theorem d_Model_build_6 : decode b_Model_build 6 = .ok (.putfield 912, 3) := by decide +kernel
theorem fl_Model_912 : Cond.fieldLink R_Model 912 "PointerHouseModel" "tried" "Z" ∈ lw_good := lg_right (i := 1828) (by decide +kernel) rfl
theorem d_Model_build_9 : decode b_Model_build 9 = .ok (.aload_n 0, 1) := by decide +kernel
theorem d_Model_build_10 : decode b_Model_build 10 = .ok (.iconst 0, 1) := by decide +kernel
theorem d_Model_build_11 : decode b_Model_build 11 = .ok (.putfield 378, 3) := by decide +kernel
theorem d_Model_build_14 : decode b_Model_build 14 = .ok (.aload_n 0, 1) := by decide +kernel
theorem d_Model_build_15 : decode b_Model_build 15 = .ok (.iconst (-1), 1) := by decide +kernel
theorem d_Model_build_16 : decode b_Model_build 16 = .ok (.putfield 13, 3) := by decide +kernel
theorem d_Model_build_19 : decode b_Model_build 19 = .ok (.aload_n 0, 1) := by decide +kernel
theorem d_Model_build_20 : decode b_Model_build 20 = .ok (.iconst 0, 1) := by decide +kernel
theorem d_Model_build_21 : decode b_Model_build 21 = .ok (.putfield 915, 3) := by decide +kernel
theorem fl_Model_915 : Cond.fieldLink R_Model 915 "PointerHouseModel" "hasProgram" "Z" ∈ lw_good := lg_right (i := 1829) (by decide +kernel) rfl
theorem d_Model_build_24 : decode b_Model_build 24 = .ok (.aload_n 0, 1) := by decide +kernel
theorem d_Model_build_25 : decode b_Model_build 25 = .ok (.iconst 0, 1) := by decide +kernel
theorem d_Model_build_26 : decode b_Model_build 26 = .ok (.putfield 741, 3) := by decide +kernel
theorem d_Model_build_29 : decode b_Model_build 29 = .ok (.aload_n 0, 1) := by decide +kernel
theorem d_Model_build_30 : decode b_Model_build 30 = .ok (.iconst 0, 1) := by decide +kernel
theorem d_Model_build_31 : decode b_Model_build 31 = .ok (.putfield 759, 3) := by decide +kernel
theorem d_Model_build_34 : decode b_Model_build 34 = .ok (.aload_n 0, 1) := by decide +kernel
theorem d_Model_build_35 : decode b_Model_build 35 = .ok (.iconst 0, 1) := by decide +kernel
theorem d_Model_build_36 : decode b_Model_build 36 = .ok (.putfield 698, 3) := by decide +kernel
theorem d_Model_build_39 : decode b_Model_build 39 = .ok (.aload_n 0, 1) := by decide +kernel
theorem d_Model_build_40 : decode b_Model_build 40 = .ok (.iconst 0, 1) := by decide +kernel
theorem d_Model_build_41 : decode b_Model_build 41 = .ok (.putfield 765, 3) := by decide +kernel
theorem d_Model_build_44 : decode b_Model_build 44 = .ok (.aload_n 0, 1) := by decide +kernel
theorem d_Model_build_45 : decode b_Model_build 45 = .ok (.iconst 0, 1) := by decide +kernel
theorem d_Model_build_46 : decode b_Model_build 46 = .ok (.putfield 685, 3) := by decide +kernel
theorem d_Model_build_49 : decode b_Model_build 49 = .ok (.aload_n 0, 1) := by decide +kernel
theorem d_Model_build_50 : decode b_Model_build 50 = .ok (.iconst 0, 1) := by decide +kernel
theorem d_Model_build_51 : decode b_Model_build 51 = .ok (.putfield 717, 3) := by decide +kernel
theorem d_Model_build_54 : decode b_Model_build 54 = .ok (.aload_n 0, 1) := by decide +kernel
theorem d_Model_build_55 : decode b_Model_build 55 = .ok (.invokevirtual 918, 3) := by decide +kernel
theorem ml_Model_918 : Cond.methodLink R_Model 918 ⟨"PointerHouseModel", "program", "()V"⟩ ∈ lw_good := lg_right (i := 2299) (by decide +kernel) rfl
theorem d_Model_build_58 : decode b_Model_build 58 = .ok (.aload_n 0, 1) := by decide +kernel
theorem d_Model_build_59 : decode b_Model_build 59 = .ok (.invokevirtual 385, 3) := by decide +kernel
theorem d_Model_build_62 : decode b_Model_build 62 = .ok (.ifCond .ne 7, 3) := by decide +kernel
theorem d_Model_build_65 : decode b_Model_build 65 = .ok (.aload_n 0, 1) := by decide +kernel
theorem d_Model_build_66 : decode b_Model_build 66 = .ok (.invokevirtual 921, 3) := by decide +kernel
theorem ml_Model_921 : Cond.methodLink R_Model 921 ⟨"PointerHouseModel", "checkHeads", "()V"⟩ ∈ lw_good := lg_right (i := 2475) (by decide +kernel) rfl
theorem d_Model_build_69 : decode b_Model_build 69 = .ok (.iconst 0, 1) := by decide +kernel
theorem d_Model_build_70 : decode b_Model_build 70 = .ok (.istore_n 1, 1) := by decide +kernel
theorem d_Model_build_71 : decode b_Model_build 71 = .ok (.iload_n 1, 1) := by decide +kernel
theorem d_Model_build_72 : decode b_Model_build 72 = .ok (.aload_n 0, 1) := by decide +kernel
theorem d_Model_build_73 : decode b_Model_build 73 = .ok (.getfield 412, 3) := by decide +kernel
theorem d_Model_build_76 : decode b_Model_build 76 = .ok (.if_icmp .ge 31, 3) := by decide +kernel
theorem d_Model_build_79 : decode b_Model_build 79 = .ok (.aload_n 0, 1) := by decide +kernel
theorem d_Model_build_80 : decode b_Model_build 80 = .ok (.invokevirtual 385, 3) := by decide +kernel
theorem d_Model_build_83 : decode b_Model_build 83 = .ok (.ifCond .ne 24, 3) := by decide +kernel
theorem d_Model_build_86 : decode b_Model_build 86 = .ok (.aload_n 0, 1) := by decide +kernel
theorem d_Model_build_87 : decode b_Model_build 87 = .ok (.getfield 17, 3) := by decide +kernel
theorem d_Model_build_90 : decode b_Model_build 90 = .ok (.iload_n 1, 1) := by decide +kernel
theorem d_Model_build_91 : decode b_Model_build 91 = .ok (.iaload, 1) := by decide +kernel
theorem d_Model_build_92 : decode b_Model_build 92 = .ok (.iconst 2, 1) := by decide +kernel
theorem d_Model_build_93 : decode b_Model_build 93 = .ok (.if_icmp .ne 8, 3) := by decide +kernel
theorem d_Model_build_96 : decode b_Model_build 96 = .ok (.aload_n 0, 1) := by decide +kernel
theorem d_Model_build_97 : decode b_Model_build 97 = .ok (.iload_n 1, 1) := by decide +kernel
theorem d_Model_build_98 : decode b_Model_build 98 = .ok (.invokevirtual 924, 3) := by decide +kernel
theorem ml_Model_924 : Cond.methodLink R_Model 924 ⟨"PointerHouseModel", "checkFun", "(I)V"⟩ ∈ lw_good := lg_right (i := 2525) (by decide +kernel) rfl
theorem d_Model_build_101 : decode b_Model_build 101 = .ok (.iinc 1 1, 3) := by decide +kernel
theorem d_Model_build_104 : decode b_Model_build 104 = .ok (.goto (-33), 3) := by decide +kernel
theorem d_Model_build_107 : decode b_Model_build 107 = .ok (.aload_n 0, 1) := by decide +kernel
theorem d_Model_build_108 : decode b_Model_build 108 = .ok (.iconst 0, 1) := by decide +kernel
theorem d_Model_build_109 : decode b_Model_build 109 = .ok (.putfield 313, 3) := by decide +kernel
theorem d_Model_build_112 : decode b_Model_build 112 = .ok (.aload_n 0, 1) := by decide +kernel
theorem d_Model_build_113 : decode b_Model_build 113 = .ok (.invokevirtual 385, 3) := by decide +kernel
theorem d_Model_build_116 : decode b_Model_build 116 = .ok (.ifCond .eq 5, 3) := by decide +kernel
theorem d_Model_build_119 : decode b_Model_build 119 = .ok (.iconst (-1), 1) := by decide +kernel
theorem d_Model_build_120 : decode b_Model_build 120 = .ok (.ireturn, 1) := by decide +kernel
theorem d_Model_build_121 : decode b_Model_build 121 = .ok (.aload_n 0, 1) := by decide +kernel
theorem d_Model_build_122 : decode b_Model_build 122 = .ok (.invokevirtual 927, 3) := by decide +kernel
theorem ml_Model_927 : Cond.methodLink R_Model 927 ⟨"PointerHouseModel", "layOut", "()V"⟩ ∈ lw_good := lg_right (i := 2699) (by decide +kernel) rfl
theorem d_Model_build_125 : decode b_Model_build 125 = .ok (.aload_n 0, 1) := by decide +kernel
theorem d_Model_build_126 : decode b_Model_build 126 = .ok (.iconst 1, 1) := by decide +kernel
theorem d_Model_build_127 : decode b_Model_build 127 = .ok (.putfield 915, 3) := by decide +kernel
theorem d_Model_build_130 : decode b_Model_build 130 = .ok (.aload_n 0, 1) := by decide +kernel
theorem d_Model_build_131 : decode b_Model_build 131 = .ok (.getfield 412, 3) := by decide +kernel
theorem d_Model_build_134 : decode b_Model_build 134 = .ok (.ireturn, 1) := by decide +kernel
abbrev b_Model_fault : ByteArray := prog_14_method_130_code
abbrev y_Model_fault : MethodName := ⟨R_Model, "fault", "(I)I"⟩
theorem co_Model_fault : Cond.code y_Model_fault b_Model_fault 2 (some .int) ∈ lw_good := lg_in (tin_12 _ (List.mem_of_getElem? (i := 98) rfl)) rfl
abbrev w_Model_fault : List Cond := Cond.code y_Model_fault b_Model_fault 2 (some .int) :: lw_good
theorem im_Model_fault : Cond.instanceMethod y_Model_fault ∈ lw_good := lg_right (i := 2736) (by decide +kernel) rfl
theorem se_Model_fault : Cond.selects R_Model y_Model_fault y_Model_fault ∈ lw_good := lg_right (i := 2737) (by decide +kernel) rfl
theorem d_Model_fault_0 : decode b_Model_fault 0 = .ok (.aload_n 0, 1) := by decide +kernel
theorem d_Model_fault_1 : decode b_Model_fault 1 = .ok (.getfield 912, 3) := by decide +kernel
theorem d_Model_fault_4 : decode b_Model_fault 4 = .ok (.ifCond .ne 5, 3) := by decide +kernel
theorem d_Model_fault_7 : decode b_Model_fault 7 = .ok (.iconst (-1), 1) := by decide +kernel
theorem d_Model_fault_8 : decode b_Model_fault 8 = .ok (.ireturn, 1) := by decide +kernel
theorem d_Model_fault_9 : decode b_Model_fault 9 = .ok (.iload_n 1, 1) := by decide +kernel
theorem d_Model_fault_10 : decode b_Model_fault 10 = .ok (.ifCond .ne 10, 3) := by decide +kernel
theorem d_Model_fault_13 : decode b_Model_fault 13 = .ok (.aload_n 0, 1) := by decide +kernel
theorem d_Model_fault_14 : decode b_Model_fault 14 = .ok (.getfield 378, 3) := by decide +kernel
theorem d_Model_fault_17 : decode b_Model_fault 17 = .ok (.goto 16, 3) := by decide +kernel
theorem d_Model_fault_20 : decode b_Model_fault 20 = .ok (.iload_n 1, 1) := by decide +kernel
theorem d_Model_fault_21 : decode b_Model_fault 21 = .ok (.iconst 1, 1) := by decide +kernel
theorem d_Model_fault_22 : decode b_Model_fault 22 = .ok (.if_icmp .ne 10, 3) := by decide +kernel
theorem d_Model_fault_25 : decode b_Model_fault 25 = .ok (.aload_n 0, 1) := by decide +kernel
theorem d_Model_fault_26 : decode b_Model_fault 26 = .ok (.getfield 13, 3) := by decide +kernel
theorem d_Model_fault_29 : decode b_Model_fault 29 = .ok (.goto 4, 3) := by decide +kernel
theorem d_Model_fault_32 : decode b_Model_fault 32 = .ok (.iconst (-1), 1) := by decide +kernel
theorem d_Model_fault_33 : decode b_Model_fault 33 = .ok (.ireturn, 1) := by decide +kernel
abbrev b_Model_program_I : ByteArray := prog_14_method_131_code
abbrev y_Model_program_I : MethodName := ⟨R_Model, "program", "(I)I"⟩
theorem co_Model_program_I : Cond.code y_Model_program_I b_Model_program_I 4 (some .int) ∈ lw_good := lg_in (tin_12 _ (List.mem_of_getElem? (i := 102) rfl)) rfl
abbrev w_Model_program_I : List Cond := Cond.code y_Model_program_I b_Model_program_I 4 (some .int) :: lw_good
theorem im_Model_program_I : Cond.instanceMethod y_Model_program_I ∈ lw_good := lg_right (i := 2740) (by decide +kernel) rfl
theorem se_Model_program_I : Cond.selects R_Model y_Model_program_I y_Model_program_I ∈ lw_good := lg_right (i := 2741) (by decide +kernel) rfl
theorem d_Model_program_I_0 : decode b_Model_program_I 0 = .ok (.aload_n 0, 1) := by decide +kernel
theorem d_Model_program_I_1 : decode b_Model_program_I 1 = .ok (.getfield 915, 3) := by decide +kernel
theorem d_Model_program_I_4 : decode b_Model_program_I 4 = .ok (.ifCond .ne 5, 3) := by decide +kernel
theorem d_Model_program_I_7 : decode b_Model_program_I 7 = .ok (.iconst (-1), 1) := by decide +kernel
theorem d_Model_program_I_8 : decode b_Model_program_I 8 = .ok (.ireturn, 1) := by decide +kernel
theorem d_Model_program_I_9 : decode b_Model_program_I 9 = .ok (.iconst 0, 1) := by decide +kernel
theorem d_Model_program_I_10 : decode b_Model_program_I 10 = .ok (.istore_n 2, 1) := by decide +kernel
theorem d_Model_program_I_11 : decode b_Model_program_I 11 = .ok (.iconst 0, 1) := by decide +kernel
theorem d_Model_program_I_12 : decode b_Model_program_I 12 = .ok (.istore_n 3, 1) := by decide +kernel
theorem d_Model_program_I_13 : decode b_Model_program_I 13 = .ok (.iload_n 3, 1) := by decide +kernel
theorem d_Model_program_I_14 : decode b_Model_program_I 14 = .ok (.aload_n 0, 1) := by decide +kernel
theorem d_Model_program_I_15 : decode b_Model_program_I 15 = .ok (.getfield 412, 3) := by decide +kernel
theorem d_Model_program_I_18 : decode b_Model_program_I 18 = .ok (.if_icmp .ge 27, 3) := by decide +kernel
theorem d_Model_program_I_21 : decode b_Model_program_I 21 = .ok (.iload_n 2, 1) := by decide +kernel
theorem d_Model_program_I_22 : decode b_Model_program_I 22 = .ok (.aload_n 0, 1) := by decide +kernel
theorem d_Model_program_I_23 : decode b_Model_program_I 23 = .ok (.getfield 17, 3) := by decide +kernel
theorem d_Model_program_I_26 : decode b_Model_program_I 26 = .ok (.iload_n 3, 1) := by decide +kernel
theorem d_Model_program_I_27 : decode b_Model_program_I 27 = .ok (.iaload, 1) := by decide +kernel
theorem d_Model_program_I_28 : decode b_Model_program_I 28 = .ok (.iconst 2, 1) := by decide +kernel
theorem d_Model_program_I_29 : decode b_Model_program_I 29 = .ok (.if_icmp .ne 7, 3) := by decide +kernel
theorem d_Model_program_I_32 : decode b_Model_program_I 32 = .ok (.iconst 1, 1) := by decide +kernel
theorem d_Model_program_I_33 : decode b_Model_program_I 33 = .ok (.goto 4, 3) := by decide +kernel
theorem d_Model_program_I_36 : decode b_Model_program_I 36 = .ok (.iconst 0, 1) := by decide +kernel
theorem d_Model_program_I_37 : decode b_Model_program_I 37 = .ok (.iadd, 1) := by decide +kernel
theorem d_Model_program_I_38 : decode b_Model_program_I 38 = .ok (.istore_n 2, 1) := by decide +kernel
theorem d_Model_program_I_39 : decode b_Model_program_I 39 = .ok (.iinc 3 1, 3) := by decide +kernel
theorem d_Model_program_I_42 : decode b_Model_program_I 42 = .ok (.goto (-29), 3) := by decide +kernel
theorem d_Model_program_I_45 : decode b_Model_program_I 45 = .ok (.iload_n 1, 1) := by decide +kernel
theorem d_Model_program_I_46 : decode b_Model_program_I 46 = .ok (.tableswitch 76 0 6 #[42, 49, 51, 56, 61, 66, 71], 42) := by decide +kernel
theorem d_Model_program_I_88 : decode b_Model_program_I 88 = .ok (.aload_n 0, 1) := by decide +kernel
theorem d_Model_program_I_89 : decode b_Model_program_I 89 = .ok (.getfield 412, 3) := by decide +kernel
theorem d_Model_program_I_92 : decode b_Model_program_I 92 = .ok (.iload_n 2, 1) := by decide +kernel
theorem d_Model_program_I_93 : decode b_Model_program_I 93 = .ok (.isub, 1) := by decide +kernel
theorem d_Model_program_I_94 : decode b_Model_program_I 94 = .ok (.ireturn, 1) := by decide +kernel
theorem d_Model_program_I_95 : decode b_Model_program_I 95 = .ok (.iload_n 2, 1) := by decide +kernel
theorem d_Model_program_I_96 : decode b_Model_program_I 96 = .ok (.ireturn, 1) := by decide +kernel
theorem d_Model_program_I_97 : decode b_Model_program_I 97 = .ok (.aload_n 0, 1) := by decide +kernel
theorem d_Model_program_I_98 : decode b_Model_program_I 98 = .ok (.getfield 685, 3) := by decide +kernel
theorem d_Model_program_I_101 : decode b_Model_program_I 101 = .ok (.ireturn, 1) := by decide +kernel
theorem d_Model_program_I_102 : decode b_Model_program_I 102 = .ok (.aload_n 0, 1) := by decide +kernel
theorem d_Model_program_I_103 : decode b_Model_program_I 103 = .ok (.getfield 741, 3) := by decide +kernel
theorem d_Model_program_I_106 : decode b_Model_program_I 106 = .ok (.ireturn, 1) := by decide +kernel
theorem d_Model_program_I_107 : decode b_Model_program_I 107 = .ok (.aload_n 0, 1) := by decide +kernel
theorem d_Model_program_I_108 : decode b_Model_program_I 108 = .ok (.getfield 759, 3) := by decide +kernel
theorem d_Model_program_I_111 : decode b_Model_program_I 111 = .ok (.ireturn, 1) := by decide +kernel
theorem d_Model_program_I_112 : decode b_Model_program_I 112 = .ok (.aload_n 0, 1) := by decide +kernel
theorem d_Model_program_I_113 : decode b_Model_program_I 113 = .ok (.getfield 698, 3) := by decide +kernel
theorem d_Model_program_I_116 : decode b_Model_program_I 116 = .ok (.ireturn, 1) := by decide +kernel
theorem d_Model_program_I_117 : decode b_Model_program_I 117 = .ok (.aload_n 0, 1) := by decide +kernel
theorem d_Model_program_I_118 : decode b_Model_program_I 118 = .ok (.getfield 765, 3) := by decide +kernel
theorem d_Model_program_I_121 : decode b_Model_program_I 121 = .ok (.ireturn, 1) := by decide +kernel
theorem d_Model_program_I_122 : decode b_Model_program_I 122 = .ok (.iconst (-1), 1) := by decide +kernel
theorem d_Model_program_I_123 : decode b_Model_program_I 123 = .ok (.ireturn, 1) := by decide +kernel
abbrev b_Model_start : ByteArray := prog_14_method_132_code
abbrev y_Model_start : MethodName := ⟨R_Model, "start", "(II)Z"⟩
theorem co_Model_start : Cond.code y_Model_start b_Model_start 4 (some .boolean) ∈ lw_good := lg_in (tin_12 _ (List.mem_of_getElem? (i := 106) rfl)) rfl
abbrev w_Model_start : List Cond := Cond.code y_Model_start b_Model_start 4 (some .boolean) :: lw_good
theorem im_Model_start : Cond.instanceMethod y_Model_start ∈ lw_good := lg_right (i := 2744) (by decide +kernel) rfl
theorem se_Model_start : Cond.selects R_Model y_Model_start y_Model_start ∈ lw_good := lg_right (i := 2745) (by decide +kernel) rfl
theorem d_Model_start_0 : decode b_Model_start 0 = .ok (.aload_n 0, 1) := by decide +kernel
theorem d_Model_start_1 : decode b_Model_start 1 = .ok (.getfield 915, 3) := by decide +kernel
theorem d_Model_start_4 : decode b_Model_start 4 = .ok (.ifCond .eq 25, 3) := by decide +kernel
theorem d_Model_start_7 : decode b_Model_start 7 = .ok (.iload_n 1, 1) := by decide +kernel
theorem d_Model_start_8 : decode b_Model_start 8 = .ok (.iconst 1, 1) := by decide +kernel
theorem d_Model_start_9 : decode b_Model_start 9 = .ok (.if_icmp .lt 20, 3) := by decide +kernel
theorem d_Model_start_12 : decode b_Model_start 12 = .ok (.iload_n 1, 1) := by decide +kernel
theorem d_Model_start_13 : decode b_Model_start 13 = .ok (.bipush 64, 2) := by decide +kernel
theorem d_Model_start_15 : decode b_Model_start 15 = .ok (.if_icmp .gt 14, 3) := by decide +kernel
theorem d_Model_start_18 : decode b_Model_start 18 = .ok (.iload_n 2, 1) := by decide +kernel
theorem d_Model_start_19 : decode b_Model_start 19 = .ok (.iconst 4, 1) := by decide +kernel
theorem d_Model_start_20 : decode b_Model_start 20 = .ok (.if_icmp .lt 9, 3) := by decide +kernel
theorem d_Model_start_23 : decode b_Model_start 23 = .ok (.iload_n 2, 1) := by decide +kernel
theorem d_Model_start_24 : decode b_Model_start 24 = .ok (.bipush 64, 2) := by decide +kernel
theorem d_Model_start_26 : decode b_Model_start 26 = .ok (.if_icmp .le 5, 3) := by decide +kernel
theorem d_Model_start_29 : decode b_Model_start 29 = .ok (.iconst 0, 1) := by decide +kernel
theorem d_Model_start_30 : decode b_Model_start 30 = .ok (.ireturn, 1) := by decide +kernel
theorem d_Model_start_31 : decode b_Model_start 31 = .ok (.aload_n 0, 1) := by decide +kernel
theorem d_Model_start_32 : decode b_Model_start 32 = .ok (.invokevirtual 909, 3) := by decide +kernel
theorem d_Model_start_35 : decode b_Model_start 35 = .ok (.aload_n 0, 1) := by decide +kernel
theorem d_Model_start_36 : decode b_Model_start 36 = .ok (.iload_n 1, 1) := by decide +kernel
theorem d_Model_start_37 : decode b_Model_start 37 = .ok (.putfield 835, 3) := by decide +kernel
theorem d_Model_start_40 : decode b_Model_start 40 = .ok (.aload_n 0, 1) := by decide +kernel
theorem d_Model_start_41 : decode b_Model_start 41 = .ok (.iload_n 2, 1) := by decide +kernel
theorem d_Model_start_42 : decode b_Model_start 42 = .ok (.putfield 844, 3) := by decide +kernel
theorem d_Model_start_45 : decode b_Model_start 45 = .ok (.aload_n 0, 1) := by decide +kernel
theorem d_Model_start_46 : decode b_Model_start 46 = .ok (.iload_n 1, 1) := by decide +kernel
theorem d_Model_start_47 : decode b_Model_start 47 = .ok (.putfield 838, 3) := by decide +kernel
theorem d_Model_start_50 : decode b_Model_start 50 = .ok (.aload_n 0, 1) := by decide +kernel
theorem d_Model_start_51 : decode b_Model_start 51 = .ok (.iconst 0, 1) := by decide +kernel
theorem d_Model_start_52 : decode b_Model_start 52 = .ok (.putfield 850, 3) := by decide +kernel
theorem d_Model_start_55 : decode b_Model_start 55 = .ok (.iconst 0, 1) := by decide +kernel
theorem d_Model_start_56 : decode b_Model_start 56 = .ok (.istore_n 3, 1) := by decide +kernel
theorem d_Model_start_57 : decode b_Model_start 57 = .ok (.iload_n 3, 1) := by decide +kernel
theorem d_Model_start_58 : decode b_Model_start 58 = .ok (.sipush 4096, 3) := by decide +kernel
theorem d_Model_start_61 : decode b_Model_start 61 = .ok (.if_icmp .ge 38, 3) := by decide +kernel
theorem d_Model_start_64 : decode b_Model_start 64 = .ok (.aload_n 0, 1) := by decide +kernel
theorem d_Model_start_65 : decode b_Model_start 65 = .ok (.getfield 273, 3) := by decide +kernel
theorem d_Model_start_68 : decode b_Model_start 68 = .ok (.iload_n 3, 1) := by decide +kernel
theorem d_Model_start_69 : decode b_Model_start 69 = .ok (.iconst 0, 1) := by decide +kernel
theorem d_Model_start_70 : decode b_Model_start 70 = .ok (.iastore, 1) := by decide +kernel
theorem d_Model_start_71 : decode b_Model_start 71 = .ok (.aload_n 0, 1) := by decide +kernel
theorem d_Model_start_72 : decode b_Model_start 72 = .ok (.getfield 304, 3) := by decide +kernel
theorem d_Model_start_75 : decode b_Model_start 75 = .ok (.iload_n 3, 1) := by decide +kernel
theorem d_Model_start_76 : decode b_Model_start 76 = .ok (.iload_n 3, 1) := by decide +kernel
theorem d_Model_start_77 : decode b_Model_start 77 = .ok (.iconst 1, 1) := by decide +kernel
theorem d_Model_start_78 : decode b_Model_start 78 = .ok (.iadd, 1) := by decide +kernel
theorem d_Model_start_79 : decode b_Model_start 79 = .ok (.sipush 4096, 3) := by decide +kernel
theorem d_Model_start_82 : decode b_Model_start 82 = .ok (.if_icmp .ge 9, 3) := by decide +kernel
theorem d_Model_start_85 : decode b_Model_start 85 = .ok (.iload_n 3, 1) := by decide +kernel
theorem d_Model_start_86 : decode b_Model_start 86 = .ok (.iconst 1, 1) := by decide +kernel
theorem d_Model_start_87 : decode b_Model_start 87 = .ok (.iadd, 1) := by decide +kernel
theorem d_Model_start_88 : decode b_Model_start 88 = .ok (.goto 4, 3) := by decide +kernel
theorem d_Model_start_91 : decode b_Model_start 91 = .ok (.iconst (-1), 1) := by decide +kernel
theorem d_Model_start_92 : decode b_Model_start 92 = .ok (.iastore, 1) := by decide +kernel
theorem d_Model_start_93 : decode b_Model_start 93 = .ok (.iinc 3 1, 3) := by decide +kernel
theorem d_Model_start_96 : decode b_Model_start 96 = .ok (.goto (-39), 3) := by decide +kernel
theorem d_Model_start_99 : decode b_Model_start 99 = .ok (.aload_n 0, 1) := by decide +kernel
theorem d_Model_start_100 : decode b_Model_start 100 = .ok (.iconst 0, 1) := by decide +kernel
theorem d_Model_start_101 : decode b_Model_start 101 = .ok (.putfield 841, 3) := by decide +kernel
theorem d_Model_start_104 : decode b_Model_start 104 = .ok (.aload_n 0, 1) := by decide +kernel
theorem d_Model_start_105 : decode b_Model_start 105 = .ok (.iconst 0, 1) := by decide +kernel
theorem d_Model_start_106 : decode b_Model_start 106 = .ok (.invokevirtual 881, 3) := by decide +kernel
theorem d_Model_start_109 : decode b_Model_start 109 = .ok (.aload_n 0, 1) := by decide +kernel
theorem d_Model_start_110 : decode b_Model_start 110 = .ok (.iconst 1, 1) := by decide +kernel
theorem d_Model_start_111 : decode b_Model_start 111 = .ok (.putfield 826, 3) := by decide +kernel
theorem d_Model_start_114 : decode b_Model_start 114 = .ok (.aload_n 0, 1) := by decide +kernel
theorem d_Model_start_115 : decode b_Model_start 115 = .ok (.iconst 1, 1) := by decide +kernel
theorem d_Model_start_116 : decode b_Model_start 116 = .ok (.putfield 802, 3) := by decide +kernel
theorem d_Model_start_119 : decode b_Model_start 119 = .ok (.aload_n 0, 1) := by decide +kernel
theorem d_Model_start_120 : decode b_Model_start 120 = .ok (.iconst 1, 1) := by decide +kernel
theorem d_Model_start_121 : decode b_Model_start 121 = .ok (.putfield 808, 3) := by decide +kernel
theorem d_Model_start_124 : decode b_Model_start 124 = .ok (.aload_n 0, 1) := by decide +kernel
theorem d_Model_start_125 : decode b_Model_start 125 = .ok (.getfield 219, 3) := by decide +kernel
theorem d_Model_start_128 : decode b_Model_start 128 = .ok (.iconst 0, 1) := by decide +kernel
theorem d_Model_start_129 : decode b_Model_start 129 = .ok (.iconst 0, 1) := by decide +kernel
theorem d_Model_start_130 : decode b_Model_start 130 = .ok (.iastore, 1) := by decide +kernel
theorem d_Model_start_131 : decode b_Model_start 131 = .ok (.aload_n 0, 1) := by decide +kernel
theorem d_Model_start_132 : decode b_Model_start 132 = .ok (.getfield 225, 3) := by decide +kernel
theorem d_Model_start_135 : decode b_Model_start 135 = .ok (.iconst 0, 1) := by decide +kernel
theorem d_Model_start_136 : decode b_Model_start 136 = .ok (.iconst 1, 1) := by decide +kernel
theorem d_Model_start_137 : decode b_Model_start 137 = .ok (.iastore, 1) := by decide +kernel
theorem d_Model_start_138 : decode b_Model_start 138 = .ok (.aload_n 0, 1) := by decide +kernel
theorem d_Model_start_139 : decode b_Model_start 139 = .ok (.aload_n 0, 1) := by decide +kernel
theorem d_Model_start_140 : decode b_Model_start 140 = .ok (.getfield 87, 3) := by decide +kernel
theorem d_Model_start_143 : decode b_Model_start 143 = .ok (.aload_n 0, 1) := by decide +kernel
theorem d_Model_start_144 : decode b_Model_start 144 = .ok (.ldc_w 622, 3) := by decide +kernel
theorem d_Model_start_147 : decode b_Model_start 147 = .ok (.invokestatic 389, 3) := by decide +kernel
theorem d_Model_start_150 : decode b_Model_start 150 = .ok (.invokevirtual 606, 3) := by decide +kernel
theorem d_Model_start_153 : decode b_Model_start 153 = .ok (.iaload, 1) := by decide +kernel
theorem d_Model_start_154 : decode b_Model_start 154 = .ok (.putfield 863, 3) := by decide +kernel
theorem d_Model_start_157 : decode b_Model_start 157 = .ok (.aload_n 0, 1) := by decide +kernel
theorem d_Model_start_158 : decode b_Model_start 158 = .ok (.invokevirtual 930, 3) := by decide +kernel
theorem ml_Model_930 : Cond.methodLink R_Model 930 ⟨"PointerHouseModel", "goOn", "()V"⟩ ∈ lw_good := lg_right (i := 2751) (by decide +kernel) rfl
theorem d_Model_start_161 : decode b_Model_start 161 = .ok (.iconst 1, 1) := by decide +kernel
theorem d_Model_start_162 : decode b_Model_start 162 = .ok (.ireturn, 1) := by decide +kernel
abbrev b_Model_input_I : ByteArray := prog_14_method_133_code
abbrev y_Model_input_I : MethodName := ⟨R_Model, "input", "(I)I"⟩
theorem co_Model_input_I : Cond.code y_Model_input_I b_Model_input_I 2 (some .int) ∈ lw_good := lg_in (tin_12 _ (List.mem_of_getElem? (i := 186) rfl)) rfl
abbrev w_Model_input_I : List Cond := Cond.code y_Model_input_I b_Model_input_I 2 (some .int) :: lw_good
theorem im_Model_input_I : Cond.instanceMethod y_Model_input_I ∈ lw_good := lg_right (i := 2824) (by decide +kernel) rfl
theorem se_Model_input_I : Cond.selects R_Model y_Model_input_I y_Model_input_I ∈ lw_good := lg_right (i := 2825) (by decide +kernel) rfl
theorem d_Model_input_I_0 : decode b_Model_input_I 0 = .ok (.aload_n 0, 1) := by decide +kernel
theorem d_Model_input_I_1 : decode b_Model_input_I 1 = .ok (.getfield 802, 3) := by decide +kernel
theorem d_Model_input_I_4 : decode b_Model_input_I 4 = .ok (.iconst 1, 1) := by decide +kernel
theorem d_Model_input_I_5 : decode b_Model_input_I 5 = .ok (.if_icmp .ne 12, 3) := by decide +kernel
theorem d_Model_input_I_8 : decode b_Model_input_I 8 = .ok (.aload_n 0, 1) := by decide +kernel
theorem d_Model_input_I_9 : decode b_Model_input_I 9 = .ok (.getfield 829, 3) := by decide +kernel
theorem d_Model_input_I_12 : decode b_Model_input_I 12 = .ok (.bipush 100, 2) := by decide +kernel
theorem d_Model_input_I_14 : decode b_Model_input_I 14 = .ok (.if_icmp .ne 5, 3) := by decide +kernel
theorem d_Model_input_I_17 : decode b_Model_input_I 17 = .ok (.iconst (-1), 1) := by decide +kernel
theorem d_Model_input_I_18 : decode b_Model_input_I 18 = .ok (.ireturn, 1) := by decide +kernel
theorem d_Model_input_I_19 : decode b_Model_input_I 19 = .ok (.aload_n 0, 1) := by decide +kernel
theorem d_Model_input_I_20 : decode b_Model_input_I 20 = .ok (.getfield 307, 3) := by decide +kernel
theorem d_Model_input_I_23 : decode b_Model_input_I 23 = .ok (.aload_n 0, 1) := by decide +kernel
theorem d_Model_input_I_24 : decode b_Model_input_I 24 = .ok (.getfield 829, 3) := by decide +kernel
theorem d_Model_input_I_27 : decode b_Model_input_I 27 = .ok (.iload_n 1, 1) := by decide +kernel
theorem d_Model_input_I_28 : decode b_Model_input_I 28 = .ok (.iastore, 1) := by decide +kernel
theorem d_Model_input_I_29 : decode b_Model_input_I 29 = .ok (.aload_n 0, 1) := by decide +kernel
theorem d_Model_input_I_30 : decode b_Model_input_I 30 = .ok (.dup, 1) := by decide +kernel
theorem d_Model_input_I_31 : decode b_Model_input_I 31 = .ok (.getfield 829, 3) := by decide +kernel
theorem d_Model_input_I_34 : decode b_Model_input_I 34 = .ok (.iconst 1, 1) := by decide +kernel
theorem d_Model_input_I_35 : decode b_Model_input_I 35 = .ok (.iadd, 1) := by decide +kernel
theorem d_Model_input_I_36 : decode b_Model_input_I 36 = .ok (.putfield 829, 3) := by decide +kernel
theorem d_Model_input_I_39 : decode b_Model_input_I 39 = .ok (.aload_n 0, 1) := by decide +kernel
theorem d_Model_input_I_40 : decode b_Model_input_I 40 = .ok (.getfield 829, 3) := by decide +kernel
theorem d_Model_input_I_43 : decode b_Model_input_I 43 = .ok (.ireturn, 1) := by decide +kernel
abbrev b_Model_run_I : ByteArray := prog_14_method_134_code
abbrev y_Model_run_I : MethodName := ⟨R_Model, "run", "(I)I"⟩
theorem co_Model_run_I : Cond.code y_Model_run_I b_Model_run_I 3 (some .int) ∈ lw_good := lg_in (tin_12 _ (List.mem_of_getElem? (i := 190) rfl)) rfl
abbrev w_Model_run_I : List Cond := Cond.code y_Model_run_I b_Model_run_I 3 (some .int) :: lw_good
theorem im_Model_run_I : Cond.instanceMethod y_Model_run_I ∈ lw_good := lg_right (i := 2828) (by decide +kernel) rfl
theorem se_Model_run_I : Cond.selects R_Model y_Model_run_I y_Model_run_I ∈ lw_good := lg_right (i := 2829) (by decide +kernel) rfl
theorem d_Model_run_I_0 : decode b_Model_run_I 0 = .ok (.iload_n 1, 1) := by decide +kernel
theorem d_Model_run_I_1 : decode b_Model_run_I 1 = .ok (.iconst 1, 1) := by decide +kernel
theorem d_Model_run_I_2 : decode b_Model_run_I 2 = .ok (.if_icmp .lt 18, 3) := by decide +kernel
theorem d_Model_run_I_5 : decode b_Model_run_I 5 = .ok (.iload_n 1, 1) := by decide +kernel
theorem d_Model_run_I_6 : decode b_Model_run_I 6 = .ok (.sipush 500, 3) := by decide +kernel
theorem d_Model_run_I_9 : decode b_Model_run_I 9 = .ok (.if_icmp .gt 11, 3) := by decide +kernel
theorem d_Model_run_I_12 : decode b_Model_run_I 12 = .ok (.aload_n 0, 1) := by decide +kernel
theorem d_Model_run_I_13 : decode b_Model_run_I 13 = .ok (.getfield 802, 3) := by decide +kernel
theorem d_Model_run_I_16 : decode b_Model_run_I 16 = .ok (.iconst 1, 1) := by decide +kernel
theorem d_Model_run_I_17 : decode b_Model_run_I 17 = .ok (.if_icmp .eq 5, 3) := by decide +kernel
theorem d_Model_run_I_20 : decode b_Model_run_I 20 = .ok (.iconst (-1), 1) := by decide +kernel
theorem d_Model_run_I_21 : decode b_Model_run_I 21 = .ok (.ireturn, 1) := by decide +kernel
theorem d_Model_run_I_22 : decode b_Model_run_I 22 = .ok (.iconst 0, 1) := by decide +kernel
theorem d_Model_run_I_23 : decode b_Model_run_I 23 = .ok (.istore_n 2, 1) := by decide +kernel
theorem d_Model_run_I_24 : decode b_Model_run_I 24 = .ok (.iload_n 2, 1) := by decide +kernel
theorem d_Model_run_I_25 : decode b_Model_run_I 25 = .ok (.iload_n 1, 1) := by decide +kernel
theorem d_Model_run_I_26 : decode b_Model_run_I 26 = .ok (.if_icmp .ge 61, 3) := by decide +kernel
theorem d_Model_run_I_29 : decode b_Model_run_I 29 = .ok (.aload_n 0, 1) := by decide +kernel
theorem d_Model_run_I_30 : decode b_Model_run_I 30 = .ok (.getfield 802, 3) := by decide +kernel
theorem d_Model_run_I_33 : decode b_Model_run_I 33 = .ok (.iconst 1, 1) := by decide +kernel
theorem d_Model_run_I_34 : decode b_Model_run_I 34 = .ok (.if_icmp .ne 53, 3) := by decide +kernel
theorem d_Model_run_I_37 : decode b_Model_run_I 37 = .ok (.aload_n 0, 1) := by decide +kernel
theorem d_Model_run_I_38 : decode b_Model_run_I 38 = .ok (.dup, 1) := by decide +kernel
theorem d_Model_run_I_39 : decode b_Model_run_I 39 = .ok (.getfield 805, 3) := by decide +kernel
theorem d_Model_run_I_42 : decode b_Model_run_I 42 = .ok (.iconst 1, 1) := by decide +kernel
theorem d_Model_run_I_43 : decode b_Model_run_I 43 = .ok (.iadd, 1) := by decide +kernel
theorem d_Model_run_I_44 : decode b_Model_run_I 44 = .ok (.putfield 805, 3) := by decide +kernel
theorem d_Model_run_I_47 : decode b_Model_run_I 47 = .ok (.iinc 2 1, 3) := by decide +kernel
theorem d_Model_run_I_50 : decode b_Model_run_I 50 = .ok (.aload_n 0, 1) := by decide +kernel
theorem d_Model_run_I_51 : decode b_Model_run_I 51 = .ok (.getfield 222, 3) := by decide +kernel
theorem fl_Model_222 : Cond.fieldLink R_Model 222 "PointerHouseModel" "stepPlace" "[I" ∈ lw_good := lg_right (i := 1934) (by decide +kernel) rfl
theorem d_Model_run_I_54 : decode b_Model_run_I 54 = .ok (.aload_n 0, 1) := by decide +kernel
theorem d_Model_run_I_55 : decode b_Model_run_I 55 = .ok (.getfield 808, 3) := by decide +kernel
theorem d_Model_run_I_58 : decode b_Model_run_I 58 = .ok (.iconst 1, 1) := by decide +kernel
theorem d_Model_run_I_59 : decode b_Model_run_I 59 = .ok (.isub, 1) := by decide +kernel
theorem d_Model_run_I_60 : decode b_Model_run_I 60 = .ok (.aload_n 0, 1) := by decide +kernel
theorem d_Model_run_I_61 : decode b_Model_run_I 61 = .ok (.getfield 198, 3) := by decide +kernel
theorem d_Model_run_I_64 : decode b_Model_run_I 64 = .ok (.aload_n 0, 1) := by decide +kernel
theorem d_Model_run_I_65 : decode b_Model_run_I 65 = .ok (.getfield 863, 3) := by decide +kernel
theorem d_Model_run_I_68 : decode b_Model_run_I 68 = .ok (.iaload, 1) := by decide +kernel
theorem d_Model_run_I_69 : decode b_Model_run_I 69 = .ok (.iastore, 1) := by decide +kernel
theorem d_Model_run_I_70 : decode b_Model_run_I 70 = .ok (.aload_n 0, 1) := by decide +kernel
theorem d_Model_run_I_71 : decode b_Model_run_I 71 = .ok (.dup, 1) := by decide +kernel
theorem d_Model_run_I_72 : decode b_Model_run_I 72 = .ok (.getfield 863, 3) := by decide +kernel
theorem d_Model_run_I_75 : decode b_Model_run_I 75 = .ok (.iconst 1, 1) := by decide +kernel
theorem d_Model_run_I_76 : decode b_Model_run_I 76 = .ok (.iadd, 1) := by decide +kernel
theorem d_Model_run_I_77 : decode b_Model_run_I 77 = .ok (.putfield 863, 3) := by decide +kernel
theorem d_Model_run_I_80 : decode b_Model_run_I 80 = .ok (.aload_n 0, 1) := by decide +kernel
theorem d_Model_run_I_81 : decode b_Model_run_I 81 = .ok (.invokevirtual 930, 3) := by decide +kernel
theorem d_Model_run_I_84 : decode b_Model_run_I 84 = .ok (.goto (-60), 3) := by decide +kernel
theorem d_Model_run_I_87 : decode b_Model_run_I 87 = .ok (.iload_n 2, 1) := by decide +kernel
theorem d_Model_run_I_88 : decode b_Model_run_I 88 = .ok (.ireturn, 1) := by decide +kernel
abbrev b_Model_state : ByteArray := prog_14_method_135_code
abbrev y_Model_state : MethodName := ⟨R_Model, "state", "(I)I"⟩
theorem co_Model_state : Cond.code y_Model_state b_Model_state 2 (some .int) ∈ lw_good := lg_in (tin_12 _ (List.mem_of_getElem? (i := 194) rfl)) rfl
abbrev w_Model_state : List Cond := Cond.code y_Model_state b_Model_state 2 (some .int) :: lw_good
theorem im_Model_state : Cond.instanceMethod y_Model_state ∈ lw_good := lg_right (i := 2832) (by decide +kernel) rfl
theorem se_Model_state : Cond.selects R_Model y_Model_state y_Model_state ∈ lw_good := lg_right (i := 2833) (by decide +kernel) rfl
theorem d_Model_state_0 : decode b_Model_state 0 = .ok (.iload_n 1, 1) := by decide +kernel
theorem d_Model_state_1 : decode b_Model_state 1 = .ok (.ifCond .ne 8, 3) := by decide +kernel
theorem d_Model_state_4 : decode b_Model_state 4 = .ok (.aload_n 0, 1) := by decide +kernel
theorem d_Model_state_5 : decode b_Model_state 5 = .ok (.getfield 802, 3) := by decide +kernel
theorem d_Model_state_8 : decode b_Model_state 8 = .ok (.ireturn, 1) := by decide +kernel
theorem d_Model_state_9 : decode b_Model_state 9 = .ok (.iload_n 1, 1) := by decide +kernel
theorem d_Model_state_10 : decode b_Model_state 10 = .ok (.iconst 1, 1) := by decide +kernel
theorem d_Model_state_11 : decode b_Model_state 11 = .ok (.if_icmp .ne 20, 3) := by decide +kernel
theorem d_Model_state_14 : decode b_Model_state 14 = .ok (.aload_n 0, 1) := by decide +kernel
theorem d_Model_state_15 : decode b_Model_state 15 = .ok (.getfield 802, 3) := by decide +kernel
theorem d_Model_state_18 : decode b_Model_state 18 = .ok (.iconst 3, 1) := by decide +kernel
theorem d_Model_state_19 : decode b_Model_state 19 = .ok (.if_icmp .ne 10, 3) := by decide +kernel
theorem d_Model_state_22 : decode b_Model_state 22 = .ok (.aload_n 0, 1) := by decide +kernel
theorem d_Model_state_23 : decode b_Model_state 23 = .ok (.getfield 823, 3) := by decide +kernel
theorem d_Model_state_26 : decode b_Model_state 26 = .ok (.goto 4, 3) := by decide +kernel
theorem d_Model_state_29 : decode b_Model_state 29 = .ok (.iconst 0, 1) := by decide +kernel
theorem d_Model_state_30 : decode b_Model_state 30 = .ok (.ireturn, 1) := by decide +kernel
theorem d_Model_state_31 : decode b_Model_state 31 = .ok (.iload_n 1, 1) := by decide +kernel
theorem d_Model_state_32 : decode b_Model_state 32 = .ok (.iconst 2, 1) := by decide +kernel
theorem d_Model_state_33 : decode b_Model_state 33 = .ok (.if_icmp .ne 18, 3) := by decide +kernel
theorem d_Model_state_36 : decode b_Model_state 36 = .ok (.aload_n 0, 1) := by decide +kernel
theorem d_Model_state_37 : decode b_Model_state 37 = .ok (.getfield 802, 3) := by decide +kernel
theorem d_Model_state_40 : decode b_Model_state 40 = .ok (.ifCond .eq 11, 3) := by decide +kernel
theorem d_Model_state_43 : decode b_Model_state 43 = .ok (.aload_n 0, 1) := by decide +kernel
theorem d_Model_state_44 : decode b_Model_state 44 = .ok (.getfield 802, 3) := by decide +kernel
theorem d_Model_state_47 : decode b_Model_state 47 = .ok (.iconst 2, 1) := by decide +kernel
theorem d_Model_state_48 : decode b_Model_state 48 = .ok (.if_icmp .ne 5, 3) := by decide +kernel
theorem d_Model_state_51 : decode b_Model_state 51 = .ok (.iconst (-1), 1) := by decide +kernel
theorem d_Model_state_52 : decode b_Model_state 52 = .ok (.ireturn, 1) := by decide +kernel
theorem d_Model_state_53 : decode b_Model_state 53 = .ok (.aload_n 0, 1) := by decide +kernel
theorem d_Model_state_54 : decode b_Model_state 54 = .ok (.getfield 802, 3) := by decide +kernel
theorem d_Model_state_57 : decode b_Model_state 57 = .ok (.iconst 1, 1) := by decide +kernel
theorem d_Model_state_58 : decode b_Model_state 58 = .ok (.if_icmp .ne 15, 3) := by decide +kernel
theorem d_Model_state_61 : decode b_Model_state 61 = .ok (.aload_n 0, 1) := by decide +kernel
theorem d_Model_state_62 : decode b_Model_state 62 = .ok (.getfield 198, 3) := by decide +kernel
theorem d_Model_state_65 : decode b_Model_state 65 = .ok (.aload_n 0, 1) := by decide +kernel
theorem d_Model_state_66 : decode b_Model_state 66 = .ok (.getfield 863, 3) := by decide +kernel
theorem d_Model_state_69 : decode b_Model_state 69 = .ok (.iaload, 1) := by decide +kernel
theorem d_Model_state_70 : decode b_Model_state 70 = .ok (.goto 14, 3) := by decide +kernel
theorem d_Model_state_73 : decode b_Model_state 73 = .ok (.aload_n 0, 1) := by decide +kernel
theorem d_Model_state_74 : decode b_Model_state 74 = .ok (.getfield 222, 3) := by decide +kernel
theorem d_Model_state_77 : decode b_Model_state 77 = .ok (.aload_n 0, 1) := by decide +kernel
theorem d_Model_state_78 : decode b_Model_state 78 = .ok (.getfield 808, 3) := by decide +kernel
theorem d_Model_state_81 : decode b_Model_state 81 = .ok (.iconst 1, 1) := by decide +kernel
theorem d_Model_state_82 : decode b_Model_state 82 = .ok (.isub, 1) := by decide +kernel
theorem d_Model_state_83 : decode b_Model_state 83 = .ok (.iaload, 1) := by decide +kernel
theorem d_Model_state_84 : decode b_Model_state 84 = .ok (.ireturn, 1) := by decide +kernel
abbrev b_Model_world : ByteArray := prog_14_method_136_code
abbrev y_Model_world : MethodName := ⟨R_Model, "world", "(I)I"⟩
theorem co_Model_world : Cond.code y_Model_world b_Model_world 2 (some .int) ∈ lw_good := lg_in (tin_12 _ (List.mem_of_getElem? (i := 198) rfl)) rfl
abbrev w_Model_world : List Cond := Cond.code y_Model_world b_Model_world 2 (some .int) :: lw_good
theorem im_Model_world : Cond.instanceMethod y_Model_world ∈ lw_good := lg_right (i := 2836) (by decide +kernel) rfl
theorem se_Model_world : Cond.selects R_Model y_Model_world y_Model_world ∈ lw_good := lg_right (i := 2837) (by decide +kernel) rfl
theorem d_Model_world_0 : decode b_Model_world 0 = .ok (.iload_n 1, 1) := by decide +kernel
theorem d_Model_world_1 : decode b_Model_world 1 = .ok (.tableswitch 101 0 8 #[51, 56, 66, 71, 76, 81, 86, 91, 96], 51) := by decide +kernel
theorem d_Model_world_52 : decode b_Model_world 52 = .ok (.aload_n 0, 1) := by decide +kernel
theorem d_Model_world_53 : decode b_Model_world 53 = .ok (.getfield 805, 3) := by decide +kernel
theorem d_Model_world_56 : decode b_Model_world 56 = .ok (.ireturn, 1) := by decide +kernel
theorem d_Model_world_57 : decode b_Model_world 57 = .ok (.aload_n 0, 1) := by decide +kernel
theorem d_Model_world_58 : decode b_Model_world 58 = .ok (.getfield 835, 3) := by decide +kernel
theorem d_Model_world_61 : decode b_Model_world 61 = .ok (.aload_n 0, 1) := by decide +kernel
theorem d_Model_world_62 : decode b_Model_world 62 = .ok (.getfield 838, 3) := by decide +kernel
theorem d_Model_world_65 : decode b_Model_world 65 = .ok (.isub, 1) := by decide +kernel
theorem d_Model_world_66 : decode b_Model_world 66 = .ok (.ireturn, 1) := by decide +kernel
theorem d_Model_world_67 : decode b_Model_world 67 = .ok (.aload_n 0, 1) := by decide +kernel
theorem d_Model_world_68 : decode b_Model_world 68 = .ok (.getfield 826, 3) := by decide +kernel
theorem d_Model_world_71 : decode b_Model_world 71 = .ok (.ireturn, 1) := by decide +kernel
theorem d_Model_world_72 : decode b_Model_world 72 = .ok (.aload_n 0, 1) := by decide +kernel
theorem d_Model_world_73 : decode b_Model_world 73 = .ok (.getfield 808, 3) := by decide +kernel
theorem d_Model_world_76 : decode b_Model_world 76 = .ok (.ireturn, 1) := by decide +kernel
theorem d_Model_world_77 : decode b_Model_world 77 = .ok (.aload_n 0, 1) := by decide +kernel
theorem d_Model_world_78 : decode b_Model_world 78 = .ok (.getfield 811, 3) := by decide +kernel
theorem d_Model_world_81 : decode b_Model_world 81 = .ok (.ireturn, 1) := by decide +kernel
theorem d_Model_world_82 : decode b_Model_world 82 = .ok (.aload_n 0, 1) := by decide +kernel
theorem d_Model_world_83 : decode b_Model_world 83 = .ok (.getfield 814, 3) := by decide +kernel
theorem d_Model_world_86 : decode b_Model_world 86 = .ok (.ireturn, 1) := by decide +kernel
theorem d_Model_world_87 : decode b_Model_world 87 = .ok (.aload_n 0, 1) := by decide +kernel
theorem d_Model_world_88 : decode b_Model_world 88 = .ok (.getfield 829, 3) := by decide +kernel
theorem d_Model_world_91 : decode b_Model_world 91 = .ok (.ireturn, 1) := by decide +kernel
theorem d_Model_world_92 : decode b_Model_world 92 = .ok (.aload_n 0, 1) := by decide +kernel
theorem d_Model_world_93 : decode b_Model_world 93 = .ok (.getfield 817, 3) := by decide +kernel
theorem d_Model_world_96 : decode b_Model_world 96 = .ok (.ireturn, 1) := by decide +kernel
theorem d_Model_world_97 : decode b_Model_world 97 = .ok (.aload_n 0, 1) := by decide +kernel
theorem d_Model_world_98 : decode b_Model_world 98 = .ok (.getfield 820, 3) := by decide +kernel
theorem d_Model_world_101 : decode b_Model_world 101 = .ok (.ireturn, 1) := by decide +kernel
theorem d_Model_world_102 : decode b_Model_world 102 = .ok (.iconst (-1), 1) := by decide +kernel
theorem d_Model_world_103 : decode b_Model_world 103 = .ok (.ireturn, 1) := by decide +kernel
abbrev b_Model_region : ByteArray := prog_14_method_137_code
abbrev y_Model_region : MethodName := ⟨R_Model, "region", "(II)I"⟩
theorem co_Model_region : Cond.code y_Model_region b_Model_region 3 (some .int) ∈ lw_good := lg_in (tin_12 _ (List.mem_of_getElem? (i := 202) rfl)) rfl
abbrev w_Model_region : List Cond := Cond.code y_Model_region b_Model_region 3 (some .int) :: lw_good
theorem im_Model_region : Cond.instanceMethod y_Model_region ∈ lw_good := lg_right (i := 2840) (by decide +kernel) rfl
theorem se_Model_region : Cond.selects R_Model y_Model_region y_Model_region ∈ lw_good := lg_right (i := 2841) (by decide +kernel) rfl
theorem d_Model_region_0 : decode b_Model_region 0 = .ok (.iload_n 1, 1) := by decide +kernel
theorem d_Model_region_1 : decode b_Model_region 1 = .ok (.ifCond .lt 20, 3) := by decide +kernel
theorem d_Model_region_4 : decode b_Model_region 4 = .ok (.iload_n 1, 1) := by decide +kernel
theorem d_Model_region_5 : decode b_Model_region 5 = .ok (.aload_n 0, 1) := by decide +kernel
theorem d_Model_region_6 : decode b_Model_region 6 = .ok (.getfield 826, 3) := by decide +kernel
theorem d_Model_region_9 : decode b_Model_region 9 = .ok (.if_icmp .ge 12, 3) := by decide +kernel
theorem d_Model_region_12 : decode b_Model_region 12 = .ok (.iload_n 2, 1) := by decide +kernel
theorem d_Model_region_13 : decode b_Model_region 13 = .ok (.ifCond .lt 8, 3) := by decide +kernel
theorem d_Model_region_16 : decode b_Model_region 16 = .ok (.iload_n 2, 1) := by decide +kernel
theorem d_Model_region_17 : decode b_Model_region 17 = .ok (.iconst 2, 1) := by decide +kernel
theorem d_Model_region_18 : decode b_Model_region 18 = .ok (.if_icmp .le 5, 3) := by decide +kernel
theorem d_Model_region_21 : decode b_Model_region 21 = .ok (.iconst (-1), 1) := by decide +kernel
theorem d_Model_region_22 : decode b_Model_region 22 = .ok (.ireturn, 1) := by decide +kernel
theorem d_Model_region_23 : decode b_Model_region 23 = .ok (.iload_n 2, 1) := by decide +kernel
theorem d_Model_region_24 : decode b_Model_region 24 = .ok (.ifCond .ne 12, 3) := by decide +kernel
theorem d_Model_region_27 : decode b_Model_region 27 = .ok (.aload_n 0, 1) := by decide +kernel
theorem d_Model_region_28 : decode b_Model_region 28 = .ok (.getfield 261, 3) := by decide +kernel
theorem d_Model_region_31 : decode b_Model_region 31 = .ok (.iload_n 1, 1) := by decide +kernel
theorem d_Model_region_32 : decode b_Model_region 32 = .ok (.iaload, 1) := by decide +kernel
theorem d_Model_region_33 : decode b_Model_region 33 = .ok (.goto 23, 3) := by decide +kernel
theorem d_Model_region_36 : decode b_Model_region 36 = .ok (.iload_n 2, 1) := by decide +kernel
theorem d_Model_region_37 : decode b_Model_region 37 = .ok (.iconst 1, 1) := by decide +kernel
theorem d_Model_region_38 : decode b_Model_region 38 = .ok (.if_icmp .ne 12, 3) := by decide +kernel
theorem d_Model_region_41 : decode b_Model_region 41 = .ok (.aload_n 0, 1) := by decide +kernel
theorem d_Model_region_42 : decode b_Model_region 42 = .ok (.getfield 267, 3) := by decide +kernel
theorem d_Model_region_45 : decode b_Model_region 45 = .ok (.iload_n 1, 1) := by decide +kernel
theorem d_Model_region_46 : decode b_Model_region 46 = .ok (.iaload, 1) := by decide +kernel
theorem d_Model_region_47 : decode b_Model_region 47 = .ok (.goto 9, 3) := by decide +kernel
theorem d_Model_region_50 : decode b_Model_region 50 = .ok (.aload_n 0, 1) := by decide +kernel
theorem d_Model_region_51 : decode b_Model_region 51 = .ok (.getfield 270, 3) := by decide +kernel
theorem d_Model_region_54 : decode b_Model_region 54 = .ok (.iload_n 1, 1) := by decide +kernel
theorem d_Model_region_55 : decode b_Model_region 55 = .ok (.iaload, 1) := by decide +kernel
theorem d_Model_region_56 : decode b_Model_region 56 = .ok (.ireturn, 1) := by decide +kernel
abbrev b_Model_printed : ByteArray := prog_14_method_138_code
abbrev y_Model_printed : MethodName := ⟨R_Model, "printed", "(I)I"⟩
theorem co_Model_printed : Cond.code y_Model_printed b_Model_printed 2 (some .int) ∈ lw_good := lg_in (tin_12 _ (List.mem_of_getElem? (i := 206) rfl)) rfl
abbrev w_Model_printed : List Cond := Cond.code y_Model_printed b_Model_printed 2 (some .int) :: lw_good
theorem im_Model_printed : Cond.instanceMethod y_Model_printed ∈ lw_good := lg_right (i := 2844) (by decide +kernel) rfl
theorem se_Model_printed : Cond.selects R_Model y_Model_printed y_Model_printed ∈ lw_good := lg_right (i := 2845) (by decide +kernel) rfl
theorem d_Model_printed_0 : decode b_Model_printed 0 = .ok (.iload_n 1, 1) := by decide +kernel
theorem d_Model_printed_1 : decode b_Model_printed 1 = .ok (.ifCond .lt 18, 3) := by decide +kernel
theorem d_Model_printed_4 : decode b_Model_printed 4 = .ok (.iload_n 1, 1) := by decide +kernel
theorem d_Model_printed_5 : decode b_Model_printed 5 = .ok (.aload_n 0, 1) := by decide +kernel
theorem d_Model_printed_6 : decode b_Model_printed 6 = .ok (.getfield 811, 3) := by decide +kernel
theorem d_Model_printed_9 : decode b_Model_printed 9 = .ok (.if_icmp .ge 10, 3) := by decide +kernel
theorem d_Model_printed_12 : decode b_Model_printed 12 = .ok (.iload_n 1, 1) := by decide +kernel
theorem d_Model_printed_13 : decode b_Model_printed 13 = .ok (.sipush 300, 3) := by decide +kernel
theorem d_Model_printed_16 : decode b_Model_printed 16 = .ok (.if_icmp .lt 7, 3) := by decide +kernel
theorem d_Model_printed_19 : decode b_Model_printed 19 = .ok (.iconst 0, 1) := by decide +kernel
theorem d_Model_printed_20 : decode b_Model_printed 20 = .ok (.goto 9, 3) := by decide +kernel
theorem d_Model_printed_23 : decode b_Model_printed 23 = .ok (.aload_n 0, 1) := by decide +kernel
theorem d_Model_printed_24 : decode b_Model_printed 24 = .ok (.getfield 310, 3) := by decide +kernel
theorem d_Model_printed_27 : decode b_Model_printed 27 = .ok (.iload_n 1, 1) := by decide +kernel
theorem d_Model_printed_28 : decode b_Model_printed 28 = .ok (.iaload, 1) := by decide +kernel
theorem d_Model_printed_29 : decode b_Model_printed 29 = .ok (.ireturn, 1) := by decide +kernel
section GV
variable {p : Program} {l : Launch} {e : Env} {R : Room} {s : State} {m : MethodId} {args : Array Value} {below : List Frame} {meth : Method} {c : Code} {H : Heap} {locs : List Loc} {cells slots : Nat} {Q : State → Prop}
variable {cc : ByteArray} {pc : Nat} {ls : Array Slot} {rest st0 : List Value} {dC : Nat → ClassId} {dI : Nat → Nat → Nat} {A : Nat → Prop} {ad ea ev : Nat → Nat} {km : Nat → ClassId} {T T' : gSt} {H0 : Heap}
theorem wr_Model_912 (hx : p.tables.exec = Jvm.exec) (hb : c.code = cc) (hT : ∀ w ∈ lw_good, w.before args s = true) (hown : s.vm.findClass R_Model = some m.cls) (hK : va_K (dC, dI) cls_all (gT LM km) s) (hP : va_P (dC, dI) cls_all (gW LM ad km T) H) (hD : va_D A (gW LM ad km T)) (hS : va_S A H0 H locs) {v : Int32} (hz : v = 0 ∨ v = 1) (hdg : decode cc pc = .ok (.putfield 912, 3)) (kk : ∀ (T1 : gSt), T1 = sI T 9 0 v → ∀ (H1 : Heap) (locs1 : List Loc), va_P (dC, dI) cls_all (gW LM ad km T1) H1 → va_D A (gW LM ad km T1) → va_S A H0 H1 locs1 → W p l e R s m args below meth c H1 locs1 cells slots Q (F0 m (pc + 3) ls rest)) : W p l e R s m args below meth c H locs cells slots Q (F0 m pc ls (.int v :: .ref (ad 0) :: rest)) := gw_puti okM hx hb hT i_Model t_Model t_Model_ok n_Model hown hK hP hD hS 0 9 9 (Nat.le_of_ble_eq_true rfl) rfl rfl (Nat.le_of_ble_eq_true rfl) rfl rfl (hT _ fl_Model_912) (fun _ h9 => h9) rfl (ty := .boolean) (by decide +kernel) (by rcases hz with h | h <;> rw [h] <;> rfl) (by rcases hz with h | h <;> rw [h] <;> rfl) hdg kk
theorem wr_Model_915 (hx : p.tables.exec = Jvm.exec) (hb : c.code = cc) (hT : ∀ w ∈ lw_good, w.before args s = true) (hown : s.vm.findClass R_Model = some m.cls) (hK : va_K (dC, dI) cls_all (gT LM km) s) (hP : va_P (dC, dI) cls_all (gW LM ad km T) H) (hD : va_D A (gW LM ad km T)) (hS : va_S A H0 H locs) {v : Int32} (hz : v = 0 ∨ v = 1) (hdg : decode cc pc = .ok (.putfield 915, 3)) (kk : ∀ (T1 : gSt), T1 = sI T 10 0 v → ∀ (H1 : Heap) (locs1 : List Loc), va_P (dC, dI) cls_all (gW LM ad km T1) H1 → va_D A (gW LM ad km T1) → va_S A H0 H1 locs1 → W p l e R s m args below meth c H1 locs1 cells slots Q (F0 m (pc + 3) ls rest)) : W p l e R s m args below meth c H locs cells slots Q (F0 m pc ls (.int v :: .ref (ad 0) :: rest)) := gw_puti okM hx hb hT i_Model t_Model t_Model_ok n_Model hown hK hP hD hS 0 10 10 (Nat.le_of_ble_eq_true rfl) rfl rfl (Nat.le_of_ble_eq_true rfl) rfl rfl (hT _ fl_Model_915) (fun _ h9 => h9) rfl (ty := .boolean) (by decide +kernel) (by rcases hz with h | h <;> rw [h] <;> rfl) (by rcases hz with h | h <;> rw [h] <;> rfl) hdg kk
theorem rd_Model_912 (hx : p.tables.exec = Jvm.exec) (hb : c.code = cc) (hT : ∀ w ∈ lw_good, w.before args s = true) (hown : s.vm.findClass R_Model = some m.cls) (hK : va_K (dC, dI) cls_all (gT LM km) s) (hP : va_P (dC, dI) cls_all (gW LM ad km T) H) (hdg : decode cc pc = .ok (.getfield 912, 3)) (kk : W p l e R s m args below meth c H locs cells slots Q (F0 m (pc + 3) ls (.int (T.1 9 0) :: rest))) : W p l e R s m args below meth c H locs cells slots Q (F0 m pc ls (.ref (ad 0) :: rest)) := gw_get hx hb hT i_Model hown hK hP 0 9 9 (Nat.le_of_ble_eq_true rfl) rfl rfl (Nat.le_of_ble_eq_true rfl) rfl (gv_i rfl) (hT _ fl_Model_912) (fun _ h9 => h9) hdg kk
theorem rd_Model_13 (hx : p.tables.exec = Jvm.exec) (hb : c.code = cc) (hT : ∀ w ∈ lw_good, w.before args s = true) (hown : s.vm.findClass R_Model = some m.cls) (hK : va_K (dC, dI) cls_all (gT LM km) s) (hP : va_P (dC, dI) cls_all (gW LM ad km T) H) (hdg : decode cc pc = .ok (.getfield 13, 3)) (kk : W p l e R s m args below meth c H locs cells slots Q (F0 m (pc + 3) ls (.int (T.1 8 0) :: rest))) : W p l e R s m args below meth c H locs cells slots Q (F0 m pc ls (.ref (ad 0) :: rest)) := gw_get hx hb hT i_Model hown hK hP 0 8 8 (Nat.le_of_ble_eq_true rfl) rfl rfl (Nat.le_of_ble_eq_true rfl) rfl (gv_i rfl) (hT _ fl_Model_13) (fun _ h9 => h9) hdg kk
theorem rd_Model_915 (hx : p.tables.exec = Jvm.exec) (hb : c.code = cc) (hT : ∀ w ∈ lw_good, w.before args s = true) (hown : s.vm.findClass R_Model = some m.cls) (hK : va_K (dC, dI) cls_all (gT LM km) s) (hP : va_P (dC, dI) cls_all (gW LM ad km T) H) (hdg : decode cc pc = .ok (.getfield 915, 3)) (kk : W p l e R s m args below meth c H locs cells slots Q (F0 m (pc + 3) ls (.int (T.1 10 0) :: rest))) : W p l e R s m args below meth c H locs cells slots Q (F0 m pc ls (.ref (ad 0) :: rest)) := gw_get hx hb hT i_Model hown hK hP 0 10 10 (Nat.le_of_ble_eq_true rfl) rfl rfl (Nat.le_of_ble_eq_true rfl) rfl (gv_i rfl) (hT _ fl_Model_915) (fun _ h9 => h9) hdg kk
theorem wr_Model_844 (hx : p.tables.exec = Jvm.exec) (hb : c.code = cc) (hT : ∀ w ∈ lw_good, w.before args s = true) (hown : s.vm.findClass R_Model = some m.cls) (hK : va_K (dC, dI) cls_all (gT LM km) s) (hP : va_P (dC, dI) cls_all (gW LM ad km T) H) (hD : va_D A (gW LM ad km T)) (hS : va_S A H0 H locs) {v : Int32} (hdg : decode cc pc = .ok (.putfield 844, 3)) (kk : ∀ (T1 : gSt), T1 = sI T 131 0 v → ∀ (H1 : Heap) (locs1 : List Loc), va_P (dC, dI) cls_all (gW LM ad km T1) H1 → va_D A (gW LM ad km T1) → va_S A H0 H1 locs1 → W p l e R s m args below meth c H1 locs1 cells slots Q (F0 m (pc + 3) ls rest)) : W p l e R s m args below meth c H locs cells slots Q (F0 m pc ls (.int v :: .ref (ad 0) :: rest)) := gw_puti okM hx hb hT i_Model t_Model t_Model_ok n_Model hown hK hP hD hS 0 131 131 (Nat.le_of_ble_eq_true rfl) rfl rfl (Nat.le_of_ble_eq_true rfl) rfl rfl (hT _ fl_Model_844) (fun _ h9 => h9) rfl (ty := .int) (by decide +kernel) rfl rfl hdg kk
theorem rd_Model_805 (hx : p.tables.exec = Jvm.exec) (hb : c.code = cc) (hT : ∀ w ∈ lw_good, w.before args s = true) (hown : s.vm.findClass R_Model = some m.cls) (hK : va_K (dC, dI) cls_all (gT LM km) s) (hP : va_P (dC, dI) cls_all (gW LM ad km T) H) (hdg : decode cc pc = .ok (.getfield 805, 3)) (kk : W p l e R s m args below meth c H locs cells slots Q (F0 m (pc + 3) ls (.int (T.1 101 0) :: rest))) : W p l e R s m args below meth c H locs cells slots Q (F0 m pc ls (.ref (ad 0) :: rest)) := gw_get hx hb hT i_Model hown hK hP 0 101 101 (Nat.le_of_ble_eq_true rfl) rfl rfl (Nat.le_of_ble_eq_true rfl) rfl (gv_i rfl) (hT _ fl_Model_805) (fun _ h9 => h9) hdg kk
theorem rd_Model_222 (hx : p.tables.exec = Jvm.exec) (hb : c.code = cc) (hT : ∀ w ∈ lw_good, w.before args s = true) (hown : s.vm.findClass R_Model = some m.cls) (hK : va_K (dC, dI) cls_all (gT LM km) s) (hP : va_P (dC, dI) cls_all (gW LM ad km T) H) (hdg : decode cc pc = .ok (.getfield 222, 3)) (kk : W p l e R s m args below meth c H locs cells slots Q (F0 m (pc + 3) ls (.ref (ad 70) :: rest))) : W p l e R s m args below meth c H locs cells slots Q (F0 m pc ls (.ref (ad 0) :: rest)) := gw_get hx hb hT i_Model hown hK hP 0 115 115 (Nat.le_of_ble_eq_true rfl) rfl rfl (Nat.le_of_ble_eq_true rfl) rfl (gv_a rfl) (hT _ fl_Model_222) (fun _ h9 => h9) hdg kk
theorem laM_69 (hx : p.tables.exec = Jvm.exec) (hb : c.code = cc) (hK : va_K (dC, dI) cls_all (gT LM km) s) (hP : va_P (dC, dI) cls_all (gW LM ad km T) H) {x : Int32} (hin : inb x 41) (hdg : decode cc pc = .ok (.iaload, 1)) (kk : W p l e R s m args below meth c H locs cells slots Q (F0 m (pc + 1) ls (.int (T.1 115 x.toNatClampNeg) :: rest))) : W p l e R s m args below meth c H locs cells slots Q (F0 m pc ls (.int x :: .ref (ad 70) :: rest)) := gw_iald hx hb hK hP 69 115 41 70 (Nat.le_of_ble_eq_true rfl) rfl rfl rfl rfl rfl hin hdg kk
theorem saM_69 (hx : p.tables.exec = Jvm.exec) (hb : c.code = cc) (hK : va_K (dC, dI) cls_all (gT LM km) s) (hP : va_P (dC, dI) cls_all (gW LM ad km T) H) (hD : va_D A (gW LM ad km T)) (hS : va_S A H0 H locs) {x : Int32} {v : Int32} (hin : inb x 41) (hdg : decode cc pc = .ok (.iastore, 1)) (kk : ∀ (T1 : gSt), T1 = sI T 115 x.toNatClampNeg v → ∀ (H1 : Heap) (locs1 : List Loc), va_P (dC, dI) cls_all (gW LM ad km T1) H1 → va_D A (gW LM ad km T1) → va_S A H0 H1 locs1 → W p l e R s m args below meth c H1 locs1 cells slots Q (F0 m (pc + 1) ls rest)) : W p l e R s m args below meth c H locs cells slots Q (F0 m pc ls (.int v :: .int x :: .ref (ad 70) :: rest)) := gw_iast okM hx hb hK hP hD hS 69 115 41 70 (Nat.le_of_ble_eq_true rfl) rfl rfl rfl rfl rfl hin hdg kk
theorem rd_Model_823 (hx : p.tables.exec = Jvm.exec) (hb : c.code = cc) (hT : ∀ w ∈ lw_good, w.before args s = true) (hown : s.vm.findClass R_Model = some m.cls) (hK : va_K (dC, dI) cls_all (gT LM km) s) (hP : va_P (dC, dI) cls_all (gW LM ad km T) H) (hdg : decode cc pc = .ok (.getfield 823, 3)) (kk : W p l e R s m args below meth c H locs cells slots Q (F0 m (pc + 3) ls (.int (T.1 108 0) :: rest))) : W p l e R s m args below meth c H locs cells slots Q (F0 m pc ls (.ref (ad 0) :: rest)) := gw_get hx hb hT i_Model hown hK hP 0 108 108 (Nat.le_of_ble_eq_true rfl) rfl rfl (Nat.le_of_ble_eq_true rfl) rfl (gv_i rfl) (hT _ fl_Model_823) (fun _ h9 => h9) hdg kk
theorem rd_Model_835 (hx : p.tables.exec = Jvm.exec) (hb : c.code = cc) (hT : ∀ w ∈ lw_good, w.before args s = true) (hown : s.vm.findClass R_Model = some m.cls) (hK : va_K (dC, dI) cls_all (gT LM km) s) (hP : va_P (dC, dI) cls_all (gW LM ad km T) H) (hdg : decode cc pc = .ok (.getfield 835, 3)) (kk : W p l e R s m args below meth c H locs cells slots Q (F0 m (pc + 3) ls (.int (T.1 130 0) :: rest))) : W p l e R s m args below meth c H locs cells slots Q (F0 m pc ls (.ref (ad 0) :: rest)) := gw_get hx hb hT i_Model hown hK hP 0 130 130 (Nat.le_of_ble_eq_true rfl) rfl rfl (Nat.le_of_ble_eq_true rfl) rfl (gv_i rfl) (hT _ fl_Model_835) (fun _ h9 => h9) hdg kk
end GV
def mt_Model_makeRow (l : Launch) (dC : Nat → ClassId) (dI : Nat → Nat → Nat) (ea ev ad : Nat → Nat) (km : Nat → ClassId) (F : gF) (d : Nat) : Prop := ∀ (T : gSt) (p1 : Int32) (p2 : Int32) (r : Int32) (rl : Int64) (T' : gSt), F 123 T [p1, p2] [] = some (r, rl, T') → GMv l dC dI LM ad km ea ev y_Model_makeRow w_Model_makeRow (rmD d) [.ref (ad 0), .int p1, .int p2] T T'
theorem pd_Model_makeRow : (y_Model_makeRow).cls = R_Model ∧ (y_Model_makeRow).cls ≠ "java/lang/invoke/MethodHandle" ∧ (y_Model_makeRow).cls ≠ "java/lang/invoke/VarHandle" ∧ (parseMethodDescriptor (y_Model_makeRow).desc).map (fun d => d.parameters.length) = some 2 := by decide +kernel
def mt_Model_build (l : Launch) (dC : Nat → ClassId) (dI : Nat → Nat → Nat) (ea ev ad : Nat → Nat) (km : Nat → ClassId) (F : gF) (d : Nat) : Prop := ∀ (T : gSt)  (r : Int32) (rl : Int64) (T' : gSt), F 126 T [] [] = some (r, rl, T') → GMi l dC dI LM ad km ea ev y_Model_build w_Model_build (rmD d) [.ref (ad 0)] T r T'
theorem pd_Model_build : (y_Model_build).cls = R_Model ∧ (y_Model_build).cls ≠ "java/lang/invoke/MethodHandle" ∧ (y_Model_build).cls ≠ "java/lang/invoke/VarHandle" ∧ (parseMethodDescriptor (y_Model_build).desc).map (fun d => d.parameters.length) = some 0 := by decide +kernel
def mt_Model_fault (l : Launch) (dC : Nat → ClassId) (dI : Nat → Nat → Nat) (ea ev ad : Nat → Nat) (km : Nat → ClassId) (F : gF) (d : Nat) : Prop := ∀ (T : gSt) (p1 : Int32) (r : Int32) (rl : Int64) (T' : gSt), F 127 T [p1] [] = some (r, rl, T') → GMi l dC dI LM ad km ea ev y_Model_fault w_Model_fault (rmD d) [.ref (ad 0), .int p1] T r T'
theorem pd_Model_fault : (y_Model_fault).cls = R_Model ∧ (y_Model_fault).cls ≠ "java/lang/invoke/MethodHandle" ∧ (y_Model_fault).cls ≠ "java/lang/invoke/VarHandle" ∧ (parseMethodDescriptor (y_Model_fault).desc).map (fun d => d.parameters.length) = some 1 := by decide +kernel
def mt_Model_program_I (l : Launch) (dC : Nat → ClassId) (dI : Nat → Nat → Nat) (ea ev ad : Nat → Nat) (km : Nat → ClassId) (F : gF) (d : Nat) : Prop := ∀ (T : gSt) (p1 : Int32) (r : Int32) (rl : Int64) (T' : gSt), F 128 T [p1] [] = some (r, rl, T') → GMi l dC dI LM ad km ea ev y_Model_program_I w_Model_program_I (rmD d) [.ref (ad 0), .int p1] T r T'
theorem pd_Model_program_I : (y_Model_program_I).cls = R_Model ∧ (y_Model_program_I).cls ≠ "java/lang/invoke/MethodHandle" ∧ (y_Model_program_I).cls ≠ "java/lang/invoke/VarHandle" ∧ (parseMethodDescriptor (y_Model_program_I).desc).map (fun d => d.parameters.length) = some 1 := by decide +kernel
def mt_Model_start (l : Launch) (dC : Nat → ClassId) (dI : Nat → Nat → Nat) (ea ev ad : Nat → Nat) (km : Nat → ClassId) (F : gF) (d : Nat) : Prop := ∀ (T : gSt) (p1 : Int32) (p2 : Int32) (r : Int32) (rl : Int64) (T' : gSt), F 129 T [p1, p2] [] = some (r, rl, T') → GMi l dC dI LM ad km ea ev y_Model_start w_Model_start (rmD d) [.ref (ad 0), .int p1, .int p2] T r T'
theorem pd_Model_start : (y_Model_start).cls = R_Model ∧ (y_Model_start).cls ≠ "java/lang/invoke/MethodHandle" ∧ (y_Model_start).cls ≠ "java/lang/invoke/VarHandle" ∧ (parseMethodDescriptor (y_Model_start).desc).map (fun d => d.parameters.length) = some 2 := by decide +kernel
def mt_Model_input_I (l : Launch) (dC : Nat → ClassId) (dI : Nat → Nat → Nat) (ea ev ad : Nat → Nat) (km : Nat → ClassId) (F : gF) (d : Nat) : Prop := ∀ (T : gSt) (p1 : Int32) (r : Int32) (rl : Int64) (T' : gSt), F 130 T [p1] [] = some (r, rl, T') → GMi l dC dI LM ad km ea ev y_Model_input_I w_Model_input_I (rmD d) [.ref (ad 0), .int p1] T r T'
theorem pd_Model_input_I : (y_Model_input_I).cls = R_Model ∧ (y_Model_input_I).cls ≠ "java/lang/invoke/MethodHandle" ∧ (y_Model_input_I).cls ≠ "java/lang/invoke/VarHandle" ∧ (parseMethodDescriptor (y_Model_input_I).desc).map (fun d => d.parameters.length) = some 1 := by decide +kernel
def mt_Model_run_I (l : Launch) (dC : Nat → ClassId) (dI : Nat → Nat → Nat) (ea ev ad : Nat → Nat) (km : Nat → ClassId) (F : gF) (d : Nat) : Prop := ∀ (T : gSt) (p1 : Int32) (r : Int32) (rl : Int64) (T' : gSt), F 131 T [p1] [] = some (r, rl, T') → GMi l dC dI LM ad km ea ev y_Model_run_I w_Model_run_I (rmD d) [.ref (ad 0), .int p1] T r T'
theorem pd_Model_run_I : (y_Model_run_I).cls = R_Model ∧ (y_Model_run_I).cls ≠ "java/lang/invoke/MethodHandle" ∧ (y_Model_run_I).cls ≠ "java/lang/invoke/VarHandle" ∧ (parseMethodDescriptor (y_Model_run_I).desc).map (fun d => d.parameters.length) = some 1 := by decide +kernel
def mt_Model_state (l : Launch) (dC : Nat → ClassId) (dI : Nat → Nat → Nat) (ea ev ad : Nat → Nat) (km : Nat → ClassId) (F : gF) (d : Nat) : Prop := ∀ (T : gSt) (p1 : Int32) (r : Int32) (rl : Int64) (T' : gSt), F 132 T [p1] [] = some (r, rl, T') → GMi l dC dI LM ad km ea ev y_Model_state w_Model_state (rmD d) [.ref (ad 0), .int p1] T r T'
theorem pd_Model_state : (y_Model_state).cls = R_Model ∧ (y_Model_state).cls ≠ "java/lang/invoke/MethodHandle" ∧ (y_Model_state).cls ≠ "java/lang/invoke/VarHandle" ∧ (parseMethodDescriptor (y_Model_state).desc).map (fun d => d.parameters.length) = some 1 := by decide +kernel
def mt_Model_world (l : Launch) (dC : Nat → ClassId) (dI : Nat → Nat → Nat) (ea ev ad : Nat → Nat) (km : Nat → ClassId) (F : gF) (d : Nat) : Prop := ∀ (T : gSt) (p1 : Int32) (r : Int32) (rl : Int64) (T' : gSt), F 133 T [p1] [] = some (r, rl, T') → GMi l dC dI LM ad km ea ev y_Model_world w_Model_world (rmD d) [.ref (ad 0), .int p1] T r T'
theorem pd_Model_world : (y_Model_world).cls = R_Model ∧ (y_Model_world).cls ≠ "java/lang/invoke/MethodHandle" ∧ (y_Model_world).cls ≠ "java/lang/invoke/VarHandle" ∧ (parseMethodDescriptor (y_Model_world).desc).map (fun d => d.parameters.length) = some 1 := by decide +kernel
def mt_Model_region (l : Launch) (dC : Nat → ClassId) (dI : Nat → Nat → Nat) (ea ev ad : Nat → Nat) (km : Nat → ClassId) (F : gF) (d : Nat) : Prop := ∀ (T : gSt) (p1 : Int32) (p2 : Int32) (r : Int32) (rl : Int64) (T' : gSt), F 134 T [p1, p2] [] = some (r, rl, T') → GMi l dC dI LM ad km ea ev y_Model_region w_Model_region (rmD d) [.ref (ad 0), .int p1, .int p2] T r T'
theorem pd_Model_region : (y_Model_region).cls = R_Model ∧ (y_Model_region).cls ≠ "java/lang/invoke/MethodHandle" ∧ (y_Model_region).cls ≠ "java/lang/invoke/VarHandle" ∧ (parseMethodDescriptor (y_Model_region).desc).map (fun d => d.parameters.length) = some 2 := by decide +kernel
def mt_Model_printed (l : Launch) (dC : Nat → ClassId) (dI : Nat → Nat → Nat) (ea ev ad : Nat → Nat) (km : Nat → ClassId) (F : gF) (d : Nat) : Prop := ∀ (T : gSt) (p1 : Int32) (r : Int32) (rl : Int64) (T' : gSt), F 135 T [p1] [] = some (r, rl, T') → GMi l dC dI LM ad km ea ev y_Model_printed w_Model_printed (rmD d) [.ref (ad 0), .int p1] T r T'
theorem pd_Model_printed : (y_Model_printed).cls = R_Model ∧ (y_Model_printed).cls ≠ "java/lang/invoke/MethodHandle" ∧ (y_Model_printed).cls ≠ "java/lang/invoke/VarHandle" ∧ (parseMethodDescriptor (y_Model_printed).desc).map (fun d => d.parameters.length) = some 1 := by decide +kernel
set_option maxHeartbeats 4000000 in
set_option maxRecDepth 100000 in
theorem sp_Model_makeBy (l : Launch) (dC : Nat → ClassId) (dI : Nat → Nat → Nat) (ea ev ad : Nat → Nat) (km : Nat → ClassId) (F : gF) (nf d : Nat) (h_Model_regionIndex : mt_Model_regionIndex l dC dI ea ev ad km F d) (h_Model_makeRow : mt_Model_makeRow l dC dI ea ev ad km F d) (h_Model_wordsOf : mt_Model_wordsOf l dC dI ea ev ad km F d) (h_Model_make : mt_Model_make l dC dI ea ev ad km F d) (h_Model_push : mt_Model_push l dC dI ea ev ad km F d) (h_Model_put : mt_Model_put l dC dI ea ev ad km F d) (T0 : gSt) (p1 : Int32) (p2 : Int32) (p3 : Int32) (p4 : Int32) (r0 : Int32) (rl0 : Int64) (T9 : gSt) (hR : rb_Model_makeBy F nf T0 p1 p2 p3 p4 = some (r0, rl0, T9)) : GMv l dC dI LM ad km ea ev y_Model_makeBy w_Model_makeBy (rmD (d + 1)) [.ref (ad 0), .int p1, .int p2, .int p3, .int p4] T0 T9 := by
  intro sz
  refine Met.ofW (cc := b_Model_makeBy) (maxL := 12) (ret := none) (by decide) rfl ?_
  intro p e s m args below meth c s₁ B hml hv
  obtain ⟨rfl, hsz, hP, hK, hD0, hnw, henv⟩ := hv
  have hx := B.exec
  have hb := B.bytes
  have hr := B.returns
  have hT : ∀ w ∈ lw_good, w.before _ s = true := fun w h => atoms_spec (ws := w_Model_makeBy) B.pre w (List.mem_cons_of_mem _ h)
  have hown : s.vm.findClass R_Model = some m.cls := findClass_of_methodNamed B.named
  subst hsz
  have hD := hD0.self (sz := s.heap.size)
  clear hD0
  generalize hAe : va_A (gW LM ad km T0) s.heap.size = A at hD henv ⊢
  have hA : ∀ q : Nat, s.heap.size ≤ q → A q := fun q h => by rw [← hAe]; exact Or.inr h
  have hS : va_S A s.heap s.heap [] := va_S.rf
  have hl := lv_entry ([.ref (ad 0), .int p1, .int p2, .int p3, .int p4]) (n := 12) (Nat.le_of_ble_eq_true rfl)
  rw [lg_entry_eq]
  generalize (lg_sl ([.ref (ad 0), .int p1, .int p2, .int p3, .int p4]) ++ List.replicate (12 - (lg_sl ([.ref (ad 0), .int p1, .int p2, .int p3, .int p4])).length) Slot.unset).toArray = ls at hl ⊢
  have hl : lv_has ls 12 [(0, .ref (ad 0)), (1, .int p1), (2, .int p2), (3, .int p3), (4, .int p4)] := hl
  obtain ⟨G, hG⟩ : ∃ G : Nat → List (Nat × Value) → List Value → gSt → Prop, G = (fun pc lv stk T => ∀ (H : Heap) (locs : List Loc), va_P (dC, dI) cls_all (gW LM ad km T) H → va_D A (gW LM ad km T) → va_S A s.heap H locs → ∀ (ls : Array Slot), lv_has ls 12 lv → W p l e (headSpec w_Model_makeBy (rmD (d + 1))).room s m ([.ref (ad 0), .int p1, .int p2, .int p3, .int p4] : List Value).toArray below meth c H locs 0 0 (MQ below (va_Qv (fun (_ : Unit) => True) (fun _ t => gPost dC dI LM ad km T9 A t) A) ([.ref (ad 0), .int p1, .int p2, .int p3, .int p4] : List Value).toArray s 0 0 A) (F0 m pc ls stk)) := ⟨_, rfl⟩
  have lb_207 : ∀ (n : Nat) (T : gSt) (x1 : Int32) (x4 : Int32) (x6 : Int32) (x10 : Int32) (x11 : Int32), rl_Model_makeBy_207 F nf n T x1 x4 x6 x10 x11 = some (r0, rl0, T9) → G 207 [(0, .ref (ad 0)), (1, .int x1), (4, .int x4), (6, .int x6), (10, .int x10), (11, .int x11)] [] T := by
    intro n
    induction n with
    | zero => intro T x1 x4 x6 x10 x11 hR; rw [rl_Model_makeBy_207] at hR; cases hR
    | succ n ih =>
      intro T x1 x4 x6 x10 x11 hR; rw [rl_Model_makeBy_207] at hR; rw [hG]; intro H locs hP hD hS ls hl
      refine lv_iload hx hb d_Model_makeBy_207 (lv_at hl 5 rfl) ?_
      refine lv_iload hx hb d_Model_makeBy_209 (lv_at hl 3 rfl) ?_
      refine lv_icmp_ge (tgt := 242) hx hb d_Model_makeBy_211 (by decide) (fun c27 => ?_) (fun c27 => ?_)
      · replace hR := if_p c27 hR
        refine lv_iload_n hx hb d_Model_makeBy_242 rfl (lv_at hl 1 rfl) ?_
        refine lv_bipush (v := 17) hx hb d_Model_makeBy_243 (by decide) ?_
        refine lv_icmp_ne (tgt := 257) hx hb d_Model_makeBy_245 (by decide) (fun c28 => ?_) (fun c28 => ?_)
        · replace hR := if_n c28 hR
          refine lv_aload_n hx hb d_Model_makeBy_257 rfl (lv_at hl 0 rfl) ?_
          refine lv_iconst (v := 0) hx hb d_Model_makeBy_258 (by decide) ?_
          refine lv_iload hx hb d_Model_makeBy_259 (lv_at hl 4 rfl) ?_
          refine lv_aload_n hx hb d_Model_makeBy_261 rfl (lv_at hl 0 rfl) ?_
          refine rd_Model_273 hx hb hT hown hK hP d_Model_makeBy_262 ?_
          refine lv_iload hx hb d_Model_makeBy_265 (lv_at hl 4 rfl) ?_
          replace hR := gd_e hR
          obtain ⟨b29, hR⟩ := hR
          refine laM_86 hx hb hK hP b29 d_Model_makeBy_267 ?_
          replace hR := bi_e hR
          obtain ⟨r30, l30, T30, hc30, hR⟩ := hR
          refine gcV_v (rest := []) ⟨hx, hb, hml, hown, hT⟩ (h_Model_push _ _ _ _ _ _ _ hc30) (cwV 3 hT (gV ml_Model_857 im_Model_push se_Model_push ini_Model co_Model_push) rfl rfl rfl pd_Model_push ⟨rm_hi, rm_lo (Nat.le_of_ble_eq_true rfl)⟩) hK hP hD hS hA hnw henv (Nat.le_of_ble_eq_true rfl) rfl rfl hl.1 rfl (Nat.le_of_ble_eq_true rfl) d_Model_makeBy_268 ⟨Nat.le_refl _, Nat.le_refl _⟩ (fun H locs hP hD hS => ?_)
          clear hc30
          obtain ⟨-, -, e3⟩ := re_e hR
          subst e3
          exact W.vret hx hb hr (fun t ht hW => ⟨⟨(), rfl, trivial, by rw [ht]; exact hP, va_K.moved hW.alike hK, hD⟩, hS.F ht⟩) hS.2.2 d_Model_makeBy_271
        · replace hR := if_p c28 hR
          refine lv_aload_n hx hb d_Model_makeBy_248 rfl (lv_at hl 0 rfl) ?_
          refine rd_Model_285 hx hb hT hown hK hP d_Model_makeBy_249 ?_
          refine lv_iload hx hb d_Model_makeBy_252 (lv_at hl 4 rfl) ?_
          refine lv_iload hx hb d_Model_makeBy_254 (lv_at hl 2 rfl) ?_
          replace hR := gd_e hR
          obtain ⟨b31, hR⟩ := hR
          refine saM_90 hx hb hK hP hD hS b31 d_Model_makeBy_256 (fun T31 eT H locs hP hD hS => ?_)
          replace hR := stK_e eT hR
          clear eT
          refine lv_aload_n hx hb d_Model_makeBy_257 rfl (lv_at hl 0 rfl) ?_
          refine lv_iconst (v := 0) hx hb d_Model_makeBy_258 (by decide) ?_
          refine lv_iload hx hb d_Model_makeBy_259 (lv_at hl 4 rfl) ?_
          refine lv_aload_n hx hb d_Model_makeBy_261 rfl (lv_at hl 0 rfl) ?_
          refine rd_Model_273 hx hb hT hown hK hP d_Model_makeBy_262 ?_
          refine lv_iload hx hb d_Model_makeBy_265 (lv_at hl 4 rfl) ?_
          replace hR := gd_e hR
          obtain ⟨b32, hR⟩ := hR
          refine laM_86 hx hb hK hP b32 d_Model_makeBy_267 ?_
          replace hR := bi_e hR
          obtain ⟨r33, l33, T33, hc33, hR⟩ := hR
          refine gcV_v (rest := []) ⟨hx, hb, hml, hown, hT⟩ (h_Model_push _ _ _ _ _ _ _ hc33) (cwV 3 hT (gV ml_Model_857 im_Model_push se_Model_push ini_Model co_Model_push) rfl rfl rfl pd_Model_push ⟨rm_hi, rm_lo (Nat.le_of_ble_eq_true rfl)⟩) hK hP hD hS hA hnw henv (Nat.le_of_ble_eq_true rfl) rfl rfl hl.1 rfl (Nat.le_of_ble_eq_true rfl) d_Model_makeBy_268 ⟨Nat.le_refl _, Nat.le_refl _⟩ (fun H locs hP hD hS => ?_)
          clear hc33
          obtain ⟨-, -, e3⟩ := re_e hR
          subst e3
          exact W.vret hx hb hr (fun t ht hW => ⟨⟨(), rfl, trivial, by rw [ht]; exact hP, va_K.moved hW.alike hK, hD⟩, hS.F ht⟩) hS.2.2 d_Model_makeBy_271
      · replace hR := if_n c27 hR
        refine lv_aload_n hx hb d_Model_makeBy_214 rfl (lv_at hl 0 rfl) ?_
        refine lv_iload hx hb d_Model_makeBy_215 (lv_at hl 4 rfl) ?_
        refine lv_aload_n hx hb d_Model_makeBy_217 rfl (lv_at hl 0 rfl) ?_
        refine rd_Model_273 hx hb hT hown hK hP d_Model_makeBy_218 ?_
        refine lv_iload hx hb d_Model_makeBy_221 (lv_at hl 4 rfl) ?_
        replace hR := gd_e hR
        obtain ⟨b34, hR⟩ := hR
        refine laM_86 hx hb hK hP b34 d_Model_makeBy_223 ?_
        refine lv_iload hx hb d_Model_makeBy_224 (lv_at hl 5 rfl) ?_
        refine lv_aload_n hx hb d_Model_makeBy_226 rfl (lv_at hl 0 rfl) ?_
        refine rd_Model_799 hx hb hT hown hK hP d_Model_makeBy_227 ?_
        refine lv_iload hx hb d_Model_makeBy_230 (lv_at hl 5 rfl) ?_
        refine lv_iadd hx hb d_Model_makeBy_232 ?_
        replace hR := bi_e hR
        obtain ⟨r35, l35, T35, hc35, hR⟩ := hR
        refine gcV_v (rest := []) ⟨hx, hb, hml, hown, hT⟩ (h_Model_put _ _ _ _ _ _ _ _ hc35) (cwV 4 hT (gV ml_Model_903 im_Model_put se_Model_put ini_Model co_Model_put) rfl rfl rfl pd_Model_put ⟨rm_hi, rm_lo (Nat.le_of_ble_eq_true rfl)⟩) hK hP hD hS hA hnw henv (Nat.le_of_ble_eq_true rfl) rfl rfl hl.1 rfl (Nat.le_of_ble_eq_true rfl) d_Model_makeBy_233 ⟨Nat.le_refl _, Nat.le_refl _⟩ (fun H locs hP hD hS => ?_)
        clear hc35
        obtain ⟨z36, e36⟩ : ∃ y : Int32, y = x11 + (1 : Int32) := ⟨_, rfl⟩
        replace hR := vK_e e36 hR
        refine lv_iinc (v := z36) (lv' := [(11, .int z36), (0, .ref (ad 0)), (1, .int x1), (4, .int x4), (6, .int x6), (10, .int x10)]) hx hb d_Model_makeBy_236 hl (k := 5) rfl (by rw [e36]; rfl) (by decide) rfl (fun ls hl => ?_)
        refine lv_goto (tgt := 207) hx hb d_Model_makeBy_239 (by decide) ?_
        have g := ih T35 x1 x4 x6 x10 z36 hR
        rw [hG] at g
        exact g _ _ hP hD hS _ (lv_sub hl [1, 2, 3, 4, 5, 0] rfl)
  have lb_171 : ∀ (T : gSt) (x1 : Int32) (x4 : Int32) (x5 : Int32) (x6 : Int32) (y0 : Int64) (y1 : Int64), rj_Model_makeBy_171 F nf T x1 x4 x5 x6 y0 y1 = some (r0, rl0, T9) → G 171 [(0, .ref (ad 0)), (1, .int x1), (4, .int x4), (5, .int x5), (6, .int x6)] [.long y0, .long y1] T := by
    intro T x1 x4 x5 x6 y0 y1 hR; unfold rj_Model_makeBy_171 at hR; rw [hG]; intro H locs hP hD hS ls hl
    refine lv_ladd hx hb d_Model_makeBy_171 ?_
    refine lv_topl (fun z23 e23 => ?_)
    replace hR := lK_e e23 hR
    refine lv_lstore (lv' := [(7, .long z23), (0, .ref (ad 0)), (1, .int x1), (4, .int x4), (5, .int x5), (6, .int x6)]) hx hb d_Model_makeBy_172 hl (by decide) rfl (fun ls hl => ?_)
    refine lv_aload_n hx hb d_Model_makeBy_174 rfl (lv_at hl 1 rfl) ?_
    refine lv_iload hx hb d_Model_makeBy_175 (lv_at hl 4 rfl) ?_
    refine lv_lload hx hb d_Model_makeBy_177 (lv_at hl 0 rfl) ?_
    refine lv_iload hx hb d_Model_makeBy_179 (lv_at hl 5 rfl) ?_
    replace hR := bi_e hR
    obtain ⟨r24, l24, T24, hc24, hR⟩ := hR
    refine gcV_i (rest := []) ⟨hx, hb, hml, hown, hT⟩ (h_Model_make _ _ _ _ _ _ _ hc24) (cwV 3 hT (gV ml_Model_899 im_Model_make se_Model_make ini_Model co_Model_make) rfl rfl rfl pd_Model_make ⟨rm_hi, rm_lo (Nat.le_of_ble_eq_true rfl)⟩) hK hP hD hS hA hnw henv (Nat.le_of_ble_eq_true rfl) rfl rfl hl.1 rfl (Nat.le_of_ble_eq_true rfl) d_Model_makeBy_181 ⟨Nat.le_refl _, Nat.le_refl _⟩ (fun H locs hP hD hS => ?_)
    clear hc24
    refine lv_istore (lv' := [(10, .int r24), (7, .long z23), (0, .ref (ad 0)), (1, .int x1), (4, .int x4), (5, .int x5), (6, .int x6)]) hx hb d_Model_makeBy_184 hl (by decide) rfl (fun ls hl => ?_)
    refine lv_iload hx hb d_Model_makeBy_186 (lv_at hl 0 rfl) ?_
    refine lv_iconst (v := (-1)) hx hb d_Model_makeBy_188 (by decide) ?_
    refine lv_icmp_ne (tgt := 193) hx hb d_Model_makeBy_189 (by decide) (fun c25 => ?_) (fun c25 => ?_)
    · replace hR := if_n c25 hR
      refine lv_aload_n hx hb d_Model_makeBy_193 rfl (lv_at hl 2 rfl) ?_
      refine lv_dup hx hb d_Model_makeBy_194 rfl ?_
      refine rd_Model_799 hx hb hT hown hK hP d_Model_makeBy_195 ?_
      refine lv_iload hx hb d_Model_makeBy_198 (lv_at hl 6 rfl) ?_
      refine lv_isub hx hb d_Model_makeBy_200 ?_
      refine wr_Model_799 hx hb hT hown hK hP hD hS d_Model_makeBy_201 (fun T26 eT H locs hP hD hS => ?_)
      replace hR := stK_e eT hR
      clear eT
      refine lv_iconst (v := 0) hx hb d_Model_makeBy_204 (by decide) ?_
      refine lv_istore (lv' := [(11, .int (0 : Int32)), (10, .int r24), (7, .long z23), (0, .ref (ad 0)), (1, .int x1), (4, .int x4), (5, .int x5), (6, .int x6)]) hx hb d_Model_makeBy_205 hl (by decide) rfl (fun ls hl => ?_)
      have g := lb_207 nf T26 x1 x4 x6 r24 (0 : Int32) hR
      rw [hG] at g
      exact g _ _ hP hD hS _ (lv_sub hl [3, 4, 5, 7, 1, 0] rfl)
    · replace hR := if_p c25 hR
      obtain ⟨-, -, e3⟩ := re_e hR
      subst e3
      exact W.vret hx hb hr (fun t ht hW => ⟨⟨(), rfl, trivial, by rw [ht]; exact hP, va_K.moved hW.alike hK, hD⟩, hS.F ht⟩) hS.2.2 d_Model_makeBy_192
  have lb_131 : ∀ (rec_69 : gSt → Int32 → Int32 → Int32 → Int32 → Int32 → Int64 → Int32 → Int32 → gR) (hrec_69 : ∀ (T : gSt) (x1 : Int32) (x3 : Int32) (x4 : Int32) (x5 : Int32) (x6 : Int32) (x7 : Int64) (x9 : Int32) (x10 : Int32), rec_69 T x1 x3 x4 x5 x6 x7 x9 x10 = some (r0, rl0, T9) → G 69 [(0, .ref (ad 0)), (1, .int x1), (3, .int x3), (4, .int x4), (5, .int x5), (6, .int x6), (7, .long x7), (9, .int x9), (10, .int x10)] [] T) (T : gSt) (x1 : Int32) (x3 : Int32) (x4 : Int32) (x5 : Int32) (x6 : Int32) (x9 : Int32) (x10 : Int32) (x11 : Int32) (y0 : Int64) (y1 : Int64), rj_Model_makeBy_131 F nf rec_69 T x1 x3 x4 x5 x6 x9 x10 x11 y0 y1 = some (r0, rl0, T9) → G 131 [(0, .ref (ad 0)), (1, .int x1), (3, .int x3), (4, .int x4), (5, .int x5), (6, .int x6), (9, .int x9), (10, .int x10), (11, .int x11)] [.long y0, .long y1] T := by
    intro rec_69 hrec_69 T x1 x3 x4 x5 x6 x9 x10 x11 y0 y1 hR; unfold rj_Model_makeBy_131 at hR; rw [hG]; intro H locs hP hD hS ls hl
    refine lv_ladd hx hb d_Model_makeBy_131 ?_
    refine lv_topl (fun z19 e19 => ?_)
    replace hR := lK_e e19 hR
    refine lv_lstore (lv' := [(7, .long z19), (0, .ref (ad 0)), (1, .int x1), (3, .int x3), (4, .int x4), (5, .int x5), (6, .int x6), (9, .int x9), (10, .int x10), (11, .int x11)]) hx hb d_Model_makeBy_132 hl (by decide) rfl (fun ls hl => ?_)
    refine lv_iload hx hb d_Model_makeBy_134 (lv_at hl 9 rfl) ?_
    refine lv_iload hx hb d_Model_makeBy_136 (lv_at hl 7 rfl) ?_
    refine lv_icmp_le (tgt := 146) hx hb d_Model_makeBy_138 (by decide) (fun c20 => ?_) (fun c20 => ?_)
    · replace hR := if_p c20 hR
      refine lv_iload hx hb d_Model_makeBy_146 (lv_at hl 7 rfl) ?_
      refine lv_istore (lv' := [(9, .int x9), (7, .long z19), (0, .ref (ad 0)), (1, .int x1), (3, .int x3), (4, .int x4), (5, .int x5), (6, .int x6), (10, .int x10), (11, .int x11)]) hx hb d_Model_makeBy_148 hl (by decide) rfl (fun ls hl => ?_)
      obtain ⟨z21, e21⟩ : ∃ y : Int32, y = x10 + (1 : Int32) := ⟨_, rfl⟩
      replace hR := vK_e e21 hR
      refine lv_iinc (v := z21) (lv' := [(10, .int z21), (9, .int x9), (7, .long z19), (0, .ref (ad 0)), (1, .int x1), (3, .int x3), (4, .int x4), (5, .int x5), (6, .int x6), (11, .int x11)]) hx hb d_Model_makeBy_150 hl (k := 8) rfl (by rw [e21]; rfl) (by decide) rfl (fun ls hl => ?_)
      refine lv_goto (tgt := 69) hx hb d_Model_makeBy_153 (by decide) ?_
      have g := hrec_69 T x1 x3 x4 x5 x6 z19 x9 z21 hR
      rw [hG] at g
      exact g _ _ hP hD hS _ (lv_sub hl [3, 4, 5, 6, 7, 8, 2, 1, 0] rfl)
    · replace hR := if_n c20 hR
      refine lv_iload hx hb d_Model_makeBy_141 (lv_at hl 9 rfl) ?_
      refine lv_goto (tgt := 148) hx hb d_Model_makeBy_143 (by decide) ?_
      refine lv_istore (lv' := [(9, .int x11), (7, .long z19), (0, .ref (ad 0)), (1, .int x1), (3, .int x3), (4, .int x4), (5, .int x5), (6, .int x6), (10, .int x10), (11, .int x11)]) hx hb d_Model_makeBy_148 hl (by decide) rfl (fun ls hl => ?_)
      obtain ⟨z22, e22⟩ : ∃ y : Int32, y = x10 + (1 : Int32) := ⟨_, rfl⟩
      replace hR := vK_e e22 hR
      refine lv_iinc (v := z22) (lv' := [(10, .int z22), (9, .int x11), (7, .long z19), (0, .ref (ad 0)), (1, .int x1), (3, .int x3), (4, .int x4), (5, .int x5), (6, .int x6), (11, .int x11)]) hx hb d_Model_makeBy_150 hl (k := 8) rfl (by rw [e22]; rfl) (by decide) rfl (fun ls hl => ?_)
      refine lv_goto (tgt := 69) hx hb d_Model_makeBy_153 (by decide) ?_
      have g := hrec_69 T x1 x3 x4 x5 x6 z19 x11 z22 hR
      rw [hG] at g
      exact g _ _ hP hD hS _ (lv_sub hl [3, 4, 5, 6, 7, 8, 2, 1, 0] rfl)
  have lb_86 : ∀ (rec_69 : gSt → Int32 → Int32 → Int32 → Int32 → Int32 → Int64 → Int32 → Int32 → gR) (hrec_69 : ∀ (T : gSt) (x1 : Int32) (x3 : Int32) (x4 : Int32) (x5 : Int32) (x6 : Int32) (x7 : Int64) (x9 : Int32) (x10 : Int32), rec_69 T x1 x3 x4 x5 x6 x7 x9 x10 = some (r0, rl0, T9) → G 69 [(0, .ref (ad 0)), (1, .int x1), (3, .int x3), (4, .int x4), (5, .int x5), (6, .int x6), (7, .long x7), (9, .int x9), (10, .int x10)] [] T) (T : gSt) (x1 : Int32) (x3 : Int32) (x4 : Int32) (x5 : Int32) (x6 : Int32) (x7 : Int64) (x9 : Int32) (x10 : Int32) (y0 : Int32) (y2 : Int32), rj_Model_makeBy_86 F nf rec_69 T x1 x3 x4 x5 x6 x7 x9 x10 y0 y2 = some (r0, rl0, T9) → G 86 [(0, .ref (ad 0)), (1, .int x1), (3, .int x3), (4, .int x4), (5, .int x5), (6, .int x6), (7, .long x7), (9, .int x9), (10, .int x10)] [.int y0, .ref (ad 9), .int y2] T := by
    intro rec_69 hrec_69 T x1 x3 x4 x5 x6 x7 x9 x10 y0 y2 hR; unfold rj_Model_makeBy_86 at hR; rw [hG]; intro H locs hP hD hS ls hl
    replace hR := gd_e hR
    obtain ⟨b10, hR⟩ := hR
    refine laM_8 hx hb hK hP b10 d_Model_makeBy_86 ?_
    refine lv_icmp_ge (tgt := 156) hx hb d_Model_makeBy_87 (by decide) (fun c11 => ?_) (fun c11 => ?_)
    · replace hR := if_p c11 hR
      refine lv_lload hx hb d_Model_makeBy_156 (lv_at hl 6 rfl) ?_
      refine lv_iload_n hx hb d_Model_makeBy_158 rfl (lv_at hl 1 rfl) ?_
      refine lv_bipush (v := 17) hx hb d_Model_makeBy_159 (by decide) ?_
      refine lv_icmp_ne (tgt := 170) hx hb d_Model_makeBy_161 (by decide) (fun c12 => ?_) (fun c12 => ?_)
      · replace hR := if_n c12 hR
        refine lv_lconst (v := 0) hx hb d_Model_makeBy_170 (by decide) ?_
        have g := lb_171 T x1 x4 x5 x6 (0 : Int64) x7 hR
        rw [hG] at g
        exact g _ _ hP hD hS _ (lv_sub hl [0, 1, 3, 4, 5] rfl)
      · replace hR := if_p c12 hR
        refine lv_iload hx hb d_Model_makeBy_164 (lv_at hl 7 rfl) ?_
        refine lv_i2l (v := (x9 : Int32).toInt64) hx hb d_Model_makeBy_166 rfl ?_
        refine lv_goto (tgt := 171) hx hb d_Model_makeBy_167 (by decide) ?_
        have g := lb_171 T x1 x4 x5 x6 ((x9 : Int32).toInt64) x7 hR
        rw [hG] at g
        exact g _ _ hP hD hS _ (lv_sub hl [0, 1, 3, 4, 5] rfl)
    · replace hR := if_n c11 hR
      refine lv_iload_n hx hb d_Model_makeBy_90 rfl (lv_at hl 1 rfl) ?_
      refine lv_bipush (v := 14) hx hb d_Model_makeBy_91 (by decide) ?_
      refine lv_icmp_eq (tgt := 156) hx hb d_Model_makeBy_93 (by decide) (fun c13 => ?_) (fun c13 => ?_)
      · replace hR := if_p c13 hR
        refine lv_lload hx hb d_Model_makeBy_156 (lv_at hl 6 rfl) ?_
        refine lv_iload_n hx hb d_Model_makeBy_158 rfl (lv_at hl 1 rfl) ?_
        refine lv_bipush (v := 17) hx hb d_Model_makeBy_159 (by decide) ?_
        refine lv_icmp_ne (tgt := 170) hx hb d_Model_makeBy_161 (by decide) (fun c14 => ?_) (fun c14 => ?_)
        · replace hR := if_n c14 hR
          refine lv_lconst (v := 0) hx hb d_Model_makeBy_170 (by decide) ?_
          have g := lb_171 T x1 x4 x5 x6 (0 : Int64) x7 hR
          rw [hG] at g
          exact g _ _ hP hD hS _ (lv_sub hl [0, 1, 3, 4, 5] rfl)
        · replace hR := if_p c14 hR
          refine lv_iload hx hb d_Model_makeBy_164 (lv_at hl 7 rfl) ?_
          refine lv_i2l (v := (x9 : Int32).toInt64) hx hb d_Model_makeBy_166 rfl ?_
          refine lv_goto (tgt := 171) hx hb d_Model_makeBy_167 (by decide) ?_
          have g := lb_171 T x1 x4 x5 x6 ((x9 : Int32).toInt64) x7 hR
          rw [hG] at g
          exact g _ _ hP hD hS _ (lv_sub hl [0, 1, 3, 4, 5] rfl)
      · replace hR := if_n c13 hR
        refine lv_aload_n hx hb d_Model_makeBy_96 rfl (lv_at hl 0 rfl) ?_
        refine lv_aload_n hx hb d_Model_makeBy_97 rfl (lv_at hl 0 rfl) ?_
        refine rd_Model_51 hx hb hT hown hK hP d_Model_makeBy_98 ?_
        refine lv_aload_n hx hb d_Model_makeBy_101 rfl (lv_at hl 0 rfl) ?_
        refine rd_Model_36 hx hb hT hown hK hP d_Model_makeBy_102 ?_
        refine lv_iload_n hx hb d_Model_makeBy_105 rfl (lv_at hl 2 rfl) ?_
        replace hR := gd_e hR
        obtain ⟨b15, hR⟩ := hR
        refine laM_7 hx hb hK hP b15 d_Model_makeBy_106 ?_
        refine lv_iload hx hb d_Model_makeBy_107 (lv_at hl 8 rfl) ?_
        refine lv_iadd hx hb d_Model_makeBy_109 ?_
        replace hR := gd_e hR
        obtain ⟨b16, hR⟩ := hR
        refine laM_12 hx hb hK hP b16 d_Model_makeBy_110 ?_
        replace hR := bi_e hR
        obtain ⟨r17, l17, T17, hc17, hR⟩ := hR
        refine gcV_i (rest := []) ⟨hx, hb, hml, hown, hT⟩ (h_Model_wordsOf _ _ _ _ _ hc17) (cwV 1 hT (gV ml_Model_796 im_Model_wordsOf se_Model_wordsOf ini_Model co_Model_wordsOf) rfl rfl rfl pd_Model_wordsOf ⟨rm_hi, rm_lo (Nat.le_of_ble_eq_true rfl)⟩) hK hP hD hS hA hnw henv (Nat.le_of_ble_eq_true rfl) rfl rfl hl.1 rfl (Nat.le_of_ble_eq_true rfl) d_Model_makeBy_111 ⟨Nat.le_refl _, Nat.le_refl _⟩ (fun H locs hP hD hS => ?_)
        clear hc17
        refine lv_istore (lv' := [(11, .int r17), (0, .ref (ad 0)), (1, .int x1), (3, .int x3), (4, .int x4), (5, .int x5), (6, .int x6), (7, .long x7), (9, .int x9), (10, .int x10)]) hx hb d_Model_makeBy_114 hl (by decide) rfl (fun ls hl => ?_)
        refine lv_lload hx hb d_Model_makeBy_116 (lv_at hl 7 rfl) ?_
        refine lv_iload_n hx hb d_Model_makeBy_118 rfl (lv_at hl 2 rfl) ?_
        refine lv_bipush (v := 16) hx hb d_Model_makeBy_119 (by decide) ?_
        refine lv_icmp_ne (tgt := 130) hx hb d_Model_makeBy_121 (by decide) (fun c18 => ?_) (fun c18 => ?_)
        · replace hR := if_n c18 hR
          refine lv_lconst (v := 0) hx hb d_Model_makeBy_130 (by decide) ?_
          have g := lb_131 rec_69 hrec_69 T17 x1 x3 x4 x5 x6 x9 x10 r17 (0 : Int64) x7 hR
          rw [hG] at g
          exact g _ _ hP hD hS _ (lv_sub hl [1, 2, 3, 4, 5, 6, 8, 9, 0] rfl)
        · replace hR := if_p c18 hR
          refine lv_iload hx hb d_Model_makeBy_124 (lv_at hl 0 rfl) ?_
          refine lv_i2l (v := (r17 : Int32).toInt64) hx hb d_Model_makeBy_126 rfl ?_
          refine lv_goto (tgt := 131) hx hb d_Model_makeBy_127 (by decide) ?_
          have g := lb_131 rec_69 hrec_69 T17 x1 x3 x4 x5 x6 x9 x10 r17 ((r17 : Int32).toInt64) x7 hR
          rw [hG] at g
          exact g _ _ hP hD hS _ (lv_sub hl [1, 2, 3, 4, 5, 6, 8, 9, 0] rfl)
  have lb_69 : ∀ (n : Nat) (T : gSt) (x1 : Int32) (x3 : Int32) (x4 : Int32) (x5 : Int32) (x6 : Int32) (x7 : Int64) (x9 : Int32) (x10 : Int32), rl_Model_makeBy_69 F nf n T x1 x3 x4 x5 x6 x7 x9 x10 = some (r0, rl0, T9) → G 69 [(0, .ref (ad 0)), (1, .int x1), (3, .int x3), (4, .int x4), (5, .int x5), (6, .int x6), (7, .long x7), (9, .int x9), (10, .int x10)] [] T := by
    intro n
    induction n with
    | zero => intro T x1 x3 x4 x5 x6 x7 x9 x10 hR; rw [rl_Model_makeBy_69] at hR; cases hR
    | succ n ih =>
      intro T x1 x3 x4 x5 x6 x7 x9 x10 hR; rw [rl_Model_makeBy_69] at hR; rw [hG]; intro H locs hP hD hS ls hl
      refine lv_iload hx hb d_Model_makeBy_69 (lv_at hl 8 rfl) ?_
      refine lv_aload_n hx hb d_Model_makeBy_71 rfl (lv_at hl 0 rfl) ?_
      refine rd_Model_39 hx hb hT hown hK hP d_Model_makeBy_72 ?_
      refine lv_iload_n hx hb d_Model_makeBy_75 rfl (lv_at hl 1 rfl) ?_
      refine lv_bipush (v := 14) hx hb d_Model_makeBy_76 (by decide) ?_
      refine lv_icmp_ne (tgt := 85) hx hb d_Model_makeBy_78 (by decide) (fun c9 => ?_) (fun c9 => ?_)
      · replace hR := if_n c9 hR
        refine lv_iload_n hx hb d_Model_makeBy_85 rfl (lv_at hl 2 rfl) ?_
        have g := lb_86 (rl_Model_makeBy_69 F nf n) ih T x1 x3 x4 x5 x6 x7 x9 x10 x3 x10 hR
        rw [hG] at g
        exact g _ _ hP hD hS _ (lv_sub hl [0, 1, 2, 3, 4, 5, 6, 7, 8] rfl)
      · replace hR := if_p c9 hR
        refine lv_iconst (v := 0) hx hb d_Model_makeBy_81 (by decide) ?_
        refine lv_goto (tgt := 86) hx hb d_Model_makeBy_82 (by decide) ?_
        have g := lb_86 (rl_Model_makeBy_69 F nf n) ih T x1 x3 x4 x5 x6 x7 x9 x10 (0 : Int32) x10 hR
        rw [hG] at g
        exact g _ _ hP hD hS _ (lv_sub hl [0, 1, 2, 3, 4, 5, 6, 7, 8] rfl)
  have lb_37 : ∀ (T : gSt) (x1 : Int32) (x3 : Int32) (x4 : Int32) (x5 : Int32) (y0 : Int32), rj_Model_makeBy_37 F nf T x1 x3 x4 x5 y0 = some (r0, rl0, T9) → G 37 [(0, .ref (ad 0)), (1, .int x1), (3, .int x3), (4, .int x4), (5, .int x5)] [.int y0] T := by
    intro T x1 x3 x4 x5 y0 hR; unfold rj_Model_makeBy_37 at hR; rw [hG]; intro H locs hP hD hS ls hl
    refine lv_istore (lv' := [(6, .int y0), (0, .ref (ad 0)), (1, .int x1), (3, .int x3), (4, .int x4), (5, .int x5)]) hx hb d_Model_makeBy_37 hl (by decide) rfl (fun ls hl => ?_)
    refine lv_iload_n hx hb d_Model_makeBy_39 rfl (lv_at hl 2 rfl) ?_
    refine lv_bipush (v := 14) hx hb d_Model_makeBy_40 (by decide) ?_
    refine lv_icmp_ne (tgt := 50) hx hb d_Model_makeBy_42 (by decide) (fun c6 => ?_) (fun c6 => ?_)
    · replace hR := if_n c6 hR
      refine lv_iload_n hx hb d_Model_makeBy_50 rfl (lv_at hl 2 rfl) ?_
      refine lv_bipush (v := 17) hx hb d_Model_makeBy_51 (by decide) ?_
      refine lv_icmp_ne (tgt := 60) hx hb d_Model_makeBy_53 (by decide) (fun c7 => ?_) (fun c7 => ?_)
      · replace hR := if_n c7 hR
        refine lv_lconst (v := 0) hx hb d_Model_makeBy_60 (by decide) ?_
        refine lv_lstore (lv' := [(7, .long (0 : Int64)), (6, .int y0), (0, .ref (ad 0)), (1, .int x1), (3, .int x3), (4, .int x4), (5, .int x5)]) hx hb d_Model_makeBy_61 hl (by decide) rfl (fun ls hl => ?_)
        refine lv_iconst (v := 0) hx hb d_Model_makeBy_63 (by decide) ?_
        refine lv_istore (lv' := [(9, .int (0 : Int32)), (7, .long (0 : Int64)), (6, .int y0), (0, .ref (ad 0)), (1, .int x1), (3, .int x3), (4, .int x4), (5, .int x5)]) hx hb d_Model_makeBy_64 hl (by decide) rfl (fun ls hl => ?_)
        refine lv_iconst (v := 0) hx hb d_Model_makeBy_66 (by decide) ?_
        refine lv_istore (lv' := [(10, .int (0 : Int32)), (9, .int (0 : Int32)), (7, .long (0 : Int64)), (6, .int y0), (0, .ref (ad 0)), (1, .int x1), (3, .int x3), (4, .int x4), (5, .int x5)]) hx hb d_Model_makeBy_67 hl (by decide) rfl (fun ls hl => ?_)
        have g := lb_69 nf T x1 x3 x4 x5 y0 (0 : Int64) (0 : Int32) (0 : Int32) hR
        rw [hG] at g
        exact g _ _ hP hD hS _ (lv_sub hl [4, 5, 6, 7, 8, 3, 2, 1, 0] rfl)
      · replace hR := if_p c7 hR
        refine lv_lconst (v := 1) hx hb d_Model_makeBy_56 (by decide) ?_
        refine lv_goto (tgt := 61) hx hb d_Model_makeBy_57 (by decide) ?_
        refine lv_lstore (lv' := [(7, .long (1 : Int64)), (6, .int y0), (0, .ref (ad 0)), (1, .int x1), (3, .int x3), (4, .int x4), (5, .int x5)]) hx hb d_Model_makeBy_61 hl (by decide) rfl (fun ls hl => ?_)
        refine lv_iconst (v := 0) hx hb d_Model_makeBy_63 (by decide) ?_
        refine lv_istore (lv' := [(9, .int (0 : Int32)), (7, .long (1 : Int64)), (6, .int y0), (0, .ref (ad 0)), (1, .int x1), (3, .int x3), (4, .int x4), (5, .int x5)]) hx hb d_Model_makeBy_64 hl (by decide) rfl (fun ls hl => ?_)
        refine lv_iconst (v := 0) hx hb d_Model_makeBy_66 (by decide) ?_
        refine lv_istore (lv' := [(10, .int (0 : Int32)), (9, .int (0 : Int32)), (7, .long (1 : Int64)), (6, .int y0), (0, .ref (ad 0)), (1, .int x1), (3, .int x3), (4, .int x4), (5, .int x5)]) hx hb d_Model_makeBy_67 hl (by decide) rfl (fun ls hl => ?_)
        have g := lb_69 nf T x1 x3 x4 x5 y0 (1 : Int64) (0 : Int32) (0 : Int32) hR
        rw [hG] at g
        exact g _ _ hP hD hS _ (lv_sub hl [4, 5, 6, 7, 8, 3, 2, 1, 0] rfl)
    · replace hR := if_p c6 hR
      refine lv_iload_n hx hb d_Model_makeBy_45 rfl (lv_at hl 3 rfl) ?_
      refine lv_i2l (v := (x3 : Int32).toInt64) hx hb d_Model_makeBy_46 rfl ?_
      refine lv_goto (tgt := 61) hx hb d_Model_makeBy_47 (by decide) ?_
      refine lv_topl (fun z8 e8 => ?_)
      replace hR := lK_e e8 hR
      refine lv_lstore (lv' := [(7, .long z8), (6, .int y0), (0, .ref (ad 0)), (1, .int x1), (3, .int x3), (4, .int x4), (5, .int x5)]) hx hb d_Model_makeBy_61 hl (by decide) rfl (fun ls hl => ?_)
      refine lv_iconst (v := 0) hx hb d_Model_makeBy_63 (by decide) ?_
      refine lv_istore (lv' := [(9, .int (0 : Int32)), (7, .long z8), (6, .int y0), (0, .ref (ad 0)), (1, .int x1), (3, .int x3), (4, .int x4), (5, .int x5)]) hx hb d_Model_makeBy_64 hl (by decide) rfl (fun ls hl => ?_)
      refine lv_iconst (v := 0) hx hb d_Model_makeBy_66 (by decide) ?_
      refine lv_istore (lv' := [(10, .int (0 : Int32)), (9, .int (0 : Int32)), (7, .long z8), (6, .int y0), (0, .ref (ad 0)), (1, .int x1), (3, .int x3), (4, .int x4), (5, .int x5)]) hx hb d_Model_makeBy_67 hl (by decide) rfl (fun ls hl => ?_)
      have g := lb_69 nf T x1 x3 x4 x5 y0 z8 (0 : Int32) (0 : Int32) hR
      rw [hG] at g
      exact g _ _ hP hD hS _ (lv_sub hl [4, 5, 6, 7, 8, 3, 2, 1, 0] rfl)
  unfold rb_Model_makeBy at hR
  refine lv_aload_n hx hb d_Model_makeBy_0 rfl (lv_at hl 0 rfl) ?_
  refine lv_iload_n hx hb d_Model_makeBy_1 rfl (lv_at hl 2 rfl) ?_
  replace hR := bi_e hR
  obtain ⟨r1, l1, T1, hc1, hR⟩ := hR
  refine gcV_i (rest := []) ⟨hx, hb, hml, hown, hT⟩ (h_Model_regionIndex _ _ _ _ _ hc1) (cwV 1 hT (gV ml_Model_893 im_Model_regionIndex se_Model_regionIndex ini_Model co_Model_regionIndex) rfl rfl rfl pd_Model_regionIndex ⟨rm_hi, rm_lo (Nat.le_of_ble_eq_true rfl)⟩) hK hP hD hS hA hnw henv (Nat.le_of_ble_eq_true rfl) rfl rfl hl.1 rfl (Nat.le_of_ble_eq_true rfl) d_Model_makeBy_2 ⟨Nat.le_refl _, Nat.le_refl _⟩ (fun H locs hP hD hS => ?_)
  clear hc1
  refine lv_istore (lv' := [(5, .int r1), (0, .ref (ad 0)), (1, .int p1), (2, .int p2), (3, .int p3), (4, .int p4)]) hx hb d_Model_makeBy_5 hl (by decide) rfl (fun ls hl => ?_)
  refine lv_iload_n hx hb d_Model_makeBy_7 rfl (lv_at hl 2 rfl) ?_
  refine lv_bipush (v := 15) hx hb d_Model_makeBy_8 (by decide) ?_
  refine lv_icmp_ne (tgt := 21) hx hb d_Model_makeBy_10 (by decide) (fun c2 => ?_) (fun c2 => ?_)
  · replace hR := if_n c2 hR
    refine lv_iload_n hx hb d_Model_makeBy_21 rfl (lv_at hl 2 rfl) ?_
    refine lv_bipush (v := 16) hx hb d_Model_makeBy_22 (by decide) ?_
    refine lv_icmp_ne (tgt := 36) hx hb d_Model_makeBy_24 (by decide) (fun c3 => ?_) (fun c3 => ?_)
    · replace hR := if_n c3 hR
      refine lv_iconst (v := 1) hx hb d_Model_makeBy_36 (by decide) ?_
      have g := lb_37 T1 p1 p3 p4 r1 (1 : Int32) hR
      rw [hG] at g
      exact g _ _ hP hD hS _ (lv_sub hl [1, 2, 4, 5, 0] rfl)
    · replace hR := if_p c3 hR
      refine lv_aload_n hx hb d_Model_makeBy_27 rfl (lv_at hl 1 rfl) ?_
      refine rd_Model_39 hx hb hT hown hK hP d_Model_makeBy_28 ?_
      refine lv_iload_n hx hb d_Model_makeBy_31 rfl (lv_at hl 4 rfl) ?_
      replace hR := gd_e hR
      obtain ⟨b4, hR⟩ := hR
      refine laM_8 hx hb hK hP b4 d_Model_makeBy_32 ?_
      refine lv_goto (tgt := 37) hx hb d_Model_makeBy_33 (by decide) ?_
      have g := lb_37 T1 p1 p3 p4 r1 (T1.1 19 p3.toNatClampNeg) hR
      rw [hG] at g
      exact g _ _ hP hD hS _ (lv_sub hl [1, 2, 4, 5, 0] rfl)
  · replace hR := if_p c2 hR
    refine lv_aload_n hx hb d_Model_makeBy_13 rfl (lv_at hl 1 rfl) ?_
    refine lv_iload hx hb d_Model_makeBy_14 (lv_at hl 0 rfl) ?_
    refine lv_iload_n hx hb d_Model_makeBy_16 rfl (lv_at hl 4 rfl) ?_
    replace hR := bi_e hR
    obtain ⟨r5, l5, T5, hc5, hR⟩ := hR
    refine gcV_v (rest := []) ⟨hx, hb, hml, hown, hT⟩ (h_Model_makeRow _ _ _ _ _ _ hc5) (cwV 2 hT (gV ml_Model_896 im_Model_makeRow se_Model_makeRow ini_Model co_Model_makeRow) rfl rfl rfl pd_Model_makeRow ⟨rm_hi, rm_lo (Nat.le_of_ble_eq_true rfl)⟩) hK hP hD hS hA hnw henv (Nat.le_of_ble_eq_true rfl) rfl rfl hl.1 rfl (Nat.le_of_ble_eq_true rfl) d_Model_makeBy_17 ⟨Nat.le_refl _, Nat.le_refl _⟩ (fun H locs hP hD hS => ?_)
    clear hc5
    obtain ⟨-, -, e3⟩ := re_e hR
    subst e3
    exact W.vret hx hb hr (fun t ht hW => ⟨⟨(), rfl, trivial, by rw [ht]; exact hP, va_K.moved hW.alike hK, hD⟩, hS.F ht⟩) hS.2.2 d_Model_makeBy_20
set_option maxHeartbeats 4000000 in
set_option maxRecDepth 100000 in
theorem sp_Model_makeRow (l : Launch) (dC : Nat → ClassId) (dI : Nat → Nat → Nat) (ea ev ad : Nat → Nat) (km : Nat → ClassId) (F : gF) (nf d : Nat) (h_Model_make : mt_Model_make l dC dI ea ev ad km F d) (h_Model_raise : mt_Model_raise l dC dI ea ev ad km F d) (h_Model_push : mt_Model_push l dC dI ea ev ad km F d) (h_Model_put : mt_Model_put l dC dI ea ev ad km F d) (T0 : gSt) (p1 : Int32) (p2 : Int32) (r0 : Int32) (rl0 : Int64) (T9 : gSt) (hR : rb_Model_makeRow F nf T0 p1 p2 = some (r0, rl0, T9)) : GMv l dC dI LM ad km ea ev y_Model_makeRow w_Model_makeRow (rmD (d + 1)) [.ref (ad 0), .int p1, .int p2] T0 T9 := by
  intro sz
  refine Met.ofW (cc := b_Model_makeRow) (maxL := 6) (ret := none) (by decide) rfl ?_
  intro p e s m args below meth c s₁ B hml hv
  obtain ⟨rfl, hsz, hP, hK, hD0, hnw, henv⟩ := hv
  have hx := B.exec
  have hb := B.bytes
  have hr := B.returns
  have hT : ∀ w ∈ lw_good, w.before _ s = true := fun w h => atoms_spec (ws := w_Model_makeRow) B.pre w (List.mem_cons_of_mem _ h)
  have hown : s.vm.findClass R_Model = some m.cls := findClass_of_methodNamed B.named
  subst hsz
  have hD := hD0.self (sz := s.heap.size)
  clear hD0
  generalize hAe : va_A (gW LM ad km T0) s.heap.size = A at hD henv ⊢
  have hA : ∀ q : Nat, s.heap.size ≤ q → A q := fun q h => by rw [← hAe]; exact Or.inr h
  have hS : va_S A s.heap s.heap [] := va_S.rf
  have hl := lv_entry ([.ref (ad 0), .int p1, .int p2]) (n := 6) (Nat.le_of_ble_eq_true rfl)
  rw [lg_entry_eq]
  generalize (lg_sl ([.ref (ad 0), .int p1, .int p2]) ++ List.replicate (6 - (lg_sl ([.ref (ad 0), .int p1, .int p2])).length) Slot.unset).toArray = ls at hl ⊢
  have hl : lv_has ls 6 [(0, .ref (ad 0)), (1, .int p1), (2, .int p2)] := hl
  obtain ⟨G, hG⟩ : ∃ G : Nat → List (Nat × Value) → List Value → gSt → Prop, G = (fun pc lv stk T => ∀ (H : Heap) (locs : List Loc), va_P (dC, dI) cls_all (gW LM ad km T) H → va_D A (gW LM ad km T) → va_S A s.heap H locs → ∀ (ls : Array Slot), lv_has ls 6 lv → W p l e (headSpec w_Model_makeRow (rmD (d + 1))).room s m ([.ref (ad 0), .int p1, .int p2] : List Value).toArray below meth c H locs 0 0 (MQ below (va_Qv (fun (_ : Unit) => True) (fun _ t => gPost dC dI LM ad km T9 A t) A) ([.ref (ad 0), .int p1, .int p2] : List Value).toArray s 0 0 A) (F0 m pc ls stk)) := ⟨_, rfl⟩
  have lb_45 : ∀ (n : Nat) (T : gSt) (x3 : Int32) (x4 : Int32) (x5 : Int32), rl_Model_makeRow_45 F nf n T x3 x4 x5 = some (r0, rl0, T9) → G 45 [(0, .ref (ad 0)), (3, .int x3), (4, .int x4), (5, .int x5)] [] T := by
    intro n
    induction n with
    | zero => intro T x3 x4 x5 hR; rw [rl_Model_makeRow_45] at hR; cases hR
    | succ n ih =>
      intro T x3 x4 x5 hR; rw [rl_Model_makeRow_45] at hR; rw [hG]; intro H locs hP hD hS ls hl
      refine lv_iload hx hb d_Model_makeRow_45 (lv_at hl 3 rfl) ?_
      refine lv_iload_n hx hb d_Model_makeRow_47 rfl (lv_at hl 1 rfl) ?_
      refine lv_icmp_ge (tgt := 78) hx hb d_Model_makeRow_48 (by decide) (fun c7 => ?_) (fun c7 => ?_)
      · replace hR := if_p c7 hR
        refine lv_aload_n hx hb d_Model_makeRow_78 rfl (lv_at hl 0 rfl) ?_
        refine lv_dup hx hb d_Model_makeRow_79 rfl ?_
        refine rd_Model_799 hx hb hT hown hK hP d_Model_makeRow_80 ?_
        refine lv_iconst (v := 2) hx hb d_Model_makeRow_83 (by decide) ?_
        refine lv_isub hx hb d_Model_makeRow_84 ?_
        refine wr_Model_799 hx hb hT hown hK hP hD hS d_Model_makeRow_85 (fun T8 eT H locs hP hD hS => ?_)
        replace hR := stK_e eT hR
        clear eT
        refine lv_aload_n hx hb d_Model_makeRow_88 rfl (lv_at hl 0 rfl) ?_
        refine lv_iconst (v := 0) hx hb d_Model_makeRow_89 (by decide) ?_
        refine lv_iload hx hb d_Model_makeRow_90 (lv_at hl 2 rfl) ?_
        refine lv_iload hx hb d_Model_makeRow_92 (lv_at hl 2 rfl) ?_
        refine lv_if_ge (tgt := 101) hx hb d_Model_makeRow_94 (by decide) (fun c9 => ?_) (fun c9 => ?_)
        · replace hR := if_p c9 hR
          refine lv_aload_n hx hb d_Model_makeRow_101 rfl (lv_at hl 0 rfl) ?_
          refine rd_Model_273 hx hb hT hown hK hP d_Model_makeRow_102 ?_
          refine lv_iload hx hb d_Model_makeRow_105 (lv_at hl 2 rfl) ?_
          replace hR := gd_e hR
          obtain ⟨b10, hR⟩ := hR
          refine laM_86 hx hb hK hP b10 d_Model_makeRow_107 ?_
          replace hR := bi_e hR
          obtain ⟨r11, l11, T11, hc11, hR⟩ := hR
          refine gcV_v (rest := []) ⟨hx, hb, hml, hown, hT⟩ (h_Model_push _ _ _ _ _ _ _ hc11) (cwV 3 hT (gV ml_Model_857 im_Model_push se_Model_push ini_Model co_Model_push) rfl rfl rfl pd_Model_push ⟨rm_hi, rm_lo (Nat.le_of_ble_eq_true rfl)⟩) hK hP hD hS hA hnw henv (Nat.le_of_ble_eq_true rfl) rfl rfl hl.1 rfl (Nat.le_of_ble_eq_true rfl) d_Model_makeRow_108 ⟨Nat.le_refl _, Nat.le_refl _⟩ (fun H locs hP hD hS => ?_)
          clear hc11
          refine lv_aload_n hx hb d_Model_makeRow_111 rfl (lv_at hl 0 rfl) ?_
          refine rd_Model_216 hx hb hT hown hK hP d_Model_makeRow_112 ?_
          refine lv_aload_n hx hb d_Model_makeRow_115 rfl (lv_at hl 0 rfl) ?_
          refine rd_Model_799 hx hb hT hown hK hP d_Model_makeRow_116 ?_
          refine lv_iconst (v := 1) hx hb d_Model_makeRow_119 (by decide) ?_
          refine lv_isub hx hb d_Model_makeRow_120 ?_
          refine lv_iload_n hx hb d_Model_makeRow_121 rfl (lv_at hl 1 rfl) ?_
          replace hR := gd_e hR
          obtain ⟨b12, hR⟩ := hR
          refine saM_67 hx hb hK hP hD hS b12 d_Model_makeRow_122 (fun T12 eT H locs hP hD hS => ?_)
          replace hR := stK_e eT hR
          clear eT
          obtain ⟨-, -, e3⟩ := re_e hR
          subst e3
          exact W.vret hx hb hr (fun t ht hW => ⟨⟨(), rfl, trivial, by rw [ht]; exact hP, va_K.moved hW.alike hK, hD⟩, hS.F ht⟩) hS.2.2 d_Model_makeRow_123
        · replace hR := if_n c9 hR
          refine lv_iconst (v := 0) hx hb d_Model_makeRow_97 (by decide) ?_
          refine lv_goto (tgt := 108) hx hb d_Model_makeRow_98 (by decide) ?_
          replace hR := bi_e hR
          obtain ⟨r13, l13, T13, hc13, hR⟩ := hR
          refine gcV_v (rest := []) ⟨hx, hb, hml, hown, hT⟩ (h_Model_push _ _ _ _ _ _ _ hc13) (cwV 3 hT (gV ml_Model_857 im_Model_push se_Model_push ini_Model co_Model_push) rfl rfl rfl pd_Model_push ⟨rm_hi, rm_lo (Nat.le_of_ble_eq_true rfl)⟩) hK hP hD hS hA hnw henv (Nat.le_of_ble_eq_true rfl) rfl rfl hl.1 rfl (Nat.le_of_ble_eq_true rfl) d_Model_makeRow_108 ⟨Nat.le_refl _, Nat.le_refl _⟩ (fun H locs hP hD hS => ?_)
          clear hc13
          refine lv_aload_n hx hb d_Model_makeRow_111 rfl (lv_at hl 0 rfl) ?_
          refine rd_Model_216 hx hb hT hown hK hP d_Model_makeRow_112 ?_
          refine lv_aload_n hx hb d_Model_makeRow_115 rfl (lv_at hl 0 rfl) ?_
          refine rd_Model_799 hx hb hT hown hK hP d_Model_makeRow_116 ?_
          refine lv_iconst (v := 1) hx hb d_Model_makeRow_119 (by decide) ?_
          refine lv_isub hx hb d_Model_makeRow_120 ?_
          refine lv_iload_n hx hb d_Model_makeRow_121 rfl (lv_at hl 1 rfl) ?_
          replace hR := gd_e hR
          obtain ⟨b14, hR⟩ := hR
          refine saM_67 hx hb hK hP hD hS b14 d_Model_makeRow_122 (fun T14 eT H locs hP hD hS => ?_)
          replace hR := stK_e eT hR
          clear eT
          obtain ⟨-, -, e3⟩ := re_e hR
          subst e3
          exact W.vret hx hb hr (fun t ht hW => ⟨⟨(), rfl, trivial, by rw [ht]; exact hP, va_K.moved hW.alike hK, hD⟩, hS.F ht⟩) hS.2.2 d_Model_makeRow_123
      · replace hR := if_n c7 hR
        refine lv_aload_n hx hb d_Model_makeRow_51 rfl (lv_at hl 0 rfl) ?_
        refine lv_iload hx hb d_Model_makeRow_52 (lv_at hl 2 rfl) ?_
        refine lv_aload_n hx hb d_Model_makeRow_54 rfl (lv_at hl 0 rfl) ?_
        refine rd_Model_273 hx hb hT hown hK hP d_Model_makeRow_55 ?_
        refine lv_iload hx hb d_Model_makeRow_58 (lv_at hl 2 rfl) ?_
        replace hR := gd_e hR
        obtain ⟨b15, hR⟩ := hR
        refine laM_86 hx hb hK hP b15 d_Model_makeRow_60 ?_
        refine lv_iload hx hb d_Model_makeRow_61 (lv_at hl 3 rfl) ?_
        refine lv_aload_n hx hb d_Model_makeRow_63 rfl (lv_at hl 0 rfl) ?_
        refine rd_Model_799 hx hb hT hown hK hP d_Model_makeRow_64 ?_
        refine lv_iconst (v := 1) hx hb d_Model_makeRow_67 (by decide) ?_
        refine lv_isub hx hb d_Model_makeRow_68 ?_
        replace hR := bi_e hR
        obtain ⟨r16, l16, T16, hc16, hR⟩ := hR
        refine gcV_v (rest := []) ⟨hx, hb, hml, hown, hT⟩ (h_Model_put _ _ _ _ _ _ _ _ hc16) (cwV 4 hT (gV ml_Model_903 im_Model_put se_Model_put ini_Model co_Model_put) rfl rfl rfl pd_Model_put ⟨rm_hi, rm_lo (Nat.le_of_ble_eq_true rfl)⟩) hK hP hD hS hA hnw henv (Nat.le_of_ble_eq_true rfl) rfl rfl hl.1 rfl (Nat.le_of_ble_eq_true rfl) d_Model_makeRow_69 ⟨Nat.le_refl _, Nat.le_refl _⟩ (fun H locs hP hD hS => ?_)
        clear hc16
        obtain ⟨z17, e17⟩ : ∃ y : Int32, y = x5 + (1 : Int32) := ⟨_, rfl⟩
        replace hR := vK_e e17 hR
        refine lv_iinc (v := z17) (lv' := [(5, .int z17), (0, .ref (ad 0)), (3, .int x3), (4, .int x4)]) hx hb d_Model_makeRow_72 hl (k := 3) rfl (by rw [e17]; rfl) (by decide) rfl (fun ls hl => ?_)
        refine lv_goto (tgt := 45) hx hb d_Model_makeRow_75 (by decide) ?_
        have g := ih T16 x3 x4 z17 hR
        rw [hG] at g
        exact g _ _ hP hD hS _ (lv_sub hl [1, 2, 3, 0] rfl)
  unfold rb_Model_makeRow at hR
  refine lv_aload_n hx hb d_Model_makeRow_0 rfl (lv_at hl 0 rfl) ?_
  refine rd_Model_207 hx hb hT hown hK hP d_Model_makeRow_1 ?_
  refine lv_aload_n hx hb d_Model_makeRow_4 rfl (lv_at hl 0 rfl) ?_
  refine rd_Model_799 hx hb hT hown hK hP d_Model_makeRow_5 ?_
  refine lv_iconst (v := 2) hx hb d_Model_makeRow_8 (by decide) ?_
  refine lv_isub hx hb d_Model_makeRow_9 ?_
  replace hR := gd_e hR
  obtain ⟨b1, hR⟩ := hR
  refine laM_64 hx hb hK hP b1 d_Model_makeRow_10 ?_
  refine lv_topi (fun z2 e2 => ?_)
  replace hR := vK_e e2 hR
  refine lv_istore_n (lv' := [(3, .int z2), (0, .ref (ad 0)), (1, .int p1), (2, .int p2)]) hx hb d_Model_makeRow_11 rfl hl (by decide) rfl (fun ls hl => ?_)
  refine lv_iload_n hx hb d_Model_makeRow_12 rfl (lv_at hl 0 rfl) ?_
  refine lv_if_ge (tgt := 22) hx hb d_Model_makeRow_13 (by decide) (fun c3 => ?_) (fun c3 => ?_)
  · replace hR := if_p c3 hR
    refine lv_aload_n hx hb d_Model_makeRow_22 rfl (lv_at hl 1 rfl) ?_
    refine lv_iload_n hx hb d_Model_makeRow_23 rfl (lv_at hl 2 rfl) ?_
    refine lv_iload_n hx hb d_Model_makeRow_24 rfl (lv_at hl 0 rfl) ?_
    refine lv_i2l (v := (z2 : Int32).toInt64) hx hb d_Model_makeRow_25 rfl ?_
    refine lv_iload_n hx hb d_Model_makeRow_26 rfl (lv_at hl 3 rfl) ?_
    refine lv_i2l (v := (p2 : Int32).toInt64) hx hb d_Model_makeRow_27 rfl ?_
    refine lv_lmul hx hb d_Model_makeRow_28 ?_
    refine lv_iload_n hx hb d_Model_makeRow_29 rfl (lv_at hl 0 rfl) ?_
    replace hR := bi_e hR
    obtain ⟨r4, l4, T4, hc4, hR⟩ := hR
    refine gcV_i (rest := []) ⟨hx, hb, hml, hown, hT⟩ (h_Model_make _ _ _ _ _ _ _ hc4) (cwV 3 hT (gV ml_Model_899 im_Model_make se_Model_make ini_Model co_Model_make) rfl rfl rfl pd_Model_make ⟨rm_hi, rm_lo (Nat.le_of_ble_eq_true rfl)⟩) hK hP hD hS hA hnw henv (Nat.le_of_ble_eq_true rfl) rfl rfl hl.1 rfl (Nat.le_of_ble_eq_true rfl) d_Model_makeRow_30 ⟨Nat.le_refl _, Nat.le_refl _⟩ (fun H locs hP hD hS => ?_)
    clear hc4
    refine lv_istore (lv' := [(4, .int r4), (3, .int z2), (0, .ref (ad 0)), (1, .int p1), (2, .int p2)]) hx hb d_Model_makeRow_33 hl (by decide) rfl (fun ls hl => ?_)
    refine lv_iload hx hb d_Model_makeRow_35 (lv_at hl 0 rfl) ?_
    refine lv_iconst (v := (-1)) hx hb d_Model_makeRow_37 (by decide) ?_
    refine lv_icmp_ne (tgt := 42) hx hb d_Model_makeRow_38 (by decide) (fun c5 => ?_) (fun c5 => ?_)
    · replace hR := if_n c5 hR
      refine lv_iconst (v := 0) hx hb d_Model_makeRow_42 (by decide) ?_
      refine lv_istore (lv' := [(5, .int (0 : Int32)), (4, .int r4), (3, .int z2), (0, .ref (ad 0)), (1, .int p1), (2, .int p2)]) hx hb d_Model_makeRow_43 hl (by decide) rfl (fun ls hl => ?_)
      have g := lb_45 nf T4 z2 r4 (0 : Int32) hR
      rw [hG] at g
      exact g _ _ hP hD hS _ (lv_sub hl [3, 2, 1, 0] rfl)
    · replace hR := if_p c5 hR
      obtain ⟨-, -, e3⟩ := re_e hR
      subst e3
      exact W.vret hx hb hr (fun t ht hW => ⟨⟨(), rfl, trivial, by rw [ht]; exact hP, va_K.moved hW.alike hK, hD⟩, hS.F ht⟩) hS.2.2 d_Model_makeRow_41
  · replace hR := if_n c3 hR
    refine lv_aload_n hx hb d_Model_makeRow_16 rfl (lv_at hl 1 rfl) ?_
    refine lv_iconst (v := 5) hx hb d_Model_makeRow_17 (by decide) ?_
    replace hR := bi_e hR
    obtain ⟨r6, l6, T6, hc6, hR⟩ := hR
    refine gcV_v (rest := []) ⟨hx, hb, hml, hown, hT⟩ (h_Model_raise _ _ _ _ _ hc6) (cwV 1 hT (gV ml_Model_847 im_Model_raise se_Model_raise ini_Model co_Model_raise) rfl rfl rfl pd_Model_raise ⟨rm_hi, rm_lo (Nat.le_of_ble_eq_true rfl)⟩) hK hP hD hS hA hnw henv (Nat.le_of_ble_eq_true rfl) rfl rfl hl.1 rfl (Nat.le_of_ble_eq_true rfl) d_Model_makeRow_18 ⟨Nat.le_refl _, Nat.le_refl _⟩ (fun H locs hP hD hS => ?_)
    clear hc6
    obtain ⟨-, -, e3⟩ := re_e hR
    subst e3
    exact W.vret hx hb hr (fun t ht hW => ⟨⟨(), rfl, trivial, by rw [ht]; exact hP, va_K.moved hW.alike hK, hD⟩, hS.F ht⟩) hS.2.2 d_Model_makeRow_21
set_option maxHeartbeats 4000000 in
set_option maxRecDepth 100000 in
theorem sp_Model_reckon (l : Launch) (dC : Nat → ClassId) (dI : Nat → Nat → Nat) (ea ev ad : Nat → Nat) (km : Nat → ClassId) (F : gF) (nf d : Nat) (h_Model_raise : mt_Model_raise l dC dI ea ev ad km F d) (T0 : gSt) (p1 : Int32) (p2 : Int32) (r0 : Int32) (rl0 : Int64) (T9 : gSt) (hR : rb_Model_reckon F nf T0 p1 p2 = some (r0, rl0, T9)) : GMv l dC dI LM ad km ea ev y_Model_reckon w_Model_reckon (rmD (d + 1)) [.ref (ad 0), .int p1, .int p2] T0 T9 := by
  intro sz
  refine Met.ofW (cc := b_Model_reckon) (maxL := 6) (ret := none) (by decide) rfl ?_
  intro p e s m args below meth c s₁ B hml hv
  obtain ⟨rfl, hsz, hP, hK, hD0, hnw, henv⟩ := hv
  have hx := B.exec
  have hb := B.bytes
  have hr := B.returns
  have hT : ∀ w ∈ lw_good, w.before _ s = true := fun w h => atoms_spec (ws := w_Model_reckon) B.pre w (List.mem_cons_of_mem _ h)
  have hown : s.vm.findClass R_Model = some m.cls := findClass_of_methodNamed B.named
  subst hsz
  have hD := hD0.self (sz := s.heap.size)
  clear hD0
  generalize hAe : va_A (gW LM ad km T0) s.heap.size = A at hD henv ⊢
  have hA : ∀ q : Nat, s.heap.size ≤ q → A q := fun q h => by rw [← hAe]; exact Or.inr h
  have hS : va_S A s.heap s.heap [] := va_S.rf
  have hl := lv_entry ([.ref (ad 0), .int p1, .int p2]) (n := 6) (Nat.le_of_ble_eq_true rfl)
  rw [lg_entry_eq]
  generalize (lg_sl ([.ref (ad 0), .int p1, .int p2]) ++ List.replicate (6 - (lg_sl ([.ref (ad 0), .int p1, .int p2])).length) Slot.unset).toArray = ls at hl ⊢
  have hl : lv_has ls 6 [(0, .ref (ad 0)), (1, .int p1), (2, .int p2)] := hl
  obtain ⟨G, hG⟩ : ∃ G : Nat → List (Nat × Value) → List Value → gSt → Prop, G = (fun pc lv stk T => ∀ (H : Heap) (locs : List Loc), va_P (dC, dI) cls_all (gW LM ad km T) H → va_D A (gW LM ad km T) → va_S A s.heap H locs → ∀ (ls : Array Slot), lv_has ls 6 lv → W p l e (headSpec w_Model_reckon (rmD (d + 1))).room s m ([.ref (ad 0), .int p1, .int p2] : List Value).toArray below meth c H locs 0 0 (MQ below (va_Qv (fun (_ : Unit) => True) (fun _ t => gPost dC dI LM ad km T9 A t) A) ([.ref (ad 0), .int p1, .int p2] : List Value).toArray s 0 0 A) (F0 m pc ls stk)) := ⟨_, rfl⟩
  have lb_170 : ∀ (T : gSt) (x2 : Int32) (x3 : Int32) (x4 : Int32), rj_Model_reckon_170 F nf T x2 x3 x4 = some (r0, rl0, T9) → G 170 [(0, .ref (ad 0)), (2, .int x2), (3, .int x3), (4, .int x4)] [] T := by
    intro T x2 x3 x4 hR; unfold rj_Model_reckon_170 at hR; rw [hG]; intro H locs hP hD hS ls hl
    refine lv_aload_n hx hb d_Model_reckon_170 rfl (lv_at hl 0 rfl) ?_
    refine rd_Model_207 hx hb hT hown hK hP d_Model_reckon_171 ?_
    refine lv_iload_n hx hb d_Model_reckon_174 rfl (lv_at hl 2 rfl) ?_
    replace hR := gd_e hR
    obtain ⟨b31, hR⟩ := hR
    refine laM_64 hx hb hK hP b31 d_Model_reckon_175 ?_
    refine lv_topi (fun z32 e32 => ?_)
    replace hR := vK_e e32 hR
    refine lv_istore (lv' := [(5, .int z32), (0, .ref (ad 0)), (2, .int x2), (3, .int x3), (4, .int x4)]) hx hb d_Model_reckon_176 hl (by decide) rfl (fun ls hl => ?_)
    refine lv_aload_n hx hb d_Model_reckon_178 rfl (lv_at hl 1 rfl) ?_
    refine rd_Model_207 hx hb hT hown hK hP d_Model_reckon_179 ?_
    refine lv_iload_n hx hb d_Model_reckon_182 rfl (lv_at hl 3 rfl) ?_
    refine lv_iload_n hx hb d_Model_reckon_183 rfl (lv_at hl 2 rfl) ?_
    refine lv_bipush (v := 43) hx hb d_Model_reckon_184 (by decide) ?_
    refine lv_icmp_ne (tgt := 197) hx hb d_Model_reckon_186 (by decide) (fun c33 => ?_) (fun c33 => ?_)
    · replace hR := if_n c33 hR
      refine lv_iload_n hx hb d_Model_reckon_197 rfl (lv_at hl 2 rfl) ?_
      refine lv_bipush (v := 45) hx hb d_Model_reckon_198 (by decide) ?_
      refine lv_icmp_ne (tgt := 211) hx hb d_Model_reckon_200 (by decide) (fun c34 => ?_) (fun c34 => ?_)
      · replace hR := if_n c34 hR
        refine lv_iload_n hx hb d_Model_reckon_211 rfl (lv_at hl 2 rfl) ?_
        refine lv_bipush (v := 42) hx hb d_Model_reckon_212 (by decide) ?_
        refine lv_icmp_ne (tgt := 225) hx hb d_Model_reckon_214 (by decide) (fun c35 => ?_) (fun c35 => ?_)
        · replace hR := if_n c35 hR
          refine lv_iload_n hx hb d_Model_reckon_225 rfl (lv_at hl 2 rfl) ?_
          refine lv_bipush (v := 47) hx hb d_Model_reckon_226 (by decide) ?_
          refine lv_icmp_ne (tgt := 239) hx hb d_Model_reckon_228 (by decide) (fun c36 => ?_) (fun c36 => ?_)
          · replace hR := if_n c36 hR
            refine lv_iload_n hx hb d_Model_reckon_239 rfl (lv_at hl 2 rfl) ?_
            refine lv_bipush (v := 37) hx hb d_Model_reckon_240 (by decide) ?_
            refine lv_icmp_ne (tgt := 253) hx hb d_Model_reckon_242 (by decide) (fun c37 => ?_) (fun c37 => ?_)
            · replace hR := if_n c37 hR
              refine lv_iload_n hx hb d_Model_reckon_253 rfl (lv_at hl 2 rfl) ?_
              refine lv_bipush (v := 60) hx hb d_Model_reckon_254 (by decide) ?_
              refine lv_icmp_ne (tgt := 274) hx hb d_Model_reckon_256 (by decide) (fun c38 => ?_) (fun c38 => ?_)
              · replace hR := if_n c38 hR
                refine lv_iload hx hb d_Model_reckon_274 (lv_at hl 0 rfl) ?_
                refine lv_iload hx hb d_Model_reckon_276 (lv_at hl 4 rfl) ?_
                refine lv_icmp_ne (tgt := 285) hx hb d_Model_reckon_278 (by decide) (fun c39 => ?_) (fun c39 => ?_)
                · replace hR := if_n c39 hR
                  refine lv_iconst (v := 0) hx hb d_Model_reckon_285 (by decide) ?_
                  replace hR := gd_e hR
                  obtain ⟨b40, hR⟩ := hR
                  refine saM_64 hx hb hK hP hD hS b40 d_Model_reckon_286 (fun T40 eT H locs hP hD hS => ?_)
                  replace hR := stK_e eT hR
                  clear eT
                  obtain ⟨-, -, e3⟩ := re_e hR
                  subst e3
                  exact W.vret hx hb hr (fun t ht hW => ⟨⟨(), rfl, trivial, by rw [ht]; exact hP, va_K.moved hW.alike hK, hD⟩, hS.F ht⟩) hS.2.2 d_Model_reckon_287
                · replace hR := if_p c39 hR
                  refine lv_iconst (v := 1) hx hb d_Model_reckon_281 (by decide) ?_
                  refine lv_goto (tgt := 286) hx hb d_Model_reckon_282 (by decide) ?_
                  replace hR := gd_e hR
                  obtain ⟨b41, hR⟩ := hR
                  refine saM_64 hx hb hK hP hD hS b41 d_Model_reckon_286 (fun T41 eT H locs hP hD hS => ?_)
                  replace hR := stK_e eT hR
                  clear eT
                  obtain ⟨-, -, e3⟩ := re_e hR
                  subst e3
                  exact W.vret hx hb hr (fun t ht hW => ⟨⟨(), rfl, trivial, by rw [ht]; exact hP, va_K.moved hW.alike hK, hD⟩, hS.F ht⟩) hS.2.2 d_Model_reckon_287
              · replace hR := if_p c38 hR
                refine lv_iload hx hb d_Model_reckon_259 (lv_at hl 0 rfl) ?_
                refine lv_iload hx hb d_Model_reckon_261 (lv_at hl 4 rfl) ?_
                refine lv_icmp_ge (tgt := 270) hx hb d_Model_reckon_263 (by decide) (fun c42 => ?_) (fun c42 => ?_)
                · replace hR := if_p c42 hR
                  refine lv_iconst (v := 0) hx hb d_Model_reckon_270 (by decide) ?_
                  refine lv_goto (tgt := 286) hx hb d_Model_reckon_271 (by decide) ?_
                  replace hR := gd_e hR
                  obtain ⟨b43, hR⟩ := hR
                  refine saM_64 hx hb hK hP hD hS b43 d_Model_reckon_286 (fun T43 eT H locs hP hD hS => ?_)
                  replace hR := stK_e eT hR
                  clear eT
                  obtain ⟨-, -, e3⟩ := re_e hR
                  subst e3
                  exact W.vret hx hb hr (fun t ht hW => ⟨⟨(), rfl, trivial, by rw [ht]; exact hP, va_K.moved hW.alike hK, hD⟩, hS.F ht⟩) hS.2.2 d_Model_reckon_287
                · replace hR := if_n c42 hR
                  refine lv_iconst (v := 1) hx hb d_Model_reckon_266 (by decide) ?_
                  refine lv_goto (tgt := 286) hx hb d_Model_reckon_267 (by decide) ?_
                  replace hR := gd_e hR
                  obtain ⟨b44, hR⟩ := hR
                  refine saM_64 hx hb hK hP hD hS b44 d_Model_reckon_286 (fun T44 eT H locs hP hD hS => ?_)
                  replace hR := stK_e eT hR
                  clear eT
                  obtain ⟨-, -, e3⟩ := re_e hR
                  subst e3
                  exact W.vret hx hb hr (fun t ht hW => ⟨⟨(), rfl, trivial, by rw [ht]; exact hP, va_K.moved hW.alike hK, hD⟩, hS.F ht⟩) hS.2.2 d_Model_reckon_287
            · replace hR := if_p c37 hR
              refine lv_iload hx hb d_Model_reckon_245 (lv_at hl 0 rfl) ?_
              refine lv_iload hx hb d_Model_reckon_247 (lv_at hl 4 rfl) ?_
              replace hR := gd_e hR
              obtain ⟨b45, hR⟩ := hR
              refine lv_irem hx hb d_Model_reckon_249 b45 ?_
              refine lv_goto (tgt := 286) hx hb d_Model_reckon_250 (by decide) ?_
              replace hR := gd_e hR
              obtain ⟨b46, hR⟩ := hR
              refine saM_64 hx hb hK hP hD hS b46 d_Model_reckon_286 (fun T46 eT H locs hP hD hS => ?_)
              replace hR := stK_e eT hR
              clear eT
              obtain ⟨-, -, e3⟩ := re_e hR
              subst e3
              exact W.vret hx hb hr (fun t ht hW => ⟨⟨(), rfl, trivial, by rw [ht]; exact hP, va_K.moved hW.alike hK, hD⟩, hS.F ht⟩) hS.2.2 d_Model_reckon_287
          · replace hR := if_p c36 hR
            refine lv_iload hx hb d_Model_reckon_231 (lv_at hl 0 rfl) ?_
            refine lv_iload hx hb d_Model_reckon_233 (lv_at hl 4 rfl) ?_
            replace hR := gd_e hR
            obtain ⟨b47, hR⟩ := hR
            refine lv_idiv hx hb d_Model_reckon_235 b47 ?_
            refine lv_goto (tgt := 286) hx hb d_Model_reckon_236 (by decide) ?_
            replace hR := gd_e hR
            obtain ⟨b48, hR⟩ := hR
            refine saM_64 hx hb hK hP hD hS b48 d_Model_reckon_286 (fun T48 eT H locs hP hD hS => ?_)
            replace hR := stK_e eT hR
            clear eT
            obtain ⟨-, -, e3⟩ := re_e hR
            subst e3
            exact W.vret hx hb hr (fun t ht hW => ⟨⟨(), rfl, trivial, by rw [ht]; exact hP, va_K.moved hW.alike hK, hD⟩, hS.F ht⟩) hS.2.2 d_Model_reckon_287
        · replace hR := if_p c35 hR
          refine lv_iload hx hb d_Model_reckon_217 (lv_at hl 0 rfl) ?_
          refine lv_iload hx hb d_Model_reckon_219 (lv_at hl 4 rfl) ?_
          refine lv_imul hx hb d_Model_reckon_221 ?_
          refine lv_goto (tgt := 286) hx hb d_Model_reckon_222 (by decide) ?_
          replace hR := gd_e hR
          obtain ⟨b49, hR⟩ := hR
          refine saM_64 hx hb hK hP hD hS b49 d_Model_reckon_286 (fun T49 eT H locs hP hD hS => ?_)
          replace hR := stK_e eT hR
          clear eT
          obtain ⟨-, -, e3⟩ := re_e hR
          subst e3
          exact W.vret hx hb hr (fun t ht hW => ⟨⟨(), rfl, trivial, by rw [ht]; exact hP, va_K.moved hW.alike hK, hD⟩, hS.F ht⟩) hS.2.2 d_Model_reckon_287
      · replace hR := if_p c34 hR
        refine lv_iload hx hb d_Model_reckon_203 (lv_at hl 0 rfl) ?_
        refine lv_iload hx hb d_Model_reckon_205 (lv_at hl 4 rfl) ?_
        refine lv_isub hx hb d_Model_reckon_207 ?_
        refine lv_goto (tgt := 286) hx hb d_Model_reckon_208 (by decide) ?_
        replace hR := gd_e hR
        obtain ⟨b50, hR⟩ := hR
        refine saM_64 hx hb hK hP hD hS b50 d_Model_reckon_286 (fun T50 eT H locs hP hD hS => ?_)
        replace hR := stK_e eT hR
        clear eT
        obtain ⟨-, -, e3⟩ := re_e hR
        subst e3
        exact W.vret hx hb hr (fun t ht hW => ⟨⟨(), rfl, trivial, by rw [ht]; exact hP, va_K.moved hW.alike hK, hD⟩, hS.F ht⟩) hS.2.2 d_Model_reckon_287
    · replace hR := if_p c33 hR
      refine lv_iload hx hb d_Model_reckon_189 (lv_at hl 0 rfl) ?_
      refine lv_iload hx hb d_Model_reckon_191 (lv_at hl 4 rfl) ?_
      refine lv_iadd hx hb d_Model_reckon_193 ?_
      refine lv_goto (tgt := 286) hx hb d_Model_reckon_194 (by decide) ?_
      replace hR := gd_e hR
      obtain ⟨b51, hR⟩ := hR
      refine saM_64 hx hb hK hP hD hS b51 d_Model_reckon_286 (fun T51 eT H locs hP hD hS => ?_)
      replace hR := stK_e eT hR
      clear eT
      obtain ⟨-, -, e3⟩ := re_e hR
      subst e3
      exact W.vret hx hb hr (fun t ht hW => ⟨⟨(), rfl, trivial, by rw [ht]; exact hP, va_K.moved hW.alike hK, hD⟩, hS.F ht⟩) hS.2.2 d_Model_reckon_287
  have lb_121 : ∀ (T : gSt) (x3 : Int32) (y0 : Int32), rj_Model_reckon_121 F nf T x3 y0 = some (r0, rl0, T9) → G 121 [(0, .ref (ad 0)), (3, .int x3)] [.int y0] T := by
    intro T x3 y0 hR; unfold rj_Model_reckon_121 at hR; rw [hG]; intro H locs hP hD hS ls hl
    refine lv_istore (lv' := [(5, .int y0), (0, .ref (ad 0)), (3, .int x3)]) hx hb d_Model_reckon_121 hl (by decide) rfl (fun ls hl => ?_)
    refine lv_aload_n hx hb d_Model_reckon_123 rfl (lv_at hl 1 rfl) ?_
    refine rd_Model_207 hx hb hT hown hK hP d_Model_reckon_124 ?_
    refine lv_iload_n hx hb d_Model_reckon_127 rfl (lv_at hl 2 rfl) ?_
    refine lv_iload hx hb d_Model_reckon_128 (lv_at hl 0 rfl) ?_
    refine lv_if_eq (tgt := 137) hx hb d_Model_reckon_130 (by decide) (fun c26 => ?_) (fun c26 => ?_)
    · replace hR := if_p c26 hR
      refine lv_iconst (v := 0) hx hb d_Model_reckon_137 (by decide) ?_
      replace hR := gd_e hR
      obtain ⟨b27, hR⟩ := hR
      refine saM_64 hx hb hK hP hD hS b27 d_Model_reckon_138 (fun T27 eT H locs hP hD hS => ?_)
      replace hR := stK_e eT hR
      clear eT
      refine lv_aload_n hx hb d_Model_reckon_139 rfl (lv_at hl 1 rfl) ?_
      refine rd_Model_210 hx hb hT hown hK hP d_Model_reckon_140 ?_
      refine lv_iload_n hx hb d_Model_reckon_143 rfl (lv_at hl 2 rfl) ?_
      refine lv_iconst (v := (-1)) hx hb d_Model_reckon_144 (by decide) ?_
      replace hR := gd_e hR
      obtain ⟨b28, hR⟩ := hR
      refine saM_65 hx hb hK hP hD hS b28 d_Model_reckon_145 (fun T28 eT H locs hP hD hS => ?_)
      replace hR := stK_e eT hR
      clear eT
      obtain ⟨-, -, e3⟩ := re_e hR
      subst e3
      exact W.vret hx hb hr (fun t ht hW => ⟨⟨(), rfl, trivial, by rw [ht]; exact hP, va_K.moved hW.alike hK, hD⟩, hS.F ht⟩) hS.2.2 d_Model_reckon_146
    · replace hR := if_n c26 hR
      refine lv_iconst (v := 1) hx hb d_Model_reckon_133 (by decide) ?_
      refine lv_goto (tgt := 138) hx hb d_Model_reckon_134 (by decide) ?_
      replace hR := gd_e hR
      obtain ⟨b29, hR⟩ := hR
      refine saM_64 hx hb hK hP hD hS b29 d_Model_reckon_138 (fun T29 eT H locs hP hD hS => ?_)
      replace hR := stK_e eT hR
      clear eT
      refine lv_aload_n hx hb d_Model_reckon_139 rfl (lv_at hl 1 rfl) ?_
      refine rd_Model_210 hx hb hT hown hK hP d_Model_reckon_140 ?_
      refine lv_iload_n hx hb d_Model_reckon_143 rfl (lv_at hl 2 rfl) ?_
      refine lv_iconst (v := (-1)) hx hb d_Model_reckon_144 (by decide) ?_
      replace hR := gd_e hR
      obtain ⟨b30, hR⟩ := hR
      refine saM_65 hx hb hK hP hD hS b30 d_Model_reckon_145 (fun T30 eT H locs hP hD hS => ?_)
      replace hR := stK_e eT hR
      clear eT
      obtain ⟨-, -, e3⟩ := re_e hR
      subst e3
      exact W.vret hx hb hr (fun t ht hW => ⟨⟨(), rfl, trivial, by rw [ht]; exact hP, va_K.moved hW.alike hK, hD⟩, hS.F ht⟩) hS.2.2 d_Model_reckon_146
  unfold rb_Model_reckon at hR
  refine lv_aload_n hx hb d_Model_reckon_0 rfl (lv_at hl 0 rfl) ?_
  refine lv_dup hx hb d_Model_reckon_1 rfl ?_
  refine rd_Model_799 hx hb hT hown hK hP d_Model_reckon_2 ?_
  refine lv_iconst (v := 1) hx hb d_Model_reckon_5 (by decide) ?_
  refine lv_isub hx hb d_Model_reckon_6 ?_
  refine wr_Model_799 hx hb hT hown hK hP hD hS d_Model_reckon_7 (fun T1 eT H locs hP hD hS => ?_)
  replace hR := stK_e eT hR
  clear eT
  refine lv_aload_n hx hb d_Model_reckon_10 rfl (lv_at hl 0 rfl) ?_
  refine rd_Model_799 hx hb hT hown hK hP d_Model_reckon_11 ?_
  refine lv_iconst (v := 1) hx hb d_Model_reckon_14 (by decide) ?_
  refine lv_isub hx hb d_Model_reckon_15 ?_
  refine lv_topi (fun z2 e2 => ?_)
  replace hR := vK_e e2 hR
  refine lv_istore_n (lv' := [(3, .int z2), (0, .ref (ad 0)), (1, .int p1), (2, .int p2)]) hx hb d_Model_reckon_16 rfl hl (by decide) rfl (fun ls hl => ?_)
  refine lv_aload_n hx hb d_Model_reckon_17 rfl (lv_at hl 1 rfl) ?_
  refine rd_Model_207 hx hb hT hown hK hP d_Model_reckon_18 ?_
  refine lv_aload_n hx hb d_Model_reckon_21 rfl (lv_at hl 1 rfl) ?_
  refine rd_Model_799 hx hb hT hown hK hP d_Model_reckon_22 ?_
  replace hR := gd_e hR
  obtain ⟨b3, hR⟩ := hR
  refine laM_64 hx hb hK hP b3 d_Model_reckon_25 ?_
  refine lv_topi (fun z4 e4 => ?_)
  replace hR := vK_e e4 hR
  refine lv_istore (lv' := [(4, .int z4), (3, .int z2), (0, .ref (ad 0)), (1, .int p1), (2, .int p2)]) hx hb d_Model_reckon_26 hl (by decide) rfl (fun ls hl => ?_)
  refine lv_iload_n hx hb d_Model_reckon_28 rfl (lv_at hl 3 rfl) ?_
  refine lv_bipush (v := 20) hx hb d_Model_reckon_29 (by decide) ?_
  refine lv_icmp_ne (tgt := 46) hx hb d_Model_reckon_31 (by decide) (fun c5 => ?_) (fun c5 => ?_)
  · replace hR := if_n c5 hR
    refine lv_iload_n hx hb d_Model_reckon_46 rfl (lv_at hl 3 rfl) ?_
    refine lv_bipush (v := 21) hx hb d_Model_reckon_47 (by decide) ?_
    refine lv_icmp_ne (tgt := 147) hx hb d_Model_reckon_49 (by decide) (fun c6 => ?_) (fun c6 => ?_)
    · replace hR := if_n c6 hR
      refine lv_iload_n hx hb d_Model_reckon_147 rfl (lv_at hl 4 rfl) ?_
      refine lv_bipush (v := 47) hx hb d_Model_reckon_148 (by decide) ?_
      refine lv_icmp_eq (tgt := 159) hx hb d_Model_reckon_150 (by decide) (fun c7 => ?_) (fun c7 => ?_)
      · replace hR := if_p c7 hR
        refine lv_iload hx hb d_Model_reckon_159 (lv_at hl 0 rfl) ?_
        refine lv_if_ne (tgt := 170) hx hb d_Model_reckon_161 (by decide) (fun c8 => ?_) (fun c8 => ?_)
        · replace hR := if_n c8 hR
          have g := lb_170 T1 p2 z2 z4 hR
          rw [hG] at g
          exact g _ _ hP hD hS _ (lv_sub hl [2, 4, 1, 0] rfl)
        · replace hR := if_p c8 hR
          refine lv_aload_n hx hb d_Model_reckon_164 rfl (lv_at hl 2 rfl) ?_
          refine lv_iconst (v := 4) hx hb d_Model_reckon_165 (by decide) ?_
          replace hR := bi_e hR
          obtain ⟨r9, l9, T9, hc9, hR⟩ := hR
          refine gcV_v (rest := []) ⟨hx, hb, hml, hown, hT⟩ (h_Model_raise _ _ _ _ _ hc9) (cwV 1 hT (gV ml_Model_847 im_Model_raise se_Model_raise ini_Model co_Model_raise) rfl rfl rfl pd_Model_raise ⟨rm_hi, rm_lo (Nat.le_of_ble_eq_true rfl)⟩) hK hP hD hS hA hnw henv (Nat.le_of_ble_eq_true rfl) rfl rfl hl.1 rfl (Nat.le_of_ble_eq_true rfl) d_Model_reckon_166 ⟨Nat.le_refl _, Nat.le_refl _⟩ (fun H locs hP hD hS => ?_)
          clear hc9
          obtain ⟨-, -, e3⟩ := re_e hR
          subst e3
          exact W.vret hx hb hr (fun t ht hW => ⟨⟨(), rfl, trivial, by rw [ht]; exact hP, va_K.moved hW.alike hK, hD⟩, hS.F ht⟩) hS.2.2 d_Model_reckon_169
      · replace hR := if_n c7 hR
        refine lv_iload_n hx hb d_Model_reckon_153 rfl (lv_at hl 4 rfl) ?_
        refine lv_bipush (v := 37) hx hb d_Model_reckon_154 (by decide) ?_
        refine lv_icmp_ne (tgt := 170) hx hb d_Model_reckon_156 (by decide) (fun c10 => ?_) (fun c10 => ?_)
        · replace hR := if_n c10 hR
          have g := lb_170 T1 p2 z2 z4 hR
          rw [hG] at g
          exact g _ _ hP hD hS _ (lv_sub hl [2, 4, 1, 0] rfl)
        · replace hR := if_p c10 hR
          refine lv_iload hx hb d_Model_reckon_159 (lv_at hl 0 rfl) ?_
          refine lv_if_ne (tgt := 170) hx hb d_Model_reckon_161 (by decide) (fun c11 => ?_) (fun c11 => ?_)
          · replace hR := if_n c11 hR
            have g := lb_170 T1 p2 z2 z4 hR
            rw [hG] at g
            exact g _ _ hP hD hS _ (lv_sub hl [2, 4, 1, 0] rfl)
          · replace hR := if_p c11 hR
            refine lv_aload_n hx hb d_Model_reckon_164 rfl (lv_at hl 2 rfl) ?_
            refine lv_iconst (v := 4) hx hb d_Model_reckon_165 (by decide) ?_
            replace hR := bi_e hR
            obtain ⟨r12, l12, T12, hc12, hR⟩ := hR
            refine gcV_v (rest := []) ⟨hx, hb, hml, hown, hT⟩ (h_Model_raise _ _ _ _ _ hc12) (cwV 1 hT (gV ml_Model_847 im_Model_raise se_Model_raise ini_Model co_Model_raise) rfl rfl rfl pd_Model_raise ⟨rm_hi, rm_lo (Nat.le_of_ble_eq_true rfl)⟩) hK hP hD hS hA hnw henv (Nat.le_of_ble_eq_true rfl) rfl rfl hl.1 rfl (Nat.le_of_ble_eq_true rfl) d_Model_reckon_166 ⟨Nat.le_refl _, Nat.le_refl _⟩ (fun H locs hP hD hS => ?_)
            clear hc12
            obtain ⟨-, -, e3⟩ := re_e hR
            subst e3
            exact W.vret hx hb hr (fun t ht hW => ⟨⟨(), rfl, trivial, by rw [ht]; exact hP, va_K.moved hW.alike hK, hD⟩, hS.F ht⟩) hS.2.2 d_Model_reckon_169
    · replace hR := if_p c6 hR
      refine lv_aload_n hx hb d_Model_reckon_52 rfl (lv_at hl 2 rfl) ?_
      refine rd_Model_210 hx hb hT hown hK hP d_Model_reckon_53 ?_
      refine lv_iload_n hx hb d_Model_reckon_56 rfl (lv_at hl 1 rfl) ?_
      replace hR := gd_e hR
      obtain ⟨b13, hR⟩ := hR
      refine laM_65 hx hb hK hP b13 d_Model_reckon_57 ?_
      refine lv_aload_n hx hb d_Model_reckon_58 rfl (lv_at hl 2 rfl) ?_
      refine rd_Model_210 hx hb hT hown hK hP d_Model_reckon_59 ?_
      refine lv_aload_n hx hb d_Model_reckon_62 rfl (lv_at hl 2 rfl) ?_
      refine rd_Model_799 hx hb hT hown hK hP d_Model_reckon_63 ?_
      replace hR := gd_e hR
      obtain ⟨b14, hR⟩ := hR
      refine laM_65 hx hb hK hP b14 d_Model_reckon_66 ?_
      refine lv_icmp_ne (tgt := 120) hx hb d_Model_reckon_67 (by decide) (fun c15 => ?_) (fun c15 => ?_)
      · replace hR := if_n c15 hR
        refine lv_iconst (v := 0) hx hb d_Model_reckon_120 (by decide) ?_
        have g := lb_121 T1 z2 (0 : Int32) hR
        rw [hG] at g
        exact g _ _ hP hD hS _ (lv_sub hl [2, 1] rfl)
      · replace hR := if_p c15 hR
        refine lv_aload_n hx hb d_Model_reckon_70 rfl (lv_at hl 2 rfl) ?_
        refine rd_Model_210 hx hb hT hown hK hP d_Model_reckon_71 ?_
        refine lv_iload_n hx hb d_Model_reckon_74 rfl (lv_at hl 1 rfl) ?_
        replace hR := gd_e hR
        obtain ⟨b16, hR⟩ := hR
        refine laM_65 hx hb hK hP b16 d_Model_reckon_75 ?_
        refine lv_iconst (v := (-1)) hx hb d_Model_reckon_76 (by decide) ?_
        refine lv_icmp_eq (tgt := 116) hx hb d_Model_reckon_77 (by decide) (fun c17 => ?_) (fun c17 => ?_)
        · replace hR := if_p c17 hR
          refine lv_iconst (v := 1) hx hb d_Model_reckon_116 (by decide) ?_
          refine lv_goto (tgt := 121) hx hb d_Model_reckon_117 (by decide) ?_
          have g := lb_121 T1 z2 (1 : Int32) hR
          rw [hG] at g
          exact g _ _ hP hD hS _ (lv_sub hl [2, 1] rfl)
        · replace hR := if_n c17 hR
          refine lv_aload_n hx hb d_Model_reckon_80 rfl (lv_at hl 2 rfl) ?_
          refine rd_Model_207 hx hb hT hown hK hP d_Model_reckon_81 ?_
          refine lv_iload_n hx hb d_Model_reckon_84 rfl (lv_at hl 1 rfl) ?_
          replace hR := gd_e hR
          obtain ⟨b18, hR⟩ := hR
          refine laM_64 hx hb hK hP b18 d_Model_reckon_85 ?_
          refine lv_aload_n hx hb d_Model_reckon_86 rfl (lv_at hl 2 rfl) ?_
          refine rd_Model_207 hx hb hT hown hK hP d_Model_reckon_87 ?_
          refine lv_aload_n hx hb d_Model_reckon_90 rfl (lv_at hl 2 rfl) ?_
          refine rd_Model_799 hx hb hT hown hK hP d_Model_reckon_91 ?_
          replace hR := gd_e hR
          obtain ⟨b19, hR⟩ := hR
          refine laM_64 hx hb hK hP b19 d_Model_reckon_94 ?_
          refine lv_icmp_ne (tgt := 120) hx hb d_Model_reckon_95 (by decide) (fun c20 => ?_) (fun c20 => ?_)
          · replace hR := if_n c20 hR
            refine lv_iconst (v := 0) hx hb d_Model_reckon_120 (by decide) ?_
            have g := lb_121 T1 z2 (0 : Int32) hR
            rw [hG] at g
            exact g _ _ hP hD hS _ (lv_sub hl [2, 1] rfl)
          · replace hR := if_p c20 hR
            refine lv_aload_n hx hb d_Model_reckon_98 rfl (lv_at hl 2 rfl) ?_
            refine rd_Model_213 hx hb hT hown hK hP d_Model_reckon_99 ?_
            refine lv_iload_n hx hb d_Model_reckon_102 rfl (lv_at hl 1 rfl) ?_
            replace hR := gd_e hR
            obtain ⟨b21, hR⟩ := hR
            refine laM_66 hx hb hK hP b21 d_Model_reckon_103 ?_
            refine lv_aload_n hx hb d_Model_reckon_104 rfl (lv_at hl 2 rfl) ?_
            refine rd_Model_213 hx hb hT hown hK hP d_Model_reckon_105 ?_
            refine lv_aload_n hx hb d_Model_reckon_108 rfl (lv_at hl 2 rfl) ?_
            refine rd_Model_799 hx hb hT hown hK hP d_Model_reckon_109 ?_
            replace hR := gd_e hR
            obtain ⟨b22, hR⟩ := hR
            refine laM_66 hx hb hK hP b22 d_Model_reckon_112 ?_
            refine lv_icmp_ne (tgt := 120) hx hb d_Model_reckon_113 (by decide) (fun c23 => ?_) (fun c23 => ?_)
            · replace hR := if_n c23 hR
              refine lv_iconst (v := 0) hx hb d_Model_reckon_120 (by decide) ?_
              have g := lb_121 T1 z2 (0 : Int32) hR
              rw [hG] at g
              exact g _ _ hP hD hS _ (lv_sub hl [2, 1] rfl)
            · replace hR := if_p c23 hR
              refine lv_iconst (v := 1) hx hb d_Model_reckon_116 (by decide) ?_
              refine lv_goto (tgt := 121) hx hb d_Model_reckon_117 (by decide) ?_
              have g := lb_121 T1 z2 (1 : Int32) hR
              rw [hG] at g
              exact g _ _ hP hD hS _ (lv_sub hl [2, 1] rfl)
  · replace hR := if_p c5 hR
    refine lv_aload_n hx hb d_Model_reckon_34 rfl (lv_at hl 2 rfl) ?_
    refine rd_Model_207 hx hb hT hown hK hP d_Model_reckon_35 ?_
    refine lv_iload_n hx hb d_Model_reckon_38 rfl (lv_at hl 1 rfl) ?_
    refine lv_dup2_11 hx hb d_Model_reckon_39 rfl rfl ?_
    replace hR := gd_e hR
    obtain ⟨b24, hR⟩ := hR
    refine laM_64 hx hb hK hP b24 d_Model_reckon_40 ?_
    refine lv_iload hx hb d_Model_reckon_41 (lv_at hl 0 rfl) ?_
    refine lv_iadd hx hb d_Model_reckon_43 ?_
    replace hR := gd_e hR
    obtain ⟨b25, hR⟩ := hR
    refine saM_64 hx hb hK hP hD hS b25 d_Model_reckon_44 (fun T25 eT H locs hP hD hS => ?_)
    replace hR := stK_e eT hR
    clear eT
    obtain ⟨-, -, e3⟩ := re_e hR
    subst e3
    exact W.vret hx hb hr (fun t ht hW => ⟨⟨(), rfl, trivial, by rw [ht]; exact hP, va_K.moved hW.alike hK, hD⟩, hS.F ht⟩) hS.2.2 d_Model_reckon_45
set_option maxHeartbeats 4000000 in
set_option maxRecDepth 100000 in
theorem sp_Model_touch (l : Launch) (dC : Nat → ClassId) (dI : Nat → Nat → Nat) (ea ev ad : Nat → Nat) (km : Nat → ClassId) (F : gF) (nf d : Nat) (h_Model_push : mt_Model_push l dC dI ea ev ad km F d) (h_Model_pushPlace : mt_Model_pushPlace l dC dI ea ev ad km F d) (h_Model_raise : mt_Model_raise l dC dI ea ev ad km F d) (h_Model_put : mt_Model_put l dC dI ea ev ad km F d) (T0 : gSt) (p1 : Int32) (p2 : Int32) (p3 : Int32) (r0 : Int32) (rl0 : Int64) (T9 : gSt) (hR : rb_Model_touch F nf T0 p1 p2 p3 = some (r0, rl0, T9)) : GMv l dC dI LM ad km ea ev y_Model_touch w_Model_touch (rmD (d + 1)) [.ref (ad 0), .int p1, .int p2, .int p3] T0 T9 := by
  intro sz
  refine Met.ofW (cc := b_Model_touch) (maxL := 10) (ret := none) (by decide) rfl ?_
  intro p e s m args below meth c s₁ B hml hv
  obtain ⟨rfl, hsz, hP, hK, hD0, hnw, henv⟩ := hv
  have hx := B.exec
  have hb := B.bytes
  have hr := B.returns
  have hT : ∀ w ∈ lw_good, w.before _ s = true := fun w h => atoms_spec (ws := w_Model_touch) B.pre w (List.mem_cons_of_mem _ h)
  have hown : s.vm.findClass R_Model = some m.cls := findClass_of_methodNamed B.named
  subst hsz
  have hD := hD0.self (sz := s.heap.size)
  clear hD0
  generalize hAe : va_A (gW LM ad km T0) s.heap.size = A at hD henv ⊢
  have hA : ∀ q : Nat, s.heap.size ≤ q → A q := fun q h => by rw [← hAe]; exact Or.inr h
  have hS : va_S A s.heap s.heap [] := va_S.rf
  have hl := lv_entry ([.ref (ad 0), .int p1, .int p2, .int p3]) (n := 10) (Nat.le_of_ble_eq_true rfl)
  rw [lg_entry_eq]
  generalize (lg_sl ([.ref (ad 0), .int p1, .int p2, .int p3]) ++ List.replicate (10 - (lg_sl ([.ref (ad 0), .int p1, .int p2, .int p3])).length) Slot.unset).toArray = ls at hl ⊢
  have hl : lv_has ls 10 [(0, .ref (ad 0)), (1, .int p1), (2, .int p2), (3, .int p3)] := hl
  obtain ⟨G, hG⟩ : ∃ G : Nat → List (Nat × Value) → List Value → gSt → Prop, G = (fun pc lv stk T => ∀ (H : Heap) (locs : List Loc), va_P (dC, dI) cls_all (gW LM ad km T) H → va_D A (gW LM ad km T) → va_S A s.heap H locs → ∀ (ls : Array Slot), lv_has ls 10 lv → W p l e (headSpec w_Model_touch (rmD (d + 1))).room s m ([.ref (ad 0), .int p1, .int p2, .int p3] : List Value).toArray below meth c H locs 0 0 (MQ below (va_Qv (fun (_ : Unit) => True) (fun _ t => gPost dC dI LM ad km T9 A t) A) ([.ref (ad 0), .int p1, .int p2, .int p3] : List Value).toArray s 0 0 A) (F0 m pc ls stk)) := ⟨_, rfl⟩
  have lb_502 : ∀ (T : gSt) (x4 : Int32) (x5 : Int32) (x6 : Int32), rj_Model_touch_502 F nf T x4 x5 x6 = some (r0, rl0, T9) → G 502 [(0, .ref (ad 0)), (4, .int x4), (5, .int x5), (6, .int x6)] [] T := by
    intro T x4 x5 x6 hR; unfold rj_Model_touch_502 at hR; rw [hG]; intro H locs hP hD hS ls hl
    refine lv_aload_n hx hb d_Model_touch_502 rfl (lv_at hl 0 rfl) ?_
    refine lv_dup hx hb d_Model_touch_503 rfl ?_
    refine rd_Model_799 hx hb hT hown hK hP d_Model_touch_504 ?_
    refine lv_iconst (v := 1) hx hb d_Model_touch_507 (by decide) ?_
    refine lv_isub hx hb d_Model_touch_508 ?_
    refine wr_Model_799 hx hb hT hown hK hP hD hS d_Model_touch_509 (fun T85 eT H locs hP hD hS => ?_)
    replace hR := stK_e eT hR
    clear eT
    refine lv_aload_n hx hb d_Model_touch_512 rfl (lv_at hl 0 rfl) ?_
    refine lv_iload hx hb d_Model_touch_513 (lv_at hl 2 rfl) ?_
    refine lv_iload hx hb d_Model_touch_515 (lv_at hl 3 rfl) ?_
    refine lv_iload hx hb d_Model_touch_517 (lv_at hl 1 rfl) ?_
    refine lv_aload_n hx hb d_Model_touch_519 rfl (lv_at hl 0 rfl) ?_
    refine rd_Model_799 hx hb hT hown hK hP d_Model_touch_520 ?_
    replace hR := bi_e hR
    obtain ⟨r86, l86, T86, hc86, hR⟩ := hR
    refine gcV_v (rest := []) ⟨hx, hb, hml, hown, hT⟩ (h_Model_put _ _ _ _ _ _ _ _ hc86) (cwV 4 hT (gV ml_Model_903 im_Model_put se_Model_put ini_Model co_Model_put) rfl rfl rfl pd_Model_put ⟨rm_hi, rm_lo (Nat.le_of_ble_eq_true rfl)⟩) hK hP hD hS hA hnw henv (Nat.le_of_ble_eq_true rfl) rfl rfl hl.1 rfl (Nat.le_of_ble_eq_true rfl) d_Model_touch_523 ⟨Nat.le_refl _, Nat.le_refl _⟩ (fun H locs hP hD hS => ?_)
    clear hc86
    obtain ⟨-, -, e3⟩ := re_e hR
    subst e3
    exact W.vret hx hb hr (fun t ht hW => ⟨⟨(), rfl, trivial, by rw [ht]; exact hP, va_K.moved hW.alike hK, hD⟩, hS.F ht⟩) hS.2.2 d_Model_touch_526
  have lb_390 : ∀ (T : gSt) (x2 : Int32) (x5 : Int32), rj_Model_touch_390 F nf T x2 x5 = some (r0, rl0, T9) → G 390 [(0, .ref (ad 0)), (2, .int x2), (5, .int x5)] [] T := by
    intro T x2 x5 hR; unfold rj_Model_touch_390 at hR; rw [hG]; intro H locs hP hD hS ls hl
    refine lv_aload_n hx hb d_Model_touch_390 rfl (lv_at hl 0 rfl) ?_
    refine lv_aload_n hx hb d_Model_touch_391 rfl (lv_at hl 0 rfl) ?_
    refine rd_Model_285 hx hb hT hown hK hP d_Model_touch_392 ?_
    refine lv_iload hx hb d_Model_touch_395 (lv_at hl 2 rfl) ?_
    replace hR := gd_e hR
    obtain ⟨b81, hR⟩ := hR
    refine laM_90 hx hb hK hP b81 d_Model_touch_397 ?_
    refine lv_iload_n hx hb d_Model_touch_398 rfl (lv_at hl 1 rfl) ?_
    refine lv_icmp_ne (tgt := 406) hx hb d_Model_touch_399 (by decide) (fun c82 => ?_) (fun c82 => ?_)
    · replace hR := if_n c82 hR
      refine lv_iconst (v := 0) hx hb d_Model_touch_406 (by decide) ?_
      refine lv_iconst (v := (-1)) hx hb d_Model_touch_407 (by decide) ?_
      refine lv_iconst (v := 0) hx hb d_Model_touch_408 (by decide) ?_
      replace hR := bi_e hR
      obtain ⟨r83, l83, T83, hc83, hR⟩ := hR
      refine gcV_v (rest := []) ⟨hx, hb, hml, hown, hT⟩ (h_Model_push _ _ _ _ _ _ _ hc83) (cwV 3 hT (gV ml_Model_857 im_Model_push se_Model_push ini_Model co_Model_push) rfl rfl rfl pd_Model_push ⟨rm_hi, rm_lo (Nat.le_of_ble_eq_true rfl)⟩) hK hP hD hS hA hnw henv (Nat.le_of_ble_eq_true rfl) rfl rfl hl.1 rfl (Nat.le_of_ble_eq_true rfl) d_Model_touch_409 ⟨Nat.le_refl _, Nat.le_refl _⟩ (fun H locs hP hD hS => ?_)
      clear hc83
      obtain ⟨-, -, e3⟩ := re_e hR
      subst e3
      exact W.vret hx hb hr (fun t ht hW => ⟨⟨(), rfl, trivial, by rw [ht]; exact hP, va_K.moved hW.alike hK, hD⟩, hS.F ht⟩) hS.2.2 d_Model_touch_412
    · replace hR := if_p c82 hR
      refine lv_iconst (v := 1) hx hb d_Model_touch_402 (by decide) ?_
      refine lv_goto (tgt := 407) hx hb d_Model_touch_403 (by decide) ?_
      refine lv_iconst (v := (-1)) hx hb d_Model_touch_407 (by decide) ?_
      refine lv_iconst (v := 0) hx hb d_Model_touch_408 (by decide) ?_
      replace hR := bi_e hR
      obtain ⟨r84, l84, T84, hc84, hR⟩ := hR
      refine gcV_v (rest := []) ⟨hx, hb, hml, hown, hT⟩ (h_Model_push _ _ _ _ _ _ _ hc84) (cwV 3 hT (gV ml_Model_857 im_Model_push se_Model_push ini_Model co_Model_push) rfl rfl rfl pd_Model_push ⟨rm_hi, rm_lo (Nat.le_of_ble_eq_true rfl)⟩) hK hP hD hS hA hnw henv (Nat.le_of_ble_eq_true rfl) rfl rfl hl.1 rfl (Nat.le_of_ble_eq_true rfl) d_Model_touch_409 ⟨Nat.le_refl _, Nat.le_refl _⟩ (fun H locs hP hD hS => ?_)
      clear hc84
      obtain ⟨-, -, e3⟩ := re_e hR
      subst e3
      exact W.vret hx hb hr (fun t ht hW => ⟨⟨(), rfl, trivial, by rw [ht]; exact hP, va_K.moved hW.alike hK, hD⟩, hS.F ht⟩) hS.2.2 d_Model_touch_412
  have lb_207 : ∀ (T : gSt) (x1 : Int32) (x7 : Int32) (x8 : Int32) (x9 : Int32), rj_Model_touch_207 F nf T x1 x7 x8 x9 = some (r0, rl0, T9) → G 207 [(0, .ref (ad 0)), (1, .int x1), (7, .int x7), (8, .int x8), (9, .int x9)] [] T := by
    intro T x1 x7 x8 x9 hR; unfold rj_Model_touch_207 at hR; rw [hG]; intro H locs hP hD hS ls hl
    refine lv_iload_n hx hb d_Model_touch_207 rfl (lv_at hl 1 rfl) ?_
    refine lv_bipush (v := 24) hx hb d_Model_touch_208 (by decide) ?_
    refine lv_icmp_ne (tgt := 237) hx hb d_Model_touch_210 (by decide) (fun c78 => ?_) (fun c78 => ?_)
    · replace hR := if_n c78 hR
      obtain ⟨-, -, e3⟩ := re_e hR
      subst e3
      exact W.vret hx hb hr (fun t ht hW => ⟨⟨(), rfl, trivial, by rw [ht]; exact hP, va_K.moved hW.alike hK, hD⟩, hS.F ht⟩) hS.2.2 d_Model_touch_237
    · replace hR := if_p c78 hR
      refine lv_aload_n hx hb d_Model_touch_213 rfl (lv_at hl 0 rfl) ?_
      refine lv_dup hx hb d_Model_touch_214 rfl ?_
      refine rd_Model_799 hx hb hT hown hK hP d_Model_touch_215 ?_
      refine lv_iconst (v := 1) hx hb d_Model_touch_218 (by decide) ?_
      refine lv_isub hx hb d_Model_touch_219 ?_
      refine wr_Model_799 hx hb hT hown hK hP hD hS d_Model_touch_220 (fun T79 eT H locs hP hD hS => ?_)
      replace hR := stK_e eT hR
      clear eT
      refine lv_aload_n hx hb d_Model_touch_223 rfl (lv_at hl 0 rfl) ?_
      refine lv_iload hx hb d_Model_touch_224 (lv_at hl 3 rfl) ?_
      refine lv_iload hx hb d_Model_touch_226 (lv_at hl 4 rfl) ?_
      refine lv_iload hx hb d_Model_touch_228 (lv_at hl 2 rfl) ?_
      refine lv_aload_n hx hb d_Model_touch_230 rfl (lv_at hl 0 rfl) ?_
      refine rd_Model_799 hx hb hT hown hK hP d_Model_touch_231 ?_
      replace hR := bi_e hR
      obtain ⟨r80, l80, T80, hc80, hR⟩ := hR
      refine gcV_v (rest := []) ⟨hx, hb, hml, hown, hT⟩ (h_Model_put _ _ _ _ _ _ _ _ hc80) (cwV 4 hT (gV ml_Model_903 im_Model_put se_Model_put ini_Model co_Model_put) rfl rfl rfl pd_Model_put ⟨rm_hi, rm_lo (Nat.le_of_ble_eq_true rfl)⟩) hK hP hD hS hA hnw henv (Nat.le_of_ble_eq_true rfl) rfl rfl hl.1 rfl (Nat.le_of_ble_eq_true rfl) d_Model_touch_234 ⟨Nat.le_refl _, Nat.le_refl _⟩ (fun H locs hP hD hS => ?_)
      clear hc80
      obtain ⟨-, -, e3⟩ := re_e hR
      subst e3
      exact W.vret hx hb hr (fun t ht hW => ⟨⟨(), rfl, trivial, by rw [ht]; exact hP, va_K.moved hW.alike hK, hD⟩, hS.F ht⟩) hS.2.2 d_Model_touch_237
  have lb_104 : ∀ (T : gSt) (x1 : Int32) (x4 : Int32), rj_Model_touch_104 F nf T x1 x4 = some (r0, rl0, T9) → G 104 [(0, .ref (ad 0)), (1, .int x1), (4, .int x4)] [] T := by
    intro T x1 x4 hR; unfold rj_Model_touch_104 at hR; rw [hG]; intro H locs hP hD hS ls hl
    refine lv_aload_n hx hb d_Model_touch_104 rfl (lv_at hl 0 rfl) ?_
    refine lv_dup hx hb d_Model_touch_105 rfl ?_
    refine rd_Model_799 hx hb hT hown hK hP d_Model_touch_106 ?_
    refine lv_iconst (v := 1) hx hb d_Model_touch_109 (by decide) ?_
    refine lv_isub hx hb d_Model_touch_110 ?_
    refine wr_Model_799 hx hb hT hown hK hP hD hS d_Model_touch_111 (fun T60 eT H locs hP hD hS => ?_)
    replace hR := stK_e eT hR
    clear eT
    refine lv_aload_n hx hb d_Model_touch_114 rfl (lv_at hl 0 rfl) ?_
    refine rd_Model_207 hx hb hT hown hK hP d_Model_touch_115 ?_
    refine lv_aload_n hx hb d_Model_touch_118 rfl (lv_at hl 0 rfl) ?_
    refine rd_Model_799 hx hb hT hown hK hP d_Model_touch_119 ?_
    replace hR := gd_e hR
    obtain ⟨b61, hR⟩ := hR
    refine laM_64 hx hb hK hP b61 d_Model_touch_122 ?_
    refine lv_iload hx hb d_Model_touch_123 (lv_at hl 2 rfl) ?_
    refine lv_iadd hx hb d_Model_touch_125 ?_
    refine lv_topi (fun z62 e62 => ?_)
    replace hR := vK_e e62 hR
    refine lv_istore (lv' := [(7, .int z62), (0, .ref (ad 0)), (1, .int x1), (4, .int x4)]) hx hb d_Model_touch_126 hl (by decide) rfl (fun ls hl => ?_)
    refine lv_aload_n hx hb d_Model_touch_128 rfl (lv_at hl 1 rfl) ?_
    refine rd_Model_210 hx hb hT hown hK hP d_Model_touch_129 ?_
    refine lv_aload_n hx hb d_Model_touch_132 rfl (lv_at hl 1 rfl) ?_
    refine rd_Model_799 hx hb hT hown hK hP d_Model_touch_133 ?_
    replace hR := gd_e hR
    obtain ⟨b63, hR⟩ := hR
    refine laM_65 hx hb hK hP b63 d_Model_touch_136 ?_
    refine lv_topi (fun z64 e64 => ?_)
    replace hR := vK_e e64 hR
    refine lv_istore (lv' := [(8, .int z64), (7, .int z62), (0, .ref (ad 0)), (1, .int x1), (4, .int x4)]) hx hb d_Model_touch_137 hl (by decide) rfl (fun ls hl => ?_)
    refine lv_aload_n hx hb d_Model_touch_139 rfl (lv_at hl 2 rfl) ?_
    refine rd_Model_213 hx hb hT hown hK hP d_Model_touch_140 ?_
    refine lv_aload_n hx hb d_Model_touch_143 rfl (lv_at hl 2 rfl) ?_
    refine rd_Model_799 hx hb hT hown hK hP d_Model_touch_144 ?_
    replace hR := gd_e hR
    obtain ⟨b65, hR⟩ := hR
    refine laM_66 hx hb hK hP b65 d_Model_touch_147 ?_
    refine lv_topi (fun z66 e66 => ?_)
    replace hR := vK_e e66 hR
    refine lv_istore (lv' := [(9, .int z66), (8, .int z64), (7, .int z62), (0, .ref (ad 0)), (1, .int x1), (4, .int x4)]) hx hb d_Model_touch_148 hl (by decide) rfl (fun ls hl => ?_)
    refine lv_iload hx hb d_Model_touch_150 (lv_at hl 2 rfl) ?_
    refine lv_if_lt (tgt := 169) hx hb d_Model_touch_152 (by decide) (fun c67 => ?_) (fun c67 => ?_)
    · replace hR := if_p c67 hR
      refine lv_aload_n hx hb d_Model_touch_169 rfl (lv_at hl 3 rfl) ?_
      refine lv_iconst (v := 2) hx hb d_Model_touch_170 (by decide) ?_
      replace hR := bi_e hR
      obtain ⟨r68, l68, T68, hc68, hR⟩ := hR
      refine gcV_v (rest := []) ⟨hx, hb, hml, hown, hT⟩ (h_Model_raise _ _ _ _ _ hc68) (cwV 1 hT (gV ml_Model_847 im_Model_raise se_Model_raise ini_Model co_Model_raise) rfl rfl rfl pd_Model_raise ⟨rm_hi, rm_lo (Nat.le_of_ble_eq_true rfl)⟩) hK hP hD hS hA hnw henv (Nat.le_of_ble_eq_true rfl) rfl rfl hl.1 rfl (Nat.le_of_ble_eq_true rfl) d_Model_touch_171 ⟨Nat.le_refl _, Nat.le_refl _⟩ (fun H locs hP hD hS => ?_)
      clear hc68
      obtain ⟨-, -, e3⟩ := re_e hR
      subst e3
      exact W.vret hx hb hr (fun t ht hW => ⟨⟨(), rfl, trivial, by rw [ht]; exact hP, va_K.moved hW.alike hK, hD⟩, hS.F ht⟩) hS.2.2 d_Model_touch_174
    · replace hR := if_n c67 hR
      refine lv_iload hx hb d_Model_touch_155 (lv_at hl 2 rfl) ?_
      refine lv_aload_n hx hb d_Model_touch_157 rfl (lv_at hl 3 rfl) ?_
      refine rd_Model_216 hx hb hT hown hK hP d_Model_touch_158 ?_
      refine lv_aload_n hx hb d_Model_touch_161 rfl (lv_at hl 3 rfl) ?_
      refine rd_Model_799 hx hb hT hown hK hP d_Model_touch_162 ?_
      replace hR := gd_e hR
      obtain ⟨b69, hR⟩ := hR
      refine laM_67 hx hb hK hP b69 d_Model_touch_165 ?_
      refine lv_icmp_lt (tgt := 175) hx hb d_Model_touch_166 (by decide) (fun c70 => ?_) (fun c70 => ?_)
      · replace hR := if_p c70 hR
        refine lv_iload_n hx hb d_Model_touch_175 rfl (lv_at hl 4 rfl) ?_
        refine lv_bipush (v := 8) hx hb d_Model_touch_176 (by decide) ?_
        refine lv_icmp_ne (tgt := 191) hx hb d_Model_touch_178 (by decide) (fun c71 => ?_) (fun c71 => ?_)
        · replace hR := if_n c71 hR
          refine lv_iload_n hx hb d_Model_touch_191 rfl (lv_at hl 4 rfl) ?_
          refine lv_bipush (v := 9) hx hb d_Model_touch_192 (by decide) ?_
          refine lv_icmp_ne (tgt := 207) hx hb d_Model_touch_194 (by decide) (fun c72 => ?_) (fun c72 => ?_)
          · replace hR := if_n c72 hR
            have g := lb_207 T60 x1 z62 z64 z66 hR
            rw [hG] at g
            exact g _ _ hP hD hS _ (lv_sub hl [3, 4, 2, 1, 0] rfl)
          · replace hR := if_p c72 hR
            refine lv_aload_n hx hb d_Model_touch_197 rfl (lv_at hl 3 rfl) ?_
            refine lv_iload hx hb d_Model_touch_198 (lv_at hl 2 rfl) ?_
            refine lv_iload hx hb d_Model_touch_200 (lv_at hl 1 rfl) ?_
            refine lv_iload hx hb d_Model_touch_202 (lv_at hl 0 rfl) ?_
            replace hR := bi_e hR
            obtain ⟨r73, l73, T73, hc73, hR⟩ := hR
            refine gcV_v (rest := []) ⟨hx, hb, hml, hown, hT⟩ (h_Model_push _ _ _ _ _ _ _ hc73) (cwV 3 hT (gV ml_Model_857 im_Model_push se_Model_push ini_Model co_Model_push) rfl rfl rfl pd_Model_push ⟨rm_hi, rm_lo (Nat.le_of_ble_eq_true rfl)⟩) hK hP hD hS hA hnw henv (Nat.le_of_ble_eq_true rfl) rfl rfl hl.1 rfl (Nat.le_of_ble_eq_true rfl) d_Model_touch_204 ⟨Nat.le_refl _, Nat.le_refl _⟩ (fun H locs hP hD hS => ?_)
            clear hc73
            have g := lb_207 T73 x1 z62 z64 z66 hR
            rw [hG] at g
            exact g _ _ hP hD hS _ (lv_sub hl [3, 4, 2, 1, 0] rfl)
        · replace hR := if_p c71 hR
          refine lv_aload_n hx hb d_Model_touch_181 rfl (lv_at hl 3 rfl) ?_
          refine lv_iload hx hb d_Model_touch_182 (lv_at hl 1 rfl) ?_
          refine lv_iload hx hb d_Model_touch_184 (lv_at hl 0 rfl) ?_
          refine lv_iload hx hb d_Model_touch_186 (lv_at hl 2 rfl) ?_
          replace hR := bi_e hR
          obtain ⟨r74, l74, T74, hc74, hR⟩ := hR
          refine gcV_v (rest := []) ⟨hx, hb, hml, hown, hT⟩ (h_Model_pushPlace _ _ _ _ _ _ _ hc74) (cwV 3 hT (gV ml_Model_906 im_Model_pushPlace se_Model_pushPlace ini_Model co_Model_pushPlace) rfl rfl rfl pd_Model_pushPlace ⟨rm_hi, rm_lo (Nat.le_of_ble_eq_true rfl)⟩) hK hP hD hS hA hnw henv (Nat.le_of_ble_eq_true rfl) rfl rfl hl.1 rfl (Nat.le_of_ble_eq_true rfl) d_Model_touch_188 ⟨Nat.le_refl _, Nat.le_refl _⟩ (fun H locs hP hD hS => ?_)
          clear hc74
          refine lv_iload_n hx hb d_Model_touch_191 rfl (lv_at hl 4 rfl) ?_
          refine lv_bipush (v := 9) hx hb d_Model_touch_192 (by decide) ?_
          refine lv_icmp_ne (tgt := 207) hx hb d_Model_touch_194 (by decide) (fun c75 => ?_) (fun c75 => ?_)
          · replace hR := if_n c75 hR
            have g := lb_207 T74 x1 z62 z64 z66 hR
            rw [hG] at g
            exact g _ _ hP hD hS _ (lv_sub hl [3, 4, 2, 1, 0] rfl)
          · replace hR := if_p c75 hR
            refine lv_aload_n hx hb d_Model_touch_197 rfl (lv_at hl 3 rfl) ?_
            refine lv_iload hx hb d_Model_touch_198 (lv_at hl 2 rfl) ?_
            refine lv_iload hx hb d_Model_touch_200 (lv_at hl 1 rfl) ?_
            refine lv_iload hx hb d_Model_touch_202 (lv_at hl 0 rfl) ?_
            replace hR := bi_e hR
            obtain ⟨r76, l76, T76, hc76, hR⟩ := hR
            refine gcV_v (rest := []) ⟨hx, hb, hml, hown, hT⟩ (h_Model_push _ _ _ _ _ _ _ hc76) (cwV 3 hT (gV ml_Model_857 im_Model_push se_Model_push ini_Model co_Model_push) rfl rfl rfl pd_Model_push ⟨rm_hi, rm_lo (Nat.le_of_ble_eq_true rfl)⟩) hK hP hD hS hA hnw henv (Nat.le_of_ble_eq_true rfl) rfl rfl hl.1 rfl (Nat.le_of_ble_eq_true rfl) d_Model_touch_204 ⟨Nat.le_refl _, Nat.le_refl _⟩ (fun H locs hP hD hS => ?_)
            clear hc76
            have g := lb_207 T76 x1 z62 z64 z66 hR
            rw [hG] at g
            exact g _ _ hP hD hS _ (lv_sub hl [3, 4, 2, 1, 0] rfl)
      · replace hR := if_n c70 hR
        refine lv_aload_n hx hb d_Model_touch_169 rfl (lv_at hl 3 rfl) ?_
        refine lv_iconst (v := 2) hx hb d_Model_touch_170 (by decide) ?_
        replace hR := bi_e hR
        obtain ⟨r77, l77, T77, hc77, hR⟩ := hR
        refine gcV_v (rest := []) ⟨hx, hb, hml, hown, hT⟩ (h_Model_raise _ _ _ _ _ hc77) (cwV 1 hT (gV ml_Model_847 im_Model_raise se_Model_raise ini_Model co_Model_raise) rfl rfl rfl pd_Model_raise ⟨rm_hi, rm_lo (Nat.le_of_ble_eq_true rfl)⟩) hK hP hD hS hA hnw henv (Nat.le_of_ble_eq_true rfl) rfl rfl hl.1 rfl (Nat.le_of_ble_eq_true rfl) d_Model_touch_171 ⟨Nat.le_refl _, Nat.le_refl _⟩ (fun H locs hP hD hS => ?_)
        clear hc77
        obtain ⟨-, -, e3⟩ := re_e hR
        subst e3
        exact W.vret hx hb hr (fun t ht hW => ⟨⟨(), rfl, trivial, by rw [ht]; exact hP, va_K.moved hW.alike hK, hD⟩, hS.F ht⟩) hS.2.2 d_Model_touch_174
  unfold rb_Model_touch at hR
  refine lv_aload_n hx hb d_Model_touch_0 rfl (lv_at hl 0 rfl) ?_
  refine lv_dup hx hb d_Model_touch_1 rfl ?_
  refine rd_Model_799 hx hb hT hown hK hP d_Model_touch_2 ?_
  refine lv_iconst (v := 1) hx hb d_Model_touch_5 (by decide) ?_
  refine lv_isub hx hb d_Model_touch_6 ?_
  refine wr_Model_799 hx hb hT hown hK hP hD hS d_Model_touch_7 (fun T1 eT H locs hP hD hS => ?_)
  replace hR := stK_e eT hR
  clear eT
  refine lv_aload_n hx hb d_Model_touch_10 rfl (lv_at hl 0 rfl) ?_
  refine rd_Model_207 hx hb hT hown hK hP d_Model_touch_11 ?_
  refine lv_aload_n hx hb d_Model_touch_14 rfl (lv_at hl 0 rfl) ?_
  refine rd_Model_799 hx hb hT hown hK hP d_Model_touch_15 ?_
  replace hR := gd_e hR
  obtain ⟨b2, hR⟩ := hR
  refine laM_64 hx hb hK hP b2 d_Model_touch_18 ?_
  refine lv_topi (fun z3 e3 => ?_)
  replace hR := vK_e e3 hR
  refine lv_istore (lv' := [(4, .int z3), (0, .ref (ad 0)), (1, .int p1), (2, .int p2), (3, .int p3)]) hx hb d_Model_touch_19 hl (by decide) rfl (fun ls hl => ?_)
  refine lv_aload_n hx hb d_Model_touch_21 rfl (lv_at hl 1 rfl) ?_
  refine rd_Model_210 hx hb hT hown hK hP d_Model_touch_22 ?_
  refine lv_aload_n hx hb d_Model_touch_25 rfl (lv_at hl 1 rfl) ?_
  refine rd_Model_799 hx hb hT hown hK hP d_Model_touch_26 ?_
  replace hR := gd_e hR
  obtain ⟨b4, hR⟩ := hR
  refine laM_65 hx hb hK hP b4 d_Model_touch_29 ?_
  refine lv_topi (fun z5 e5 => ?_)
  replace hR := vK_e e5 hR
  refine lv_istore (lv' := [(5, .int z5), (4, .int z3), (0, .ref (ad 0)), (1, .int p1), (2, .int p2), (3, .int p3)]) hx hb d_Model_touch_30 hl (by decide) rfl (fun ls hl => ?_)
  refine lv_aload_n hx hb d_Model_touch_32 rfl (lv_at hl 2 rfl) ?_
  refine rd_Model_213 hx hb hT hown hK hP d_Model_touch_33 ?_
  refine lv_aload_n hx hb d_Model_touch_36 rfl (lv_at hl 2 rfl) ?_
  refine rd_Model_799 hx hb hT hown hK hP d_Model_touch_37 ?_
  replace hR := gd_e hR
  obtain ⟨b6, hR⟩ := hR
  refine laM_66 hx hb hK hP b6 d_Model_touch_40 ?_
  refine lv_topi (fun z7 e7 => ?_)
  replace hR := vK_e e7 hR
  refine lv_istore (lv' := [(6, .int z7), (5, .int z5), (4, .int z3), (0, .ref (ad 0)), (1, .int p1), (2, .int p2), (3, .int p3)]) hx hb d_Model_touch_41 hl (by decide) rfl (fun ls hl => ?_)
  refine lv_iload_n hx hb d_Model_touch_43 rfl (lv_at hl 4 rfl) ?_
  by_cases c8 : p1 = (8 : Int32)
  · replace hR := if_p c8 hR
    refine lv_lookup (off := 60) (tgt := 104) hx hb d_Model_touch_44 (by decide) (by rw [c8]; decide) (by decide) ?_
    have g := lb_104 T1 p1 z3 hR
    rw [hG] at g
    exact g _ _ hP hD hS _ (lv_sub hl [3, 4, 2] rfl)
  replace hR := if_n c8 hR
  by_cases c9 : p1 = (9 : Int32)
  · replace hR := if_p c9 hR
    refine lv_lookup (off := 60) (tgt := 104) hx hb d_Model_touch_44 (by decide) (by rw [c9]; decide) (by decide) ?_
    have g := lb_104 T1 p1 z3 hR
    rw [hG] at g
    exact g _ _ hP hD hS _ (lv_sub hl [3, 4, 2] rfl)
  replace hR := if_n c9 hR
  by_cases c10 : p1 = (13 : Int32)
  · replace hR := if_p c10 hR
    refine lv_lookup (off := 44) (tgt := 88) hx hb d_Model_touch_44 (by decide) (by rw [c10]; decide) (by decide) ?_
    refine lv_aload_n hx hb d_Model_touch_88 rfl (lv_at hl 3 rfl) ?_
    refine lv_aload_n hx hb d_Model_touch_89 rfl (lv_at hl 3 rfl) ?_
    refine rd_Model_216 hx hb hT hown hK hP d_Model_touch_90 ?_
    refine lv_aload_n hx hb d_Model_touch_93 rfl (lv_at hl 3 rfl) ?_
    refine rd_Model_799 hx hb hT hown hK hP d_Model_touch_94 ?_
    replace hR := gd_e hR
    obtain ⟨b11, hR⟩ := hR
    refine laM_67 hx hb hK hP b11 d_Model_touch_97 ?_
    refine lv_iconst (v := (-1)) hx hb d_Model_touch_98 (by decide) ?_
    refine lv_iconst (v := 0) hx hb d_Model_touch_99 (by decide) ?_
    replace hR := bi_e hR
    obtain ⟨r12, l12, T12, hc12, hR⟩ := hR
    refine gcV_v (rest := []) ⟨hx, hb, hml, hown, hT⟩ (h_Model_push _ _ _ _ _ _ _ hc12) (cwV 3 hT (gV ml_Model_857 im_Model_push se_Model_push ini_Model co_Model_push) rfl rfl rfl pd_Model_push ⟨rm_hi, rm_lo (Nat.le_of_ble_eq_true rfl)⟩) hK hP hD hS hA hnw henv (Nat.le_of_ble_eq_true rfl) rfl rfl hl.1 rfl (Nat.le_of_ble_eq_true rfl) d_Model_touch_100 ⟨Nat.le_refl _, Nat.le_refl _⟩ (fun H locs hP hD hS => ?_)
    clear hc12
    obtain ⟨-, -, e3⟩ := re_e hR
    subst e3
    exact W.vret hx hb hr (fun t ht hW => ⟨⟨(), rfl, trivial, by rw [ht]; exact hP, va_K.moved hW.alike hK, hD⟩, hS.F ht⟩) hS.2.2 d_Model_touch_103
  replace hR := if_n c10 hR
  by_cases c13 : p1 = (24 : Int32)
  · replace hR := if_p c13 hR
    refine lv_lookup (off := 60) (tgt := 104) hx hb d_Model_touch_44 (by decide) (by rw [c13]; decide) (by decide) ?_
    have g := lb_104 T1 p1 z3 hR
    rw [hG] at g
    exact g _ _ hP hD hS _ (lv_sub hl [3, 4, 2] rfl)
  replace hR := if_n c13 hR
  refine lv_lookup (off := 194) (tgt := 238) hx hb d_Model_touch_44 (by decide) ((lv_osw c8 rfl).trans ((lv_osw c9 rfl).trans ((lv_osw c10 rfl).trans ((lv_osw c13 rfl).trans rfl)))) (by decide) ?_
  refine lv_iload hx hb d_Model_touch_238 (lv_at hl 1 rfl) ?_
  refine lv_iconst (v := (-1)) hx hb d_Model_touch_240 (by decide) ?_
  refine lv_icmp_ne (tgt := 250) hx hb d_Model_touch_241 (by decide) (fun c15 => ?_) (fun c15 => ?_)
  · replace hR := if_n c15 hR
    refine lv_iload_n hx hb d_Model_touch_250 rfl (lv_at hl 4 rfl) ?_
    by_cases c16 : p1 = (6 : Int32)
    · replace hR := if_p c16 hR
      refine lv_tableIn (off := 162) (tgt := 413) hx hb d_Model_touch_251 (by rw [c16]; decide) (by rw [c16]; decide) (by rw [c16]; decide) (by decide) ?_
      refine lv_iload_n hx hb d_Model_touch_413 rfl (lv_at hl 6 rfl) ?_
      refine lv_iconst (v := 1) hx hb d_Model_touch_414 (by decide) ?_
      refine lv_icmp_ne (tgt := 437) hx hb d_Model_touch_415 (by decide) (fun c17 => ?_) (fun c17 => ?_)
      · replace hR := if_n c17 hR
        refine lv_aload_n hx hb d_Model_touch_437 rfl (lv_at hl 3 rfl) ?_
        refine lv_iload hx hb d_Model_touch_438 (lv_at hl 1 rfl) ?_
        refine lv_iload hx hb d_Model_touch_440 (lv_at hl 0 rfl) ?_
        refine lv_iload_n hx hb d_Model_touch_442 rfl (lv_at hl 6 rfl) ?_
        refine lv_iconst (v := 1) hx hb d_Model_touch_443 (by decide) ?_
        refine lv_icmp_ne (tgt := 451) hx hb d_Model_touch_444 (by decide) (fun c18 => ?_) (fun c18 => ?_)
        · replace hR := if_n c18 hR
          refine lv_iload_n hx hb d_Model_touch_451 rfl (lv_at hl 5 rfl) ?_
          replace hR := bi_e hR
          obtain ⟨r19, l19, T19, hc19, hR⟩ := hR
          refine gcV_v (rest := []) ⟨hx, hb, hml, hown, hT⟩ (h_Model_pushPlace _ _ _ _ _ _ _ hc19) (cwV 3 hT (gV ml_Model_906 im_Model_pushPlace se_Model_pushPlace ini_Model co_Model_pushPlace) rfl rfl rfl pd_Model_pushPlace ⟨rm_hi, rm_lo (Nat.le_of_ble_eq_true rfl)⟩) hK hP hD hS hA hnw henv (Nat.le_of_ble_eq_true rfl) rfl rfl hl.1 rfl (Nat.le_of_ble_eq_true rfl) d_Model_touch_452 ⟨Nat.le_refl _, Nat.le_refl _⟩ (fun H locs hP hD hS => ?_)
          clear hc19
          obtain ⟨-, -, e3⟩ := re_e hR
          subst e3
          exact W.vret hx hb hr (fun t ht hW => ⟨⟨(), rfl, trivial, by rw [ht]; exact hP, va_K.moved hW.alike hK, hD⟩, hS.F ht⟩) hS.2.2 d_Model_touch_455
        · replace hR := if_p c18 hR
          refine lv_iconst (v := 0) hx hb d_Model_touch_447 (by decide) ?_
          refine lv_goto (tgt := 452) hx hb d_Model_touch_448 (by decide) ?_
          replace hR := bi_e hR
          obtain ⟨r20, l20, T20, hc20, hR⟩ := hR
          refine gcV_v (rest := []) ⟨hx, hb, hml, hown, hT⟩ (h_Model_pushPlace _ _ _ _ _ _ _ hc20) (cwV 3 hT (gV ml_Model_906 im_Model_pushPlace se_Model_pushPlace ini_Model co_Model_pushPlace) rfl rfl rfl pd_Model_pushPlace ⟨rm_hi, rm_lo (Nat.le_of_ble_eq_true rfl)⟩) hK hP hD hS hA hnw henv (Nat.le_of_ble_eq_true rfl) rfl rfl hl.1 rfl (Nat.le_of_ble_eq_true rfl) d_Model_touch_452 ⟨Nat.le_refl _, Nat.le_refl _⟩ (fun H locs hP hD hS => ?_)
          clear hc20
          obtain ⟨-, -, e3⟩ := re_e hR
          subst e3
          exact W.vret hx hb hr (fun t ht hW => ⟨⟨(), rfl, trivial, by rw [ht]; exact hP, va_K.moved hW.alike hK, hD⟩, hS.F ht⟩) hS.2.2 d_Model_touch_455
      · replace hR := if_p c17 hR
        refine lv_aload_n hx hb d_Model_touch_418 rfl (lv_at hl 3 rfl) ?_
        refine rd_Model_285 hx hb hT hown hK hP d_Model_touch_419 ?_
        refine lv_iload hx hb d_Model_touch_422 (lv_at hl 1 rfl) ?_
        replace hR := gd_e hR
        obtain ⟨b21, hR⟩ := hR
        refine laM_90 hx hb hK hP b21 d_Model_touch_424 ?_
        refine lv_iload_n hx hb d_Model_touch_425 rfl (lv_at hl 5 rfl) ?_
        refine lv_icmp_eq (tgt := 437) hx hb d_Model_touch_426 (by decide) (fun c22 => ?_) (fun c22 => ?_)
        · replace hR := if_p c22 hR
          refine lv_aload_n hx hb d_Model_touch_437 rfl (lv_at hl 3 rfl) ?_
          refine lv_iload hx hb d_Model_touch_438 (lv_at hl 1 rfl) ?_
          refine lv_iload hx hb d_Model_touch_440 (lv_at hl 0 rfl) ?_
          refine lv_iload_n hx hb d_Model_touch_442 rfl (lv_at hl 6 rfl) ?_
          refine lv_iconst (v := 1) hx hb d_Model_touch_443 (by decide) ?_
          refine lv_icmp_ne (tgt := 451) hx hb d_Model_touch_444 (by decide) (fun c23 => ?_) (fun c23 => ?_)
          · replace hR := if_n c23 hR
            refine lv_iload_n hx hb d_Model_touch_451 rfl (lv_at hl 5 rfl) ?_
            replace hR := bi_e hR
            obtain ⟨r24, l24, T24, hc24, hR⟩ := hR
            refine gcV_v (rest := []) ⟨hx, hb, hml, hown, hT⟩ (h_Model_pushPlace _ _ _ _ _ _ _ hc24) (cwV 3 hT (gV ml_Model_906 im_Model_pushPlace se_Model_pushPlace ini_Model co_Model_pushPlace) rfl rfl rfl pd_Model_pushPlace ⟨rm_hi, rm_lo (Nat.le_of_ble_eq_true rfl)⟩) hK hP hD hS hA hnw henv (Nat.le_of_ble_eq_true rfl) rfl rfl hl.1 rfl (Nat.le_of_ble_eq_true rfl) d_Model_touch_452 ⟨Nat.le_refl _, Nat.le_refl _⟩ (fun H locs hP hD hS => ?_)
            clear hc24
            obtain ⟨-, -, e3⟩ := re_e hR
            subst e3
            exact W.vret hx hb hr (fun t ht hW => ⟨⟨(), rfl, trivial, by rw [ht]; exact hP, va_K.moved hW.alike hK, hD⟩, hS.F ht⟩) hS.2.2 d_Model_touch_455
          · replace hR := if_p c23 hR
            refine lv_iconst (v := 0) hx hb d_Model_touch_447 (by decide) ?_
            refine lv_goto (tgt := 452) hx hb d_Model_touch_448 (by decide) ?_
            replace hR := bi_e hR
            obtain ⟨r25, l25, T25, hc25, hR⟩ := hR
            refine gcV_v (rest := []) ⟨hx, hb, hml, hown, hT⟩ (h_Model_pushPlace _ _ _ _ _ _ _ hc25) (cwV 3 hT (gV ml_Model_906 im_Model_pushPlace se_Model_pushPlace ini_Model co_Model_pushPlace) rfl rfl rfl pd_Model_pushPlace ⟨rm_hi, rm_lo (Nat.le_of_ble_eq_true rfl)⟩) hK hP hD hS hA hnw henv (Nat.le_of_ble_eq_true rfl) rfl rfl hl.1 rfl (Nat.le_of_ble_eq_true rfl) d_Model_touch_452 ⟨Nat.le_refl _, Nat.le_refl _⟩ (fun H locs hP hD hS => ?_)
            clear hc25
            obtain ⟨-, -, e3⟩ := re_e hR
            subst e3
            exact W.vret hx hb hr (fun t ht hW => ⟨⟨(), rfl, trivial, by rw [ht]; exact hP, va_K.moved hW.alike hK, hD⟩, hS.F ht⟩) hS.2.2 d_Model_touch_455
        · replace hR := if_n c22 hR
          refine lv_aload_n hx hb d_Model_touch_429 rfl (lv_at hl 3 rfl) ?_
          refine lv_iconst (v := 3) hx hb d_Model_touch_430 (by decide) ?_
          replace hR := bi_e hR
          obtain ⟨r26, l26, T26, hc26, hR⟩ := hR
          refine gcV_v (rest := []) ⟨hx, hb, hml, hown, hT⟩ (h_Model_raise _ _ _ _ _ hc26) (cwV 1 hT (gV ml_Model_847 im_Model_raise se_Model_raise ini_Model co_Model_raise) rfl rfl rfl pd_Model_raise ⟨rm_hi, rm_lo (Nat.le_of_ble_eq_true rfl)⟩) hK hP hD hS hA hnw henv (Nat.le_of_ble_eq_true rfl) rfl rfl hl.1 rfl (Nat.le_of_ble_eq_true rfl) d_Model_touch_431 ⟨Nat.le_refl _, Nat.le_refl _⟩ (fun H locs hP hD hS => ?_)
          clear hc26
          refine lv_goto (tgt := 455) hx hb d_Model_touch_434 (by decide) ?_
          obtain ⟨-, -, e3⟩ := re_e hR
          subst e3
          exact W.vret hx hb hr (fun t ht hW => ⟨⟨(), rfl, trivial, by rw [ht]; exact hP, va_K.moved hW.alike hK, hD⟩, hS.F ht⟩) hS.2.2 d_Model_touch_455
    replace hR := if_n c16 hR
    by_cases c27 : p1 = (7 : Int32)
    · replace hR := if_p c27 hR
      refine lv_tableIn (off := 107) (tgt := 358) hx hb d_Model_touch_251 (by rw [c27]; decide) (by rw [c27]; decide) (by rw [c27]; decide) (by decide) ?_
      refine lv_aload_n hx hb d_Model_touch_358 rfl (lv_at hl 3 rfl) ?_
      refine lv_iload_n hx hb d_Model_touch_359 rfl (lv_at hl 5 rfl) ?_
      refine lv_iload hx hb d_Model_touch_360 (lv_at hl 1 rfl) ?_
      refine lv_iload hx hb d_Model_touch_362 (lv_at hl 0 rfl) ?_
      replace hR := bi_e hR
      obtain ⟨r28, l28, T28, hc28, hR⟩ := hR
      refine gcV_v (rest := []) ⟨hx, hb, hml, hown, hT⟩ (h_Model_push _ _ _ _ _ _ _ hc28) (cwV 3 hT (gV ml_Model_857 im_Model_push se_Model_push ini_Model co_Model_push) rfl rfl rfl pd_Model_push ⟨rm_hi, rm_lo (Nat.le_of_ble_eq_true rfl)⟩) hK hP hD hS hA hnw henv (Nat.le_of_ble_eq_true rfl) rfl rfl hl.1 rfl (Nat.le_of_ble_eq_true rfl) d_Model_touch_364 ⟨Nat.le_refl _, Nat.le_refl _⟩ (fun H locs hP hD hS => ?_)
      clear hc28
      obtain ⟨-, -, e3⟩ := re_e hR
      subst e3
      exact W.vret hx hb hr (fun t ht hW => ⟨⟨(), rfl, trivial, by rw [ht]; exact hP, va_K.moved hW.alike hK, hD⟩, hS.F ht⟩) hS.2.2 d_Model_touch_367
    replace hR := if_n c27 hR
    by_cases c29 : p1 = (8 : Int32)
    · replace hR := if_p c29 hR
      refine lv_tableIn (off := 251) (tgt := 502) hx hb d_Model_touch_251 (by rw [c29]; decide) (by rw [c29]; decide) (by rw [c29]; decide) (by decide) ?_
      have g := lb_502 T1 z3 z5 z7 hR
      rw [hG] at g
      exact g _ _ hP hD hS _ (lv_sub hl [3, 2, 1, 0] rfl)
    replace hR := if_n c29 hR
    by_cases c30 : p1 = (9 : Int32)
    · replace hR := if_p c30 hR
      refine lv_tableIn (off := 251) (tgt := 502) hx hb d_Model_touch_251 (by rw [c30]; decide) (by rw [c30]; decide) (by rw [c30]; decide) (by decide) ?_
      have g := lb_502 T1 z3 z5 z7 hR
      rw [hG] at g
      exact g _ _ hP hD hS _ (lv_sub hl [3, 2, 1, 0] rfl)
    replace hR := if_n c30 hR
    by_cases c31 : p1 = (10 : Int32)
    · replace hR := if_p c31 hR
      refine lv_tableIn (off := 96) (tgt := 347) hx hb d_Model_touch_251 (by rw [c31]; decide) (by rw [c31]; decide) (by rw [c31]; decide) (by decide) ?_
      refine lv_aload_n hx hb d_Model_touch_347 rfl (lv_at hl 3 rfl) ?_
      refine lv_iload hx hb d_Model_touch_348 (lv_at hl 1 rfl) ?_
      refine lv_iload hx hb d_Model_touch_350 (lv_at hl 0 rfl) ?_
      refine lv_iload hx hb d_Model_touch_352 (lv_at hl 2 rfl) ?_
      replace hR := bi_e hR
      obtain ⟨r32, l32, T32, hc32, hR⟩ := hR
      refine gcV_v (rest := []) ⟨hx, hb, hml, hown, hT⟩ (h_Model_pushPlace _ _ _ _ _ _ _ hc32) (cwV 3 hT (gV ml_Model_906 im_Model_pushPlace se_Model_pushPlace ini_Model co_Model_pushPlace) rfl rfl rfl pd_Model_pushPlace ⟨rm_hi, rm_lo (Nat.le_of_ble_eq_true rfl)⟩) hK hP hD hS hA hnw henv (Nat.le_of_ble_eq_true rfl) rfl rfl hl.1 rfl (Nat.le_of_ble_eq_true rfl) d_Model_touch_354 ⟨Nat.le_refl _, Nat.le_refl _⟩ (fun H locs hP hD hS => ?_)
      clear hc32
      obtain ⟨-, -, e3⟩ := re_e hR
      subst e3
      exact W.vret hx hb hr (fun t ht hW => ⟨⟨(), rfl, trivial, by rw [ht]; exact hP, va_K.moved hW.alike hK, hD⟩, hS.F ht⟩) hS.2.2 d_Model_touch_357
    replace hR := if_n c31 hR
    by_cases c33 : p1 = (11 : Int32)
    · replace hR := if_p c33 hR
      refine lv_tableIn (off := 117) (tgt := 368) hx hb d_Model_touch_251 (by rw [c33]; decide) (by rw [c33]; decide) (by rw [c33]; decide) (by decide) ?_
      refine lv_aload_n hx hb d_Model_touch_368 rfl (lv_at hl 3 rfl) ?_
      refine rd_Model_273 hx hb hT hown hK hP d_Model_touch_369 ?_
      refine lv_iload hx hb d_Model_touch_372 (lv_at hl 1 rfl) ?_
      replace hR := gd_e hR
      obtain ⟨b34, hR⟩ := hR
      refine laM_86 hx hb hK hP b34 d_Model_touch_374 ?_
      refine lv_iload hx hb d_Model_touch_375 (lv_at hl 0 rfl) ?_
      refine lv_icmp_eq (tgt := 390) hx hb d_Model_touch_377 (by decide) (fun c35 => ?_) (fun c35 => ?_)
      · replace hR := if_p c35 hR
        have g := lb_390 T1 p2 z5 hR
        rw [hG] at g
        exact g _ _ hP hD hS _ (lv_sub hl [3, 5, 1] rfl)
      · replace hR := if_n c35 hR
        refine lv_aload_n hx hb d_Model_touch_380 rfl (lv_at hl 3 rfl) ?_
        refine lv_dup hx hb d_Model_touch_381 rfl ?_
        refine rd_Model_820 hx hb hT hown hK hP d_Model_touch_382 ?_
        refine lv_iconst (v := 1) hx hb d_Model_touch_385 (by decide) ?_
        refine lv_iadd hx hb d_Model_touch_386 ?_
        refine wr_Model_820 hx hb hT hown hK hP hD hS d_Model_touch_387 (fun T36 eT H locs hP hD hS => ?_)
        replace hR := stK_e eT hR
        clear eT
        have g := lb_390 T36 p2 z5 hR
        rw [hG] at g
        exact g _ _ hP hD hS _ (lv_sub hl [3, 5, 1] rfl)
    replace hR := if_n c33 hR
    by_cases c37 : p1 = (12 : Int32)
    · replace hR := if_p c37 hR
      refine lv_tableIn (off := 85) (tgt := 336) hx hb d_Model_touch_251 (by rw [c37]; decide) (by rw [c37]; decide) (by rw [c37]; decide) (by decide) ?_
      refine lv_aload_n hx hb d_Model_touch_336 rfl (lv_at hl 3 rfl) ?_
      refine lv_iload hx hb d_Model_touch_337 (lv_at hl 2 rfl) ?_
      refine lv_iload hx hb d_Model_touch_339 (lv_at hl 1 rfl) ?_
      refine lv_iload hx hb d_Model_touch_341 (lv_at hl 0 rfl) ?_
      replace hR := bi_e hR
      obtain ⟨r38, l38, T38, hc38, hR⟩ := hR
      refine gcV_v (rest := []) ⟨hx, hb, hml, hown, hT⟩ (h_Model_push _ _ _ _ _ _ _ hc38) (cwV 3 hT (gV ml_Model_857 im_Model_push se_Model_push ini_Model co_Model_push) rfl rfl rfl pd_Model_push ⟨rm_hi, rm_lo (Nat.le_of_ble_eq_true rfl)⟩) hK hP hD hS hA hnw henv (Nat.le_of_ble_eq_true rfl) rfl rfl hl.1 rfl (Nat.le_of_ble_eq_true rfl) d_Model_touch_343 ⟨Nat.le_refl _, Nat.le_refl _⟩ (fun H locs hP hD hS => ?_)
      clear hc38
      obtain ⟨-, -, e3⟩ := re_e hR
      subst e3
      exact W.vret hx hb hr (fun t ht hW => ⟨⟨(), rfl, trivial, by rw [ht]; exact hP, va_K.moved hW.alike hK, hD⟩, hS.F ht⟩) hS.2.2 d_Model_touch_346
    replace hR := if_n c37 hR
    by_cases c39 : p1 = (13 : Int32)
    · replace hR := if_p c39 hR
      refine lv_tableIn (off := 251) (tgt := 502) hx hb d_Model_touch_251 (by rw [c39]; decide) (by rw [c39]; decide) (by rw [c39]; decide) (by decide) ?_
      have g := lb_502 T1 z3 z5 z7 hR
      rw [hG] at g
      exact g _ _ hP hD hS _ (lv_sub hl [3, 2, 1, 0] rfl)
    replace hR := if_n c39 hR
    by_cases c40 : p1 = (14 : Int32)
    · replace hR := if_p c40 hR
      refine lv_tableIn (off := 251) (tgt := 502) hx hb d_Model_touch_251 (by rw [c40]; decide) (by rw [c40]; decide) (by rw [c40]; decide) (by decide) ?_
      have g := lb_502 T1 z3 z5 z7 hR
      rw [hG] at g
      exact g _ _ hP hD hS _ (lv_sub hl [3, 2, 1, 0] rfl)
    replace hR := if_n c40 hR
    by_cases c41 : p1 = (15 : Int32)
    · replace hR := if_p c41 hR
      refine lv_tableIn (off := 251) (tgt := 502) hx hb d_Model_touch_251 (by rw [c41]; decide) (by rw [c41]; decide) (by rw [c41]; decide) (by decide) ?_
      have g := lb_502 T1 z3 z5 z7 hR
      rw [hG] at g
      exact g _ _ hP hD hS _ (lv_sub hl [3, 2, 1, 0] rfl)
    replace hR := if_n c41 hR
    by_cases c42 : p1 = (16 : Int32)
    · replace hR := if_p c42 hR
      refine lv_tableIn (off := 251) (tgt := 502) hx hb d_Model_touch_251 (by rw [c42]; decide) (by rw [c42]; decide) (by rw [c42]; decide) (by decide) ?_
      have g := lb_502 T1 z3 z5 z7 hR
      rw [hG] at g
      exact g _ _ hP hD hS _ (lv_sub hl [3, 2, 1, 0] rfl)
    replace hR := if_n c42 hR
    by_cases c43 : p1 = (17 : Int32)
    · replace hR := if_p c43 hR
      refine lv_tableIn (off := 251) (tgt := 502) hx hb d_Model_touch_251 (by rw [c43]; decide) (by rw [c43]; decide) (by rw [c43]; decide) (by decide) ?_
      have g := lb_502 T1 z3 z5 z7 hR
      rw [hG] at g
      exact g _ _ hP hD hS _ (lv_sub hl [3, 2, 1, 0] rfl)
    replace hR := if_n c43 hR
    by_cases c44 : p1 = (18 : Int32)
    · replace hR := if_p c44 hR
      refine lv_tableIn (off := 251) (tgt := 502) hx hb d_Model_touch_251 (by rw [c44]; decide) (by rw [c44]; decide) (by rw [c44]; decide) (by decide) ?_
      have g := lb_502 T1 z3 z5 z7 hR
      rw [hG] at g
      exact g _ _ hP hD hS _ (lv_sub hl [3, 2, 1, 0] rfl)
    replace hR := if_n c44 hR
    by_cases c45 : p1 = (19 : Int32)
    · replace hR := if_p c45 hR
      refine lv_tableIn (off := 251) (tgt := 502) hx hb d_Model_touch_251 (by rw [c45]; decide) (by rw [c45]; decide) (by rw [c45]; decide) (by decide) ?_
      have g := lb_502 T1 z3 z5 z7 hR
      rw [hG] at g
      exact g _ _ hP hD hS _ (lv_sub hl [3, 2, 1, 0] rfl)
    replace hR := if_n c45 hR
    by_cases c46 : p1 = (20 : Int32)
    · replace hR := if_p c46 hR
      refine lv_tableIn (off := 251) (tgt := 502) hx hb d_Model_touch_251 (by rw [c46]; decide) (by rw [c46]; decide) (by rw [c46]; decide) (by decide) ?_
      have g := lb_502 T1 z3 z5 z7 hR
      rw [hG] at g
      exact g _ _ hP hD hS _ (lv_sub hl [3, 2, 1, 0] rfl)
    replace hR := if_n c46 hR
    by_cases c47 : p1 = (21 : Int32)
    · replace hR := if_p c47 hR
      refine lv_tableIn (off := 251) (tgt := 502) hx hb d_Model_touch_251 (by rw [c47]; decide) (by rw [c47]; decide) (by rw [c47]; decide) (by decide) ?_
      have g := lb_502 T1 z3 z5 z7 hR
      rw [hG] at g
      exact g _ _ hP hD hS _ (lv_sub hl [3, 2, 1, 0] rfl)
    replace hR := if_n c47 hR
    by_cases c48 : p1 = (22 : Int32)
    · replace hR := if_p c48 hR
      refine lv_tableIn (off := 251) (tgt := 502) hx hb d_Model_touch_251 (by rw [c48]; decide) (by rw [c48]; decide) (by rw [c48]; decide) (by decide) ?_
      have g := lb_502 T1 z3 z5 z7 hR
      rw [hG] at g
      exact g _ _ hP hD hS _ (lv_sub hl [3, 2, 1, 0] rfl)
    replace hR := if_n c48 hR
    by_cases c49 : p1 = (23 : Int32)
    · replace hR := if_p c49 hR
      refine lv_tableIn (off := 205) (tgt := 456) hx hb d_Model_touch_251 (by rw [c49]; decide) (by rw [c49]; decide) (by rw [c49]; decide) (by decide) ?_
      refine lv_aload_n hx hb d_Model_touch_456 rfl (lv_at hl 3 rfl) ?_
      refine lv_dup hx hb d_Model_touch_457 rfl ?_
      refine rd_Model_799 hx hb hT hown hK hP d_Model_touch_458 ?_
      refine lv_iconst (v := 1) hx hb d_Model_touch_461 (by decide) ?_
      refine lv_isub hx hb d_Model_touch_462 ?_
      refine wr_Model_799 hx hb hT hown hK hP hD hS d_Model_touch_463 (fun T50 eT H locs hP hD hS => ?_)
      replace hR := stK_e eT hR
      clear eT
      refine lv_aload_n hx hb d_Model_touch_466 rfl (lv_at hl 3 rfl) ?_
      refine lv_iload hx hb d_Model_touch_467 (lv_at hl 1 rfl) ?_
      refine lv_iload hx hb d_Model_touch_469 (lv_at hl 0 rfl) ?_
      refine lv_iload_n hx hb d_Model_touch_471 rfl (lv_at hl 6 rfl) ?_
      refine lv_iconst (v := 1) hx hb d_Model_touch_472 (by decide) ?_
      refine lv_icmp_ne (tgt := 480) hx hb d_Model_touch_473 (by decide) (fun c51 => ?_) (fun c51 => ?_)
      · replace hR := if_n c51 hR
        refine lv_iload_n hx hb d_Model_touch_480 rfl (lv_at hl 5 rfl) ?_
        refine lv_aload_n hx hb d_Model_touch_481 rfl (lv_at hl 3 rfl) ?_
        refine rd_Model_799 hx hb hT hown hK hP d_Model_touch_482 ?_
        replace hR := bi_e hR
        obtain ⟨r52, l52, T52, hc52, hR⟩ := hR
        refine gcV_v (rest := []) ⟨hx, hb, hml, hown, hT⟩ (h_Model_put _ _ _ _ _ _ _ _ hc52) (cwV 4 hT (gV ml_Model_903 im_Model_put se_Model_put ini_Model co_Model_put) rfl rfl rfl pd_Model_put ⟨rm_hi, rm_lo (Nat.le_of_ble_eq_true rfl)⟩) hK hP hD hS hA hnw henv (Nat.le_of_ble_eq_true rfl) rfl rfl hl.1 rfl (Nat.le_of_ble_eq_true rfl) d_Model_touch_485 ⟨Nat.le_refl _, Nat.le_refl _⟩ (fun H locs hP hD hS => ?_)
        clear hc52
        refine lv_iload_n hx hb d_Model_touch_488 rfl (lv_at hl 6 rfl) ?_
        refine lv_iconst (v := 1) hx hb d_Model_touch_489 (by decide) ?_
        refine lv_icmp_ne (tgt := 501) hx hb d_Model_touch_490 (by decide) (fun c53 => ?_) (fun c53 => ?_)
        · replace hR := if_n c53 hR
          obtain ⟨-, -, e3⟩ := re_e hR
          subst e3
          exact W.vret hx hb hr (fun t ht hW => ⟨⟨(), rfl, trivial, by rw [ht]; exact hP, va_K.moved hW.alike hK, hD⟩, hS.F ht⟩) hS.2.2 d_Model_touch_501
        · replace hR := if_p c53 hR
          refine lv_aload_n hx hb d_Model_touch_493 rfl (lv_at hl 3 rfl) ?_
          refine rd_Model_285 hx hb hT hown hK hP d_Model_touch_494 ?_
          refine lv_iload hx hb d_Model_touch_497 (lv_at hl 1 rfl) ?_
          refine lv_iload_n hx hb d_Model_touch_499 rfl (lv_at hl 5 rfl) ?_
          replace hR := gd_e hR
          obtain ⟨b54, hR⟩ := hR
          refine saM_90 hx hb hK hP hD hS b54 d_Model_touch_500 (fun T54 eT H locs hP hD hS => ?_)
          replace hR := stK_e eT hR
          clear eT
          obtain ⟨-, -, e3⟩ := re_e hR
          subst e3
          exact W.vret hx hb hr (fun t ht hW => ⟨⟨(), rfl, trivial, by rw [ht]; exact hP, va_K.moved hW.alike hK, hD⟩, hS.F ht⟩) hS.2.2 d_Model_touch_501
      · replace hR := if_p c51 hR
        refine lv_iconst (v := 0) hx hb d_Model_touch_476 (by decide) ?_
        refine lv_goto (tgt := 481) hx hb d_Model_touch_477 (by decide) ?_
        refine lv_aload_n hx hb d_Model_touch_481 rfl (lv_at hl 3 rfl) ?_
        refine rd_Model_799 hx hb hT hown hK hP d_Model_touch_482 ?_
        replace hR := bi_e hR
        obtain ⟨r55, l55, T55, hc55, hR⟩ := hR
        refine gcV_v (rest := []) ⟨hx, hb, hml, hown, hT⟩ (h_Model_put _ _ _ _ _ _ _ _ hc55) (cwV 4 hT (gV ml_Model_903 im_Model_put se_Model_put ini_Model co_Model_put) rfl rfl rfl pd_Model_put ⟨rm_hi, rm_lo (Nat.le_of_ble_eq_true rfl)⟩) hK hP hD hS hA hnw henv (Nat.le_of_ble_eq_true rfl) rfl rfl hl.1 rfl (Nat.le_of_ble_eq_true rfl) d_Model_touch_485 ⟨Nat.le_refl _, Nat.le_refl _⟩ (fun H locs hP hD hS => ?_)
        clear hc55
        refine lv_iload_n hx hb d_Model_touch_488 rfl (lv_at hl 6 rfl) ?_
        refine lv_iconst (v := 1) hx hb d_Model_touch_489 (by decide) ?_
        refine lv_icmp_ne (tgt := 501) hx hb d_Model_touch_490 (by decide) (fun c56 => ?_) (fun c56 => ?_)
        · replace hR := if_n c56 hR
          obtain ⟨-, -, e3⟩ := re_e hR
          subst e3
          exact W.vret hx hb hr (fun t ht hW => ⟨⟨(), rfl, trivial, by rw [ht]; exact hP, va_K.moved hW.alike hK, hD⟩, hS.F ht⟩) hS.2.2 d_Model_touch_501
        · replace hR := if_p c56 hR
          refine lv_aload_n hx hb d_Model_touch_493 rfl (lv_at hl 3 rfl) ?_
          refine rd_Model_285 hx hb hT hown hK hP d_Model_touch_494 ?_
          refine lv_iload hx hb d_Model_touch_497 (lv_at hl 1 rfl) ?_
          refine lv_iload_n hx hb d_Model_touch_499 rfl (lv_at hl 5 rfl) ?_
          replace hR := gd_e hR
          obtain ⟨b57, hR⟩ := hR
          refine saM_90 hx hb hK hP hD hS b57 d_Model_touch_500 (fun T57 eT H locs hP hD hS => ?_)
          replace hR := stK_e eT hR
          clear eT
          obtain ⟨-, -, e3⟩ := re_e hR
          subst e3
          exact W.vret hx hb hr (fun t ht hW => ⟨⟨(), rfl, trivial, by rw [ht]; exact hP, va_K.moved hW.alike hK, hD⟩, hS.F ht⟩) hS.2.2 d_Model_touch_501
    replace hR := if_n c49 hR
    have h358 : (p1 : Int32).toInt < 6 ∨ 23 < (p1 : Int32).toInt := by
      simp only [i_eq, Int32.reduceToInt] at c16 c27 c29 c30 c31 c33 c37 c39 c40 c41 c42 c43 c44 c45 c46 c47 c48 c49; omega
    refine lv_tableOut (tgt := 502) hx hb d_Model_touch_251 h358 (by decide) ?_
    have g := lb_502 T1 z3 z5 z7 hR
    rw [hG] at g
    exact g _ _ hP hD hS _ (lv_sub hl [3, 2, 1, 0] rfl)
  · replace hR := if_p c15 hR
    refine lv_aload_n hx hb d_Model_touch_244 rfl (lv_at hl 3 rfl) ?_
    refine lv_iconst (v := 1) hx hb d_Model_touch_245 (by decide) ?_
    replace hR := bi_e hR
    obtain ⟨r59, l59, T59, hc59, hR⟩ := hR
    refine gcV_v (rest := []) ⟨hx, hb, hml, hown, hT⟩ (h_Model_raise _ _ _ _ _ hc59) (cwV 1 hT (gV ml_Model_847 im_Model_raise se_Model_raise ini_Model co_Model_raise) rfl rfl rfl pd_Model_raise ⟨rm_hi, rm_lo (Nat.le_of_ble_eq_true rfl)⟩) hK hP hD hS hA hnw henv (Nat.le_of_ble_eq_true rfl) rfl rfl hl.1 rfl (Nat.le_of_ble_eq_true rfl) d_Model_touch_246 ⟨Nat.le_refl _, Nat.le_refl _⟩ (fun H locs hP hD hS => ?_)
    clear hc59
    obtain ⟨-, -, e3⟩ := re_e hR
    subst e3
    exact W.vret hx hb hr (fun t ht hW => ⟨⟨(), rfl, trivial, by rw [ht]; exact hP, va_K.moved hW.alike hK, hD⟩, hS.F ht⟩) hS.2.2 d_Model_touch_249
set_option maxHeartbeats 4000000 in
set_option maxRecDepth 100000 in
theorem sp_Model_build (l : Launch) (dC : Nat → ClassId) (dI : Nat → Nat → Nat) (ea ev ad : Nat → Nat) (km : Nat → ClassId) (F : gF) (nf d : Nat) (h_Model_stopAll : mt_Model_stopAll l dC dI ea ev ad km F d) (h_Model_program_ : mt_Model_program_ l dC dI ea ev ad km F d) (h_Model_bad : mt_Model_bad l dC dI ea ev ad km F d) (h_Model_checkHeads : mt_Model_checkHeads l dC dI ea ev ad km F d) (h_Model_checkFun : mt_Model_checkFun l dC dI ea ev ad km F d) (h_Model_layOut : mt_Model_layOut l dC dI ea ev ad km F d) (T0 : gSt) (r0 : Int32) (rl0 : Int64) (T9 : gSt) (hR : rb_Model_build F nf T0 = some (r0, rl0, T9)) : GMi l dC dI LM ad km ea ev y_Model_build w_Model_build (rmD (d + 1)) [.ref (ad 0)] T0 r0 T9 := by
  intro sz
  refine Met.ofW (cc := b_Model_build) (maxL := 2) (ret := (some .int)) (by decide) rfl ?_
  intro p e s m args below meth c s₁ B hml hv
  obtain ⟨rfl, hsz, hP, hK, hD0, hnw, henv⟩ := hv
  have hx := B.exec
  have hb := B.bytes
  have hr := B.returns
  have hT : ∀ w ∈ lw_good, w.before _ s = true := fun w h => atoms_spec (ws := w_Model_build) B.pre w (List.mem_cons_of_mem _ h)
  have hown : s.vm.findClass R_Model = some m.cls := findClass_of_methodNamed B.named
  subst hsz
  have hD := hD0.self (sz := s.heap.size)
  clear hD0
  generalize hAe : va_A (gW LM ad km T0) s.heap.size = A at hD henv ⊢
  have hA : ∀ q : Nat, s.heap.size ≤ q → A q := fun q h => by rw [← hAe]; exact Or.inr h
  have hS : va_S A s.heap s.heap [] := va_S.rf
  have hl := lv_entry ([.ref (ad 0)]) (n := 2) (Nat.le_of_ble_eq_true rfl)
  rw [lg_entry_eq]
  generalize (lg_sl ([.ref (ad 0)]) ++ List.replicate (2 - (lg_sl ([.ref (ad 0)])).length) Slot.unset).toArray = ls at hl ⊢
  have hl : lv_has ls 2 [(0, .ref (ad 0))] := hl
  obtain ⟨G, hG⟩ : ∃ G : Nat → List (Nat × Value) → List Value → gSt → Prop, G = (fun pc lv stk T => ∀ (H : Heap) (locs : List Loc), va_P (dC, dI) cls_all (gW LM ad km T) H → va_D A (gW LM ad km T) → va_S A s.heap H locs → ∀ (ls : Array Slot), lv_has ls 2 lv → W p l e (headSpec w_Model_build (rmD (d + 1))).room s m ([.ref (ad 0)] : List Value).toArray below meth c H locs 0 0 (MQ below (va_Qi (fun (z : Int32) (_ : Unit) => z = r0) (fun _ t => gPost dC dI LM ad km T9 A t) A) ([.ref (ad 0)] : List Value).toArray s 0 0 A) (F0 m pc ls stk)) := ⟨_, rfl⟩
  have lb_107 : ∀ (T : gSt), rj_Model_build_107 F nf T = some (r0, rl0, T9) → G 107 [(0, .ref (ad 0))] [] T := by
    intro T hR; unfold rj_Model_build_107 at hR; rw [hG]; intro H locs hP hD hS ls hl
    refine lv_aload_n hx hb d_Model_build_107 rfl (lv_at hl 0 rfl) ?_
    refine lv_iconst (v := 0) hx hb d_Model_build_108 (by decide) ?_
    refine wr_Model_313 hx hb hT hown hK hP hD hS d_Model_build_109 (fun T24 eT H locs hP hD hS => ?_)
    replace hR := stK_e eT hR
    clear eT
    refine lv_aload_n hx hb d_Model_build_112 rfl (lv_at hl 0 rfl) ?_
    replace hR := bi_e hR
    obtain ⟨r25, l25, T25, hc25, hR⟩ := hR
    refine gcV_i (rest := []) ⟨hx, hb, hml, hown, hT⟩ (h_Model_bad _ _ _ _ hc25) (cwV 0 hT (gV ml_Model_385 im_Model_bad se_Model_bad ini_Model co_Model_bad) rfl rfl rfl pd_Model_bad ⟨rm_hi, rm_lo (Nat.le_of_ble_eq_true rfl)⟩) hK hP hD hS hA hnw henv (Nat.le_of_ble_eq_true rfl) rfl rfl hl.1 rfl (Nat.le_of_ble_eq_true rfl) d_Model_build_113 ⟨Nat.le_refl _, Nat.le_refl _⟩ (fun H locs hP hD hS => ?_)
    clear hc25
    refine lv_if_eq (tgt := 121) hx hb d_Model_build_116 (by decide) (fun c26 => ?_) (fun c26 => ?_)
    · replace hR := if_p c26 hR
      refine lv_aload_n hx hb d_Model_build_121 rfl (lv_at hl 0 rfl) ?_
      replace hR := bi_e hR
      obtain ⟨r27, l27, T27, hc27, hR⟩ := hR
      refine gcV_v (rest := []) ⟨hx, hb, hml, hown, hT⟩ (h_Model_layOut _ _ _ _ hc27) (cwV 0 hT (gV ml_Model_927 im_Model_layOut se_Model_layOut ini_Model co_Model_layOut) rfl rfl rfl pd_Model_layOut ⟨rm_hi, rm_lo (Nat.le_of_ble_eq_true rfl)⟩) hK hP hD hS hA hnw henv (Nat.le_of_ble_eq_true rfl) rfl rfl hl.1 rfl (Nat.le_of_ble_eq_true rfl) d_Model_build_122 ⟨Nat.le_refl _, Nat.le_refl _⟩ (fun H locs hP hD hS => ?_)
      clear hc27
      refine lv_aload_n hx hb d_Model_build_125 rfl (lv_at hl 0 rfl) ?_
      refine lv_iconst (v := 1) hx hb d_Model_build_126 (by decide) ?_
      refine wr_Model_915 hx hb hT hown hK hP hD hS (by decide) d_Model_build_127 (fun T28 eT H locs hP hD hS => ?_)
      replace hR := stK_e eT hR
      clear eT
      refine lv_aload_n hx hb d_Model_build_130 rfl (lv_at hl 0 rfl) ?_
      refine rd_Model_412 hx hb hT hown hK hP d_Model_build_131 ?_
      obtain ⟨e1, -, e3⟩ := re_e hR
      subst e1; subst e3
      exact W.iret (v := T28.1 11 0) hx hb hr (fun t ht hW => ⟨⟨T28.1 11 0, (), rfl, rfl, by rw [ht]; exact hP, va_K.moved hW.alike hK, hD⟩, hS.F ht⟩) hS.2.2 d_Model_build_134
    · replace hR := if_n c26 hR
      refine lv_iconst (v := (-1)) hx hb d_Model_build_119 (by decide) ?_
      obtain ⟨e1, -, e3⟩ := re_e hR
      subst e1; subst e3
      exact W.iret (v := (-1 : Int32)) hx hb hr (fun t ht hW => ⟨⟨(-1 : Int32), (), rfl, rfl, by rw [ht]; exact hP, va_K.moved hW.alike hK, hD⟩, hS.F ht⟩) hS.2.2 d_Model_build_120
  have lb_71 : ∀ (n : Nat) (T : gSt) (x1 : Int32), rl_Model_build_71 F nf n T x1 = some (r0, rl0, T9) → G 71 [(0, .ref (ad 0)), (1, .int x1)] [] T := by
    intro n
    induction n with
    | zero => intro T x1 hR; rw [rl_Model_build_71] at hR; cases hR
    | succ n ih =>
      intro T x1 hR; rw [rl_Model_build_71] at hR; rw [hG]; intro H locs hP hD hS ls hl
      refine lv_iload_n hx hb d_Model_build_71 rfl (lv_at hl 1 rfl) ?_
      refine lv_aload_n hx hb d_Model_build_72 rfl (lv_at hl 0 rfl) ?_
      refine rd_Model_412 hx hb hT hown hK hP d_Model_build_73 ?_
      refine lv_icmp_ge (tgt := 107) hx hb d_Model_build_76 (by decide) (fun c16 => ?_) (fun c16 => ?_)
      · replace hR := if_p c16 hR
        have g := lb_107 T hR
        rw [hG] at g
        exact g _ _ hP hD hS _ (lv_sub hl [0] rfl)
      · replace hR := if_n c16 hR
        refine lv_aload_n hx hb d_Model_build_79 rfl (lv_at hl 0 rfl) ?_
        replace hR := bi_e hR
        obtain ⟨r17, l17, T17, hc17, hR⟩ := hR
        refine gcV_i (rest := []) ⟨hx, hb, hml, hown, hT⟩ (h_Model_bad _ _ _ _ hc17) (cwV 0 hT (gV ml_Model_385 im_Model_bad se_Model_bad ini_Model co_Model_bad) rfl rfl rfl pd_Model_bad ⟨rm_hi, rm_lo (Nat.le_of_ble_eq_true rfl)⟩) hK hP hD hS hA hnw henv (Nat.le_of_ble_eq_true rfl) rfl rfl hl.1 rfl (Nat.le_of_ble_eq_true rfl) d_Model_build_80 ⟨Nat.le_refl _, Nat.le_refl _⟩ (fun H locs hP hD hS => ?_)
        clear hc17
        refine lv_if_ne (tgt := 107) hx hb d_Model_build_83 (by decide) (fun c18 => ?_) (fun c18 => ?_)
        · replace hR := if_n c18 hR
          have g := lb_107 T17 hR
          rw [hG] at g
          exact g _ _ hP hD hS _ (lv_sub hl [0] rfl)
        · replace hR := if_p c18 hR
          refine lv_aload_n hx hb d_Model_build_86 rfl (lv_at hl 0 rfl) ?_
          refine rd_Model_17 hx hb hT hown hK hP d_Model_build_87 ?_
          refine lv_iload_n hx hb d_Model_build_90 rfl (lv_at hl 1 rfl) ?_
          replace hR := gd_e hR
          obtain ⟨b19, hR⟩ := hR
          refine laM_1 hx hb hK hP b19 d_Model_build_91 ?_
          refine lv_iconst (v := 2) hx hb d_Model_build_92 (by decide) ?_
          refine lv_icmp_ne (tgt := 101) hx hb d_Model_build_93 (by decide) (fun c20 => ?_) (fun c20 => ?_)
          · replace hR := if_n c20 hR
            obtain ⟨z21, e21⟩ : ∃ y : Int32, y = x1 + (1 : Int32) := ⟨_, rfl⟩
            replace hR := vK_e e21 hR
            refine lv_iinc (v := z21) (lv' := [(1, .int z21), (0, .ref (ad 0))]) hx hb d_Model_build_101 hl (k := 1) rfl (by rw [e21]; rfl) (by decide) rfl (fun ls hl => ?_)
            refine lv_goto (tgt := 71) hx hb d_Model_build_104 (by decide) ?_
            have g := ih T17 z21 hR
            rw [hG] at g
            exact g _ _ hP hD hS _ (lv_sub hl [1, 0] rfl)
          · replace hR := if_p c20 hR
            refine lv_aload_n hx hb d_Model_build_96 rfl (lv_at hl 0 rfl) ?_
            refine lv_iload_n hx hb d_Model_build_97 rfl (lv_at hl 1 rfl) ?_
            replace hR := bi_e hR
            obtain ⟨r22, l22, T22, hc22, hR⟩ := hR
            refine gcV_v (rest := []) ⟨hx, hb, hml, hown, hT⟩ (h_Model_checkFun _ _ _ _ _ hc22) (cwV 1 hT (gV ml_Model_924 im_Model_checkFun se_Model_checkFun ini_Model co_Model_checkFun) rfl rfl rfl pd_Model_checkFun ⟨rm_hi, rm_lo (Nat.le_of_ble_eq_true rfl)⟩) hK hP hD hS hA hnw henv (Nat.le_of_ble_eq_true rfl) rfl rfl hl.1 rfl (Nat.le_of_ble_eq_true rfl) d_Model_build_98 ⟨Nat.le_refl _, Nat.le_refl _⟩ (fun H locs hP hD hS => ?_)
            clear hc22
            obtain ⟨z23, e23⟩ : ∃ y : Int32, y = x1 + (1 : Int32) := ⟨_, rfl⟩
            replace hR := vK_e e23 hR
            refine lv_iinc (v := z23) (lv' := [(1, .int z23), (0, .ref (ad 0))]) hx hb d_Model_build_101 hl (k := 1) rfl (by rw [e23]; rfl) (by decide) rfl (fun ls hl => ?_)
            refine lv_goto (tgt := 71) hx hb d_Model_build_104 (by decide) ?_
            have g := ih T22 z23 hR
            rw [hG] at g
            exact g _ _ hP hD hS _ (lv_sub hl [1, 0] rfl)
  unfold rb_Model_build at hR
  refine lv_aload_n hx hb d_Model_build_0 rfl (lv_at hl 0 rfl) ?_
  replace hR := bi_e hR
  obtain ⟨r1, l1, T1, hc1, hR⟩ := hR
  refine gcV_v (rest := []) ⟨hx, hb, hml, hown, hT⟩ (h_Model_stopAll _ _ _ _ hc1) (cwV 0 hT (gV ml_Model_909 im_Model_stopAll se_Model_stopAll ini_Model co_Model_stopAll) rfl rfl rfl pd_Model_stopAll ⟨rm_hi, rm_lo (Nat.le_of_ble_eq_true rfl)⟩) hK hP hD hS hA hnw henv (Nat.le_of_ble_eq_true rfl) rfl rfl hl.1 rfl (Nat.le_of_ble_eq_true rfl) d_Model_build_1 ⟨Nat.le_refl _, Nat.le_refl _⟩ (fun H locs hP hD hS => ?_)
  clear hc1
  refine lv_aload_n hx hb d_Model_build_4 rfl (lv_at hl 0 rfl) ?_
  refine lv_iconst (v := 1) hx hb d_Model_build_5 (by decide) ?_
  refine wr_Model_912 hx hb hT hown hK hP hD hS (by decide) d_Model_build_6 (fun T2 eT H locs hP hD hS => ?_)
  replace hR := stK_e eT hR
  clear eT
  refine lv_aload_n hx hb d_Model_build_9 rfl (lv_at hl 0 rfl) ?_
  refine lv_iconst (v := 0) hx hb d_Model_build_10 (by decide) ?_
  refine wr_Model_378 hx hb hT hown hK hP hD hS d_Model_build_11 (fun T3 eT H locs hP hD hS => ?_)
  replace hR := stK_e eT hR
  clear eT
  refine lv_aload_n hx hb d_Model_build_14 rfl (lv_at hl 0 rfl) ?_
  refine lv_iconst (v := (-1)) hx hb d_Model_build_15 (by decide) ?_
  refine wr_Model_13 hx hb hT hown hK hP hD hS d_Model_build_16 (fun T4 eT H locs hP hD hS => ?_)
  replace hR := stK_e eT hR
  clear eT
  refine lv_aload_n hx hb d_Model_build_19 rfl (lv_at hl 0 rfl) ?_
  refine lv_iconst (v := 0) hx hb d_Model_build_20 (by decide) ?_
  refine wr_Model_915 hx hb hT hown hK hP hD hS (by decide) d_Model_build_21 (fun T5 eT H locs hP hD hS => ?_)
  replace hR := stK_e eT hR
  clear eT
  refine lv_aload_n hx hb d_Model_build_24 rfl (lv_at hl 0 rfl) ?_
  refine lv_iconst (v := 0) hx hb d_Model_build_25 (by decide) ?_
  refine wr_Model_741 hx hb hT hown hK hP hD hS d_Model_build_26 (fun T6 eT H locs hP hD hS => ?_)
  replace hR := stK_e eT hR
  clear eT
  refine lv_aload_n hx hb d_Model_build_29 rfl (lv_at hl 0 rfl) ?_
  refine lv_iconst (v := 0) hx hb d_Model_build_30 (by decide) ?_
  refine wr_Model_759 hx hb hT hown hK hP hD hS d_Model_build_31 (fun T7 eT H locs hP hD hS => ?_)
  replace hR := stK_e eT hR
  clear eT
  refine lv_aload_n hx hb d_Model_build_34 rfl (lv_at hl 0 rfl) ?_
  refine lv_iconst (v := 0) hx hb d_Model_build_35 (by decide) ?_
  refine wr_Model_698 hx hb hT hown hK hP hD hS d_Model_build_36 (fun T8 eT H locs hP hD hS => ?_)
  replace hR := stK_e eT hR
  clear eT
  refine lv_aload_n hx hb d_Model_build_39 rfl (lv_at hl 0 rfl) ?_
  refine lv_iconst (v := 0) hx hb d_Model_build_40 (by decide) ?_
  refine wr_Model_765 hx hb hT hown hK hP hD hS d_Model_build_41 (fun T9 eT H locs hP hD hS => ?_)
  replace hR := stK_e eT hR
  clear eT
  refine lv_aload_n hx hb d_Model_build_44 rfl (lv_at hl 0 rfl) ?_
  refine lv_iconst (v := 0) hx hb d_Model_build_45 (by decide) ?_
  refine wr_Model_685 hx hb hT hown hK hP hD hS d_Model_build_46 (fun T10 eT H locs hP hD hS => ?_)
  replace hR := stK_e eT hR
  clear eT
  refine lv_aload_n hx hb d_Model_build_49 rfl (lv_at hl 0 rfl) ?_
  refine lv_iconst (v := 0) hx hb d_Model_build_50 (by decide) ?_
  refine wr_Model_717 hx hb hT hown hK hP hD hS d_Model_build_51 (fun T11 eT H locs hP hD hS => ?_)
  replace hR := stK_e eT hR
  clear eT
  refine lv_aload_n hx hb d_Model_build_54 rfl (lv_at hl 0 rfl) ?_
  replace hR := bi_e hR
  obtain ⟨r12, l12, T12, hc12, hR⟩ := hR
  refine gcV_v (rest := []) ⟨hx, hb, hml, hown, hT⟩ (h_Model_program_ _ _ _ _ hc12) (cwV 0 hT (gV ml_Model_918 im_Model_program_ se_Model_program_ ini_Model co_Model_program_) rfl rfl rfl pd_Model_program_ ⟨rm_hi, rm_lo (Nat.le_of_ble_eq_true rfl)⟩) hK hP hD hS hA hnw henv (Nat.le_of_ble_eq_true rfl) rfl rfl hl.1 rfl (Nat.le_of_ble_eq_true rfl) d_Model_build_55 ⟨Nat.le_refl _, Nat.le_refl _⟩ (fun H locs hP hD hS => ?_)
  clear hc12
  refine lv_aload_n hx hb d_Model_build_58 rfl (lv_at hl 0 rfl) ?_
  replace hR := bi_e hR
  obtain ⟨r13, l13, T13, hc13, hR⟩ := hR
  refine gcV_i (rest := []) ⟨hx, hb, hml, hown, hT⟩ (h_Model_bad _ _ _ _ hc13) (cwV 0 hT (gV ml_Model_385 im_Model_bad se_Model_bad ini_Model co_Model_bad) rfl rfl rfl pd_Model_bad ⟨rm_hi, rm_lo (Nat.le_of_ble_eq_true rfl)⟩) hK hP hD hS hA hnw henv (Nat.le_of_ble_eq_true rfl) rfl rfl hl.1 rfl (Nat.le_of_ble_eq_true rfl) d_Model_build_59 ⟨Nat.le_refl _, Nat.le_refl _⟩ (fun H locs hP hD hS => ?_)
  clear hc13
  refine lv_if_ne (tgt := 69) hx hb d_Model_build_62 (by decide) (fun c14 => ?_) (fun c14 => ?_)
  · replace hR := if_n c14 hR
    refine lv_iconst (v := 0) hx hb d_Model_build_69 (by decide) ?_
    refine lv_istore_n (lv' := [(1, .int (0 : Int32)), (0, .ref (ad 0))]) hx hb d_Model_build_70 rfl hl (by decide) rfl (fun ls hl => ?_)
    have g := lb_71 nf T13 (0 : Int32) hR
    rw [hG] at g
    exact g _ _ hP hD hS _ (lv_sub hl [1, 0] rfl)
  · replace hR := if_p c14 hR
    refine lv_aload_n hx hb d_Model_build_65 rfl (lv_at hl 0 rfl) ?_
    replace hR := bi_e hR
    obtain ⟨r15, l15, T15, hc15, hR⟩ := hR
    refine gcV_v (rest := []) ⟨hx, hb, hml, hown, hT⟩ (h_Model_checkHeads _ _ _ _ hc15) (cwV 0 hT (gV ml_Model_921 im_Model_checkHeads se_Model_checkHeads ini_Model co_Model_checkHeads) rfl rfl rfl pd_Model_checkHeads ⟨rm_hi, rm_lo (Nat.le_of_ble_eq_true rfl)⟩) hK hP hD hS hA hnw henv (Nat.le_of_ble_eq_true rfl) rfl rfl hl.1 rfl (Nat.le_of_ble_eq_true rfl) d_Model_build_66 ⟨Nat.le_refl _, Nat.le_refl _⟩ (fun H locs hP hD hS => ?_)
    clear hc15
    refine lv_iconst (v := 0) hx hb d_Model_build_69 (by decide) ?_
    refine lv_istore_n (lv' := [(1, .int (0 : Int32)), (0, .ref (ad 0))]) hx hb d_Model_build_70 rfl hl (by decide) rfl (fun ls hl => ?_)
    have g := lb_71 nf T15 (0 : Int32) hR
    rw [hG] at g
    exact g _ _ hP hD hS _ (lv_sub hl [1, 0] rfl)
set_option maxHeartbeats 4000000 in
set_option maxRecDepth 100000 in
theorem sp_Model_fault (l : Launch) (dC : Nat → ClassId) (dI : Nat → Nat → Nat) (ea ev ad : Nat → Nat) (km : Nat → ClassId) (F : gF) (nf d : Nat) (T0 : gSt) (p1 : Int32) (r0 : Int32) (rl0 : Int64) (T9 : gSt) (hR : rb_Model_fault F nf T0 p1 = some (r0, rl0, T9)) : GMi l dC dI LM ad km ea ev y_Model_fault w_Model_fault (rmD (d + 1)) [.ref (ad 0), .int p1] T0 r0 T9 := by
  intro sz
  refine Met.ofW (cc := b_Model_fault) (maxL := 2) (ret := (some .int)) (by decide) rfl ?_
  intro p e s m args below meth c s₁ B hml hv
  obtain ⟨rfl, hsz, hP, hK, hD0, hnw, henv⟩ := hv
  have hx := B.exec
  have hb := B.bytes
  have hr := B.returns
  have hT : ∀ w ∈ lw_good, w.before _ s = true := fun w h => atoms_spec (ws := w_Model_fault) B.pre w (List.mem_cons_of_mem _ h)
  have hown : s.vm.findClass R_Model = some m.cls := findClass_of_methodNamed B.named
  subst hsz
  have hD := hD0.self (sz := s.heap.size)
  clear hD0
  generalize hAe : va_A (gW LM ad km T0) s.heap.size = A at hD henv ⊢
  have hA : ∀ q : Nat, s.heap.size ≤ q → A q := fun q h => by rw [← hAe]; exact Or.inr h
  have hS : va_S A s.heap s.heap [] := va_S.rf
  have hl := lv_entry ([.ref (ad 0), .int p1]) (n := 2) (Nat.le_of_ble_eq_true rfl)
  rw [lg_entry_eq]
  generalize (lg_sl ([.ref (ad 0), .int p1]) ++ List.replicate (2 - (lg_sl ([.ref (ad 0), .int p1])).length) Slot.unset).toArray = ls at hl ⊢
  have hl : lv_has ls 2 [(0, .ref (ad 0)), (1, .int p1)] := hl
  unfold rb_Model_fault at hR
  refine lv_aload_n hx hb d_Model_fault_0 rfl (lv_at hl 0 rfl) ?_
  refine rd_Model_912 hx hb hT hown hK hP d_Model_fault_1 ?_
  refine lv_if_ne (tgt := 9) hx hb d_Model_fault_4 (by decide) (fun c1 => ?_) (fun c1 => ?_)
  · replace hR := if_n c1 hR
    refine lv_iload_n hx hb d_Model_fault_9 rfl (lv_at hl 1 rfl) ?_
    refine lv_if_ne (tgt := 20) hx hb d_Model_fault_10 (by decide) (fun c2 => ?_) (fun c2 => ?_)
    · replace hR := if_n c2 hR
      refine lv_iload_n hx hb d_Model_fault_20 rfl (lv_at hl 1 rfl) ?_
      refine lv_iconst (v := 1) hx hb d_Model_fault_21 (by decide) ?_
      refine lv_icmp_ne (tgt := 32) hx hb d_Model_fault_22 (by decide) (fun c3 => ?_) (fun c3 => ?_)
      · replace hR := if_n c3 hR
        refine lv_iconst (v := (-1)) hx hb d_Model_fault_32 (by decide) ?_
        obtain ⟨e1, -, e3⟩ := re_e hR
        subst e1; subst e3
        exact W.iret (v := (-1 : Int32)) hx hb hr (fun t ht hW => ⟨⟨(-1 : Int32), (), rfl, rfl, by rw [ht]; exact hP, va_K.moved hW.alike hK, hD⟩, hS.F ht⟩) hS.2.2 d_Model_fault_33
      · replace hR := if_p c3 hR
        refine lv_aload_n hx hb d_Model_fault_25 rfl (lv_at hl 0 rfl) ?_
        refine rd_Model_13 hx hb hT hown hK hP d_Model_fault_26 ?_
        refine lv_goto (tgt := 33) hx hb d_Model_fault_29 (by decide) ?_
        obtain ⟨e1, -, e3⟩ := re_e hR
        subst e1; subst e3
        exact W.iret (v := T0.1 8 0) hx hb hr (fun t ht hW => ⟨⟨T0.1 8 0, (), rfl, rfl, by rw [ht]; exact hP, va_K.moved hW.alike hK, hD⟩, hS.F ht⟩) hS.2.2 d_Model_fault_33
    · replace hR := if_p c2 hR
      refine lv_aload_n hx hb d_Model_fault_13 rfl (lv_at hl 0 rfl) ?_
      refine rd_Model_378 hx hb hT hown hK hP d_Model_fault_14 ?_
      refine lv_goto (tgt := 33) hx hb d_Model_fault_17 (by decide) ?_
      obtain ⟨e1, -, e3⟩ := re_e hR
      subst e1; subst e3
      exact W.iret (v := T0.1 7 0) hx hb hr (fun t ht hW => ⟨⟨T0.1 7 0, (), rfl, rfl, by rw [ht]; exact hP, va_K.moved hW.alike hK, hD⟩, hS.F ht⟩) hS.2.2 d_Model_fault_33
  · replace hR := if_p c1 hR
    refine lv_iconst (v := (-1)) hx hb d_Model_fault_7 (by decide) ?_
    obtain ⟨e1, -, e3⟩ := re_e hR
    subst e1; subst e3
    exact W.iret (v := (-1 : Int32)) hx hb hr (fun t ht hW => ⟨⟨(-1 : Int32), (), rfl, rfl, by rw [ht]; exact hP, va_K.moved hW.alike hK, hD⟩, hS.F ht⟩) hS.2.2 d_Model_fault_8
set_option maxHeartbeats 4000000 in
set_option maxRecDepth 100000 in
theorem sp_Model_program_I (l : Launch) (dC : Nat → ClassId) (dI : Nat → Nat → Nat) (ea ev ad : Nat → Nat) (km : Nat → ClassId) (F : gF) (nf d : Nat) (T0 : gSt) (p1 : Int32) (r0 : Int32) (rl0 : Int64) (T9 : gSt) (hR : rb_Model_program_I F nf T0 p1 = some (r0, rl0, T9)) : GMi l dC dI LM ad km ea ev y_Model_program_I w_Model_program_I (rmD (d + 1)) [.ref (ad 0), .int p1] T0 r0 T9 := by
  intro sz
  refine Met.ofW (cc := b_Model_program_I) (maxL := 4) (ret := (some .int)) (by decide) rfl ?_
  intro p e s m args below meth c s₁ B hml hv
  obtain ⟨rfl, hsz, hP, hK, hD0, hnw, henv⟩ := hv
  have hx := B.exec
  have hb := B.bytes
  have hr := B.returns
  have hT : ∀ w ∈ lw_good, w.before _ s = true := fun w h => atoms_spec (ws := w_Model_program_I) B.pre w (List.mem_cons_of_mem _ h)
  have hown : s.vm.findClass R_Model = some m.cls := findClass_of_methodNamed B.named
  subst hsz
  have hD := hD0.self (sz := s.heap.size)
  clear hD0
  generalize hAe : va_A (gW LM ad km T0) s.heap.size = A at hD henv ⊢
  have hA : ∀ q : Nat, s.heap.size ≤ q → A q := fun q h => by rw [← hAe]; exact Or.inr h
  have hS : va_S A s.heap s.heap [] := va_S.rf
  have hl := lv_entry ([.ref (ad 0), .int p1]) (n := 4) (Nat.le_of_ble_eq_true rfl)
  rw [lg_entry_eq]
  generalize (lg_sl ([.ref (ad 0), .int p1]) ++ List.replicate (4 - (lg_sl ([.ref (ad 0), .int p1])).length) Slot.unset).toArray = ls at hl ⊢
  have hl : lv_has ls 4 [(0, .ref (ad 0)), (1, .int p1)] := hl
  obtain ⟨G, hG⟩ : ∃ G : Nat → List (Nat × Value) → List Value → gSt → Prop, G = (fun pc lv stk T => ∀ (H : Heap) (locs : List Loc), va_P (dC, dI) cls_all (gW LM ad km T) H → va_D A (gW LM ad km T) → va_S A s.heap H locs → ∀ (ls : Array Slot), lv_has ls 4 lv → W p l e (headSpec w_Model_program_I (rmD (d + 1))).room s m ([.ref (ad 0), .int p1] : List Value).toArray below meth c H locs 0 0 (MQ below (va_Qi (fun (z : Int32) (_ : Unit) => z = r0) (fun _ t => gPost dC dI LM ad km T9 A t) A) ([.ref (ad 0), .int p1] : List Value).toArray s 0 0 A) (F0 m pc ls stk)) := ⟨_, rfl⟩
  have lb_13 : ∀ (n : Nat) (T : gSt) (x1 : Int32) (x2 : Int32) (x3 : Int32), rl_Model_program_I_13 F nf n T x1 x2 x3 = some (r0, rl0, T9) → G 13 [(0, .ref (ad 0)), (1, .int x1), (2, .int x2), (3, .int x3)] [] T := by
    intro n
    induction n with
    | zero => intro T x1 x2 x3 hR; rw [rl_Model_program_I_13] at hR; cases hR
    | succ n ih =>
      intro T x1 x2 x3 hR; rw [rl_Model_program_I_13] at hR; rw [hG]; intro H locs hP hD hS ls hl
      refine lv_iload_n hx hb d_Model_program_I_13 rfl (lv_at hl 3 rfl) ?_
      refine lv_aload_n hx hb d_Model_program_I_14 rfl (lv_at hl 0 rfl) ?_
      refine rd_Model_412 hx hb hT hown hK hP d_Model_program_I_15 ?_
      refine lv_icmp_ge (tgt := 45) hx hb d_Model_program_I_18 (by decide) (fun c3 => ?_) (fun c3 => ?_)
      · replace hR := if_p c3 hR
        refine lv_iload_n hx hb d_Model_program_I_45 rfl (lv_at hl 1 rfl) ?_
        by_cases c4 : x1 = (0 : Int32)
        · replace hR := if_p c4 hR
          refine lv_tableIn (off := 42) (tgt := 88) hx hb d_Model_program_I_46 (by rw [c4]; decide) (by rw [c4]; decide) (by rw [c4]; decide) (by decide) ?_
          refine lv_aload_n hx hb d_Model_program_I_88 rfl (lv_at hl 0 rfl) ?_
          refine rd_Model_412 hx hb hT hown hK hP d_Model_program_I_89 ?_
          refine lv_iload_n hx hb d_Model_program_I_92 rfl (lv_at hl 2 rfl) ?_
          refine lv_isub hx hb d_Model_program_I_93 ?_
          obtain ⟨e1, -, e3⟩ := re_e hR
          subst e1; subst e3
          exact W.iret (v := (T.1 11 0) - x2) hx hb hr (fun t ht hW => ⟨⟨(T.1 11 0) - x2, (), rfl, rfl, by rw [ht]; exact hP, va_K.moved hW.alike hK, hD⟩, hS.F ht⟩) hS.2.2 d_Model_program_I_94
        replace hR := if_n c4 hR
        by_cases c6 : x1 = (1 : Int32)
        · replace hR := if_p c6 hR
          refine lv_tableIn (off := 49) (tgt := 95) hx hb d_Model_program_I_46 (by rw [c6]; decide) (by rw [c6]; decide) (by rw [c6]; decide) (by decide) ?_
          refine lv_iload_n hx hb d_Model_program_I_95 rfl (lv_at hl 2 rfl) ?_
          obtain ⟨e1, -, e3⟩ := re_e hR
          subst e1; subst e3
          exact W.iret (v := x2) hx hb hr (fun t ht hW => ⟨⟨x2, (), rfl, rfl, by rw [ht]; exact hP, va_K.moved hW.alike hK, hD⟩, hS.F ht⟩) hS.2.2 d_Model_program_I_96
        replace hR := if_n c6 hR
        by_cases c8 : x1 = (2 : Int32)
        · replace hR := if_p c8 hR
          refine lv_tableIn (off := 51) (tgt := 97) hx hb d_Model_program_I_46 (by rw [c8]; decide) (by rw [c8]; decide) (by rw [c8]; decide) (by decide) ?_
          refine lv_aload_n hx hb d_Model_program_I_97 rfl (lv_at hl 0 rfl) ?_
          refine rd_Model_685 hx hb hT hown hK hP d_Model_program_I_98 ?_
          obtain ⟨e1, -, e3⟩ := re_e hR
          subst e1; subst e3
          exact W.iret (v := T.1 92 0) hx hb hr (fun t ht hW => ⟨⟨T.1 92 0, (), rfl, rfl, by rw [ht]; exact hP, va_K.moved hW.alike hK, hD⟩, hS.F ht⟩) hS.2.2 d_Model_program_I_101
        replace hR := if_n c8 hR
        by_cases c10 : x1 = (3 : Int32)
        · replace hR := if_p c10 hR
          refine lv_tableIn (off := 56) (tgt := 102) hx hb d_Model_program_I_46 (by rw [c10]; decide) (by rw [c10]; decide) (by rw [c10]; decide) (by decide) ?_
          refine lv_aload_n hx hb d_Model_program_I_102 rfl (lv_at hl 0 rfl) ?_
          refine rd_Model_741 hx hb hT hown hK hP d_Model_program_I_103 ?_
          obtain ⟨e1, -, e3⟩ := re_e hR
          subst e1; subst e3
          exact W.iret (v := T.1 88 0) hx hb hr (fun t ht hW => ⟨⟨T.1 88 0, (), rfl, rfl, by rw [ht]; exact hP, va_K.moved hW.alike hK, hD⟩, hS.F ht⟩) hS.2.2 d_Model_program_I_106
        replace hR := if_n c10 hR
        by_cases c12 : x1 = (4 : Int32)
        · replace hR := if_p c12 hR
          refine lv_tableIn (off := 61) (tgt := 107) hx hb d_Model_program_I_46 (by rw [c12]; decide) (by rw [c12]; decide) (by rw [c12]; decide) (by decide) ?_
          refine lv_aload_n hx hb d_Model_program_I_107 rfl (lv_at hl 0 rfl) ?_
          refine rd_Model_759 hx hb hT hown hK hP d_Model_program_I_108 ?_
          obtain ⟨e1, -, e3⟩ := re_e hR
          subst e1; subst e3
          exact W.iret (v := T.1 89 0) hx hb hr (fun t ht hW => ⟨⟨T.1 89 0, (), rfl, rfl, by rw [ht]; exact hP, va_K.moved hW.alike hK, hD⟩, hS.F ht⟩) hS.2.2 d_Model_program_I_111
        replace hR := if_n c12 hR
        by_cases c14 : x1 = (5 : Int32)
        · replace hR := if_p c14 hR
          refine lv_tableIn (off := 66) (tgt := 112) hx hb d_Model_program_I_46 (by rw [c14]; decide) (by rw [c14]; decide) (by rw [c14]; decide) (by decide) ?_
          refine lv_aload_n hx hb d_Model_program_I_112 rfl (lv_at hl 0 rfl) ?_
          refine rd_Model_698 hx hb hT hown hK hP d_Model_program_I_113 ?_
          obtain ⟨e1, -, e3⟩ := re_e hR
          subst e1; subst e3
          exact W.iret (v := T.1 90 0) hx hb hr (fun t ht hW => ⟨⟨T.1 90 0, (), rfl, rfl, by rw [ht]; exact hP, va_K.moved hW.alike hK, hD⟩, hS.F ht⟩) hS.2.2 d_Model_program_I_116
        replace hR := if_n c14 hR
        by_cases c16 : x1 = (6 : Int32)
        · replace hR := if_p c16 hR
          refine lv_tableIn (off := 71) (tgt := 117) hx hb d_Model_program_I_46 (by rw [c16]; decide) (by rw [c16]; decide) (by rw [c16]; decide) (by decide) ?_
          refine lv_aload_n hx hb d_Model_program_I_117 rfl (lv_at hl 0 rfl) ?_
          refine rd_Model_765 hx hb hT hown hK hP d_Model_program_I_118 ?_
          obtain ⟨e1, -, e3⟩ := re_e hR
          subst e1; subst e3
          exact W.iret (v := T.1 91 0) hx hb hr (fun t ht hW => ⟨⟨T.1 91 0, (), rfl, rfl, by rw [ht]; exact hP, va_K.moved hW.alike hK, hD⟩, hS.F ht⟩) hS.2.2 d_Model_program_I_121
        replace hR := if_n c16 hR
        have h318 : (x1 : Int32).toInt < 0 ∨ 6 < (x1 : Int32).toInt := by
          simp only [i_eq, Int32.reduceToInt] at c4 c6 c8 c10 c12 c14 c16; omega
        refine lv_tableOut (tgt := 122) hx hb d_Model_program_I_46 h318 (by decide) ?_
        refine lv_iconst (v := (-1)) hx hb d_Model_program_I_122 (by decide) ?_
        obtain ⟨e1, -, e3⟩ := re_e hR
        subst e1; subst e3
        exact W.iret (v := (-1 : Int32)) hx hb hr (fun t ht hW => ⟨⟨(-1 : Int32), (), rfl, rfl, by rw [ht]; exact hP, va_K.moved hW.alike hK, hD⟩, hS.F ht⟩) hS.2.2 d_Model_program_I_123
      · replace hR := if_n c3 hR
        refine lv_iload_n hx hb d_Model_program_I_21 rfl (lv_at hl 2 rfl) ?_
        refine lv_aload_n hx hb d_Model_program_I_22 rfl (lv_at hl 0 rfl) ?_
        refine rd_Model_17 hx hb hT hown hK hP d_Model_program_I_23 ?_
        refine lv_iload_n hx hb d_Model_program_I_26 rfl (lv_at hl 3 rfl) ?_
        replace hR := gd_e hR
        obtain ⟨b20, hR⟩ := hR
        refine laM_1 hx hb hK hP b20 d_Model_program_I_27 ?_
        refine lv_iconst (v := 2) hx hb d_Model_program_I_28 (by decide) ?_
        refine lv_icmp_ne (tgt := 36) hx hb d_Model_program_I_29 (by decide) (fun c21 => ?_) (fun c21 => ?_)
        · replace hR := if_n c21 hR
          refine lv_iconst (v := 0) hx hb d_Model_program_I_36 (by decide) ?_
          refine lv_iadd hx hb d_Model_program_I_37 ?_
          refine lv_topi (fun z22 e22 => ?_)
          replace hR := vK_e e22 hR
          refine lv_istore_n (lv' := [(2, .int z22), (0, .ref (ad 0)), (1, .int x1), (3, .int x3)]) hx hb d_Model_program_I_38 rfl hl (by decide) rfl (fun ls hl => ?_)
          obtain ⟨z23, e23⟩ : ∃ y : Int32, y = x3 + (1 : Int32) := ⟨_, rfl⟩
          replace hR := vK_e e23 hR
          refine lv_iinc (v := z23) (lv' := [(3, .int z23), (2, .int z22), (0, .ref (ad 0)), (1, .int x1)]) hx hb d_Model_program_I_39 hl (k := 3) rfl (by rw [e23]; rfl) (by decide) rfl (fun ls hl => ?_)
          refine lv_goto (tgt := 13) hx hb d_Model_program_I_42 (by decide) ?_
          have g := ih T x1 z22 z23 hR
          rw [hG] at g
          exact g _ _ hP hD hS _ (lv_sub hl [2, 3, 1, 0] rfl)
        · replace hR := if_p c21 hR
          refine lv_iconst (v := 1) hx hb d_Model_program_I_32 (by decide) ?_
          refine lv_goto (tgt := 37) hx hb d_Model_program_I_33 (by decide) ?_
          refine lv_iadd hx hb d_Model_program_I_37 ?_
          refine lv_topi (fun z24 e24 => ?_)
          replace hR := vK_e e24 hR
          refine lv_istore_n (lv' := [(2, .int z24), (0, .ref (ad 0)), (1, .int x1), (3, .int x3)]) hx hb d_Model_program_I_38 rfl hl (by decide) rfl (fun ls hl => ?_)
          obtain ⟨z25, e25⟩ : ∃ y : Int32, y = x3 + (1 : Int32) := ⟨_, rfl⟩
          replace hR := vK_e e25 hR
          refine lv_iinc (v := z25) (lv' := [(3, .int z25), (2, .int z24), (0, .ref (ad 0)), (1, .int x1)]) hx hb d_Model_program_I_39 hl (k := 3) rfl (by rw [e25]; rfl) (by decide) rfl (fun ls hl => ?_)
          refine lv_goto (tgt := 13) hx hb d_Model_program_I_42 (by decide) ?_
          have g := ih T x1 z24 z25 hR
          rw [hG] at g
          exact g _ _ hP hD hS _ (lv_sub hl [2, 3, 1, 0] rfl)
  unfold rb_Model_program_I at hR
  refine lv_aload_n hx hb d_Model_program_I_0 rfl (lv_at hl 0 rfl) ?_
  refine rd_Model_915 hx hb hT hown hK hP d_Model_program_I_1 ?_
  refine lv_if_ne (tgt := 9) hx hb d_Model_program_I_4 (by decide) (fun c1 => ?_) (fun c1 => ?_)
  · replace hR := if_n c1 hR
    refine lv_iconst (v := 0) hx hb d_Model_program_I_9 (by decide) ?_
    refine lv_istore_n (lv' := [(2, .int (0 : Int32)), (0, .ref (ad 0)), (1, .int p1)]) hx hb d_Model_program_I_10 rfl hl (by decide) rfl (fun ls hl => ?_)
    refine lv_iconst (v := 0) hx hb d_Model_program_I_11 (by decide) ?_
    refine lv_istore_n (lv' := [(3, .int (0 : Int32)), (2, .int (0 : Int32)), (0, .ref (ad 0)), (1, .int p1)]) hx hb d_Model_program_I_12 rfl hl (by decide) rfl (fun ls hl => ?_)
    have g := lb_13 nf T0 p1 (0 : Int32) (0 : Int32) hR
    rw [hG] at g
    exact g _ _ hP hD hS _ (lv_sub hl [2, 3, 1, 0] rfl)
  · replace hR := if_p c1 hR
    refine lv_iconst (v := (-1)) hx hb d_Model_program_I_7 (by decide) ?_
    obtain ⟨e1, -, e3⟩ := re_e hR
    subst e1; subst e3
    exact W.iret (v := (-1 : Int32)) hx hb hr (fun t ht hW => ⟨⟨(-1 : Int32), (), rfl, rfl, by rw [ht]; exact hP, va_K.moved hW.alike hK, hD⟩, hS.F ht⟩) hS.2.2 d_Model_program_I_8
set_option maxHeartbeats 4000000 in
set_option maxRecDepth 100000 in
theorem sp_Model_start (l : Launch) (dC : Nat → ClassId) (dI : Nat → Nat → Nat) (ea ev ad : Nat → Nat) (km : Nat → ClassId) (F : gF) (nf d : Nat) (h_Model_stopAll : mt_Model_stopAll l dC dI ea ev ad km F d) (h_Model_begin : mt_Model_begin l dC dI ea ev ad km F d) (h_Model_packed : mt_Model_packed l dC dI ea ev ad km F d) (h_Model_findFun : mt_Model_findFun l dC dI ea ev ad km F d) (h_Model_goOn : mt_Model_goOn l dC dI ea ev ad km F d) (T0 : gSt) (p1 : Int32) (p2 : Int32) (r0 : Int32) (rl0 : Int64) (T9 : gSt) (hR : rb_Model_start F nf T0 p1 p2 = some (r0, rl0, T9)) : GMi l dC dI LM ad km ea ev y_Model_start w_Model_start (rmD (d + 1)) [.ref (ad 0), .int p1, .int p2] T0 r0 T9 := by
  intro sz
  refine Met.ofW (cc := b_Model_start) (maxL := 4) (ret := (some .boolean)) (by decide) rfl ?_
  intro p e s m args below meth c s₁ B hml hv
  obtain ⟨rfl, hsz, hP, hK, hD0, hnw, henv⟩ := hv
  have hx := B.exec
  have hb := B.bytes
  have hr := B.returns
  have hT : ∀ w ∈ lw_good, w.before _ s = true := fun w h => atoms_spec (ws := w_Model_start) B.pre w (List.mem_cons_of_mem _ h)
  have hown : s.vm.findClass R_Model = some m.cls := findClass_of_methodNamed B.named
  subst hsz
  have hD := hD0.self (sz := s.heap.size)
  clear hD0
  generalize hAe : va_A (gW LM ad km T0) s.heap.size = A at hD henv ⊢
  have hA : ∀ q : Nat, s.heap.size ≤ q → A q := fun q h => by rw [← hAe]; exact Or.inr h
  have hS : va_S A s.heap s.heap [] := va_S.rf
  have hl := lv_entry ([.ref (ad 0), .int p1, .int p2]) (n := 4) (Nat.le_of_ble_eq_true rfl)
  rw [lg_entry_eq]
  generalize (lg_sl ([.ref (ad 0), .int p1, .int p2]) ++ List.replicate (4 - (lg_sl ([.ref (ad 0), .int p1, .int p2])).length) Slot.unset).toArray = ls at hl ⊢
  have hl : lv_has ls 4 [(0, .ref (ad 0)), (1, .int p1), (2, .int p2)] := hl
  obtain ⟨G, hG⟩ : ∃ G : Nat → List (Nat × Value) → List Value → gSt → Prop, G = (fun pc lv stk T => ∀ (H : Heap) (locs : List Loc), va_P (dC, dI) cls_all (gW LM ad km T) H → va_D A (gW LM ad km T) → va_S A s.heap H locs → ∀ (ls : Array Slot), lv_has ls 4 lv → W p l e (headSpec w_Model_start (rmD (d + 1))).room s m ([.ref (ad 0), .int p1, .int p2] : List Value).toArray below meth c H locs 0 0 (MQ below (va_Qi (fun (z : Int32) (_ : Unit) => z = r0) (fun _ t => gPost dC dI LM ad km T9 A t) A) ([.ref (ad 0), .int p1, .int p2] : List Value).toArray s 0 0 A) (F0 m pc ls stk)) := ⟨_, rfl⟩
  have lb_57 : ∀ (n : Nat) (T : gSt) (x3 : Int32), rl_Model_start_57 F nf n T x3 = some (r0, rl0, T9) → G 57 [(0, .ref (ad 0)), (3, .int x3)] [] T := by
    intro n
    induction n with
    | zero => intro T x3 hR; rw [rl_Model_start_57] at hR; cases hR
    | succ n ih =>
      intro T x3 hR; rw [rl_Model_start_57] at hR; rw [hG]; intro H locs hP hD hS ls hl
      refine lv_iload_n hx hb d_Model_start_57 rfl (lv_at hl 1 rfl) ?_
      refine lv_sipush (v := 4096) hx hb d_Model_start_58 (by decide) ?_
      refine lv_icmp_ge (tgt := 99) hx hb d_Model_start_61 (by decide) (fun c16 => ?_) (fun c16 => ?_)
      · replace hR := if_p c16 hR
        refine lv_aload_n hx hb d_Model_start_99 rfl (lv_at hl 0 rfl) ?_
        refine lv_iconst (v := 0) hx hb d_Model_start_100 (by decide) ?_
        refine wr_Model_841 hx hb hT hown hK hP hD hS d_Model_start_101 (fun T17 eT H locs hP hD hS => ?_)
        replace hR := stK_e eT hR
        clear eT
        refine lv_aload_n hx hb d_Model_start_104 rfl (lv_at hl 0 rfl) ?_
        refine lv_iconst (v := 0) hx hb d_Model_start_105 (by decide) ?_
        replace hR := bi_e hR
        obtain ⟨r18, l18, T18, hc18, hR⟩ := hR
        refine gcV_v (rest := []) ⟨hx, hb, hml, hown, hT⟩ (h_Model_begin _ _ _ _ _ hc18) (cwV 1 hT (gV ml_Model_881 im_Model_begin se_Model_begin ini_Model co_Model_begin) rfl rfl rfl pd_Model_begin ⟨rm_hi, rm_lo (Nat.le_of_ble_eq_true rfl)⟩) hK hP hD hS hA hnw henv (Nat.le_of_ble_eq_true rfl) rfl rfl hl.1 rfl (Nat.le_of_ble_eq_true rfl) d_Model_start_106 ⟨Nat.le_refl _, Nat.le_refl _⟩ (fun H locs hP hD hS => ?_)
        clear hc18
        refine lv_aload_n hx hb d_Model_start_109 rfl (lv_at hl 0 rfl) ?_
        refine lv_iconst (v := 1) hx hb d_Model_start_110 (by decide) ?_
        refine wr_Model_826 hx hb hT hown hK hP hD hS d_Model_start_111 (fun T19 eT H locs hP hD hS => ?_)
        replace hR := stK_e eT hR
        clear eT
        refine lv_aload_n hx hb d_Model_start_114 rfl (lv_at hl 0 rfl) ?_
        refine lv_iconst (v := 1) hx hb d_Model_start_115 (by decide) ?_
        refine wr_Model_802 hx hb hT hown hK hP hD hS d_Model_start_116 (fun T20 eT H locs hP hD hS => ?_)
        replace hR := stK_e eT hR
        clear eT
        refine lv_aload_n hx hb d_Model_start_119 rfl (lv_at hl 0 rfl) ?_
        refine lv_iconst (v := 1) hx hb d_Model_start_120 (by decide) ?_
        refine wr_Model_808 hx hb hT hown hK hP hD hS d_Model_start_121 (fun T21 eT H locs hP hD hS => ?_)
        replace hR := stK_e eT hR
        clear eT
        refine lv_aload_n hx hb d_Model_start_124 rfl (lv_at hl 0 rfl) ?_
        refine rd_Model_219 hx hb hT hown hK hP d_Model_start_125 ?_
        refine lv_iconst (v := 0) hx hb d_Model_start_128 (by decide) ?_
        refine lv_iconst (v := 0) hx hb d_Model_start_129 (by decide) ?_
        replace hR := gd_e hR
        obtain ⟨b22, hR⟩ := hR
        refine saM_68 hx hb hK hP hD hS b22 d_Model_start_130 (fun T22 eT H locs hP hD hS => ?_)
        replace hR := stK_e eT hR
        clear eT
        refine lv_aload_n hx hb d_Model_start_131 rfl (lv_at hl 0 rfl) ?_
        refine rd_Model_225 hx hb hT hown hK hP d_Model_start_132 ?_
        refine lv_iconst (v := 0) hx hb d_Model_start_135 (by decide) ?_
        refine lv_iconst (v := 1) hx hb d_Model_start_136 (by decide) ?_
        replace hR := gd_e hR
        obtain ⟨b23, hR⟩ := hR
        refine saM_70 hx hb hK hP hD hS b23 d_Model_start_137 (fun T23 eT H locs hP hD hS => ?_)
        replace hR := stK_e eT hR
        clear eT
        refine lv_aload_n hx hb d_Model_start_138 rfl (lv_at hl 0 rfl) ?_
        refine lv_aload_n hx hb d_Model_start_139 rfl (lv_at hl 0 rfl) ?_
        refine rd_Model_87 hx hb hT hown hK hP d_Model_start_140 ?_
        refine lv_aload_n hx hb d_Model_start_143 rfl (lv_at hl 0 rfl) ?_
        refine gldcw (own := R_Model) (index := 622) (q := ea 32) hx hb hown (henv.2.2 32 (by decide)).2 d_Model_start_144 ?_
        replace hR := bi_e hR
        obtain ⟨r24, l24, T24, hc24, hR⟩ := hR
        refine gcS_l (rest := [.ref (ad 0), .ref (ad 25), .ref (ad 0)]) ⟨hx, hb, hml, hown, hT⟩ (h_Model_packed _ 32 _ _ _ (by first | decide | assumption) hc24) (va_cwS 1 hT (gS ml_Model_389 st_Model_packed ini_Model co_Model_packed) rfl rfl rfl pd_Model_packed ⟨rm_hi, rm_lo (Nat.le_of_ble_eq_true rfl)⟩) hK hP hD hS hA hnw henv rfl hl.1 rfl (Nat.le_of_ble_eq_true rfl) d_Model_start_147 ⟨Nat.le_refl _, Nat.le_refl _⟩ (fun H locs hP hD hS => ?_)
        clear hc24
        replace hR := bi_e hR
        obtain ⟨r25, l25, T25, hc25, hR⟩ := hR
        refine gcV_i (rest := [.ref (ad 25), .ref (ad 0)]) ⟨hx, hb, hml, hown, hT⟩ (h_Model_findFun _ _ _ _ _ hc25) (cwV 1 hT (gV ml_Model_606 im_Model_findFun se_Model_findFun ini_Model co_Model_findFun) rfl rfl rfl pd_Model_findFun ⟨rm_hi, rm_lo (Nat.le_of_ble_eq_true rfl)⟩) hK hP hD hS hA hnw henv (Nat.le_of_ble_eq_true rfl) rfl rfl hl.1 rfl (Nat.le_of_ble_eq_true rfl) d_Model_start_150 ⟨Nat.le_refl _, Nat.le_refl _⟩ (fun H locs hP hD hS => ?_)
        clear hc25
        replace hR := gd_e hR
        obtain ⟨b26, hR⟩ := hR
        refine laM_24 hx hb hK hP b26 d_Model_start_153 ?_
        refine wr_Model_863 hx hb hT hown hK hP hD hS d_Model_start_154 (fun T27 eT H locs hP hD hS => ?_)
        replace hR := stK_e eT hR
        clear eT
        refine lv_aload_n hx hb d_Model_start_157 rfl (lv_at hl 0 rfl) ?_
        replace hR := bi_e hR
        obtain ⟨r28, l28, T28, hc28, hR⟩ := hR
        refine gcV_v (rest := []) ⟨hx, hb, hml, hown, hT⟩ (h_Model_goOn _ _ _ _ hc28) (cwV 0 hT (gV ml_Model_930 im_Model_goOn se_Model_goOn ini_Model co_Model_goOn) rfl rfl rfl pd_Model_goOn ⟨rm_hi, rm_lo (Nat.le_of_ble_eq_true rfl)⟩) hK hP hD hS hA hnw henv (Nat.le_of_ble_eq_true rfl) rfl rfl hl.1 rfl (Nat.le_of_ble_eq_true rfl) d_Model_start_158 ⟨Nat.le_refl _, Nat.le_refl _⟩ (fun H locs hP hD hS => ?_)
        clear hc28
        refine lv_iconst (v := 1) hx hb d_Model_start_161 (by decide) ?_
        obtain ⟨e1, -, e3⟩ := re_e hR
        subst e1; subst e3
        exact W.zret (v := (1 : Int32)) hx hb hr (by first | rfl | decide) (fun t ht hW => ⟨⟨(1 : Int32), (), rfl, rfl, by rw [ht]; exact hP, va_K.moved hW.alike hK, hD⟩, hS.F ht⟩) hS.2.2 d_Model_start_162
      · replace hR := if_n c16 hR
        refine lv_aload_n hx hb d_Model_start_64 rfl (lv_at hl 0 rfl) ?_
        refine rd_Model_273 hx hb hT hown hK hP d_Model_start_65 ?_
        refine lv_iload_n hx hb d_Model_start_68 rfl (lv_at hl 1 rfl) ?_
        refine lv_iconst (v := 0) hx hb d_Model_start_69 (by decide) ?_
        replace hR := gd_e hR
        obtain ⟨b30, hR⟩ := hR
        refine saM_86 hx hb hK hP hD hS b30 d_Model_start_70 (fun T30 eT H locs hP hD hS => ?_)
        replace hR := stK_e eT hR
        clear eT
        refine lv_aload_n hx hb d_Model_start_71 rfl (lv_at hl 0 rfl) ?_
        refine rd_Model_304 hx hb hT hown hK hP d_Model_start_72 ?_
        refine lv_iload_n hx hb d_Model_start_75 rfl (lv_at hl 1 rfl) ?_
        refine lv_iload_n hx hb d_Model_start_76 rfl (lv_at hl 1 rfl) ?_
        refine lv_iconst (v := 1) hx hb d_Model_start_77 (by decide) ?_
        refine lv_iadd hx hb d_Model_start_78 ?_
        refine lv_sipush (v := 4096) hx hb d_Model_start_79 (by decide) ?_
        refine lv_icmp_ge (tgt := 91) hx hb d_Model_start_82 (by decide) (fun c31 => ?_) (fun c31 => ?_)
        · replace hR := if_p c31 hR
          refine lv_iconst (v := (-1)) hx hb d_Model_start_91 (by decide) ?_
          replace hR := gd_e hR
          obtain ⟨b32, hR⟩ := hR
          refine saM_96 hx hb hK hP hD hS b32 d_Model_start_92 (fun T32 eT H locs hP hD hS => ?_)
          replace hR := stK_e eT hR
          clear eT
          obtain ⟨z33, e33⟩ : ∃ y : Int32, y = x3 + (1 : Int32) := ⟨_, rfl⟩
          replace hR := vK_e e33 hR
          refine lv_iinc (v := z33) (lv' := [(3, .int z33), (0, .ref (ad 0))]) hx hb d_Model_start_93 hl (k := 1) rfl (by rw [e33]; rfl) (by decide) rfl (fun ls hl => ?_)
          refine lv_goto (tgt := 57) hx hb d_Model_start_96 (by decide) ?_
          have g := ih T32 z33 hR
          rw [hG] at g
          exact g _ _ hP hD hS _ (lv_sub hl [1, 0] rfl)
        · replace hR := if_n c31 hR
          refine lv_iload_n hx hb d_Model_start_85 rfl (lv_at hl 1 rfl) ?_
          refine lv_iconst (v := 1) hx hb d_Model_start_86 (by decide) ?_
          refine lv_iadd hx hb d_Model_start_87 ?_
          refine lv_goto (tgt := 92) hx hb d_Model_start_88 (by decide) ?_
          replace hR := gd_e hR
          obtain ⟨b34, hR⟩ := hR
          refine saM_96 hx hb hK hP hD hS b34 d_Model_start_92 (fun T34 eT H locs hP hD hS => ?_)
          replace hR := stK_e eT hR
          clear eT
          obtain ⟨z35, e35⟩ : ∃ y : Int32, y = x3 + (1 : Int32) := ⟨_, rfl⟩
          replace hR := vK_e e35 hR
          refine lv_iinc (v := z35) (lv' := [(3, .int z35), (0, .ref (ad 0))]) hx hb d_Model_start_93 hl (k := 1) rfl (by rw [e35]; rfl) (by decide) rfl (fun ls hl => ?_)
          refine lv_goto (tgt := 57) hx hb d_Model_start_96 (by decide) ?_
          have g := ih T34 z35 hR
          rw [hG] at g
          exact g _ _ hP hD hS _ (lv_sub hl [1, 0] rfl)
  unfold rb_Model_start at hR
  refine lv_aload_n hx hb d_Model_start_0 rfl (lv_at hl 0 rfl) ?_
  refine rd_Model_915 hx hb hT hown hK hP d_Model_start_1 ?_
  refine lv_if_eq (tgt := 29) hx hb d_Model_start_4 (by decide) (fun c1 => ?_) (fun c1 => ?_)
  · replace hR := if_p c1 hR
    refine lv_iconst (v := 0) hx hb d_Model_start_29 (by decide) ?_
    obtain ⟨e1, -, e3⟩ := re_e hR
    subst e1; subst e3
    exact W.zret (v := (0 : Int32)) hx hb hr (by first | rfl | decide) (fun t ht hW => ⟨⟨(0 : Int32), (), rfl, rfl, by rw [ht]; exact hP, va_K.moved hW.alike hK, hD⟩, hS.F ht⟩) hS.2.2 d_Model_start_30
  · replace hR := if_n c1 hR
    refine lv_iload_n hx hb d_Model_start_7 rfl (lv_at hl 1 rfl) ?_
    refine lv_iconst (v := 1) hx hb d_Model_start_8 (by decide) ?_
    refine lv_icmp_lt (tgt := 29) hx hb d_Model_start_9 (by decide) (fun c3 => ?_) (fun c3 => ?_)
    · replace hR := if_p c3 hR
      refine lv_iconst (v := 0) hx hb d_Model_start_29 (by decide) ?_
      obtain ⟨e1, -, e3⟩ := re_e hR
      subst e1; subst e3
      exact W.zret (v := (0 : Int32)) hx hb hr (by first | rfl | decide) (fun t ht hW => ⟨⟨(0 : Int32), (), rfl, rfl, by rw [ht]; exact hP, va_K.moved hW.alike hK, hD⟩, hS.F ht⟩) hS.2.2 d_Model_start_30
    · replace hR := if_n c3 hR
      refine lv_iload_n hx hb d_Model_start_12 rfl (lv_at hl 1 rfl) ?_
      refine lv_bipush (v := 64) hx hb d_Model_start_13 (by decide) ?_
      refine lv_icmp_gt (tgt := 29) hx hb d_Model_start_15 (by decide) (fun c5 => ?_) (fun c5 => ?_)
      · replace hR := if_p c5 hR
        refine lv_iconst (v := 0) hx hb d_Model_start_29 (by decide) ?_
        obtain ⟨e1, -, e3⟩ := re_e hR
        subst e1; subst e3
        exact W.zret (v := (0 : Int32)) hx hb hr (by first | rfl | decide) (fun t ht hW => ⟨⟨(0 : Int32), (), rfl, rfl, by rw [ht]; exact hP, va_K.moved hW.alike hK, hD⟩, hS.F ht⟩) hS.2.2 d_Model_start_30
      · replace hR := if_n c5 hR
        refine lv_iload_n hx hb d_Model_start_18 rfl (lv_at hl 2 rfl) ?_
        refine lv_iconst (v := 4) hx hb d_Model_start_19 (by decide) ?_
        refine lv_icmp_lt (tgt := 29) hx hb d_Model_start_20 (by decide) (fun c7 => ?_) (fun c7 => ?_)
        · replace hR := if_p c7 hR
          refine lv_iconst (v := 0) hx hb d_Model_start_29 (by decide) ?_
          obtain ⟨e1, -, e3⟩ := re_e hR
          subst e1; subst e3
          exact W.zret (v := (0 : Int32)) hx hb hr (by first | rfl | decide) (fun t ht hW => ⟨⟨(0 : Int32), (), rfl, rfl, by rw [ht]; exact hP, va_K.moved hW.alike hK, hD⟩, hS.F ht⟩) hS.2.2 d_Model_start_30
        · replace hR := if_n c7 hR
          refine lv_iload_n hx hb d_Model_start_23 rfl (lv_at hl 2 rfl) ?_
          refine lv_bipush (v := 64) hx hb d_Model_start_24 (by decide) ?_
          refine lv_icmp_le (tgt := 31) hx hb d_Model_start_26 (by decide) (fun c9 => ?_) (fun c9 => ?_)
          · replace hR := if_p c9 hR
            refine lv_aload_n hx hb d_Model_start_31 rfl (lv_at hl 0 rfl) ?_
            replace hR := bi_e hR
            obtain ⟨r10, l10, T10, hc10, hR⟩ := hR
            refine gcV_v (rest := []) ⟨hx, hb, hml, hown, hT⟩ (h_Model_stopAll _ _ _ _ hc10) (cwV 0 hT (gV ml_Model_909 im_Model_stopAll se_Model_stopAll ini_Model co_Model_stopAll) rfl rfl rfl pd_Model_stopAll ⟨rm_hi, rm_lo (Nat.le_of_ble_eq_true rfl)⟩) hK hP hD hS hA hnw henv (Nat.le_of_ble_eq_true rfl) rfl rfl hl.1 rfl (Nat.le_of_ble_eq_true rfl) d_Model_start_32 ⟨Nat.le_refl _, Nat.le_refl _⟩ (fun H locs hP hD hS => ?_)
            clear hc10
            refine lv_aload_n hx hb d_Model_start_35 rfl (lv_at hl 0 rfl) ?_
            refine lv_iload_n hx hb d_Model_start_36 rfl (lv_at hl 1 rfl) ?_
            refine wr_Model_835 hx hb hT hown hK hP hD hS d_Model_start_37 (fun T11 eT H locs hP hD hS => ?_)
            replace hR := stK_e eT hR
            clear eT
            refine lv_aload_n hx hb d_Model_start_40 rfl (lv_at hl 0 rfl) ?_
            refine lv_iload_n hx hb d_Model_start_41 rfl (lv_at hl 2 rfl) ?_
            refine wr_Model_844 hx hb hT hown hK hP hD hS d_Model_start_42 (fun T12 eT H locs hP hD hS => ?_)
            replace hR := stK_e eT hR
            clear eT
            refine lv_aload_n hx hb d_Model_start_45 rfl (lv_at hl 0 rfl) ?_
            refine lv_iload_n hx hb d_Model_start_46 rfl (lv_at hl 1 rfl) ?_
            refine wr_Model_838 hx hb hT hown hK hP hD hS d_Model_start_47 (fun T13 eT H locs hP hD hS => ?_)
            replace hR := stK_e eT hR
            clear eT
            refine lv_aload_n hx hb d_Model_start_50 rfl (lv_at hl 0 rfl) ?_
            refine lv_iconst (v := 0) hx hb d_Model_start_51 (by decide) ?_
            refine wr_Model_850 hx hb hT hown hK hP hD hS d_Model_start_52 (fun T14 eT H locs hP hD hS => ?_)
            replace hR := stK_e eT hR
            clear eT
            refine lv_iconst (v := 0) hx hb d_Model_start_55 (by decide) ?_
            refine lv_istore_n (lv' := [(3, .int (0 : Int32)), (0, .ref (ad 0)), (1, .int p1), (2, .int p2)]) hx hb d_Model_start_56 rfl hl (by decide) rfl (fun ls hl => ?_)
            have g := lb_57 nf T14 (0 : Int32) hR
            rw [hG] at g
            exact g _ _ hP hD hS _ (lv_sub hl [1, 0] rfl)
          · replace hR := if_n c9 hR
            refine lv_iconst (v := 0) hx hb d_Model_start_29 (by decide) ?_
            obtain ⟨e1, -, e3⟩ := re_e hR
            subst e1; subst e3
            exact W.zret (v := (0 : Int32)) hx hb hr (by first | rfl | decide) (fun t ht hW => ⟨⟨(0 : Int32), (), rfl, rfl, by rw [ht]; exact hP, va_K.moved hW.alike hK, hD⟩, hS.F ht⟩) hS.2.2 d_Model_start_30
set_option maxHeartbeats 4000000 in
set_option maxRecDepth 100000 in
theorem sp_Model_input_I (l : Launch) (dC : Nat → ClassId) (dI : Nat → Nat → Nat) (ea ev ad : Nat → Nat) (km : Nat → ClassId) (F : gF) (nf d : Nat) (T0 : gSt) (p1 : Int32) (r0 : Int32) (rl0 : Int64) (T9 : gSt) (hR : rb_Model_input_I F nf T0 p1 = some (r0, rl0, T9)) : GMi l dC dI LM ad km ea ev y_Model_input_I w_Model_input_I (rmD (d + 1)) [.ref (ad 0), .int p1] T0 r0 T9 := by
  intro sz
  refine Met.ofW (cc := b_Model_input_I) (maxL := 2) (ret := (some .int)) (by decide) rfl ?_
  intro p e s m args below meth c s₁ B hml hv
  obtain ⟨rfl, hsz, hP, hK, hD0, hnw, henv⟩ := hv
  have hx := B.exec
  have hb := B.bytes
  have hr := B.returns
  have hT : ∀ w ∈ lw_good, w.before _ s = true := fun w h => atoms_spec (ws := w_Model_input_I) B.pre w (List.mem_cons_of_mem _ h)
  have hown : s.vm.findClass R_Model = some m.cls := findClass_of_methodNamed B.named
  subst hsz
  have hD := hD0.self (sz := s.heap.size)
  clear hD0
  generalize hAe : va_A (gW LM ad km T0) s.heap.size = A at hD henv ⊢
  have hA : ∀ q : Nat, s.heap.size ≤ q → A q := fun q h => by rw [← hAe]; exact Or.inr h
  have hS : va_S A s.heap s.heap [] := va_S.rf
  have hl := lv_entry ([.ref (ad 0), .int p1]) (n := 2) (Nat.le_of_ble_eq_true rfl)
  rw [lg_entry_eq]
  generalize (lg_sl ([.ref (ad 0), .int p1]) ++ List.replicate (2 - (lg_sl ([.ref (ad 0), .int p1])).length) Slot.unset).toArray = ls at hl ⊢
  have hl : lv_has ls 2 [(0, .ref (ad 0)), (1, .int p1)] := hl
  unfold rb_Model_input_I at hR
  refine lv_aload_n hx hb d_Model_input_I_0 rfl (lv_at hl 0 rfl) ?_
  refine rd_Model_802 hx hb hT hown hK hP d_Model_input_I_1 ?_
  refine lv_iconst (v := 1) hx hb d_Model_input_I_4 (by decide) ?_
  refine lv_icmp_ne (tgt := 17) hx hb d_Model_input_I_5 (by decide) (fun c1 => ?_) (fun c1 => ?_)
  · replace hR := if_n c1 hR
    refine lv_iconst (v := (-1)) hx hb d_Model_input_I_17 (by decide) ?_
    obtain ⟨e1, -, e3⟩ := re_e hR
    subst e1; subst e3
    exact W.iret (v := (-1 : Int32)) hx hb hr (fun t ht hW => ⟨⟨(-1 : Int32), (), rfl, rfl, by rw [ht]; exact hP, va_K.moved hW.alike hK, hD⟩, hS.F ht⟩) hS.2.2 d_Model_input_I_18
  · replace hR := if_p c1 hR
    refine lv_aload_n hx hb d_Model_input_I_8 rfl (lv_at hl 0 rfl) ?_
    refine rd_Model_829 hx hb hT hown hK hP d_Model_input_I_9 ?_
    refine lv_bipush (v := 100) hx hb d_Model_input_I_12 (by decide) ?_
    refine lv_icmp_ne (tgt := 19) hx hb d_Model_input_I_14 (by decide) (fun c3 => ?_) (fun c3 => ?_)
    · replace hR := if_n c3 hR
      refine lv_aload_n hx hb d_Model_input_I_19 rfl (lv_at hl 0 rfl) ?_
      refine rd_Model_307 hx hb hT hown hK hP d_Model_input_I_20 ?_
      refine lv_aload_n hx hb d_Model_input_I_23 rfl (lv_at hl 0 rfl) ?_
      refine rd_Model_829 hx hb hT hown hK hP d_Model_input_I_24 ?_
      refine lv_iload_n hx hb d_Model_input_I_27 rfl (lv_at hl 1 rfl) ?_
      replace hR := gd_e hR
      obtain ⟨b4, hR⟩ := hR
      refine saM_97 hx hb hK hP hD hS b4 d_Model_input_I_28 (fun T4 eT H locs hP hD hS => ?_)
      replace hR := stK_e eT hR
      clear eT
      refine lv_aload_n hx hb d_Model_input_I_29 rfl (lv_at hl 0 rfl) ?_
      refine lv_dup hx hb d_Model_input_I_30 rfl ?_
      refine rd_Model_829 hx hb hT hown hK hP d_Model_input_I_31 ?_
      refine lv_iconst (v := 1) hx hb d_Model_input_I_34 (by decide) ?_
      refine lv_iadd hx hb d_Model_input_I_35 ?_
      refine wr_Model_829 hx hb hT hown hK hP hD hS d_Model_input_I_36 (fun T5 eT H locs hP hD hS => ?_)
      replace hR := stK_e eT hR
      clear eT
      refine lv_aload_n hx hb d_Model_input_I_39 rfl (lv_at hl 0 rfl) ?_
      refine rd_Model_829 hx hb hT hown hK hP d_Model_input_I_40 ?_
      obtain ⟨e1, -, e3⟩ := re_e hR
      subst e1; subst e3
      exact W.iret (v := T5.1 150 0) hx hb hr (fun t ht hW => ⟨⟨T5.1 150 0, (), rfl, rfl, by rw [ht]; exact hP, va_K.moved hW.alike hK, hD⟩, hS.F ht⟩) hS.2.2 d_Model_input_I_43
    · replace hR := if_p c3 hR
      refine lv_iconst (v := (-1)) hx hb d_Model_input_I_17 (by decide) ?_
      obtain ⟨e1, -, e3⟩ := re_e hR
      subst e1; subst e3
      exact W.iret (v := (-1 : Int32)) hx hb hr (fun t ht hW => ⟨⟨(-1 : Int32), (), rfl, rfl, by rw [ht]; exact hP, va_K.moved hW.alike hK, hD⟩, hS.F ht⟩) hS.2.2 d_Model_input_I_18
set_option maxHeartbeats 4000000 in
set_option maxRecDepth 100000 in
theorem sp_Model_run_I (l : Launch) (dC : Nat → ClassId) (dI : Nat → Nat → Nat) (ea ev ad : Nat → Nat) (km : Nat → ClassId) (F : gF) (nf d : Nat) (h_Model_goOn : mt_Model_goOn l dC dI ea ev ad km F d) (T0 : gSt) (p1 : Int32) (r0 : Int32) (rl0 : Int64) (T9 : gSt) (hR : rb_Model_run_I F nf T0 p1 = some (r0, rl0, T9)) : GMi l dC dI LM ad km ea ev y_Model_run_I w_Model_run_I (rmD (d + 1)) [.ref (ad 0), .int p1] T0 r0 T9 := by
  intro sz
  refine Met.ofW (cc := b_Model_run_I) (maxL := 3) (ret := (some .int)) (by decide) rfl ?_
  intro p e s m args below meth c s₁ B hml hv
  obtain ⟨rfl, hsz, hP, hK, hD0, hnw, henv⟩ := hv
  have hx := B.exec
  have hb := B.bytes
  have hr := B.returns
  have hT : ∀ w ∈ lw_good, w.before _ s = true := fun w h => atoms_spec (ws := w_Model_run_I) B.pre w (List.mem_cons_of_mem _ h)
  have hown : s.vm.findClass R_Model = some m.cls := findClass_of_methodNamed B.named
  subst hsz
  have hD := hD0.self (sz := s.heap.size)
  clear hD0
  generalize hAe : va_A (gW LM ad km T0) s.heap.size = A at hD henv ⊢
  have hA : ∀ q : Nat, s.heap.size ≤ q → A q := fun q h => by rw [← hAe]; exact Or.inr h
  have hS : va_S A s.heap s.heap [] := va_S.rf
  have hl := lv_entry ([.ref (ad 0), .int p1]) (n := 3) (Nat.le_of_ble_eq_true rfl)
  rw [lg_entry_eq]
  generalize (lg_sl ([.ref (ad 0), .int p1]) ++ List.replicate (3 - (lg_sl ([.ref (ad 0), .int p1])).length) Slot.unset).toArray = ls at hl ⊢
  have hl : lv_has ls 3 [(0, .ref (ad 0)), (1, .int p1)] := hl
  obtain ⟨G, hG⟩ : ∃ G : Nat → List (Nat × Value) → List Value → gSt → Prop, G = (fun pc lv stk T => ∀ (H : Heap) (locs : List Loc), va_P (dC, dI) cls_all (gW LM ad km T) H → va_D A (gW LM ad km T) → va_S A s.heap H locs → ∀ (ls : Array Slot), lv_has ls 3 lv → W p l e (headSpec w_Model_run_I (rmD (d + 1))).room s m ([.ref (ad 0), .int p1] : List Value).toArray below meth c H locs 0 0 (MQ below (va_Qi (fun (z : Int32) (_ : Unit) => z = r0) (fun _ t => gPost dC dI LM ad km T9 A t) A) ([.ref (ad 0), .int p1] : List Value).toArray s 0 0 A) (F0 m pc ls stk)) := ⟨_, rfl⟩
  have lb_24 : ∀ (n : Nat) (T : gSt) (x1 : Int32) (x2 : Int32), rl_Model_run_I_24 F nf n T x1 x2 = some (r0, rl0, T9) → G 24 [(0, .ref (ad 0)), (1, .int x1), (2, .int x2)] [] T := by
    intro n
    induction n with
    | zero => intro T x1 x2 hR; rw [rl_Model_run_I_24] at hR; cases hR
    | succ n ih =>
      intro T x1 x2 hR; rw [rl_Model_run_I_24] at hR; rw [hG]; intro H locs hP hD hS ls hl
      refine lv_iload_n hx hb d_Model_run_I_24 rfl (lv_at hl 2 rfl) ?_
      refine lv_iload_n hx hb d_Model_run_I_25 rfl (lv_at hl 1 rfl) ?_
      refine lv_icmp_ge (tgt := 87) hx hb d_Model_run_I_26 (by decide) (fun c7 => ?_) (fun c7 => ?_)
      · replace hR := if_p c7 hR
        refine lv_iload_n hx hb d_Model_run_I_87 rfl (lv_at hl 2 rfl) ?_
        obtain ⟨e1, -, e3⟩ := re_e hR
        subst e1; subst e3
        exact W.iret (v := x2) hx hb hr (fun t ht hW => ⟨⟨x2, (), rfl, rfl, by rw [ht]; exact hP, va_K.moved hW.alike hK, hD⟩, hS.F ht⟩) hS.2.2 d_Model_run_I_88
      · replace hR := if_n c7 hR
        refine lv_aload_n hx hb d_Model_run_I_29 rfl (lv_at hl 0 rfl) ?_
        refine rd_Model_802 hx hb hT hown hK hP d_Model_run_I_30 ?_
        refine lv_iconst (v := 1) hx hb d_Model_run_I_33 (by decide) ?_
        refine lv_icmp_ne (tgt := 87) hx hb d_Model_run_I_34 (by decide) (fun c9 => ?_) (fun c9 => ?_)
        · replace hR := if_n c9 hR
          refine lv_iload_n hx hb d_Model_run_I_87 rfl (lv_at hl 2 rfl) ?_
          obtain ⟨e1, -, e3⟩ := re_e hR
          subst e1; subst e3
          exact W.iret (v := x2) hx hb hr (fun t ht hW => ⟨⟨x2, (), rfl, rfl, by rw [ht]; exact hP, va_K.moved hW.alike hK, hD⟩, hS.F ht⟩) hS.2.2 d_Model_run_I_88
        · replace hR := if_p c9 hR
          refine lv_aload_n hx hb d_Model_run_I_37 rfl (lv_at hl 0 rfl) ?_
          refine lv_dup hx hb d_Model_run_I_38 rfl ?_
          refine rd_Model_805 hx hb hT hown hK hP d_Model_run_I_39 ?_
          refine lv_iconst (v := 1) hx hb d_Model_run_I_42 (by decide) ?_
          refine lv_iadd hx hb d_Model_run_I_43 ?_
          refine wr_Model_805 hx hb hT hown hK hP hD hS d_Model_run_I_44 (fun T11 eT H locs hP hD hS => ?_)
          replace hR := stK_e eT hR
          clear eT
          obtain ⟨z12, e12⟩ : ∃ y : Int32, y = x2 + (1 : Int32) := ⟨_, rfl⟩
          replace hR := vK_e e12 hR
          refine lv_iinc (v := z12) (lv' := [(2, .int z12), (0, .ref (ad 0)), (1, .int x1)]) hx hb d_Model_run_I_47 hl (k := 2) rfl (by rw [e12]; rfl) (by decide) rfl (fun ls hl => ?_)
          refine lv_aload_n hx hb d_Model_run_I_50 rfl (lv_at hl 1 rfl) ?_
          refine rd_Model_222 hx hb hT hown hK hP d_Model_run_I_51 ?_
          refine lv_aload_n hx hb d_Model_run_I_54 rfl (lv_at hl 1 rfl) ?_
          refine rd_Model_808 hx hb hT hown hK hP d_Model_run_I_55 ?_
          refine lv_iconst (v := 1) hx hb d_Model_run_I_58 (by decide) ?_
          refine lv_isub hx hb d_Model_run_I_59 ?_
          refine lv_aload_n hx hb d_Model_run_I_60 rfl (lv_at hl 1 rfl) ?_
          refine rd_Model_198 hx hb hT hown hK hP d_Model_run_I_61 ?_
          refine lv_aload_n hx hb d_Model_run_I_64 rfl (lv_at hl 1 rfl) ?_
          refine rd_Model_863 hx hb hT hown hK hP d_Model_run_I_65 ?_
          replace hR := gd_e hR
          obtain ⟨b13, hR⟩ := hR
          refine laM_61 hx hb hK hP b13 d_Model_run_I_68 ?_
          replace hR := gd_e hR
          obtain ⟨b14, hR⟩ := hR
          refine saM_69 hx hb hK hP hD hS b14 d_Model_run_I_69 (fun T14 eT H locs hP hD hS => ?_)
          replace hR := stK_e eT hR
          clear eT
          refine lv_aload_n hx hb d_Model_run_I_70 rfl (lv_at hl 1 rfl) ?_
          refine lv_dup hx hb d_Model_run_I_71 rfl ?_
          refine rd_Model_863 hx hb hT hown hK hP d_Model_run_I_72 ?_
          refine lv_iconst (v := 1) hx hb d_Model_run_I_75 (by decide) ?_
          refine lv_iadd hx hb d_Model_run_I_76 ?_
          refine wr_Model_863 hx hb hT hown hK hP hD hS d_Model_run_I_77 (fun T15 eT H locs hP hD hS => ?_)
          replace hR := stK_e eT hR
          clear eT
          refine lv_aload_n hx hb d_Model_run_I_80 rfl (lv_at hl 1 rfl) ?_
          replace hR := bi_e hR
          obtain ⟨r16, l16, T16, hc16, hR⟩ := hR
          refine gcV_v (rest := []) ⟨hx, hb, hml, hown, hT⟩ (h_Model_goOn _ _ _ _ hc16) (cwV 0 hT (gV ml_Model_930 im_Model_goOn se_Model_goOn ini_Model co_Model_goOn) rfl rfl rfl pd_Model_goOn ⟨rm_hi, rm_lo (Nat.le_of_ble_eq_true rfl)⟩) hK hP hD hS hA hnw henv (Nat.le_of_ble_eq_true rfl) rfl rfl hl.1 rfl (Nat.le_of_ble_eq_true rfl) d_Model_run_I_81 ⟨Nat.le_refl _, Nat.le_refl _⟩ (fun H locs hP hD hS => ?_)
          clear hc16
          refine lv_goto (tgt := 24) hx hb d_Model_run_I_84 (by decide) ?_
          have g := ih T16 x1 z12 hR
          rw [hG] at g
          exact g _ _ hP hD hS _ (lv_sub hl [1, 2, 0] rfl)
  unfold rb_Model_run_I at hR
  refine lv_iload_n hx hb d_Model_run_I_0 rfl (lv_at hl 1 rfl) ?_
  refine lv_iconst (v := 1) hx hb d_Model_run_I_1 (by decide) ?_
  refine lv_icmp_lt (tgt := 20) hx hb d_Model_run_I_2 (by decide) (fun c1 => ?_) (fun c1 => ?_)
  · replace hR := if_p c1 hR
    refine lv_iconst (v := (-1)) hx hb d_Model_run_I_20 (by decide) ?_
    obtain ⟨e1, -, e3⟩ := re_e hR
    subst e1; subst e3
    exact W.iret (v := (-1 : Int32)) hx hb hr (fun t ht hW => ⟨⟨(-1 : Int32), (), rfl, rfl, by rw [ht]; exact hP, va_K.moved hW.alike hK, hD⟩, hS.F ht⟩) hS.2.2 d_Model_run_I_21
  · replace hR := if_n c1 hR
    refine lv_iload_n hx hb d_Model_run_I_5 rfl (lv_at hl 1 rfl) ?_
    refine lv_sipush (v := 500) hx hb d_Model_run_I_6 (by decide) ?_
    refine lv_icmp_gt (tgt := 20) hx hb d_Model_run_I_9 (by decide) (fun c3 => ?_) (fun c3 => ?_)
    · replace hR := if_p c3 hR
      refine lv_iconst (v := (-1)) hx hb d_Model_run_I_20 (by decide) ?_
      obtain ⟨e1, -, e3⟩ := re_e hR
      subst e1; subst e3
      exact W.iret (v := (-1 : Int32)) hx hb hr (fun t ht hW => ⟨⟨(-1 : Int32), (), rfl, rfl, by rw [ht]; exact hP, va_K.moved hW.alike hK, hD⟩, hS.F ht⟩) hS.2.2 d_Model_run_I_21
    · replace hR := if_n c3 hR
      refine lv_aload_n hx hb d_Model_run_I_12 rfl (lv_at hl 0 rfl) ?_
      refine rd_Model_802 hx hb hT hown hK hP d_Model_run_I_13 ?_
      refine lv_iconst (v := 1) hx hb d_Model_run_I_16 (by decide) ?_
      refine lv_icmp_eq (tgt := 22) hx hb d_Model_run_I_17 (by decide) (fun c5 => ?_) (fun c5 => ?_)
      · replace hR := if_p c5 hR
        refine lv_iconst (v := 0) hx hb d_Model_run_I_22 (by decide) ?_
        refine lv_istore_n (lv' := [(2, .int (0 : Int32)), (0, .ref (ad 0)), (1, .int p1)]) hx hb d_Model_run_I_23 rfl hl (by decide) rfl (fun ls hl => ?_)
        have g := lb_24 nf T0 p1 (0 : Int32) hR
        rw [hG] at g
        exact g _ _ hP hD hS _ (lv_sub hl [1, 2, 0] rfl)
      · replace hR := if_n c5 hR
        refine lv_iconst (v := (-1)) hx hb d_Model_run_I_20 (by decide) ?_
        obtain ⟨e1, -, e3⟩ := re_e hR
        subst e1; subst e3
        exact W.iret (v := (-1 : Int32)) hx hb hr (fun t ht hW => ⟨⟨(-1 : Int32), (), rfl, rfl, by rw [ht]; exact hP, va_K.moved hW.alike hK, hD⟩, hS.F ht⟩) hS.2.2 d_Model_run_I_21
set_option maxHeartbeats 4000000 in
set_option maxRecDepth 100000 in
theorem sp_Model_state (l : Launch) (dC : Nat → ClassId) (dI : Nat → Nat → Nat) (ea ev ad : Nat → Nat) (km : Nat → ClassId) (F : gF) (nf d : Nat) (T0 : gSt) (p1 : Int32) (r0 : Int32) (rl0 : Int64) (T9 : gSt) (hR : rb_Model_state F nf T0 p1 = some (r0, rl0, T9)) : GMi l dC dI LM ad km ea ev y_Model_state w_Model_state (rmD (d + 1)) [.ref (ad 0), .int p1] T0 r0 T9 := by
  intro sz
  refine Met.ofW (cc := b_Model_state) (maxL := 2) (ret := (some .int)) (by decide) rfl ?_
  intro p e s m args below meth c s₁ B hml hv
  obtain ⟨rfl, hsz, hP, hK, hD0, hnw, henv⟩ := hv
  have hx := B.exec
  have hb := B.bytes
  have hr := B.returns
  have hT : ∀ w ∈ lw_good, w.before _ s = true := fun w h => atoms_spec (ws := w_Model_state) B.pre w (List.mem_cons_of_mem _ h)
  have hown : s.vm.findClass R_Model = some m.cls := findClass_of_methodNamed B.named
  subst hsz
  have hD := hD0.self (sz := s.heap.size)
  clear hD0
  generalize hAe : va_A (gW LM ad km T0) s.heap.size = A at hD henv ⊢
  have hA : ∀ q : Nat, s.heap.size ≤ q → A q := fun q h => by rw [← hAe]; exact Or.inr h
  have hS : va_S A s.heap s.heap [] := va_S.rf
  have hl := lv_entry ([.ref (ad 0), .int p1]) (n := 2) (Nat.le_of_ble_eq_true rfl)
  rw [lg_entry_eq]
  generalize (lg_sl ([.ref (ad 0), .int p1]) ++ List.replicate (2 - (lg_sl ([.ref (ad 0), .int p1])).length) Slot.unset).toArray = ls at hl ⊢
  have hl : lv_has ls 2 [(0, .ref (ad 0)), (1, .int p1)] := hl
  unfold rb_Model_state at hR
  refine lv_iload_n hx hb d_Model_state_0 rfl (lv_at hl 1 rfl) ?_
  refine lv_if_ne (tgt := 9) hx hb d_Model_state_1 (by decide) (fun c1 => ?_) (fun c1 => ?_)
  · replace hR := if_n c1 hR
    refine lv_iload_n hx hb d_Model_state_9 rfl (lv_at hl 1 rfl) ?_
    refine lv_iconst (v := 1) hx hb d_Model_state_10 (by decide) ?_
    refine lv_icmp_ne (tgt := 31) hx hb d_Model_state_11 (by decide) (fun c2 => ?_) (fun c2 => ?_)
    · replace hR := if_n c2 hR
      refine lv_iload_n hx hb d_Model_state_31 rfl (lv_at hl 1 rfl) ?_
      refine lv_iconst (v := 2) hx hb d_Model_state_32 (by decide) ?_
      refine lv_icmp_ne (tgt := 51) hx hb d_Model_state_33 (by decide) (fun c3 => ?_) (fun c3 => ?_)
      · replace hR := if_n c3 hR
        refine lv_iconst (v := (-1)) hx hb d_Model_state_51 (by decide) ?_
        obtain ⟨e1, -, e3⟩ := re_e hR
        subst e1; subst e3
        exact W.iret (v := (-1 : Int32)) hx hb hr (fun t ht hW => ⟨⟨(-1 : Int32), (), rfl, rfl, by rw [ht]; exact hP, va_K.moved hW.alike hK, hD⟩, hS.F ht⟩) hS.2.2 d_Model_state_52
      · replace hR := if_p c3 hR
        refine lv_aload_n hx hb d_Model_state_36 rfl (lv_at hl 0 rfl) ?_
        refine rd_Model_802 hx hb hT hown hK hP d_Model_state_37 ?_
        refine lv_if_eq (tgt := 51) hx hb d_Model_state_40 (by decide) (fun c5 => ?_) (fun c5 => ?_)
        · replace hR := if_p c5 hR
          refine lv_iconst (v := (-1)) hx hb d_Model_state_51 (by decide) ?_
          obtain ⟨e1, -, e3⟩ := re_e hR
          subst e1; subst e3
          exact W.iret (v := (-1 : Int32)) hx hb hr (fun t ht hW => ⟨⟨(-1 : Int32), (), rfl, rfl, by rw [ht]; exact hP, va_K.moved hW.alike hK, hD⟩, hS.F ht⟩) hS.2.2 d_Model_state_52
        · replace hR := if_n c5 hR
          refine lv_aload_n hx hb d_Model_state_43 rfl (lv_at hl 0 rfl) ?_
          refine rd_Model_802 hx hb hT hown hK hP d_Model_state_44 ?_
          refine lv_iconst (v := 2) hx hb d_Model_state_47 (by decide) ?_
          refine lv_icmp_ne (tgt := 53) hx hb d_Model_state_48 (by decide) (fun c7 => ?_) (fun c7 => ?_)
          · replace hR := if_n c7 hR
            refine lv_aload_n hx hb d_Model_state_53 rfl (lv_at hl 0 rfl) ?_
            refine rd_Model_802 hx hb hT hown hK hP d_Model_state_54 ?_
            refine lv_iconst (v := 1) hx hb d_Model_state_57 (by decide) ?_
            refine lv_icmp_ne (tgt := 73) hx hb d_Model_state_58 (by decide) (fun c8 => ?_) (fun c8 => ?_)
            · replace hR := if_n c8 hR
              refine lv_aload_n hx hb d_Model_state_73 rfl (lv_at hl 0 rfl) ?_
              refine rd_Model_222 hx hb hT hown hK hP d_Model_state_74 ?_
              refine lv_aload_n hx hb d_Model_state_77 rfl (lv_at hl 0 rfl) ?_
              refine rd_Model_808 hx hb hT hown hK hP d_Model_state_78 ?_
              refine lv_iconst (v := 1) hx hb d_Model_state_81 (by decide) ?_
              refine lv_isub hx hb d_Model_state_82 ?_
              replace hR := gd_e hR
              obtain ⟨b9, hR⟩ := hR
              refine laM_69 hx hb hK hP b9 d_Model_state_83 ?_
              obtain ⟨e1, -, e3⟩ := re_e hR
              subst e1; subst e3
              exact W.iret (v := T0.1 115 ((T0.1 103 0) - (1 : Int32)).toNatClampNeg) hx hb hr (fun t ht hW => ⟨⟨T0.1 115 ((T0.1 103 0) - (1 : Int32)).toNatClampNeg, (), rfl, rfl, by rw [ht]; exact hP, va_K.moved hW.alike hK, hD⟩, hS.F ht⟩) hS.2.2 d_Model_state_84
            · replace hR := if_p c8 hR
              refine lv_aload_n hx hb d_Model_state_61 rfl (lv_at hl 0 rfl) ?_
              refine rd_Model_198 hx hb hT hown hK hP d_Model_state_62 ?_
              refine lv_aload_n hx hb d_Model_state_65 rfl (lv_at hl 0 rfl) ?_
              refine rd_Model_863 hx hb hT hown hK hP d_Model_state_66 ?_
              replace hR := gd_e hR
              obtain ⟨b11, hR⟩ := hR
              refine laM_61 hx hb hK hP b11 d_Model_state_69 ?_
              refine lv_goto (tgt := 84) hx hb d_Model_state_70 (by decide) ?_
              obtain ⟨e1, -, e3⟩ := re_e hR
              subst e1; subst e3
              exact W.iret (v := T0.1 97 (T0.1 102 0).toNatClampNeg) hx hb hr (fun t ht hW => ⟨⟨T0.1 97 (T0.1 102 0).toNatClampNeg, (), rfl, rfl, by rw [ht]; exact hP, va_K.moved hW.alike hK, hD⟩, hS.F ht⟩) hS.2.2 d_Model_state_84
          · replace hR := if_p c7 hR
            refine lv_iconst (v := (-1)) hx hb d_Model_state_51 (by decide) ?_
            obtain ⟨e1, -, e3⟩ := re_e hR
            subst e1; subst e3
            exact W.iret (v := (-1 : Int32)) hx hb hr (fun t ht hW => ⟨⟨(-1 : Int32), (), rfl, rfl, by rw [ht]; exact hP, va_K.moved hW.alike hK, hD⟩, hS.F ht⟩) hS.2.2 d_Model_state_52
    · replace hR := if_p c2 hR
      refine lv_aload_n hx hb d_Model_state_14 rfl (lv_at hl 0 rfl) ?_
      refine rd_Model_802 hx hb hT hown hK hP d_Model_state_15 ?_
      refine lv_iconst (v := 3) hx hb d_Model_state_18 (by decide) ?_
      refine lv_icmp_ne (tgt := 29) hx hb d_Model_state_19 (by decide) (fun c14 => ?_) (fun c14 => ?_)
      · replace hR := if_n c14 hR
        refine lv_iconst (v := 0) hx hb d_Model_state_29 (by decide) ?_
        obtain ⟨e1, -, e3⟩ := re_e hR
        subst e1; subst e3
        exact W.iret (v := (0 : Int32)) hx hb hr (fun t ht hW => ⟨⟨(0 : Int32), (), rfl, rfl, by rw [ht]; exact hP, va_K.moved hW.alike hK, hD⟩, hS.F ht⟩) hS.2.2 d_Model_state_30
      · replace hR := if_p c14 hR
        refine lv_aload_n hx hb d_Model_state_22 rfl (lv_at hl 0 rfl) ?_
        refine rd_Model_823 hx hb hT hown hK hP d_Model_state_23 ?_
        refine lv_goto (tgt := 30) hx hb d_Model_state_26 (by decide) ?_
        obtain ⟨e1, -, e3⟩ := re_e hR
        subst e1; subst e3
        exact W.iret (v := T0.1 108 0) hx hb hr (fun t ht hW => ⟨⟨T0.1 108 0, (), rfl, rfl, by rw [ht]; exact hP, va_K.moved hW.alike hK, hD⟩, hS.F ht⟩) hS.2.2 d_Model_state_30
  · replace hR := if_p c1 hR
    refine lv_aload_n hx hb d_Model_state_4 rfl (lv_at hl 0 rfl) ?_
    refine rd_Model_802 hx hb hT hown hK hP d_Model_state_5 ?_
    obtain ⟨e1, -, e3⟩ := re_e hR
    subst e1; subst e3
    exact W.iret (v := T0.1 100 0) hx hb hr (fun t ht hW => ⟨⟨T0.1 100 0, (), rfl, rfl, by rw [ht]; exact hP, va_K.moved hW.alike hK, hD⟩, hS.F ht⟩) hS.2.2 d_Model_state_8
set_option maxHeartbeats 4000000 in
set_option maxRecDepth 100000 in
theorem sp_Model_world (l : Launch) (dC : Nat → ClassId) (dI : Nat → Nat → Nat) (ea ev ad : Nat → Nat) (km : Nat → ClassId) (F : gF) (nf d : Nat) (T0 : gSt) (p1 : Int32) (r0 : Int32) (rl0 : Int64) (T9 : gSt) (hR : rb_Model_world F nf T0 p1 = some (r0, rl0, T9)) : GMi l dC dI LM ad km ea ev y_Model_world w_Model_world (rmD (d + 1)) [.ref (ad 0), .int p1] T0 r0 T9 := by
  intro sz
  refine Met.ofW (cc := b_Model_world) (maxL := 2) (ret := (some .int)) (by decide) rfl ?_
  intro p e s m args below meth c s₁ B hml hv
  obtain ⟨rfl, hsz, hP, hK, hD0, hnw, henv⟩ := hv
  have hx := B.exec
  have hb := B.bytes
  have hr := B.returns
  have hT : ∀ w ∈ lw_good, w.before _ s = true := fun w h => atoms_spec (ws := w_Model_world) B.pre w (List.mem_cons_of_mem _ h)
  have hown : s.vm.findClass R_Model = some m.cls := findClass_of_methodNamed B.named
  subst hsz
  have hD := hD0.self (sz := s.heap.size)
  clear hD0
  generalize hAe : va_A (gW LM ad km T0) s.heap.size = A at hD henv ⊢
  have hA : ∀ q : Nat, s.heap.size ≤ q → A q := fun q h => by rw [← hAe]; exact Or.inr h
  have hS : va_S A s.heap s.heap [] := va_S.rf
  have hl := lv_entry ([.ref (ad 0), .int p1]) (n := 2) (Nat.le_of_ble_eq_true rfl)
  rw [lg_entry_eq]
  generalize (lg_sl ([.ref (ad 0), .int p1]) ++ List.replicate (2 - (lg_sl ([.ref (ad 0), .int p1])).length) Slot.unset).toArray = ls at hl ⊢
  have hl : lv_has ls 2 [(0, .ref (ad 0)), (1, .int p1)] := hl
  unfold rb_Model_world at hR
  refine lv_iload_n hx hb d_Model_world_0 rfl (lv_at hl 1 rfl) ?_
  by_cases c1 : p1 = (0 : Int32)
  · replace hR := if_p c1 hR
    refine lv_tableIn (off := 51) (tgt := 52) hx hb d_Model_world_1 (by rw [c1]; decide) (by rw [c1]; decide) (by rw [c1]; decide) (by decide) ?_
    refine lv_aload_n hx hb d_Model_world_52 rfl (lv_at hl 0 rfl) ?_
    refine rd_Model_805 hx hb hT hown hK hP d_Model_world_53 ?_
    obtain ⟨e1, -, e3⟩ := re_e hR
    subst e1; subst e3
    exact W.iret (v := T0.1 101 0) hx hb hr (fun t ht hW => ⟨⟨T0.1 101 0, (), rfl, rfl, by rw [ht]; exact hP, va_K.moved hW.alike hK, hD⟩, hS.F ht⟩) hS.2.2 d_Model_world_56
  replace hR := if_n c1 hR
  by_cases c3 : p1 = (1 : Int32)
  · replace hR := if_p c3 hR
    refine lv_tableIn (off := 56) (tgt := 57) hx hb d_Model_world_1 (by rw [c3]; decide) (by rw [c3]; decide) (by rw [c3]; decide) (by decide) ?_
    refine lv_aload_n hx hb d_Model_world_57 rfl (lv_at hl 0 rfl) ?_
    refine rd_Model_835 hx hb hT hown hK hP d_Model_world_58 ?_
    refine lv_aload_n hx hb d_Model_world_61 rfl (lv_at hl 0 rfl) ?_
    refine rd_Model_838 hx hb hT hown hK hP d_Model_world_62 ?_
    refine lv_isub hx hb d_Model_world_65 ?_
    obtain ⟨e1, -, e3⟩ := re_e hR
    subst e1; subst e3
    exact W.iret (v := (T0.1 130 0) - (T0.1 132 0)) hx hb hr (fun t ht hW => ⟨⟨(T0.1 130 0) - (T0.1 132 0), (), rfl, rfl, by rw [ht]; exact hP, va_K.moved hW.alike hK, hD⟩, hS.F ht⟩) hS.2.2 d_Model_world_66
  replace hR := if_n c3 hR
  by_cases c5 : p1 = (2 : Int32)
  · replace hR := if_p c5 hR
    refine lv_tableIn (off := 66) (tgt := 67) hx hb d_Model_world_1 (by rw [c5]; decide) (by rw [c5]; decide) (by rw [c5]; decide) (by decide) ?_
    refine lv_aload_n hx hb d_Model_world_67 rfl (lv_at hl 0 rfl) ?_
    refine rd_Model_826 hx hb hT hown hK hP d_Model_world_68 ?_
    obtain ⟨e1, -, e3⟩ := re_e hR
    subst e1; subst e3
    exact W.iret (v := T0.1 129 0) hx hb hr (fun t ht hW => ⟨⟨T0.1 129 0, (), rfl, rfl, by rw [ht]; exact hP, va_K.moved hW.alike hK, hD⟩, hS.F ht⟩) hS.2.2 d_Model_world_71
  replace hR := if_n c5 hR
  by_cases c7 : p1 = (3 : Int32)
  · replace hR := if_p c7 hR
    refine lv_tableIn (off := 71) (tgt := 72) hx hb d_Model_world_1 (by rw [c7]; decide) (by rw [c7]; decide) (by rw [c7]; decide) (by decide) ?_
    refine lv_aload_n hx hb d_Model_world_72 rfl (lv_at hl 0 rfl) ?_
    refine rd_Model_808 hx hb hT hown hK hP d_Model_world_73 ?_
    obtain ⟨e1, -, e3⟩ := re_e hR
    subst e1; subst e3
    exact W.iret (v := T0.1 103 0) hx hb hr (fun t ht hW => ⟨⟨T0.1 103 0, (), rfl, rfl, by rw [ht]; exact hP, va_K.moved hW.alike hK, hD⟩, hS.F ht⟩) hS.2.2 d_Model_world_76
  replace hR := if_n c7 hR
  by_cases c9 : p1 = (4 : Int32)
  · replace hR := if_p c9 hR
    refine lv_tableIn (off := 76) (tgt := 77) hx hb d_Model_world_1 (by rw [c9]; decide) (by rw [c9]; decide) (by rw [c9]; decide) (by decide) ?_
    refine lv_aload_n hx hb d_Model_world_77 rfl (lv_at hl 0 rfl) ?_
    refine rd_Model_811 hx hb hT hown hK hP d_Model_world_78 ?_
    obtain ⟨e1, -, e3⟩ := re_e hR
    subst e1; subst e3
    exact W.iret (v := T0.1 104 0) hx hb hr (fun t ht hW => ⟨⟨T0.1 104 0, (), rfl, rfl, by rw [ht]; exact hP, va_K.moved hW.alike hK, hD⟩, hS.F ht⟩) hS.2.2 d_Model_world_81
  replace hR := if_n c9 hR
  by_cases c11 : p1 = (5 : Int32)
  · replace hR := if_p c11 hR
    refine lv_tableIn (off := 81) (tgt := 82) hx hb d_Model_world_1 (by rw [c11]; decide) (by rw [c11]; decide) (by rw [c11]; decide) (by decide) ?_
    refine lv_aload_n hx hb d_Model_world_82 rfl (lv_at hl 0 rfl) ?_
    refine rd_Model_814 hx hb hT hown hK hP d_Model_world_83 ?_
    obtain ⟨e1, -, e3⟩ := re_e hR
    subst e1; subst e3
    exact W.iret (v := T0.1 105 0) hx hb hr (fun t ht hW => ⟨⟨T0.1 105 0, (), rfl, rfl, by rw [ht]; exact hP, va_K.moved hW.alike hK, hD⟩, hS.F ht⟩) hS.2.2 d_Model_world_86
  replace hR := if_n c11 hR
  by_cases c13 : p1 = (6 : Int32)
  · replace hR := if_p c13 hR
    refine lv_tableIn (off := 86) (tgt := 87) hx hb d_Model_world_1 (by rw [c13]; decide) (by rw [c13]; decide) (by rw [c13]; decide) (by decide) ?_
    refine lv_aload_n hx hb d_Model_world_87 rfl (lv_at hl 0 rfl) ?_
    refine rd_Model_829 hx hb hT hown hK hP d_Model_world_88 ?_
    obtain ⟨e1, -, e3⟩ := re_e hR
    subst e1; subst e3
    exact W.iret (v := T0.1 150 0) hx hb hr (fun t ht hW => ⟨⟨T0.1 150 0, (), rfl, rfl, by rw [ht]; exact hP, va_K.moved hW.alike hK, hD⟩, hS.F ht⟩) hS.2.2 d_Model_world_91
  replace hR := if_n c13 hR
  by_cases c15 : p1 = (7 : Int32)
  · replace hR := if_p c15 hR
    refine lv_tableIn (off := 91) (tgt := 92) hx hb d_Model_world_1 (by rw [c15]; decide) (by rw [c15]; decide) (by rw [c15]; decide) (by decide) ?_
    refine lv_aload_n hx hb d_Model_world_92 rfl (lv_at hl 0 rfl) ?_
    refine rd_Model_817 hx hb hT hown hK hP d_Model_world_93 ?_
    obtain ⟨e1, -, e3⟩ := re_e hR
    subst e1; subst e3
    exact W.iret (v := T0.1 106 0) hx hb hr (fun t ht hW => ⟨⟨T0.1 106 0, (), rfl, rfl, by rw [ht]; exact hP, va_K.moved hW.alike hK, hD⟩, hS.F ht⟩) hS.2.2 d_Model_world_96
  replace hR := if_n c15 hR
  by_cases c17 : p1 = (8 : Int32)
  · replace hR := if_p c17 hR
    refine lv_tableIn (off := 96) (tgt := 97) hx hb d_Model_world_1 (by rw [c17]; decide) (by rw [c17]; decide) (by rw [c17]; decide) (by decide) ?_
    refine lv_aload_n hx hb d_Model_world_97 rfl (lv_at hl 0 rfl) ?_
    refine rd_Model_820 hx hb hT hown hK hP d_Model_world_98 ?_
    obtain ⟨e1, -, e3⟩ := re_e hR
    subst e1; subst e3
    exact W.iret (v := T0.1 107 0) hx hb hr (fun t ht hW => ⟨⟨T0.1 107 0, (), rfl, rfl, by rw [ht]; exact hP, va_K.moved hW.alike hK, hD⟩, hS.F ht⟩) hS.2.2 d_Model_world_101
  replace hR := if_n c17 hR
  have h319 : (p1 : Int32).toInt < 0 ∨ 8 < (p1 : Int32).toInt := by
    simp only [i_eq, Int32.reduceToInt] at c1 c3 c5 c7 c9 c11 c13 c15 c17; omega
  refine lv_tableOut (tgt := 102) hx hb d_Model_world_1 h319 (by decide) ?_
  refine lv_iconst (v := (-1)) hx hb d_Model_world_102 (by decide) ?_
  obtain ⟨e1, -, e3⟩ := re_e hR
  subst e1; subst e3
  exact W.iret (v := (-1 : Int32)) hx hb hr (fun t ht hW => ⟨⟨(-1 : Int32), (), rfl, rfl, by rw [ht]; exact hP, va_K.moved hW.alike hK, hD⟩, hS.F ht⟩) hS.2.2 d_Model_world_103
set_option maxHeartbeats 4000000 in
set_option maxRecDepth 100000 in
theorem sp_Model_region (l : Launch) (dC : Nat → ClassId) (dI : Nat → Nat → Nat) (ea ev ad : Nat → Nat) (km : Nat → ClassId) (F : gF) (nf d : Nat) (T0 : gSt) (p1 : Int32) (p2 : Int32) (r0 : Int32) (rl0 : Int64) (T9 : gSt) (hR : rb_Model_region F nf T0 p1 p2 = some (r0, rl0, T9)) : GMi l dC dI LM ad km ea ev y_Model_region w_Model_region (rmD (d + 1)) [.ref (ad 0), .int p1, .int p2] T0 r0 T9 := by
  intro sz
  refine Met.ofW (cc := b_Model_region) (maxL := 3) (ret := (some .int)) (by decide) rfl ?_
  intro p e s m args below meth c s₁ B hml hv
  obtain ⟨rfl, hsz, hP, hK, hD0, hnw, henv⟩ := hv
  have hx := B.exec
  have hb := B.bytes
  have hr := B.returns
  have hT : ∀ w ∈ lw_good, w.before _ s = true := fun w h => atoms_spec (ws := w_Model_region) B.pre w (List.mem_cons_of_mem _ h)
  have hown : s.vm.findClass R_Model = some m.cls := findClass_of_methodNamed B.named
  subst hsz
  have hD := hD0.self (sz := s.heap.size)
  clear hD0
  generalize hAe : va_A (gW LM ad km T0) s.heap.size = A at hD henv ⊢
  have hA : ∀ q : Nat, s.heap.size ≤ q → A q := fun q h => by rw [← hAe]; exact Or.inr h
  have hS : va_S A s.heap s.heap [] := va_S.rf
  have hl := lv_entry ([.ref (ad 0), .int p1, .int p2]) (n := 3) (Nat.le_of_ble_eq_true rfl)
  rw [lg_entry_eq]
  generalize (lg_sl ([.ref (ad 0), .int p1, .int p2]) ++ List.replicate (3 - (lg_sl ([.ref (ad 0), .int p1, .int p2])).length) Slot.unset).toArray = ls at hl ⊢
  have hl : lv_has ls 3 [(0, .ref (ad 0)), (1, .int p1), (2, .int p2)] := hl
  unfold rb_Model_region at hR
  refine lv_iload_n hx hb d_Model_region_0 rfl (lv_at hl 1 rfl) ?_
  refine lv_if_lt (tgt := 21) hx hb d_Model_region_1 (by decide) (fun c1 => ?_) (fun c1 => ?_)
  · replace hR := if_p c1 hR
    refine lv_iconst (v := (-1)) hx hb d_Model_region_21 (by decide) ?_
    obtain ⟨e1, -, e3⟩ := re_e hR
    subst e1; subst e3
    exact W.iret (v := (-1 : Int32)) hx hb hr (fun t ht hW => ⟨⟨(-1 : Int32), (), rfl, rfl, by rw [ht]; exact hP, va_K.moved hW.alike hK, hD⟩, hS.F ht⟩) hS.2.2 d_Model_region_22
  · replace hR := if_n c1 hR
    refine lv_iload_n hx hb d_Model_region_4 rfl (lv_at hl 1 rfl) ?_
    refine lv_aload_n hx hb d_Model_region_5 rfl (lv_at hl 0 rfl) ?_
    refine rd_Model_826 hx hb hT hown hK hP d_Model_region_6 ?_
    refine lv_icmp_ge (tgt := 21) hx hb d_Model_region_9 (by decide) (fun c3 => ?_) (fun c3 => ?_)
    · replace hR := if_p c3 hR
      refine lv_iconst (v := (-1)) hx hb d_Model_region_21 (by decide) ?_
      obtain ⟨e1, -, e3⟩ := re_e hR
      subst e1; subst e3
      exact W.iret (v := (-1 : Int32)) hx hb hr (fun t ht hW => ⟨⟨(-1 : Int32), (), rfl, rfl, by rw [ht]; exact hP, va_K.moved hW.alike hK, hD⟩, hS.F ht⟩) hS.2.2 d_Model_region_22
    · replace hR := if_n c3 hR
      refine lv_iload_n hx hb d_Model_region_12 rfl (lv_at hl 2 rfl) ?_
      refine lv_if_lt (tgt := 21) hx hb d_Model_region_13 (by decide) (fun c5 => ?_) (fun c5 => ?_)
      · replace hR := if_p c5 hR
        refine lv_iconst (v := (-1)) hx hb d_Model_region_21 (by decide) ?_
        obtain ⟨e1, -, e3⟩ := re_e hR
        subst e1; subst e3
        exact W.iret (v := (-1 : Int32)) hx hb hr (fun t ht hW => ⟨⟨(-1 : Int32), (), rfl, rfl, by rw [ht]; exact hP, va_K.moved hW.alike hK, hD⟩, hS.F ht⟩) hS.2.2 d_Model_region_22
      · replace hR := if_n c5 hR
        refine lv_iload_n hx hb d_Model_region_16 rfl (lv_at hl 2 rfl) ?_
        refine lv_iconst (v := 2) hx hb d_Model_region_17 (by decide) ?_
        refine lv_icmp_le (tgt := 23) hx hb d_Model_region_18 (by decide) (fun c7 => ?_) (fun c7 => ?_)
        · replace hR := if_p c7 hR
          refine lv_iload_n hx hb d_Model_region_23 rfl (lv_at hl 2 rfl) ?_
          refine lv_if_ne (tgt := 36) hx hb d_Model_region_24 (by decide) (fun c8 => ?_) (fun c8 => ?_)
          · replace hR := if_n c8 hR
            refine lv_iload_n hx hb d_Model_region_36 rfl (lv_at hl 2 rfl) ?_
            refine lv_iconst (v := 1) hx hb d_Model_region_37 (by decide) ?_
            refine lv_icmp_ne (tgt := 50) hx hb d_Model_region_38 (by decide) (fun c9 => ?_) (fun c9 => ?_)
            · replace hR := if_n c9 hR
              refine lv_aload_n hx hb d_Model_region_50 rfl (lv_at hl 0 rfl) ?_
              refine rd_Model_270 hx hb hT hown hK hP d_Model_region_51 ?_
              refine lv_iload_n hx hb d_Model_region_54 rfl (lv_at hl 1 rfl) ?_
              replace hR := gd_e hR
              obtain ⟨b10, hR⟩ := hR
              refine laM_85 hx hb hK hP b10 d_Model_region_55 ?_
              obtain ⟨e1, -, e3⟩ := re_e hR
              subst e1; subst e3
              exact W.iret (v := T0.1 136 p1.toNatClampNeg) hx hb hr (fun t ht hW => ⟨⟨T0.1 136 p1.toNatClampNeg, (), rfl, rfl, by rw [ht]; exact hP, va_K.moved hW.alike hK, hD⟩, hS.F ht⟩) hS.2.2 d_Model_region_56
            · replace hR := if_p c9 hR
              refine lv_aload_n hx hb d_Model_region_41 rfl (lv_at hl 0 rfl) ?_
              refine rd_Model_267 hx hb hT hown hK hP d_Model_region_42 ?_
              refine lv_iload_n hx hb d_Model_region_45 rfl (lv_at hl 1 rfl) ?_
              replace hR := gd_e hR
              obtain ⟨b12, hR⟩ := hR
              refine laM_84 hx hb hK hP b12 d_Model_region_46 ?_
              refine lv_goto (tgt := 56) hx hb d_Model_region_47 (by decide) ?_
              obtain ⟨e1, -, e3⟩ := re_e hR
              subst e1; subst e3
              exact W.iret (v := T0.1 135 p1.toNatClampNeg) hx hb hr (fun t ht hW => ⟨⟨T0.1 135 p1.toNatClampNeg, (), rfl, rfl, by rw [ht]; exact hP, va_K.moved hW.alike hK, hD⟩, hS.F ht⟩) hS.2.2 d_Model_region_56
          · replace hR := if_p c8 hR
            refine lv_aload_n hx hb d_Model_region_27 rfl (lv_at hl 0 rfl) ?_
            refine rd_Model_261 hx hb hT hown hK hP d_Model_region_28 ?_
            refine lv_iload_n hx hb d_Model_region_31 rfl (lv_at hl 1 rfl) ?_
            replace hR := gd_e hR
            obtain ⟨b14, hR⟩ := hR
            refine laM_82 hx hb hK hP b14 d_Model_region_32 ?_
            refine lv_goto (tgt := 56) hx hb d_Model_region_33 (by decide) ?_
            obtain ⟨e1, -, e3⟩ := re_e hR
            subst e1; subst e3
            exact W.iret (v := T0.1 133 p1.toNatClampNeg) hx hb hr (fun t ht hW => ⟨⟨T0.1 133 p1.toNatClampNeg, (), rfl, rfl, by rw [ht]; exact hP, va_K.moved hW.alike hK, hD⟩, hS.F ht⟩) hS.2.2 d_Model_region_56
        · replace hR := if_n c7 hR
          refine lv_iconst (v := (-1)) hx hb d_Model_region_21 (by decide) ?_
          obtain ⟨e1, -, e3⟩ := re_e hR
          subst e1; subst e3
          exact W.iret (v := (-1 : Int32)) hx hb hr (fun t ht hW => ⟨⟨(-1 : Int32), (), rfl, rfl, by rw [ht]; exact hP, va_K.moved hW.alike hK, hD⟩, hS.F ht⟩) hS.2.2 d_Model_region_22
set_option maxHeartbeats 4000000 in
set_option maxRecDepth 100000 in
theorem sp_Model_printed (l : Launch) (dC : Nat → ClassId) (dI : Nat → Nat → Nat) (ea ev ad : Nat → Nat) (km : Nat → ClassId) (F : gF) (nf d : Nat) (T0 : gSt) (p1 : Int32) (r0 : Int32) (rl0 : Int64) (T9 : gSt) (hR : rb_Model_printed F nf T0 p1 = some (r0, rl0, T9)) : GMi l dC dI LM ad km ea ev y_Model_printed w_Model_printed (rmD (d + 1)) [.ref (ad 0), .int p1] T0 r0 T9 := by
  intro sz
  refine Met.ofW (cc := b_Model_printed) (maxL := 2) (ret := (some .int)) (by decide) rfl ?_
  intro p e s m args below meth c s₁ B hml hv
  obtain ⟨rfl, hsz, hP, hK, hD0, hnw, henv⟩ := hv
  have hx := B.exec
  have hb := B.bytes
  have hr := B.returns
  have hT : ∀ w ∈ lw_good, w.before _ s = true := fun w h => atoms_spec (ws := w_Model_printed) B.pre w (List.mem_cons_of_mem _ h)
  have hown : s.vm.findClass R_Model = some m.cls := findClass_of_methodNamed B.named
  subst hsz
  have hD := hD0.self (sz := s.heap.size)
  clear hD0
  generalize hAe : va_A (gW LM ad km T0) s.heap.size = A at hD henv ⊢
  have hA : ∀ q : Nat, s.heap.size ≤ q → A q := fun q h => by rw [← hAe]; exact Or.inr h
  have hS : va_S A s.heap s.heap [] := va_S.rf
  have hl := lv_entry ([.ref (ad 0), .int p1]) (n := 2) (Nat.le_of_ble_eq_true rfl)
  rw [lg_entry_eq]
  generalize (lg_sl ([.ref (ad 0), .int p1]) ++ List.replicate (2 - (lg_sl ([.ref (ad 0), .int p1])).length) Slot.unset).toArray = ls at hl ⊢
  have hl : lv_has ls 2 [(0, .ref (ad 0)), (1, .int p1)] := hl
  unfold rb_Model_printed at hR
  refine lv_iload_n hx hb d_Model_printed_0 rfl (lv_at hl 1 rfl) ?_
  refine lv_if_lt (tgt := 19) hx hb d_Model_printed_1 (by decide) (fun c1 => ?_) (fun c1 => ?_)
  · replace hR := if_p c1 hR
    refine lv_iconst (v := 0) hx hb d_Model_printed_19 (by decide) ?_
    refine lv_goto (tgt := 29) hx hb d_Model_printed_20 (by decide) ?_
    obtain ⟨e1, -, e3⟩ := re_e hR
    subst e1; subst e3
    exact W.iret (v := (0 : Int32)) hx hb hr (fun t ht hW => ⟨⟨(0 : Int32), (), rfl, rfl, by rw [ht]; exact hP, va_K.moved hW.alike hK, hD⟩, hS.F ht⟩) hS.2.2 d_Model_printed_29
  · replace hR := if_n c1 hR
    refine lv_iload_n hx hb d_Model_printed_4 rfl (lv_at hl 1 rfl) ?_
    refine lv_aload_n hx hb d_Model_printed_5 rfl (lv_at hl 0 rfl) ?_
    refine rd_Model_811 hx hb hT hown hK hP d_Model_printed_6 ?_
    refine lv_icmp_ge (tgt := 19) hx hb d_Model_printed_9 (by decide) (fun c3 => ?_) (fun c3 => ?_)
    · replace hR := if_p c3 hR
      refine lv_iconst (v := 0) hx hb d_Model_printed_19 (by decide) ?_
      refine lv_goto (tgt := 29) hx hb d_Model_printed_20 (by decide) ?_
      obtain ⟨e1, -, e3⟩ := re_e hR
      subst e1; subst e3
      exact W.iret (v := (0 : Int32)) hx hb hr (fun t ht hW => ⟨⟨(0 : Int32), (), rfl, rfl, by rw [ht]; exact hP, va_K.moved hW.alike hK, hD⟩, hS.F ht⟩) hS.2.2 d_Model_printed_29
    · replace hR := if_n c3 hR
      refine lv_iload_n hx hb d_Model_printed_12 rfl (lv_at hl 1 rfl) ?_
      refine lv_sipush (v := 300) hx hb d_Model_printed_13 (by decide) ?_
      refine lv_icmp_lt (tgt := 23) hx hb d_Model_printed_16 (by decide) (fun c5 => ?_) (fun c5 => ?_)
      · replace hR := if_p c5 hR
        refine lv_aload_n hx hb d_Model_printed_23 rfl (lv_at hl 0 rfl) ?_
        refine rd_Model_310 hx hb hT hown hK hP d_Model_printed_24 ?_
        refine lv_iload_n hx hb d_Model_printed_27 rfl (lv_at hl 1 rfl) ?_
        replace hR := gd_e hR
        obtain ⟨b6, hR⟩ := hR
        refine laM_98 hx hb hK hP b6 d_Model_printed_28 ?_
        obtain ⟨e1, -, e3⟩ := re_e hR
        subst e1; subst e3
        exact W.iret (v := T0.1 152 p1.toNatClampNeg) hx hb hr (fun t ht hW => ⟨⟨T0.1 152 p1.toNatClampNeg, (), rfl, rfl, by rw [ht]; exact hP, va_K.moved hW.alike hK, hD⟩, hS.F ht⟩) hS.2.2 d_Model_printed_29
      · replace hR := if_n c5 hR
        refine lv_iconst (v := 0) hx hb d_Model_printed_19 (by decide) ?_
        refine lv_goto (tgt := 29) hx hb d_Model_printed_20 (by decide) ?_
        obtain ⟨e1, -, e3⟩ := re_e hR
        subst e1; subst e3
        exact W.iret (v := (0 : Int32)) hx hb hr (fun t ht hW => ⟨⟨(0 : Int32), (), rfl, rfl, by rw [ht]; exact hP, va_K.moved hW.alike hK, hD⟩, hS.F ht⟩) hS.2.2 d_Model_printed_29
