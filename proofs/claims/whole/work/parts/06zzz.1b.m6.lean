abbrev b_Model_layExpression : ByteArray := prog_14_method_106_code
abbrev y_Model_layExpression : MethodName := ⟨R_Model, "layExpression", "(I)V"⟩
theorem co_Model_layExpression : Cond.code y_Model_layExpression b_Model_layExpression 4 none ∈ lw_good := lg_in (tin_12 _ (List.mem_of_getElem? (i := 78) rfl)) rfl
abbrev w_Model_layExpression : List Cond := Cond.code y_Model_layExpression b_Model_layExpression 4 none :: lw_good
theorem im_Model_layExpression : Cond.instanceMethod y_Model_layExpression ∈ lw_good := lg_right (i := 2717) (by decide +kernel) rfl
theorem se_Model_layExpression : Cond.selects R_Model y_Model_layExpression y_Model_layExpression ∈ lw_good := lg_left (i := 206) (by decide +kernel) rfl
theorem d_Model_layExpression_0 : decode b_Model_layExpression 0 = .ok (.aload_n 0, 1) := by decide +kernel
theorem d_Model_layExpression_1 : decode b_Model_layExpression 1 = .ok (.getfield 717, 3) := by decide +kernel
theorem d_Model_layExpression_4 : decode b_Model_layExpression 4 = .ok (.istore_n 2, 1) := by decide +kernel
theorem d_Model_layExpression_5 : decode b_Model_layExpression 5 = .ok (.iload_n 1, 1) := by decide +kernel
theorem d_Model_layExpression_6 : decode b_Model_layExpression 6 = .ok (.istore_n 3, 1) := by decide +kernel
theorem d_Model_layExpression_7 : decode b_Model_layExpression 7 = .ok (.aload_n 0, 1) := by decide +kernel
theorem d_Model_layExpression_8 : decode b_Model_layExpression 8 = .ok (.getfield 120, 3) := by decide +kernel
theorem d_Model_layExpression_11 : decode b_Model_layExpression 11 = .ok (.iload_n 3, 1) := by decide +kernel
theorem d_Model_layExpression_12 : decode b_Model_layExpression 12 = .ok (.iaload, 1) := by decide +kernel
theorem d_Model_layExpression_13 : decode b_Model_layExpression 13 = .ok (.invokestatic 720, 3) := by decide +kernel
theorem d_Model_layExpression_16 : decode b_Model_layExpression 16 = .ok (.ifCond .eq 33, 3) := by decide +kernel
theorem d_Model_layExpression_19 : decode b_Model_layExpression 19 = .ok (.aload_n 0, 1) := by decide +kernel
theorem d_Model_layExpression_20 : decode b_Model_layExpression 20 = .ok (.getfield 192, 3) := by decide +kernel
theorem d_Model_layExpression_23 : decode b_Model_layExpression 23 = .ok (.aload_n 0, 1) := by decide +kernel
theorem d_Model_layExpression_24 : decode b_Model_layExpression 24 = .ok (.getfield 717, 3) := by decide +kernel
theorem d_Model_layExpression_27 : decode b_Model_layExpression 27 = .ok (.iload_n 3, 1) := by decide +kernel
theorem d_Model_layExpression_28 : decode b_Model_layExpression 28 = .ok (.iastore, 1) := by decide +kernel
theorem d_Model_layExpression_29 : decode b_Model_layExpression 29 = .ok (.aload_n 0, 1) := by decide +kernel
theorem d_Model_layExpression_30 : decode b_Model_layExpression 30 = .ok (.dup, 1) := by decide +kernel
theorem d_Model_layExpression_31 : decode b_Model_layExpression 31 = .ok (.getfield 717, 3) := by decide +kernel
theorem d_Model_layExpression_34 : decode b_Model_layExpression 34 = .ok (.iconst 1, 1) := by decide +kernel
theorem d_Model_layExpression_35 : decode b_Model_layExpression 35 = .ok (.iadd, 1) := by decide +kernel
theorem d_Model_layExpression_36 : decode b_Model_layExpression 36 = .ok (.putfield 717, 3) := by decide +kernel
theorem d_Model_layExpression_39 : decode b_Model_layExpression 39 = .ok (.aload_n 0, 1) := by decide +kernel
theorem d_Model_layExpression_40 : decode b_Model_layExpression 40 = .ok (.getfield 126, 3) := by decide +kernel
theorem d_Model_layExpression_43 : decode b_Model_layExpression 43 = .ok (.iload_n 3, 1) := by decide +kernel
theorem d_Model_layExpression_44 : decode b_Model_layExpression 44 = .ok (.iaload, 1) := by decide +kernel
theorem d_Model_layExpression_45 : decode b_Model_layExpression 45 = .ok (.istore_n 3, 1) := by decide +kernel
theorem d_Model_layExpression_46 : decode b_Model_layExpression 46 = .ok (.goto (-39), 3) := by decide +kernel
theorem d_Model_layExpression_49 : decode b_Model_layExpression 49 = .ok (.aload_n 0, 1) := by decide +kernel
theorem d_Model_layExpression_50 : decode b_Model_layExpression 50 = .ok (.iload_n 3, 1) := by decide +kernel
theorem d_Model_layExpression_51 : decode b_Model_layExpression 51 = .ok (.invokevirtual 790, 3) := by decide +kernel
theorem ml_Model_790 : Cond.methodLink R_Model 790 ⟨"PointerHouseModel", "layFirst", "(I)V"⟩ ∈ lw_good := lg_right (i := 2719) (by decide +kernel) rfl
theorem d_Model_layExpression_54 : decode b_Model_layExpression 54 = .ok (.aload_n 0, 1) := by decide +kernel
theorem d_Model_layExpression_55 : decode b_Model_layExpression 55 = .ok (.getfield 717, 3) := by decide +kernel
theorem d_Model_layExpression_58 : decode b_Model_layExpression 58 = .ok (.iload_n 2, 1) := by decide +kernel
theorem d_Model_layExpression_59 : decode b_Model_layExpression 59 = .ok (.if_icmp .le 29, 3) := by decide +kernel
theorem d_Model_layExpression_62 : decode b_Model_layExpression 62 = .ok (.aload_n 0, 1) := by decide +kernel
theorem d_Model_layExpression_63 : decode b_Model_layExpression 63 = .ok (.dup, 1) := by decide +kernel
theorem d_Model_layExpression_64 : decode b_Model_layExpression 64 = .ok (.getfield 717, 3) := by decide +kernel
theorem d_Model_layExpression_67 : decode b_Model_layExpression 67 = .ok (.iconst 1, 1) := by decide +kernel
theorem d_Model_layExpression_68 : decode b_Model_layExpression 68 = .ok (.isub, 1) := by decide +kernel
theorem d_Model_layExpression_69 : decode b_Model_layExpression 69 = .ok (.putfield 717, 3) := by decide +kernel
theorem d_Model_layExpression_72 : decode b_Model_layExpression 72 = .ok (.aload_n 0, 1) := by decide +kernel
theorem d_Model_layExpression_73 : decode b_Model_layExpression 73 = .ok (.aload_n 0, 1) := by decide +kernel
theorem d_Model_layExpression_74 : decode b_Model_layExpression 74 = .ok (.getfield 192, 3) := by decide +kernel
theorem d_Model_layExpression_77 : decode b_Model_layExpression 77 = .ok (.aload_n 0, 1) := by decide +kernel
theorem d_Model_layExpression_78 : decode b_Model_layExpression 78 = .ok (.getfield 717, 3) := by decide +kernel
theorem d_Model_layExpression_81 : decode b_Model_layExpression 81 = .ok (.iaload, 1) := by decide +kernel
theorem d_Model_layExpression_82 : decode b_Model_layExpression 82 = .ok (.invokevirtual 793, 3) := by decide +kernel
theorem ml_Model_793 : Cond.methodLink R_Model 793 ⟨"PointerHouseModel", "layBehind", "(I)V"⟩ ∈ lw_good := lg_right (i := 2727) (by decide +kernel) rfl
theorem d_Model_layExpression_85 : decode b_Model_layExpression 85 = .ok (.goto (-31), 3) := by decide +kernel
theorem d_Model_layExpression_88 : decode b_Model_layExpression 88 = .ok (.return_, 1) := by decide +kernel
abbrev b_Model_layPlace : ByteArray := prog_14_method_104_code
abbrev y_Model_layPlace : MethodName := ⟨R_Model, "layPlace", "(I)V"⟩
theorem co_Model_layPlace : Cond.code y_Model_layPlace b_Model_layPlace 2 none ∈ lw_good := lg_in (tin_12 _ (List.mem_of_getElem? (i := 94) rfl)) rfl
abbrev w_Model_layPlace : List Cond := Cond.code y_Model_layPlace b_Model_layPlace 2 none :: lw_good
theorem im_Model_layPlace : Cond.instanceMethod y_Model_layPlace ∈ lw_good := lg_right (i := 2733) (by decide +kernel) rfl
theorem se_Model_layPlace : Cond.selects R_Model y_Model_layPlace y_Model_layPlace ∈ lw_good := lg_left (i := 210) (by decide +kernel) rfl
theorem d_Model_layPlace_0 : decode b_Model_layPlace 0 = .ok (.aload_n 0, 1) := by decide +kernel
theorem d_Model_layPlace_1 : decode b_Model_layPlace 1 = .ok (.getfield 120, 3) := by decide +kernel
theorem d_Model_layPlace_4 : decode b_Model_layPlace 4 = .ok (.iload_n 1, 1) := by decide +kernel
theorem d_Model_layPlace_5 : decode b_Model_layPlace 5 = .ok (.iaload, 1) := by decide +kernel
theorem d_Model_layPlace_6 : decode b_Model_layPlace 6 = .ok (.iconst 4, 1) := by decide +kernel
theorem d_Model_layPlace_7 : decode b_Model_layPlace 7 = .ok (.if_icmp .ne 19, 3) := by decide +kernel
theorem d_Model_layPlace_10 : decode b_Model_layPlace 10 = .ok (.aload_n 0, 1) := by decide +kernel
theorem d_Model_layPlace_11 : decode b_Model_layPlace 11 = .ok (.bipush 22, 2) := by decide +kernel
theorem d_Model_layPlace_13 : decode b_Model_layPlace 13 = .ok (.aload_n 0, 1) := by decide +kernel
theorem d_Model_layPlace_14 : decode b_Model_layPlace 14 = .ok (.getfield 153, 3) := by decide +kernel
theorem d_Model_layPlace_17 : decode b_Model_layPlace 17 = .ok (.iload_n 1, 1) := by decide +kernel
theorem d_Model_layPlace_18 : decode b_Model_layPlace 18 = .ok (.iaload, 1) := by decide +kernel
theorem d_Model_layPlace_19 : decode b_Model_layPlace 19 = .ok (.iconst 0, 1) := by decide +kernel
theorem d_Model_layPlace_20 : decode b_Model_layPlace 20 = .ok (.iconst 0, 1) := by decide +kernel
theorem d_Model_layPlace_21 : decode b_Model_layPlace 21 = .ok (.invokevirtual 777, 3) := by decide +kernel
theorem d_Model_layPlace_24 : decode b_Model_layPlace 24 = .ok (.pop, 1) := by decide +kernel
theorem d_Model_layPlace_25 : decode b_Model_layPlace 25 = .ok (.return_, 1) := by decide +kernel
theorem d_Model_layPlace_26 : decode b_Model_layPlace 26 = .ok (.aload_n 0, 1) := by decide +kernel
theorem d_Model_layPlace_27 : decode b_Model_layPlace 27 = .ok (.aload_n 0, 1) := by decide +kernel
theorem d_Model_layPlace_28 : decode b_Model_layPlace 28 = .ok (.getfield 126, 3) := by decide +kernel
theorem d_Model_layPlace_31 : decode b_Model_layPlace 31 = .ok (.iload_n 1, 1) := by decide +kernel
theorem d_Model_layPlace_32 : decode b_Model_layPlace 32 = .ok (.iaload, 1) := by decide +kernel
theorem d_Model_layPlace_33 : decode b_Model_layPlace 33 = .ok (.invokevirtual 784, 3) := by decide +kernel
theorem d_Model_layPlace_36 : decode b_Model_layPlace 36 = .ok (.aload_n 0, 1) := by decide +kernel
theorem d_Model_layPlace_37 : decode b_Model_layPlace 37 = .ok (.getfield 120, 3) := by decide +kernel
theorem d_Model_layPlace_40 : decode b_Model_layPlace 40 = .ok (.iload_n 1, 1) := by decide +kernel
theorem d_Model_layPlace_41 : decode b_Model_layPlace 41 = .ok (.iaload, 1) := by decide +kernel
theorem d_Model_layPlace_42 : decode b_Model_layPlace 42 = .ok (.bipush 15, 2) := by decide +kernel
theorem d_Model_layPlace_44 : decode b_Model_layPlace 44 = .ok (.if_icmp .ne 26, 3) := by decide +kernel
theorem d_Model_layPlace_47 : decode b_Model_layPlace 47 = .ok (.aload_n 0, 1) := by decide +kernel
theorem d_Model_layPlace_48 : decode b_Model_layPlace 48 = .ok (.aload_n 0, 1) := by decide +kernel
theorem d_Model_layPlace_49 : decode b_Model_layPlace 49 = .ok (.getfield 129, 3) := by decide +kernel
theorem d_Model_layPlace_52 : decode b_Model_layPlace 52 = .ok (.iload_n 1, 1) := by decide +kernel
theorem d_Model_layPlace_53 : decode b_Model_layPlace 53 = .ok (.iaload, 1) := by decide +kernel
theorem d_Model_layPlace_54 : decode b_Model_layPlace 54 = .ok (.invokevirtual 784, 3) := by decide +kernel
theorem d_Model_layPlace_57 : decode b_Model_layPlace 57 = .ok (.aload_n 0, 1) := by decide +kernel
theorem d_Model_layPlace_58 : decode b_Model_layPlace 58 = .ok (.bipush 24, 2) := by decide +kernel
theorem d_Model_layPlace_60 : decode b_Model_layPlace 60 = .ok (.iconst 0, 1) := by decide +kernel
theorem d_Model_layPlace_61 : decode b_Model_layPlace 61 = .ok (.iconst 0, 1) := by decide +kernel
theorem d_Model_layPlace_62 : decode b_Model_layPlace 62 = .ok (.iconst 0, 1) := by decide +kernel
theorem d_Model_layPlace_63 : decode b_Model_layPlace 63 = .ok (.invokevirtual 777, 3) := by decide +kernel
theorem d_Model_layPlace_66 : decode b_Model_layPlace 66 = .ok (.pop, 1) := by decide +kernel
theorem d_Model_layPlace_67 : decode b_Model_layPlace 67 = .ok (.goto 62, 3) := by decide +kernel
theorem d_Model_layPlace_70 : decode b_Model_layPlace 70 = .ok (.aload_n 0, 1) := by decide +kernel
theorem d_Model_layPlace_71 : decode b_Model_layPlace 71 = .ok (.getfield 120, 3) := by decide +kernel
theorem d_Model_layPlace_74 : decode b_Model_layPlace 74 = .ok (.iload_n 1, 1) := by decide +kernel
theorem d_Model_layPlace_75 : decode b_Model_layPlace 75 = .ok (.iaload, 1) := by decide +kernel
theorem d_Model_layPlace_76 : decode b_Model_layPlace 76 = .ok (.bipush 14, 2) := by decide +kernel
theorem d_Model_layPlace_78 : decode b_Model_layPlace 78 = .ok (.if_icmp .ne 41, 3) := by decide +kernel
theorem d_Model_layPlace_81 : decode b_Model_layPlace 81 = .ok (.aload_n 0, 1) := by decide +kernel
theorem d_Model_layPlace_82 : decode b_Model_layPlace 82 = .ok (.bipush 23, 2) := by decide +kernel
theorem d_Model_layPlace_84 : decode b_Model_layPlace 84 = .ok (.aload_n 0, 1) := by decide +kernel
theorem d_Model_layPlace_85 : decode b_Model_layPlace 85 = .ok (.getfield 153, 3) := by decide +kernel
theorem d_Model_layPlace_88 : decode b_Model_layPlace 88 = .ok (.iload_n 1, 1) := by decide +kernel
theorem d_Model_layPlace_89 : decode b_Model_layPlace 89 = .ok (.iaload, 1) := by decide +kernel
theorem d_Model_layPlace_90 : decode b_Model_layPlace 90 = .ok (.aload_n 0, 1) := by decide +kernel
theorem d_Model_layPlace_91 : decode b_Model_layPlace 91 = .ok (.getfield 17, 3) := by decide +kernel
theorem d_Model_layPlace_94 : decode b_Model_layPlace 94 = .ok (.aload_n 0, 1) := by decide +kernel
theorem d_Model_layPlace_95 : decode b_Model_layPlace 95 = .ok (.getfield 165, 3) := by decide +kernel
theorem d_Model_layPlace_98 : decode b_Model_layPlace 98 = .ok (.aload_n 0, 1) := by decide +kernel
theorem d_Model_layPlace_99 : decode b_Model_layPlace 99 = .ok (.getfield 150, 3) := by decide +kernel
theorem d_Model_layPlace_102 : decode b_Model_layPlace 102 = .ok (.aload_n 0, 1) := by decide +kernel
theorem d_Model_layPlace_103 : decode b_Model_layPlace 103 = .ok (.getfield 126, 3) := by decide +kernel
theorem d_Model_layPlace_106 : decode b_Model_layPlace 106 = .ok (.iload_n 1, 1) := by decide +kernel
theorem d_Model_layPlace_107 : decode b_Model_layPlace 107 = .ok (.iaload, 1) := by decide +kernel
theorem d_Model_layPlace_108 : decode b_Model_layPlace 108 = .ok (.iaload, 1) := by decide +kernel
theorem d_Model_layPlace_109 : decode b_Model_layPlace 109 = .ok (.iaload, 1) := by decide +kernel
theorem d_Model_layPlace_110 : decode b_Model_layPlace 110 = .ok (.iaload, 1) := by decide +kernel
theorem d_Model_layPlace_111 : decode b_Model_layPlace 111 = .ok (.iconst 0, 1) := by decide +kernel
theorem d_Model_layPlace_112 : decode b_Model_layPlace 112 = .ok (.invokevirtual 777, 3) := by decide +kernel
theorem d_Model_layPlace_115 : decode b_Model_layPlace 115 = .ok (.pop, 1) := by decide +kernel
theorem d_Model_layPlace_116 : decode b_Model_layPlace 116 = .ok (.goto 13, 3) := by decide +kernel
theorem d_Model_layPlace_119 : decode b_Model_layPlace 119 = .ok (.aload_n 0, 1) := by decide +kernel
theorem d_Model_layPlace_120 : decode b_Model_layPlace 120 = .ok (.bipush 25, 2) := by decide +kernel
theorem d_Model_layPlace_122 : decode b_Model_layPlace 122 = .ok (.iconst 0, 1) := by decide +kernel
theorem d_Model_layPlace_123 : decode b_Model_layPlace 123 = .ok (.iconst 0, 1) := by decide +kernel
theorem d_Model_layPlace_124 : decode b_Model_layPlace 124 = .ok (.iconst 0, 1) := by decide +kernel
theorem d_Model_layPlace_125 : decode b_Model_layPlace 125 = .ok (.invokevirtual 777, 3) := by decide +kernel
theorem d_Model_layPlace_128 : decode b_Model_layPlace 128 = .ok (.pop, 1) := by decide +kernel
theorem d_Model_layPlace_129 : decode b_Model_layPlace 129 = .ok (.return_, 1) := by decide +kernel
abbrev b_Model_wordsOf : ByteArray := prog_14_method_105_code
abbrev y_Model_wordsOf : MethodName := ⟨R_Model, "wordsOf", "(I)I"⟩
theorem co_Model_wordsOf : Cond.code y_Model_wordsOf b_Model_wordsOf 2 (some .int) ∈ lw_good := lg_in (tin_12 _ (List.mem_of_getElem? (i := 86) rfl)) rfl
abbrev w_Model_wordsOf : List Cond := Cond.code y_Model_wordsOf b_Model_wordsOf 2 (some .int) :: lw_good
theorem im_Model_wordsOf : Cond.instanceMethod y_Model_wordsOf ∈ lw_good := lg_right (i := 2725) (by decide +kernel) rfl
theorem se_Model_wordsOf : Cond.selects R_Model y_Model_wordsOf y_Model_wordsOf ∈ lw_good := lg_left (i := 208) (by decide +kernel) rfl
theorem d_Model_wordsOf_0 : decode b_Model_wordsOf 0 = .ok (.aload_n 0, 1) := by decide +kernel
theorem d_Model_wordsOf_1 : decode b_Model_wordsOf 1 = .ok (.iload_n 1, 1) := by decide +kernel
theorem d_Model_wordsOf_2 : decode b_Model_wordsOf 2 = .ok (.invokevirtual 744, 3) := by decide +kernel
theorem d_Model_wordsOf_5 : decode b_Model_wordsOf 5 = .ok (.ifCond .eq 7, 3) := by decide +kernel
theorem d_Model_wordsOf_8 : decode b_Model_wordsOf 8 = .ok (.iconst 3, 1) := by decide +kernel
theorem d_Model_wordsOf_9 : decode b_Model_wordsOf 9 = .ok (.goto 4, 3) := by decide +kernel
theorem d_Model_wordsOf_12 : decode b_Model_wordsOf 12 = .ok (.iconst 1, 1) := by decide +kernel
theorem d_Model_wordsOf_13 : decode b_Model_wordsOf 13 = .ok (.ireturn, 1) := by decide +kernel
abbrev b_Model_layFirst : ByteArray := prog_14_method_108_code
abbrev y_Model_layFirst : MethodName := ⟨R_Model, "layFirst", "(I)V"⟩
theorem co_Model_layFirst : Cond.code y_Model_layFirst b_Model_layFirst 3 none ∈ lw_good := lg_in (tin_12 _ (List.mem_of_getElem? (i := 82) rfl)) rfl
abbrev w_Model_layFirst : List Cond := Cond.code y_Model_layFirst b_Model_layFirst 3 none :: lw_good
theorem im_Model_layFirst : Cond.instanceMethod y_Model_layFirst ∈ lw_good := lg_right (i := 2721) (by decide +kernel) rfl
theorem se_Model_layFirst : Cond.selects R_Model y_Model_layFirst y_Model_layFirst ∈ lw_good := lg_left (i := 207) (by decide +kernel) rfl
theorem d_Model_layFirst_0 : decode b_Model_layFirst 0 = .ok (.aload_n 0, 1) := by decide +kernel
theorem d_Model_layFirst_1 : decode b_Model_layFirst 1 = .ok (.getfield 120, 3) := by decide +kernel
theorem d_Model_layFirst_4 : decode b_Model_layFirst 4 = .ok (.iload_n 1, 1) := by decide +kernel
theorem d_Model_layFirst_5 : decode b_Model_layFirst 5 = .ok (.iaload, 1) := by decide +kernel
theorem d_Model_layFirst_6 : decode b_Model_layFirst 6 = .ok (.tableswitch 485 0 11 #[62, 77, 87, 97, 112, 127, 179, 241, 297, 342, 397, 464], 62) := by decide +kernel
theorem d_Model_layFirst_68 : decode b_Model_layFirst 68 = .ok (.aload_n 0, 1) := by decide +kernel
theorem d_Model_layFirst_69 : decode b_Model_layFirst 69 = .ok (.iconst 1, 1) := by decide +kernel
theorem d_Model_layFirst_70 : decode b_Model_layFirst 70 = .ok (.aload_n 0, 1) := by decide +kernel
theorem d_Model_layFirst_71 : decode b_Model_layFirst 71 = .ok (.getfield 126, 3) := by decide +kernel
theorem d_Model_layFirst_74 : decode b_Model_layFirst 74 = .ok (.iload_n 1, 1) := by decide +kernel
theorem d_Model_layFirst_75 : decode b_Model_layFirst 75 = .ok (.iaload, 1) := by decide +kernel
theorem d_Model_layFirst_76 : decode b_Model_layFirst 76 = .ok (.iconst 0, 1) := by decide +kernel
theorem d_Model_layFirst_77 : decode b_Model_layFirst 77 = .ok (.iconst 0, 1) := by decide +kernel
theorem d_Model_layFirst_78 : decode b_Model_layFirst 78 = .ok (.invokevirtual 777, 3) := by decide +kernel
theorem d_Model_layFirst_81 : decode b_Model_layFirst 81 = .ok (.pop, 1) := by decide +kernel
theorem d_Model_layFirst_82 : decode b_Model_layFirst 82 = .ok (.return_, 1) := by decide +kernel
theorem d_Model_layFirst_83 : decode b_Model_layFirst 83 = .ok (.aload_n 0, 1) := by decide +kernel
theorem d_Model_layFirst_84 : decode b_Model_layFirst 84 = .ok (.iconst 2, 1) := by decide +kernel
theorem d_Model_layFirst_85 : decode b_Model_layFirst 85 = .ok (.iconst 0, 1) := by decide +kernel
theorem d_Model_layFirst_86 : decode b_Model_layFirst 86 = .ok (.iconst 0, 1) := by decide +kernel
theorem d_Model_layFirst_87 : decode b_Model_layFirst 87 = .ok (.iconst 0, 1) := by decide +kernel
theorem d_Model_layFirst_88 : decode b_Model_layFirst 88 = .ok (.invokevirtual 777, 3) := by decide +kernel
theorem d_Model_layFirst_91 : decode b_Model_layFirst 91 = .ok (.pop, 1) := by decide +kernel
theorem d_Model_layFirst_92 : decode b_Model_layFirst 92 = .ok (.return_, 1) := by decide +kernel
theorem d_Model_layFirst_93 : decode b_Model_layFirst 93 = .ok (.aload_n 0, 1) := by decide +kernel
theorem d_Model_layFirst_94 : decode b_Model_layFirst 94 = .ok (.iconst 3, 1) := by decide +kernel
theorem d_Model_layFirst_95 : decode b_Model_layFirst 95 = .ok (.iconst 0, 1) := by decide +kernel
theorem d_Model_layFirst_96 : decode b_Model_layFirst 96 = .ok (.iconst 0, 1) := by decide +kernel
theorem d_Model_layFirst_97 : decode b_Model_layFirst 97 = .ok (.iconst 0, 1) := by decide +kernel
theorem d_Model_layFirst_98 : decode b_Model_layFirst 98 = .ok (.invokevirtual 777, 3) := by decide +kernel
theorem d_Model_layFirst_101 : decode b_Model_layFirst 101 = .ok (.pop, 1) := by decide +kernel
theorem d_Model_layFirst_102 : decode b_Model_layFirst 102 = .ok (.return_, 1) := by decide +kernel
theorem d_Model_layFirst_103 : decode b_Model_layFirst 103 = .ok (.aload_n 0, 1) := by decide +kernel
theorem d_Model_layFirst_104 : decode b_Model_layFirst 104 = .ok (.iconst 4, 1) := by decide +kernel
theorem d_Model_layFirst_105 : decode b_Model_layFirst 105 = .ok (.aload_n 0, 1) := by decide +kernel
theorem d_Model_layFirst_106 : decode b_Model_layFirst 106 = .ok (.getfield 153, 3) := by decide +kernel
theorem d_Model_layFirst_109 : decode b_Model_layFirst 109 = .ok (.iload_n 1, 1) := by decide +kernel
theorem d_Model_layFirst_110 : decode b_Model_layFirst 110 = .ok (.iaload, 1) := by decide +kernel
theorem d_Model_layFirst_111 : decode b_Model_layFirst 111 = .ok (.iconst 0, 1) := by decide +kernel
theorem d_Model_layFirst_112 : decode b_Model_layFirst 112 = .ok (.iconst 0, 1) := by decide +kernel
theorem d_Model_layFirst_113 : decode b_Model_layFirst 113 = .ok (.invokevirtual 777, 3) := by decide +kernel
theorem d_Model_layFirst_116 : decode b_Model_layFirst 116 = .ok (.pop, 1) := by decide +kernel
theorem d_Model_layFirst_117 : decode b_Model_layFirst 117 = .ok (.return_, 1) := by decide +kernel
theorem d_Model_layFirst_118 : decode b_Model_layFirst 118 = .ok (.aload_n 0, 1) := by decide +kernel
theorem d_Model_layFirst_119 : decode b_Model_layFirst 119 = .ok (.iconst 5, 1) := by decide +kernel
theorem d_Model_layFirst_120 : decode b_Model_layFirst 120 = .ok (.aload_n 0, 1) := by decide +kernel
theorem d_Model_layFirst_121 : decode b_Model_layFirst 121 = .ok (.getfield 153, 3) := by decide +kernel
theorem d_Model_layFirst_124 : decode b_Model_layFirst 124 = .ok (.iload_n 1, 1) := by decide +kernel
theorem d_Model_layFirst_125 : decode b_Model_layFirst 125 = .ok (.iaload, 1) := by decide +kernel
theorem d_Model_layFirst_126 : decode b_Model_layFirst 126 = .ok (.iconst 0, 1) := by decide +kernel
theorem d_Model_layFirst_127 : decode b_Model_layFirst 127 = .ok (.iconst 0, 1) := by decide +kernel
theorem d_Model_layFirst_128 : decode b_Model_layFirst 128 = .ok (.invokevirtual 777, 3) := by decide +kernel
theorem d_Model_layFirst_131 : decode b_Model_layFirst 131 = .ok (.pop, 1) := by decide +kernel
theorem d_Model_layFirst_132 : decode b_Model_layFirst 132 = .ok (.return_, 1) := by decide +kernel
theorem d_Model_layFirst_133 : decode b_Model_layFirst 133 = .ok (.aload_n 0, 1) := by decide +kernel
theorem d_Model_layFirst_134 : decode b_Model_layFirst 134 = .ok (.getfield 126, 3) := by decide +kernel
theorem d_Model_layFirst_137 : decode b_Model_layFirst 137 = .ok (.iload_n 1, 1) := by decide +kernel
theorem d_Model_layFirst_138 : decode b_Model_layFirst 138 = .ok (.iaload, 1) := by decide +kernel
theorem d_Model_layFirst_139 : decode b_Model_layFirst 139 = .ok (.istore_n 2, 1) := by decide +kernel
theorem d_Model_layFirst_140 : decode b_Model_layFirst 140 = .ok (.iload_n 2, 1) := by decide +kernel
theorem d_Model_layFirst_141 : decode b_Model_layFirst 141 = .ok (.ifCond .lt 23, 3) := by decide +kernel
theorem d_Model_layFirst_144 : decode b_Model_layFirst 144 = .ok (.aload_n 0, 1) := by decide +kernel
theorem d_Model_layFirst_145 : decode b_Model_layFirst 145 = .ok (.aload_n 0, 1) := by decide +kernel
theorem d_Model_layFirst_146 : decode b_Model_layFirst 146 = .ok (.getfield 126, 3) := by decide +kernel
theorem d_Model_layFirst_149 : decode b_Model_layFirst 149 = .ok (.iload_n 2, 1) := by decide +kernel
theorem d_Model_layFirst_150 : decode b_Model_layFirst 150 = .ok (.iaload, 1) := by decide +kernel
theorem d_Model_layFirst_151 : decode b_Model_layFirst 151 = .ok (.invokevirtual 784, 3) := by decide +kernel
theorem d_Model_layFirst_154 : decode b_Model_layFirst 154 = .ok (.aload_n 0, 1) := by decide +kernel
theorem d_Model_layFirst_155 : decode b_Model_layFirst 155 = .ok (.getfield 135, 3) := by decide +kernel
theorem d_Model_layFirst_158 : decode b_Model_layFirst 158 = .ok (.iload_n 2, 1) := by decide +kernel
theorem d_Model_layFirst_159 : decode b_Model_layFirst 159 = .ok (.iaload, 1) := by decide +kernel
theorem d_Model_layFirst_160 : decode b_Model_layFirst 160 = .ok (.istore_n 2, 1) := by decide +kernel
theorem d_Model_layFirst_161 : decode b_Model_layFirst 161 = .ok (.goto (-21), 3) := by decide +kernel
theorem d_Model_layFirst_164 : decode b_Model_layFirst 164 = .ok (.aload_n 0, 1) := by decide +kernel
theorem d_Model_layFirst_165 : decode b_Model_layFirst 165 = .ok (.bipush 18, 2) := by decide +kernel
theorem d_Model_layFirst_167 : decode b_Model_layFirst 167 = .ok (.aload_n 0, 1) := by decide +kernel
theorem d_Model_layFirst_168 : decode b_Model_layFirst 168 = .ok (.getfield 153, 3) := by decide +kernel
theorem d_Model_layFirst_171 : decode b_Model_layFirst 171 = .ok (.iload_n 1, 1) := by decide +kernel
theorem d_Model_layFirst_172 : decode b_Model_layFirst 172 = .ok (.iaload, 1) := by decide +kernel
theorem d_Model_layFirst_173 : decode b_Model_layFirst 173 = .ok (.aload_n 0, 1) := by decide +kernel
theorem d_Model_layFirst_174 : decode b_Model_layFirst 174 = .ok (.getfield 144, 3) := by decide +kernel
theorem d_Model_layFirst_177 : decode b_Model_layFirst 177 = .ok (.iload_n 1, 1) := by decide +kernel
theorem d_Model_layFirst_178 : decode b_Model_layFirst 178 = .ok (.iaload, 1) := by decide +kernel
theorem d_Model_layFirst_179 : decode b_Model_layFirst 179 = .ok (.iconst 0, 1) := by decide +kernel
theorem d_Model_layFirst_180 : decode b_Model_layFirst 180 = .ok (.invokevirtual 777, 3) := by decide +kernel
theorem d_Model_layFirst_183 : decode b_Model_layFirst 183 = .ok (.pop, 1) := by decide +kernel
theorem d_Model_layFirst_184 : decode b_Model_layFirst 184 = .ok (.return_, 1) := by decide +kernel
theorem d_Model_layFirst_185 : decode b_Model_layFirst 185 = .ok (.aload_n 0, 1) := by decide +kernel
theorem d_Model_layFirst_186 : decode b_Model_layFirst 186 = .ok (.getfield 126, 3) := by decide +kernel
theorem d_Model_layFirst_189 : decode b_Model_layFirst 189 = .ok (.iload_n 1, 1) := by decide +kernel
theorem d_Model_layFirst_190 : decode b_Model_layFirst 190 = .ok (.iaload, 1) := by decide +kernel
theorem d_Model_layFirst_191 : decode b_Model_layFirst 191 = .ok (.istore_n 2, 1) := by decide +kernel
theorem d_Model_layFirst_192 : decode b_Model_layFirst 192 = .ok (.iload_n 2, 1) := by decide +kernel
theorem d_Model_layFirst_193 : decode b_Model_layFirst 193 = .ok (.ifCond .lt 23, 3) := by decide +kernel
theorem d_Model_layFirst_196 : decode b_Model_layFirst 196 = .ok (.aload_n 0, 1) := by decide +kernel
theorem d_Model_layFirst_197 : decode b_Model_layFirst 197 = .ok (.aload_n 0, 1) := by decide +kernel
theorem d_Model_layFirst_198 : decode b_Model_layFirst 198 = .ok (.getfield 126, 3) := by decide +kernel
theorem d_Model_layFirst_201 : decode b_Model_layFirst 201 = .ok (.iload_n 2, 1) := by decide +kernel
theorem d_Model_layFirst_202 : decode b_Model_layFirst 202 = .ok (.iaload, 1) := by decide +kernel
theorem d_Model_layFirst_203 : decode b_Model_layFirst 203 = .ok (.invokevirtual 784, 3) := by decide +kernel
theorem d_Model_layFirst_206 : decode b_Model_layFirst 206 = .ok (.aload_n 0, 1) := by decide +kernel
theorem d_Model_layFirst_207 : decode b_Model_layFirst 207 = .ok (.getfield 135, 3) := by decide +kernel
theorem d_Model_layFirst_210 : decode b_Model_layFirst 210 = .ok (.iload_n 2, 1) := by decide +kernel
theorem d_Model_layFirst_211 : decode b_Model_layFirst 211 = .ok (.iaload, 1) := by decide +kernel
theorem d_Model_layFirst_212 : decode b_Model_layFirst 212 = .ok (.istore_n 2, 1) := by decide +kernel
theorem d_Model_layFirst_213 : decode b_Model_layFirst 213 = .ok (.goto (-21), 3) := by decide +kernel
theorem d_Model_layFirst_216 : decode b_Model_layFirst 216 = .ok (.aload_n 0, 1) := by decide +kernel
theorem d_Model_layFirst_217 : decode b_Model_layFirst 217 = .ok (.bipush 16, 2) := by decide +kernel
theorem d_Model_layFirst_219 : decode b_Model_layFirst 219 = .ok (.aload_n 0, 1) := by decide +kernel
theorem d_Model_layFirst_220 : decode b_Model_layFirst 220 = .ok (.getfield 117, 3) := by decide +kernel
theorem d_Model_layFirst_223 : decode b_Model_layFirst 223 = .ok (.aload_n 0, 1) := by decide +kernel
theorem d_Model_layFirst_224 : decode b_Model_layFirst 224 = .ok (.getfield 132, 3) := by decide +kernel
theorem d_Model_layFirst_227 : decode b_Model_layFirst 227 = .ok (.iload_n 1, 1) := by decide +kernel
theorem d_Model_layFirst_228 : decode b_Model_layFirst 228 = .ok (.iaload, 1) := by decide +kernel
theorem d_Model_layFirst_229 : decode b_Model_layFirst 229 = .ok (.iaload, 1) := by decide +kernel
theorem d_Model_layFirst_230 : decode b_Model_layFirst 230 = .ok (.aload_n 0, 1) := by decide +kernel
theorem d_Model_layFirst_231 : decode b_Model_layFirst 231 = .ok (.getfield 165, 3) := by decide +kernel
theorem d_Model_layFirst_234 : decode b_Model_layFirst 234 = .ok (.aload_n 0, 1) := by decide +kernel
theorem d_Model_layFirst_235 : decode b_Model_layFirst 235 = .ok (.getfield 150, 3) := by decide +kernel
theorem d_Model_layFirst_238 : decode b_Model_layFirst 238 = .ok (.iload_n 1, 1) := by decide +kernel
theorem d_Model_layFirst_239 : decode b_Model_layFirst 239 = .ok (.iaload, 1) := by decide +kernel
theorem d_Model_layFirst_240 : decode b_Model_layFirst 240 = .ok (.iaload, 1) := by decide +kernel
theorem d_Model_layFirst_241 : decode b_Model_layFirst 241 = .ok (.iconst 0, 1) := by decide +kernel
theorem d_Model_layFirst_242 : decode b_Model_layFirst 242 = .ok (.invokevirtual 777, 3) := by decide +kernel
theorem d_Model_layFirst_245 : decode b_Model_layFirst 245 = .ok (.pop, 1) := by decide +kernel
theorem d_Model_layFirst_246 : decode b_Model_layFirst 246 = .ok (.return_, 1) := by decide +kernel
theorem d_Model_layFirst_247 : decode b_Model_layFirst 247 = .ok (.aload_n 0, 1) := by decide +kernel
theorem d_Model_layFirst_248 : decode b_Model_layFirst 248 = .ok (.aload_n 0, 1) := by decide +kernel
theorem d_Model_layFirst_249 : decode b_Model_layFirst 249 = .ok (.getfield 126, 3) := by decide +kernel
theorem d_Model_layFirst_252 : decode b_Model_layFirst 252 = .ok (.aload_n 0, 1) := by decide +kernel
theorem d_Model_layFirst_253 : decode b_Model_layFirst 253 = .ok (.getfield 126, 3) := by decide +kernel
theorem d_Model_layFirst_256 : decode b_Model_layFirst 256 = .ok (.iload_n 1, 1) := by decide +kernel
theorem d_Model_layFirst_257 : decode b_Model_layFirst 257 = .ok (.iaload, 1) := by decide +kernel
theorem d_Model_layFirst_258 : decode b_Model_layFirst 258 = .ok (.iaload, 1) := by decide +kernel
theorem d_Model_layFirst_259 : decode b_Model_layFirst 259 = .ok (.invokevirtual 784, 3) := by decide +kernel
theorem d_Model_layFirst_262 : decode b_Model_layFirst 262 = .ok (.aload_n 0, 1) := by decide +kernel
theorem d_Model_layFirst_263 : decode b_Model_layFirst 263 = .ok (.bipush 17, 2) := by decide +kernel
theorem d_Model_layFirst_265 : decode b_Model_layFirst 265 = .ok (.aload_n 0, 1) := by decide +kernel
theorem d_Model_layFirst_266 : decode b_Model_layFirst 266 = .ok (.getfield 117, 3) := by decide +kernel
theorem d_Model_layFirst_269 : decode b_Model_layFirst 269 = .ok (.aload_n 0, 1) := by decide +kernel
theorem d_Model_layFirst_270 : decode b_Model_layFirst 270 = .ok (.getfield 132, 3) := by decide +kernel
theorem d_Model_layFirst_273 : decode b_Model_layFirst 273 = .ok (.iload_n 1, 1) := by decide +kernel
theorem d_Model_layFirst_274 : decode b_Model_layFirst 274 = .ok (.iaload, 1) := by decide +kernel
theorem d_Model_layFirst_275 : decode b_Model_layFirst 275 = .ok (.iaload, 1) := by decide +kernel
theorem d_Model_layFirst_276 : decode b_Model_layFirst 276 = .ok (.aload_n 0, 1) := by decide +kernel
theorem d_Model_layFirst_277 : decode b_Model_layFirst 277 = .ok (.getfield 165, 3) := by decide +kernel
theorem d_Model_layFirst_280 : decode b_Model_layFirst 280 = .ok (.aload_n 0, 1) := by decide +kernel
theorem d_Model_layFirst_281 : decode b_Model_layFirst 281 = .ok (.getfield 150, 3) := by decide +kernel
theorem d_Model_layFirst_284 : decode b_Model_layFirst 284 = .ok (.iload_n 1, 1) := by decide +kernel
theorem d_Model_layFirst_285 : decode b_Model_layFirst 285 = .ok (.iaload, 1) := by decide +kernel
theorem d_Model_layFirst_286 : decode b_Model_layFirst 286 = .ok (.iaload, 1) := by decide +kernel
theorem d_Model_layFirst_287 : decode b_Model_layFirst 287 = .ok (.aload_n 0, 1) := by decide +kernel
theorem d_Model_layFirst_288 : decode b_Model_layFirst 288 = .ok (.getfield 153, 3) := by decide +kernel
theorem d_Model_layFirst_291 : decode b_Model_layFirst 291 = .ok (.aload_n 0, 1) := by decide +kernel
theorem d_Model_layFirst_292 : decode b_Model_layFirst 292 = .ok (.getfield 126, 3) := by decide +kernel
theorem d_Model_layFirst_295 : decode b_Model_layFirst 295 = .ok (.iload_n 1, 1) := by decide +kernel
theorem d_Model_layFirst_296 : decode b_Model_layFirst 296 = .ok (.iaload, 1) := by decide +kernel
theorem d_Model_layFirst_297 : decode b_Model_layFirst 297 = .ok (.iaload, 1) := by decide +kernel
theorem d_Model_layFirst_298 : decode b_Model_layFirst 298 = .ok (.invokevirtual 777, 3) := by decide +kernel
theorem d_Model_layFirst_301 : decode b_Model_layFirst 301 = .ok (.pop, 1) := by decide +kernel
theorem d_Model_layFirst_302 : decode b_Model_layFirst 302 = .ok (.return_, 1) := by decide +kernel
theorem d_Model_layFirst_303 : decode b_Model_layFirst 303 = .ok (.aload_n 0, 1) := by decide +kernel
theorem d_Model_layFirst_304 : decode b_Model_layFirst 304 = .ok (.aload_n 0, 1) := by decide +kernel
theorem d_Model_layFirst_305 : decode b_Model_layFirst 305 = .ok (.getfield 126, 3) := by decide +kernel
theorem d_Model_layFirst_308 : decode b_Model_layFirst 308 = .ok (.iload_n 1, 1) := by decide +kernel
theorem d_Model_layFirst_309 : decode b_Model_layFirst 309 = .ok (.iaload, 1) := by decide +kernel
theorem d_Model_layFirst_310 : decode b_Model_layFirst 310 = .ok (.invokevirtual 784, 3) := by decide +kernel
theorem d_Model_layFirst_313 : decode b_Model_layFirst 313 = .ok (.aload_n 0, 1) := by decide +kernel
theorem d_Model_layFirst_314 : decode b_Model_layFirst 314 = .ok (.bipush 14, 2) := by decide +kernel
theorem d_Model_layFirst_316 : decode b_Model_layFirst 316 = .ok (.aload_n 0, 1) := by decide +kernel
theorem d_Model_layFirst_317 : decode b_Model_layFirst 317 = .ok (.getfield 117, 3) := by decide +kernel
theorem d_Model_layFirst_320 : decode b_Model_layFirst 320 = .ok (.aload_n 0, 1) := by decide +kernel
theorem d_Model_layFirst_321 : decode b_Model_layFirst 321 = .ok (.getfield 144, 3) := by decide +kernel
theorem d_Model_layFirst_324 : decode b_Model_layFirst 324 = .ok (.iload_n 1, 1) := by decide +kernel
theorem d_Model_layFirst_325 : decode b_Model_layFirst 325 = .ok (.iaload, 1) := by decide +kernel
theorem d_Model_layFirst_326 : decode b_Model_layFirst 326 = .ok (.iaload, 1) := by decide +kernel
theorem d_Model_layFirst_327 : decode b_Model_layFirst 327 = .ok (.aload_n 0, 1) := by decide +kernel
theorem d_Model_layFirst_328 : decode b_Model_layFirst 328 = .ok (.aload_n 0, 1) := by decide +kernel
theorem d_Model_layFirst_329 : decode b_Model_layFirst 329 = .ok (.getfield 150, 3) := by decide +kernel
theorem d_Model_layFirst_332 : decode b_Model_layFirst 332 = .ok (.aload_n 0, 1) := by decide +kernel
theorem d_Model_layFirst_333 : decode b_Model_layFirst 333 = .ok (.getfield 126, 3) := by decide +kernel
theorem d_Model_layFirst_336 : decode b_Model_layFirst 336 = .ok (.iload_n 1, 1) := by decide +kernel
theorem d_Model_layFirst_337 : decode b_Model_layFirst 337 = .ok (.iaload, 1) := by decide +kernel
theorem d_Model_layFirst_338 : decode b_Model_layFirst 338 = .ok (.iaload, 1) := by decide +kernel
theorem d_Model_layFirst_339 : decode b_Model_layFirst 339 = .ok (.invokevirtual 796, 3) := by decide +kernel
theorem ml_Model_796 : Cond.methodLink R_Model 796 ⟨"PointerHouseModel", "wordsOf", "(I)I"⟩ ∈ lw_good := lg_right (i := 2723) (by decide +kernel) rfl
theorem d_Model_layFirst_342 : decode b_Model_layFirst 342 = .ok (.iconst 0, 1) := by decide +kernel
theorem d_Model_layFirst_343 : decode b_Model_layFirst 343 = .ok (.invokevirtual 777, 3) := by decide +kernel
theorem d_Model_layFirst_346 : decode b_Model_layFirst 346 = .ok (.pop, 1) := by decide +kernel
theorem d_Model_layFirst_347 : decode b_Model_layFirst 347 = .ok (.return_, 1) := by decide +kernel
theorem d_Model_layFirst_348 : decode b_Model_layFirst 348 = .ok (.aload_n 0, 1) := by decide +kernel
theorem d_Model_layFirst_349 : decode b_Model_layFirst 349 = .ok (.aload_n 0, 1) := by decide +kernel
theorem d_Model_layFirst_350 : decode b_Model_layFirst 350 = .ok (.getfield 126, 3) := by decide +kernel
theorem d_Model_layFirst_353 : decode b_Model_layFirst 353 = .ok (.iload_n 1, 1) := by decide +kernel
theorem d_Model_layFirst_354 : decode b_Model_layFirst 354 = .ok (.iaload, 1) := by decide +kernel
theorem d_Model_layFirst_355 : decode b_Model_layFirst 355 = .ok (.invokevirtual 784, 3) := by decide +kernel
theorem d_Model_layFirst_358 : decode b_Model_layFirst 358 = .ok (.aload_n 0, 1) := by decide +kernel
theorem d_Model_layFirst_359 : decode b_Model_layFirst 359 = .ok (.aload_n 0, 1) := by decide +kernel
theorem d_Model_layFirst_360 : decode b_Model_layFirst 360 = .ok (.getfield 129, 3) := by decide +kernel
theorem d_Model_layFirst_363 : decode b_Model_layFirst 363 = .ok (.iload_n 1, 1) := by decide +kernel
theorem d_Model_layFirst_364 : decode b_Model_layFirst 364 = .ok (.iaload, 1) := by decide +kernel
theorem d_Model_layFirst_365 : decode b_Model_layFirst 365 = .ok (.invokevirtual 784, 3) := by decide +kernel
theorem d_Model_layFirst_368 : decode b_Model_layFirst 368 = .ok (.aload_n 0, 1) := by decide +kernel
theorem d_Model_layFirst_369 : decode b_Model_layFirst 369 = .ok (.bipush 15, 2) := by decide +kernel
theorem d_Model_layFirst_371 : decode b_Model_layFirst 371 = .ok (.aload_n 0, 1) := by decide +kernel
theorem d_Model_layFirst_372 : decode b_Model_layFirst 372 = .ok (.getfield 117, 3) := by decide +kernel
theorem d_Model_layFirst_375 : decode b_Model_layFirst 375 = .ok (.aload_n 0, 1) := by decide +kernel
theorem d_Model_layFirst_376 : decode b_Model_layFirst 376 = .ok (.getfield 144, 3) := by decide +kernel
theorem d_Model_layFirst_379 : decode b_Model_layFirst 379 = .ok (.iload_n 1, 1) := by decide +kernel
theorem d_Model_layFirst_380 : decode b_Model_layFirst 380 = .ok (.iaload, 1) := by decide +kernel
theorem d_Model_layFirst_381 : decode b_Model_layFirst 381 = .ok (.iaload, 1) := by decide +kernel
theorem d_Model_layFirst_382 : decode b_Model_layFirst 382 = .ok (.aload_n 0, 1) := by decide +kernel
theorem d_Model_layFirst_383 : decode b_Model_layFirst 383 = .ok (.aload_n 0, 1) := by decide +kernel
theorem d_Model_layFirst_384 : decode b_Model_layFirst 384 = .ok (.getfield 150, 3) := by decide +kernel
theorem d_Model_layFirst_387 : decode b_Model_layFirst 387 = .ok (.aload_n 0, 1) := by decide +kernel
theorem d_Model_layFirst_388 : decode b_Model_layFirst 388 = .ok (.getfield 129, 3) := by decide +kernel
theorem d_Model_layFirst_391 : decode b_Model_layFirst 391 = .ok (.iload_n 1, 1) := by decide +kernel
theorem d_Model_layFirst_392 : decode b_Model_layFirst 392 = .ok (.iaload, 1) := by decide +kernel
theorem d_Model_layFirst_393 : decode b_Model_layFirst 393 = .ok (.iaload, 1) := by decide +kernel
theorem d_Model_layFirst_394 : decode b_Model_layFirst 394 = .ok (.invokevirtual 796, 3) := by decide +kernel
theorem d_Model_layFirst_397 : decode b_Model_layFirst 397 = .ok (.iconst 0, 1) := by decide +kernel
theorem d_Model_layFirst_398 : decode b_Model_layFirst 398 = .ok (.invokevirtual 777, 3) := by decide +kernel
theorem d_Model_layFirst_401 : decode b_Model_layFirst 401 = .ok (.pop, 1) := by decide +kernel
theorem d_Model_layFirst_402 : decode b_Model_layFirst 402 = .ok (.return_, 1) := by decide +kernel
theorem d_Model_layFirst_403 : decode b_Model_layFirst 403 = .ok (.aload_n 0, 1) := by decide +kernel
theorem d_Model_layFirst_404 : decode b_Model_layFirst 404 = .ok (.getfield 126, 3) := by decide +kernel
theorem d_Model_layFirst_407 : decode b_Model_layFirst 407 = .ok (.iload_n 1, 1) := by decide +kernel
theorem d_Model_layFirst_408 : decode b_Model_layFirst 408 = .ok (.iaload, 1) := by decide +kernel
theorem d_Model_layFirst_409 : decode b_Model_layFirst 409 = .ok (.istore_n 2, 1) := by decide +kernel
theorem d_Model_layFirst_410 : decode b_Model_layFirst 410 = .ok (.aload_n 0, 1) := by decide +kernel
theorem d_Model_layFirst_411 : decode b_Model_layFirst 411 = .ok (.aload_n 0, 1) := by decide +kernel
theorem d_Model_layFirst_412 : decode b_Model_layFirst 412 = .ok (.getfield 126, 3) := by decide +kernel
theorem d_Model_layFirst_415 : decode b_Model_layFirst 415 = .ok (.iload_n 2, 1) := by decide +kernel
theorem d_Model_layFirst_416 : decode b_Model_layFirst 416 = .ok (.iaload, 1) := by decide +kernel
theorem d_Model_layFirst_417 : decode b_Model_layFirst 417 = .ok (.invokevirtual 784, 3) := by decide +kernel
theorem d_Model_layFirst_420 : decode b_Model_layFirst 420 = .ok (.aload_n 0, 1) := by decide +kernel
theorem d_Model_layFirst_421 : decode b_Model_layFirst 421 = .ok (.getfield 120, 3) := by decide +kernel
theorem d_Model_layFirst_424 : decode b_Model_layFirst 424 = .ok (.iload_n 2, 1) := by decide +kernel
theorem d_Model_layFirst_425 : decode b_Model_layFirst 425 = .ok (.iaload, 1) := by decide +kernel
theorem d_Model_layFirst_426 : decode b_Model_layFirst 426 = .ok (.bipush 15, 2) := by decide +kernel
theorem d_Model_layFirst_428 : decode b_Model_layFirst 428 = .ok (.if_icmp .ne 26, 3) := by decide +kernel
theorem d_Model_layFirst_431 : decode b_Model_layFirst 431 = .ok (.aload_n 0, 1) := by decide +kernel
theorem d_Model_layFirst_432 : decode b_Model_layFirst 432 = .ok (.aload_n 0, 1) := by decide +kernel
theorem d_Model_layFirst_433 : decode b_Model_layFirst 433 = .ok (.getfield 129, 3) := by decide +kernel
theorem d_Model_layFirst_436 : decode b_Model_layFirst 436 = .ok (.iload_n 2, 1) := by decide +kernel
theorem d_Model_layFirst_437 : decode b_Model_layFirst 437 = .ok (.iaload, 1) := by decide +kernel
theorem d_Model_layFirst_438 : decode b_Model_layFirst 438 = .ok (.invokevirtual 784, 3) := by decide +kernel
theorem d_Model_layFirst_441 : decode b_Model_layFirst 441 = .ok (.aload_n 0, 1) := by decide +kernel
theorem d_Model_layFirst_442 : decode b_Model_layFirst 442 = .ok (.bipush 9, 2) := by decide +kernel
theorem d_Model_layFirst_444 : decode b_Model_layFirst 444 = .ok (.iconst 0, 1) := by decide +kernel
theorem d_Model_layFirst_445 : decode b_Model_layFirst 445 = .ok (.iconst 0, 1) := by decide +kernel
theorem d_Model_layFirst_446 : decode b_Model_layFirst 446 = .ok (.iconst 0, 1) := by decide +kernel
theorem d_Model_layFirst_447 : decode b_Model_layFirst 447 = .ok (.invokevirtual 777, 3) := by decide +kernel
theorem d_Model_layFirst_450 : decode b_Model_layFirst 450 = .ok (.pop, 1) := by decide +kernel
theorem d_Model_layFirst_451 : decode b_Model_layFirst 451 = .ok (.goto 18, 3) := by decide +kernel
theorem d_Model_layFirst_454 : decode b_Model_layFirst 454 = .ok (.aload_n 0, 1) := by decide +kernel
theorem d_Model_layFirst_455 : decode b_Model_layFirst 455 = .ok (.bipush 7, 2) := by decide +kernel
theorem d_Model_layFirst_457 : decode b_Model_layFirst 457 = .ok (.aload_n 0, 1) := by decide +kernel
theorem d_Model_layFirst_458 : decode b_Model_layFirst 458 = .ok (.getfield 153, 3) := by decide +kernel
theorem d_Model_layFirst_461 : decode b_Model_layFirst 461 = .ok (.iload_n 2, 1) := by decide +kernel
theorem d_Model_layFirst_462 : decode b_Model_layFirst 462 = .ok (.iaload, 1) := by decide +kernel
theorem d_Model_layFirst_463 : decode b_Model_layFirst 463 = .ok (.iconst 0, 1) := by decide +kernel
theorem d_Model_layFirst_464 : decode b_Model_layFirst 464 = .ok (.iconst 0, 1) := by decide +kernel
theorem d_Model_layFirst_465 : decode b_Model_layFirst 465 = .ok (.invokevirtual 777, 3) := by decide +kernel
theorem d_Model_layFirst_468 : decode b_Model_layFirst 468 = .ok (.pop, 1) := by decide +kernel
theorem d_Model_layFirst_469 : decode b_Model_layFirst 469 = .ok (.return_, 1) := by decide +kernel
theorem d_Model_layFirst_470 : decode b_Model_layFirst 470 = .ok (.aload_n 0, 1) := by decide +kernel
theorem d_Model_layFirst_471 : decode b_Model_layFirst 471 = .ok (.aload_n 0, 1) := by decide +kernel
theorem d_Model_layFirst_472 : decode b_Model_layFirst 472 = .ok (.getfield 126, 3) := by decide +kernel
theorem d_Model_layFirst_475 : decode b_Model_layFirst 475 = .ok (.iload_n 1, 1) := by decide +kernel
theorem d_Model_layFirst_476 : decode b_Model_layFirst 476 = .ok (.iaload, 1) := by decide +kernel
theorem d_Model_layFirst_477 : decode b_Model_layFirst 477 = .ok (.invokevirtual 784, 3) := by decide +kernel
theorem d_Model_layFirst_480 : decode b_Model_layFirst 480 = .ok (.aload_n 0, 1) := by decide +kernel
theorem d_Model_layFirst_481 : decode b_Model_layFirst 481 = .ok (.bipush 12, 2) := by decide +kernel
theorem d_Model_layFirst_483 : decode b_Model_layFirst 483 = .ok (.iconst 0, 1) := by decide +kernel
theorem d_Model_layFirst_484 : decode b_Model_layFirst 484 = .ok (.iconst 0, 1) := by decide +kernel
theorem d_Model_layFirst_485 : decode b_Model_layFirst 485 = .ok (.iconst 0, 1) := by decide +kernel
theorem d_Model_layFirst_486 : decode b_Model_layFirst 486 = .ok (.invokevirtual 777, 3) := by decide +kernel
theorem d_Model_layFirst_489 : decode b_Model_layFirst 489 = .ok (.pop, 1) := by decide +kernel
theorem d_Model_layFirst_490 : decode b_Model_layFirst 490 = .ok (.return_, 1) := by decide +kernel
theorem d_Model_layFirst_491 : decode b_Model_layFirst 491 = .ok (.aload_n 0, 1) := by decide +kernel
theorem d_Model_layFirst_492 : decode b_Model_layFirst 492 = .ok (.aload_n 0, 1) := by decide +kernel
theorem d_Model_layFirst_493 : decode b_Model_layFirst 493 = .ok (.getfield 126, 3) := by decide +kernel
theorem d_Model_layFirst_496 : decode b_Model_layFirst 496 = .ok (.iload_n 1, 1) := by decide +kernel
theorem d_Model_layFirst_497 : decode b_Model_layFirst 497 = .ok (.iaload, 1) := by decide +kernel
theorem d_Model_layFirst_498 : decode b_Model_layFirst 498 = .ok (.invokevirtual 784, 3) := by decide +kernel
theorem d_Model_layFirst_501 : decode b_Model_layFirst 501 = .ok (.aload_n 0, 1) := by decide +kernel
theorem d_Model_layFirst_502 : decode b_Model_layFirst 502 = .ok (.bipush 13, 2) := by decide +kernel
theorem d_Model_layFirst_504 : decode b_Model_layFirst 504 = .ok (.iconst 0, 1) := by decide +kernel
theorem d_Model_layFirst_505 : decode b_Model_layFirst 505 = .ok (.iconst 0, 1) := by decide +kernel
theorem d_Model_layFirst_506 : decode b_Model_layFirst 506 = .ok (.iconst 0, 1) := by decide +kernel
theorem d_Model_layFirst_507 : decode b_Model_layFirst 507 = .ok (.invokevirtual 777, 3) := by decide +kernel
theorem d_Model_layFirst_510 : decode b_Model_layFirst 510 = .ok (.pop, 1) := by decide +kernel
theorem d_Model_layFirst_511 : decode b_Model_layFirst 511 = .ok (.return_, 1) := by decide +kernel
abbrev b_Model_layBehind : ByteArray := prog_14_method_107_code
abbrev y_Model_layBehind : MethodName := ⟨R_Model, "layBehind", "(I)V"⟩
theorem co_Model_layBehind : Cond.code y_Model_layBehind b_Model_layBehind 2 none ∈ lw_good := lg_in (tin_12 _ (List.mem_of_getElem? (i := 90) rfl)) rfl
abbrev w_Model_layBehind : List Cond := Cond.code y_Model_layBehind b_Model_layBehind 2 none :: lw_good
theorem im_Model_layBehind : Cond.instanceMethod y_Model_layBehind ∈ lw_good := lg_right (i := 2729) (by decide +kernel) rfl
theorem se_Model_layBehind : Cond.selects R_Model y_Model_layBehind y_Model_layBehind ∈ lw_good := lg_left (i := 209) (by decide +kernel) rfl
theorem d_Model_layBehind_0 : decode b_Model_layBehind 0 = .ok (.aload_n 0, 1) := by decide +kernel
theorem d_Model_layBehind_1 : decode b_Model_layBehind 1 = .ok (.getfield 120, 3) := by decide +kernel
theorem d_Model_layBehind_4 : decode b_Model_layBehind 4 = .ok (.iload_n 1, 1) := by decide +kernel
theorem d_Model_layBehind_5 : decode b_Model_layBehind 5 = .ok (.iaload, 1) := by decide +kernel
theorem d_Model_layBehind_6 : decode b_Model_layBehind 6 = .ok (.tableswitch 198 13 17 #[34, 146, 125, 198, 182], 34) := by decide +kernel
theorem d_Model_layBehind_40 : decode b_Model_layBehind 40 = .ok (.aload_n 0, 1) := by decide +kernel
theorem d_Model_layBehind_41 : decode b_Model_layBehind 41 = .ok (.aload_n 0, 1) := by decide +kernel
theorem d_Model_layBehind_42 : decode b_Model_layBehind 42 = .ok (.getfield 129, 3) := by decide +kernel
theorem d_Model_layBehind_45 : decode b_Model_layBehind 45 = .ok (.iload_n 1, 1) := by decide +kernel
theorem d_Model_layBehind_46 : decode b_Model_layBehind 46 = .ok (.iaload, 1) := by decide +kernel
theorem d_Model_layBehind_47 : decode b_Model_layBehind 47 = .ok (.invokevirtual 784, 3) := by decide +kernel
theorem d_Model_layBehind_50 : decode b_Model_layBehind 50 = .ok (.aload_n 0, 1) := by decide +kernel
theorem d_Model_layBehind_51 : decode b_Model_layBehind 51 = .ok (.aload_n 0, 1) := by decide +kernel
theorem d_Model_layBehind_52 : decode b_Model_layBehind 52 = .ok (.getfield 150, 3) := by decide +kernel
theorem d_Model_layBehind_55 : decode b_Model_layBehind 55 = .ok (.iload_n 1, 1) := by decide +kernel
theorem d_Model_layBehind_56 : decode b_Model_layBehind 56 = .ok (.iaload, 1) := by decide +kernel
theorem d_Model_layBehind_57 : decode b_Model_layBehind 57 = .ok (.invokevirtual 744, 3) := by decide +kernel
theorem d_Model_layBehind_60 : decode b_Model_layBehind 60 = .ok (.ifCond .eq 16, 3) := by decide +kernel
theorem d_Model_layBehind_63 : decode b_Model_layBehind 63 = .ok (.aload_n 0, 1) := by decide +kernel
theorem d_Model_layBehind_64 : decode b_Model_layBehind 64 = .ok (.bipush 20, 2) := by decide +kernel
theorem d_Model_layBehind_66 : decode b_Model_layBehind 66 = .ok (.iconst 0, 1) := by decide +kernel
theorem d_Model_layBehind_67 : decode b_Model_layBehind 67 = .ok (.iconst 0, 1) := by decide +kernel
theorem d_Model_layBehind_68 : decode b_Model_layBehind 68 = .ok (.iconst 0, 1) := by decide +kernel
theorem d_Model_layBehind_69 : decode b_Model_layBehind 69 = .ok (.invokevirtual 777, 3) := by decide +kernel
theorem d_Model_layBehind_72 : decode b_Model_layBehind 72 = .ok (.pop, 1) := by decide +kernel
theorem d_Model_layBehind_73 : decode b_Model_layBehind 73 = .ok (.goto 57, 3) := by decide +kernel
theorem d_Model_layBehind_76 : decode b_Model_layBehind 76 = .ok (.aload_n 0, 1) := by decide +kernel
theorem d_Model_layBehind_77 : decode b_Model_layBehind 77 = .ok (.getfield 132, 3) := by decide +kernel
theorem d_Model_layBehind_80 : decode b_Model_layBehind 80 = .ok (.iload_n 1, 1) := by decide +kernel
theorem d_Model_layBehind_81 : decode b_Model_layBehind 81 = .ok (.iaload, 1) := by decide +kernel
theorem d_Model_layBehind_82 : decode b_Model_layBehind 82 = .ok (.sipush 256, 3) := by decide +kernel
theorem d_Model_layBehind_85 : decode b_Model_layBehind 85 = .ok (.if_icmp .ne 30, 3) := by decide +kernel
theorem d_Model_layBehind_88 : decode b_Model_layBehind 88 = .ok (.aload_n 0, 1) := by decide +kernel
theorem d_Model_layBehind_89 : decode b_Model_layBehind 89 = .ok (.getfield 150, 3) := by decide +kernel
theorem d_Model_layBehind_92 : decode b_Model_layBehind 92 = .ok (.aload_n 0, 1) := by decide +kernel
theorem d_Model_layBehind_93 : decode b_Model_layBehind 93 = .ok (.getfield 126, 3) := by decide +kernel
theorem d_Model_layBehind_96 : decode b_Model_layBehind 96 = .ok (.iload_n 1, 1) := by decide +kernel
theorem d_Model_layBehind_97 : decode b_Model_layBehind 97 = .ok (.iaload, 1) := by decide +kernel
theorem d_Model_layBehind_98 : decode b_Model_layBehind 98 = .ok (.iaload, 1) := by decide +kernel
theorem d_Model_layBehind_99 : decode b_Model_layBehind 99 = .ok (.ifCond .eq 16, 3) := by decide +kernel
theorem d_Model_layBehind_102 : decode b_Model_layBehind 102 = .ok (.aload_n 0, 1) := by decide +kernel
theorem d_Model_layBehind_103 : decode b_Model_layBehind 103 = .ok (.bipush 21, 2) := by decide +kernel
theorem d_Model_layBehind_105 : decode b_Model_layBehind 105 = .ok (.iconst 0, 1) := by decide +kernel
theorem d_Model_layBehind_106 : decode b_Model_layBehind 106 = .ok (.iconst 0, 1) := by decide +kernel
theorem d_Model_layBehind_107 : decode b_Model_layBehind 107 = .ok (.iconst 0, 1) := by decide +kernel
theorem d_Model_layBehind_108 : decode b_Model_layBehind 108 = .ok (.invokevirtual 777, 3) := by decide +kernel
theorem d_Model_layBehind_111 : decode b_Model_layBehind 111 = .ok (.pop, 1) := by decide +kernel
theorem d_Model_layBehind_112 : decode b_Model_layBehind 112 = .ok (.goto 18, 3) := by decide +kernel
theorem d_Model_layBehind_115 : decode b_Model_layBehind 115 = .ok (.aload_n 0, 1) := by decide +kernel
theorem d_Model_layBehind_116 : decode b_Model_layBehind 116 = .ok (.bipush 19, 2) := by decide +kernel
theorem d_Model_layBehind_118 : decode b_Model_layBehind 118 = .ok (.aload_n 0, 1) := by decide +kernel
theorem d_Model_layBehind_119 : decode b_Model_layBehind 119 = .ok (.getfield 132, 3) := by decide +kernel
theorem d_Model_layBehind_122 : decode b_Model_layBehind 122 = .ok (.iload_n 1, 1) := by decide +kernel
theorem d_Model_layBehind_123 : decode b_Model_layBehind 123 = .ok (.iaload, 1) := by decide +kernel
theorem d_Model_layBehind_124 : decode b_Model_layBehind 124 = .ok (.iconst 0, 1) := by decide +kernel
theorem d_Model_layBehind_125 : decode b_Model_layBehind 125 = .ok (.iconst 0, 1) := by decide +kernel
theorem d_Model_layBehind_126 : decode b_Model_layBehind 126 = .ok (.invokevirtual 777, 3) := by decide +kernel
theorem d_Model_layBehind_129 : decode b_Model_layBehind 129 = .ok (.pop, 1) := by decide +kernel
theorem d_Model_layBehind_130 : decode b_Model_layBehind 130 = .ok (.return_, 1) := by decide +kernel
theorem d_Model_layBehind_131 : decode b_Model_layBehind 131 = .ok (.aload_n 0, 1) := by decide +kernel
theorem d_Model_layBehind_132 : decode b_Model_layBehind 132 = .ok (.aload_n 0, 1) := by decide +kernel
theorem d_Model_layBehind_133 : decode b_Model_layBehind 133 = .ok (.getfield 129, 3) := by decide +kernel
theorem d_Model_layBehind_136 : decode b_Model_layBehind 136 = .ok (.iload_n 1, 1) := by decide +kernel
theorem d_Model_layBehind_137 : decode b_Model_layBehind 137 = .ok (.iaload, 1) := by decide +kernel
theorem d_Model_layBehind_138 : decode b_Model_layBehind 138 = .ok (.invokevirtual 784, 3) := by decide +kernel
theorem d_Model_layBehind_141 : decode b_Model_layBehind 141 = .ok (.aload_n 0, 1) := by decide +kernel
theorem d_Model_layBehind_142 : decode b_Model_layBehind 142 = .ok (.bipush 8, 2) := by decide +kernel
theorem d_Model_layBehind_144 : decode b_Model_layBehind 144 = .ok (.iconst 0, 1) := by decide +kernel
theorem d_Model_layBehind_145 : decode b_Model_layBehind 145 = .ok (.iconst 0, 1) := by decide +kernel
theorem d_Model_layBehind_146 : decode b_Model_layBehind 146 = .ok (.iconst 0, 1) := by decide +kernel
theorem d_Model_layBehind_147 : decode b_Model_layBehind 147 = .ok (.invokevirtual 777, 3) := by decide +kernel
theorem d_Model_layBehind_150 : decode b_Model_layBehind 150 = .ok (.pop, 1) := by decide +kernel
theorem d_Model_layBehind_151 : decode b_Model_layBehind 151 = .ok (.return_, 1) := by decide +kernel
theorem d_Model_layBehind_152 : decode b_Model_layBehind 152 = .ok (.aload_n 0, 1) := by decide +kernel
theorem d_Model_layBehind_153 : decode b_Model_layBehind 153 = .ok (.bipush 6, 2) := by decide +kernel
theorem d_Model_layBehind_155 : decode b_Model_layBehind 155 = .ok (.aload_n 0, 1) := by decide +kernel
theorem d_Model_layBehind_156 : decode b_Model_layBehind 156 = .ok (.getfield 153, 3) := by decide +kernel
theorem d_Model_layBehind_159 : decode b_Model_layBehind 159 = .ok (.iload_n 1, 1) := by decide +kernel
theorem d_Model_layBehind_160 : decode b_Model_layBehind 160 = .ok (.iaload, 1) := by decide +kernel
theorem d_Model_layBehind_161 : decode b_Model_layBehind 161 = .ok (.aload_n 0, 1) := by decide +kernel
theorem d_Model_layBehind_162 : decode b_Model_layBehind 162 = .ok (.getfield 17, 3) := by decide +kernel
theorem d_Model_layBehind_165 : decode b_Model_layBehind 165 = .ok (.aload_n 0, 1) := by decide +kernel
theorem d_Model_layBehind_166 : decode b_Model_layBehind 166 = .ok (.getfield 165, 3) := by decide +kernel
theorem d_Model_layBehind_169 : decode b_Model_layBehind 169 = .ok (.aload_n 0, 1) := by decide +kernel
theorem d_Model_layBehind_170 : decode b_Model_layBehind 170 = .ok (.getfield 150, 3) := by decide +kernel
theorem d_Model_layBehind_173 : decode b_Model_layBehind 173 = .ok (.aload_n 0, 1) := by decide +kernel
theorem d_Model_layBehind_174 : decode b_Model_layBehind 174 = .ok (.getfield 126, 3) := by decide +kernel
theorem d_Model_layBehind_177 : decode b_Model_layBehind 177 = .ok (.iload_n 1, 1) := by decide +kernel
theorem d_Model_layBehind_178 : decode b_Model_layBehind 178 = .ok (.iaload, 1) := by decide +kernel
theorem d_Model_layBehind_179 : decode b_Model_layBehind 179 = .ok (.iaload, 1) := by decide +kernel
theorem d_Model_layBehind_180 : decode b_Model_layBehind 180 = .ok (.iaload, 1) := by decide +kernel
theorem d_Model_layBehind_181 : decode b_Model_layBehind 181 = .ok (.iaload, 1) := by decide +kernel
theorem d_Model_layBehind_182 : decode b_Model_layBehind 182 = .ok (.iconst 0, 1) := by decide +kernel
theorem d_Model_layBehind_183 : decode b_Model_layBehind 183 = .ok (.invokevirtual 777, 3) := by decide +kernel
theorem d_Model_layBehind_186 : decode b_Model_layBehind 186 = .ok (.pop, 1) := by decide +kernel
theorem d_Model_layBehind_187 : decode b_Model_layBehind 187 = .ok (.return_, 1) := by decide +kernel
theorem d_Model_layBehind_188 : decode b_Model_layBehind 188 = .ok (.aload_n 0, 1) := by decide +kernel
theorem d_Model_layBehind_189 : decode b_Model_layBehind 189 = .ok (.bipush 11, 2) := by decide +kernel
theorem d_Model_layBehind_191 : decode b_Model_layBehind 191 = .ok (.aload_n 0, 1) := by decide +kernel
theorem d_Model_layBehind_192 : decode b_Model_layBehind 192 = .ok (.getfield 153, 3) := by decide +kernel
theorem d_Model_layBehind_195 : decode b_Model_layBehind 195 = .ok (.iload_n 1, 1) := by decide +kernel
theorem d_Model_layBehind_196 : decode b_Model_layBehind 196 = .ok (.iaload, 1) := by decide +kernel
theorem d_Model_layBehind_197 : decode b_Model_layBehind 197 = .ok (.iconst 0, 1) := by decide +kernel
theorem d_Model_layBehind_198 : decode b_Model_layBehind 198 = .ok (.iconst 0, 1) := by decide +kernel
theorem d_Model_layBehind_199 : decode b_Model_layBehind 199 = .ok (.invokevirtual 777, 3) := by decide +kernel
theorem d_Model_layBehind_202 : decode b_Model_layBehind 202 = .ok (.pop, 1) := by decide +kernel
theorem d_Model_layBehind_203 : decode b_Model_layBehind 203 = .ok (.return_, 1) := by decide +kernel
theorem d_Model_layBehind_204 : decode b_Model_layBehind 204 = .ok (.aload_n 0, 1) := by decide +kernel
theorem d_Model_layBehind_205 : decode b_Model_layBehind 205 = .ok (.bipush 10, 2) := by decide +kernel
theorem d_Model_layBehind_207 : decode b_Model_layBehind 207 = .ok (.iconst 0, 1) := by decide +kernel
theorem d_Model_layBehind_208 : decode b_Model_layBehind 208 = .ok (.iconst 0, 1) := by decide +kernel
theorem d_Model_layBehind_209 : decode b_Model_layBehind 209 = .ok (.iconst 0, 1) := by decide +kernel
theorem d_Model_layBehind_210 : decode b_Model_layBehind 210 = .ok (.invokevirtual 777, 3) := by decide +kernel
theorem d_Model_layBehind_213 : decode b_Model_layBehind 213 = .ok (.pop, 1) := by decide +kernel
theorem d_Model_layBehind_214 : decode b_Model_layBehind 214 = .ok (.return_, 1) := by decide +kernel
abbrev b_Model_push : ByteArray := prog_14_method_109_code
abbrev y_Model_push : MethodName := ⟨R_Model, "push", "(III)V"⟩
theorem co_Model_push : Cond.code y_Model_push b_Model_push 4 none ∈ lw_good := lg_in (tin_12 _ (List.mem_of_getElem? (i := 122) rfl)) rfl
abbrev w_Model_push : List Cond := Cond.code y_Model_push b_Model_push 4 none :: lw_good
theorem im_Model_push : Cond.instanceMethod y_Model_push ∈ lw_good := lg_right (i := 2761) (by decide +kernel) rfl
theorem se_Model_push : Cond.selects R_Model y_Model_push y_Model_push ∈ lw_good := lg_left (i := 214) (by decide +kernel) rfl
theorem d_Model_push_0 : decode b_Model_push 0 = .ok (.aload_n 0, 1) := by decide +kernel
theorem d_Model_push_1 : decode b_Model_push 1 = .ok (.getfield 207, 3) := by decide +kernel
theorem fl_Model_207 : Cond.fieldLink R_Model 207 "PointerHouseModel" "x" "[I" ∈ lw_good := lg_right (i := 1929) (by decide +kernel) rfl
theorem d_Model_push_4 : decode b_Model_push 4 = .ok (.aload_n 0, 1) := by decide +kernel
theorem d_Model_push_5 : decode b_Model_push 5 = .ok (.getfield 799, 3) := by decide +kernel
theorem fl_Model_799 : Cond.fieldLink R_Model 799 "PointerHouseModel" "height" "I" ∈ lw_good := lg_right (i := 1928) (by decide +kernel) rfl
theorem d_Model_push_8 : decode b_Model_push 8 = .ok (.iload_n 1, 1) := by decide +kernel
theorem d_Model_push_9 : decode b_Model_push 9 = .ok (.iastore, 1) := by decide +kernel
theorem d_Model_push_10 : decode b_Model_push 10 = .ok (.aload_n 0, 1) := by decide +kernel
theorem d_Model_push_11 : decode b_Model_push 11 = .ok (.getfield 210, 3) := by decide +kernel
theorem fl_Model_210 : Cond.fieldLink R_Model 210 "PointerHouseModel" "y" "[I" ∈ lw_good := lg_right (i := 1930) (by decide +kernel) rfl
theorem d_Model_push_14 : decode b_Model_push 14 = .ok (.aload_n 0, 1) := by decide +kernel
theorem d_Model_push_15 : decode b_Model_push 15 = .ok (.getfield 799, 3) := by decide +kernel
theorem d_Model_push_18 : decode b_Model_push 18 = .ok (.iload_n 2, 1) := by decide +kernel
theorem d_Model_push_19 : decode b_Model_push 19 = .ok (.iastore, 1) := by decide +kernel
theorem d_Model_push_20 : decode b_Model_push 20 = .ok (.aload_n 0, 1) := by decide +kernel
theorem d_Model_push_21 : decode b_Model_push 21 = .ok (.getfield 213, 3) := by decide +kernel
theorem fl_Model_213 : Cond.fieldLink R_Model 213 "PointerHouseModel" "z" "[I" ∈ lw_good := lg_right (i := 1931) (by decide +kernel) rfl
theorem d_Model_push_24 : decode b_Model_push 24 = .ok (.aload_n 0, 1) := by decide +kernel
theorem d_Model_push_25 : decode b_Model_push 25 = .ok (.getfield 799, 3) := by decide +kernel
theorem d_Model_push_28 : decode b_Model_push 28 = .ok (.iload_n 3, 1) := by decide +kernel
theorem d_Model_push_29 : decode b_Model_push 29 = .ok (.iastore, 1) := by decide +kernel
theorem d_Model_push_30 : decode b_Model_push 30 = .ok (.aload_n 0, 1) := by decide +kernel
theorem d_Model_push_31 : decode b_Model_push 31 = .ok (.getfield 216, 3) := by decide +kernel
theorem fl_Model_216 : Cond.fieldLink R_Model 216 "PointerHouseModel" "rowed" "[I" ∈ lw_good := lg_right (i := 1932) (by decide +kernel) rfl
theorem d_Model_push_34 : decode b_Model_push 34 = .ok (.aload_n 0, 1) := by decide +kernel
theorem d_Model_push_35 : decode b_Model_push 35 = .ok (.getfield 799, 3) := by decide +kernel
theorem d_Model_push_38 : decode b_Model_push 38 = .ok (.iconst 0, 1) := by decide +kernel
theorem d_Model_push_39 : decode b_Model_push 39 = .ok (.iastore, 1) := by decide +kernel
theorem d_Model_push_40 : decode b_Model_push 40 = .ok (.aload_n 0, 1) := by decide +kernel
theorem d_Model_push_41 : decode b_Model_push 41 = .ok (.dup, 1) := by decide +kernel
theorem d_Model_push_42 : decode b_Model_push 42 = .ok (.getfield 799, 3) := by decide +kernel
theorem d_Model_push_45 : decode b_Model_push 45 = .ok (.iconst 1, 1) := by decide +kernel
theorem d_Model_push_46 : decode b_Model_push 46 = .ok (.iadd, 1) := by decide +kernel
theorem d_Model_push_47 : decode b_Model_push 47 = .ok (.putfield 799, 3) := by decide +kernel
theorem d_Model_push_50 : decode b_Model_push 50 = .ok (.return_, 1) := by decide +kernel
abbrev b_Model_stopAll : ByteArray := prog_14_method_110_code
abbrev y_Model_stopAll : MethodName := ⟨R_Model, "stopAll", "()V"⟩
theorem co_Model_stopAll : Cond.code y_Model_stopAll b_Model_stopAll 1 none ∈ lw_good := lg_in (tin_10 _ (List.mem_of_getElem? (i := 138) rfl)) rfl
abbrev w_Model_stopAll : List Cond := Cond.code y_Model_stopAll b_Model_stopAll 1 none :: lw_good
theorem im_Model_stopAll : Cond.instanceMethod y_Model_stopAll ∈ lw_good := lg_right (i := 2297) (by decide +kernel) rfl
theorem se_Model_stopAll : Cond.selects R_Model y_Model_stopAll y_Model_stopAll ∈ lw_good := lg_left (i := 115) (by decide +kernel) rfl
theorem d_Model_stopAll_0 : decode b_Model_stopAll 0 = .ok (.aload_n 0, 1) := by decide +kernel
theorem d_Model_stopAll_1 : decode b_Model_stopAll 1 = .ok (.iconst 0, 1) := by decide +kernel
theorem d_Model_stopAll_2 : decode b_Model_stopAll 2 = .ok (.putfield 802, 3) := by decide +kernel
theorem fl_Model_802 : Cond.fieldLink R_Model 802 "PointerHouseModel" "state" "I" ∈ lw_good := lg_right (i := 1919) (by decide +kernel) rfl
theorem d_Model_stopAll_5 : decode b_Model_stopAll 5 = .ok (.aload_n 0, 1) := by decide +kernel
theorem d_Model_stopAll_6 : decode b_Model_stopAll 6 = .ok (.iconst 0, 1) := by decide +kernel
theorem d_Model_stopAll_7 : decode b_Model_stopAll 7 = .ok (.putfield 805, 3) := by decide +kernel
theorem fl_Model_805 : Cond.fieldLink R_Model 805 "PointerHouseModel" "steps" "I" ∈ lw_good := lg_right (i := 1920) (by decide +kernel) rfl
theorem d_Model_stopAll_10 : decode b_Model_stopAll 10 = .ok (.aload_n 0, 1) := by decide +kernel
theorem d_Model_stopAll_11 : decode b_Model_stopAll 11 = .ok (.iconst 0, 1) := by decide +kernel
theorem d_Model_stopAll_12 : decode b_Model_stopAll 12 = .ok (.putfield 808, 3) := by decide +kernel
theorem fl_Model_808 : Cond.fieldLink R_Model 808 "PointerHouseModel" "depth" "I" ∈ lw_good := lg_right (i := 1922) (by decide +kernel) rfl
theorem d_Model_stopAll_15 : decode b_Model_stopAll 15 = .ok (.aload_n 0, 1) := by decide +kernel
theorem d_Model_stopAll_16 : decode b_Model_stopAll 16 = .ok (.iconst 0, 1) := by decide +kernel
theorem d_Model_stopAll_17 : decode b_Model_stopAll 17 = .ok (.putfield 811, 3) := by decide +kernel
theorem fl_Model_811 : Cond.fieldLink R_Model 811 "PointerHouseModel" "prints" "I" ∈ lw_good := lg_right (i := 1923) (by decide +kernel) rfl
theorem d_Model_stopAll_20 : decode b_Model_stopAll 20 = .ok (.aload_n 0, 1) := by decide +kernel
theorem d_Model_stopAll_21 : decode b_Model_stopAll 21 = .ok (.iconst 0, 1) := by decide +kernel
theorem d_Model_stopAll_22 : decode b_Model_stopAll 22 = .ok (.putfield 814, 3) := by decide +kernel
theorem fl_Model_814 : Cond.fieldLink R_Model 814 "PointerHouseModel" "made" "I" ∈ lw_good := lg_right (i := 1924) (by decide +kernel) rfl
theorem d_Model_stopAll_25 : decode b_Model_stopAll 25 = .ok (.aload_n 0, 1) := by decide +kernel
theorem d_Model_stopAll_26 : decode b_Model_stopAll 26 = .ok (.iconst 0, 1) := by decide +kernel
theorem d_Model_stopAll_27 : decode b_Model_stopAll 27 = .ok (.putfield 817, 3) := by decide +kernel
theorem fl_Model_817 : Cond.fieldLink R_Model 817 "PointerHouseModel" "errors" "I" ∈ lw_good := lg_right (i := 1925) (by decide +kernel) rfl
theorem d_Model_stopAll_30 : decode b_Model_stopAll 30 = .ok (.aload_n 0, 1) := by decide +kernel
theorem d_Model_stopAll_31 : decode b_Model_stopAll 31 = .ok (.iconst 0, 1) := by decide +kernel
theorem d_Model_stopAll_32 : decode b_Model_stopAll 32 = .ok (.putfield 820, 3) := by decide +kernel
theorem fl_Model_820 : Cond.fieldLink R_Model 820 "PointerHouseModel" "touches" "I" ∈ lw_good := lg_right (i := 1926) (by decide +kernel) rfl
theorem d_Model_stopAll_35 : decode b_Model_stopAll 35 = .ok (.aload_n 0, 1) := by decide +kernel
theorem d_Model_stopAll_36 : decode b_Model_stopAll 36 = .ok (.iconst 0, 1) := by decide +kernel
theorem d_Model_stopAll_37 : decode b_Model_stopAll 37 = .ok (.putfield 823, 3) := by decide +kernel
theorem fl_Model_823 : Cond.fieldLink R_Model 823 "PointerHouseModel" "errorNumber" "I" ∈ lw_good := lg_right (i := 1927) (by decide +kernel) rfl
theorem d_Model_stopAll_40 : decode b_Model_stopAll 40 = .ok (.aload_n 0, 1) := by decide +kernel
theorem d_Model_stopAll_41 : decode b_Model_stopAll 41 = .ok (.iconst 0, 1) := by decide +kernel
theorem d_Model_stopAll_42 : decode b_Model_stopAll 42 = .ok (.putfield 826, 3) := by decide +kernel
theorem fl_Model_826 : Cond.fieldLink R_Model 826 "PointerHouseModel" "alive" "I" ∈ lw_good := lg_right (i := 1948) (by decide +kernel) rfl
theorem d_Model_stopAll_45 : decode b_Model_stopAll 45 = .ok (.aload_n 0, 1) := by decide +kernel
theorem d_Model_stopAll_46 : decode b_Model_stopAll 46 = .ok (.iconst 0, 1) := by decide +kernel
theorem d_Model_stopAll_47 : decode b_Model_stopAll 47 = .ok (.putfield 829, 3) := by decide +kernel
theorem fl_Model_829 : Cond.fieldLink R_Model 829 "PointerHouseModel" "waiting" "I" ∈ lw_good := lg_right (i := 1969) (by decide +kernel) rfl
theorem d_Model_stopAll_50 : decode b_Model_stopAll 50 = .ok (.aload_n 0, 1) := by decide +kernel
theorem d_Model_stopAll_51 : decode b_Model_stopAll 51 = .ok (.iconst 0, 1) := by decide +kernel
theorem d_Model_stopAll_52 : decode b_Model_stopAll 52 = .ok (.putfield 799, 3) := by decide +kernel
theorem d_Model_stopAll_55 : decode b_Model_stopAll 55 = .ok (.aload_n 0, 1) := by decide +kernel
theorem d_Model_stopAll_56 : decode b_Model_stopAll 56 = .ok (.iconst 0, 1) := by decide +kernel
theorem d_Model_stopAll_57 : decode b_Model_stopAll 57 = .ok (.putfield 832, 3) := by decide +kernel
theorem fl_Model_832 : Cond.fieldLink R_Model 832 "PointerHouseModel" "tries" "I" ∈ lw_good := lg_right (i := 1942) (by decide +kernel) rfl
theorem d_Model_stopAll_60 : decode b_Model_stopAll 60 = .ok (.aload_n 0, 1) := by decide +kernel
theorem d_Model_stopAll_61 : decode b_Model_stopAll 61 = .ok (.iconst 0, 1) := by decide +kernel
theorem d_Model_stopAll_62 : decode b_Model_stopAll 62 = .ok (.putfield 835, 3) := by decide +kernel
theorem fl_Model_835 : Cond.fieldLink R_Model 835 "PointerHouseModel" "pages" "I" ∈ lw_good := lg_right (i := 1949) (by decide +kernel) rfl
theorem d_Model_stopAll_65 : decode b_Model_stopAll 65 = .ok (.aload_n 0, 1) := by decide +kernel
theorem d_Model_stopAll_66 : decode b_Model_stopAll 66 = .ok (.iconst 0, 1) := by decide +kernel
theorem d_Model_stopAll_67 : decode b_Model_stopAll 67 = .ok (.putfield 838, 3) := by decide +kernel
theorem fl_Model_838 : Cond.fieldLink R_Model 838 "PointerHouseModel" "freePages" "I" ∈ lw_good := lg_right (i := 1951) (by decide +kernel) rfl
theorem d_Model_stopAll_70 : decode b_Model_stopAll 70 = .ok (.return_, 1) := by decide +kernel
abbrev b_Model_begin : ByteArray := prog_14_method_111_code
abbrev y_Model_begin : MethodName := ⟨R_Model, "begin", "(I)V"⟩
theorem co_Model_begin : Cond.code y_Model_begin b_Model_begin 2 none ∈ lw_good := lg_in (tin_12 _ (List.mem_of_getElem? (i := 110) rfl)) rfl
abbrev w_Model_begin : List Cond := Cond.code y_Model_begin b_Model_begin 2 none :: lw_good
theorem im_Model_begin : Cond.instanceMethod y_Model_begin ∈ lw_good := lg_right (i := 2749) (by decide +kernel) rfl
theorem se_Model_begin : Cond.selects R_Model y_Model_begin y_Model_begin ∈ lw_good := lg_left (i := 211) (by decide +kernel) rfl
theorem d_Model_begin_0 : decode b_Model_begin 0 = .ok (.aload_n 0, 1) := by decide +kernel
theorem d_Model_begin_1 : decode b_Model_begin 1 = .ok (.getfield 261, 3) := by decide +kernel
theorem fl_Model_261 : Cond.fieldLink R_Model 261 "PointerHouseModel" "pagesOf" "[I" ∈ lw_good := lg_right (i := 1952) (by decide +kernel) rfl
theorem d_Model_begin_4 : decode b_Model_begin 4 = .ok (.iload_n 1, 1) := by decide +kernel
theorem d_Model_begin_5 : decode b_Model_begin 5 = .ok (.iconst 0, 1) := by decide +kernel
theorem d_Model_begin_6 : decode b_Model_begin 6 = .ok (.iastore, 1) := by decide +kernel
theorem d_Model_begin_7 : decode b_Model_begin 7 = .ok (.aload_n 0, 1) := by decide +kernel
theorem d_Model_begin_8 : decode b_Model_begin 8 = .ok (.getfield 264, 3) := by decide +kernel
theorem fl_Model_264 : Cond.fieldLink R_Model 264 "PointerHouseModel" "lastUsed" "[I" ∈ lw_good := lg_right (i := 1953) (by decide +kernel) rfl
theorem d_Model_begin_11 : decode b_Model_begin 11 = .ok (.iload_n 1, 1) := by decide +kernel
theorem d_Model_begin_12 : decode b_Model_begin 12 = .ok (.iconst 0, 1) := by decide +kernel
theorem d_Model_begin_13 : decode b_Model_begin 13 = .ok (.iastore, 1) := by decide +kernel
theorem d_Model_begin_14 : decode b_Model_begin 14 = .ok (.aload_n 0, 1) := by decide +kernel
theorem d_Model_begin_15 : decode b_Model_begin 15 = .ok (.getfield 267, 3) := by decide +kernel
theorem fl_Model_267 : Cond.fieldLink R_Model 267 "PointerHouseModel" "wordsIn" "[I" ∈ lw_good := lg_right (i := 1954) (by decide +kernel) rfl
theorem d_Model_begin_18 : decode b_Model_begin 18 = .ok (.iload_n 1, 1) := by decide +kernel
theorem d_Model_begin_19 : decode b_Model_begin 19 = .ok (.iconst 0, 1) := by decide +kernel
theorem d_Model_begin_20 : decode b_Model_begin 20 = .ok (.iastore, 1) := by decide +kernel
theorem d_Model_begin_21 : decode b_Model_begin 21 = .ok (.aload_n 0, 1) := by decide +kernel
theorem d_Model_begin_22 : decode b_Model_begin 22 = .ok (.getfield 270, 3) := by decide +kernel
theorem fl_Model_270 : Cond.fieldLink R_Model 270 "PointerHouseModel" "objectsIn" "[I" ∈ lw_good := lg_right (i := 1955) (by decide +kernel) rfl
theorem d_Model_begin_25 : decode b_Model_begin 25 = .ok (.iload_n 1, 1) := by decide +kernel
theorem d_Model_begin_26 : decode b_Model_begin 26 = .ok (.iconst 0, 1) := by decide +kernel
theorem d_Model_begin_27 : decode b_Model_begin 27 = .ok (.iastore, 1) := by decide +kernel
theorem d_Model_begin_28 : decode b_Model_begin 28 = .ok (.return_, 1) := by decide +kernel
abbrev b_Model_shrink : ByteArray := prog_14_method_112_code
abbrev y_Model_shrink : MethodName := ⟨R_Model, "shrink", "(I)V"⟩
theorem co_Model_shrink : Cond.code y_Model_shrink b_Model_shrink 5 none ∈ lw_good := lg_in (tin_12 _ (List.mem_of_getElem? (i := 146) rfl)) rfl
abbrev w_Model_shrink : List Cond := Cond.code y_Model_shrink b_Model_shrink 5 none :: lw_good
theorem im_Model_shrink : Cond.instanceMethod y_Model_shrink ∈ lw_good := lg_right (i := 2785) (by decide +kernel) rfl
theorem se_Model_shrink : Cond.selects R_Model y_Model_shrink y_Model_shrink ∈ lw_good := lg_left (i := 220) (by decide +kernel) rfl
theorem d_Model_shrink_0 : decode b_Model_shrink 0 = .ok (.aload_n 0, 1) := by decide +kernel
theorem d_Model_shrink_1 : decode b_Model_shrink 1 = .ok (.getfield 826, 3) := by decide +kernel
theorem d_Model_shrink_4 : decode b_Model_shrink 4 = .ok (.iload_n 1, 1) := by decide +kernel
theorem d_Model_shrink_5 : decode b_Model_shrink 5 = .ok (.if_icmp .le 146, 3) := by decide +kernel
theorem d_Model_shrink_8 : decode b_Model_shrink 8 = .ok (.aload_n 0, 1) := by decide +kernel
theorem d_Model_shrink_9 : decode b_Model_shrink 9 = .ok (.dup, 1) := by decide +kernel
theorem d_Model_shrink_10 : decode b_Model_shrink 10 = .ok (.getfield 826, 3) := by decide +kernel
theorem d_Model_shrink_13 : decode b_Model_shrink 13 = .ok (.iconst 1, 1) := by decide +kernel
theorem d_Model_shrink_14 : decode b_Model_shrink 14 = .ok (.isub, 1) := by decide +kernel
theorem d_Model_shrink_15 : decode b_Model_shrink 15 = .ok (.putfield 826, 3) := by decide +kernel
theorem d_Model_shrink_18 : decode b_Model_shrink 18 = .ok (.aload_n 0, 1) := by decide +kernel
theorem d_Model_shrink_19 : decode b_Model_shrink 19 = .ok (.dup, 1) := by decide +kernel
theorem d_Model_shrink_20 : decode b_Model_shrink 20 = .ok (.getfield 838, 3) := by decide +kernel
theorem d_Model_shrink_23 : decode b_Model_shrink 23 = .ok (.aload_n 0, 1) := by decide +kernel
theorem d_Model_shrink_24 : decode b_Model_shrink 24 = .ok (.getfield 261, 3) := by decide +kernel
theorem d_Model_shrink_27 : decode b_Model_shrink 27 = .ok (.aload_n 0, 1) := by decide +kernel
theorem d_Model_shrink_28 : decode b_Model_shrink 28 = .ok (.getfield 826, 3) := by decide +kernel
theorem d_Model_shrink_31 : decode b_Model_shrink 31 = .ok (.iaload, 1) := by decide +kernel
theorem d_Model_shrink_32 : decode b_Model_shrink 32 = .ok (.iadd, 1) := by decide +kernel
theorem d_Model_shrink_33 : decode b_Model_shrink 33 = .ok (.putfield 838, 3) := by decide +kernel
theorem d_Model_shrink_36 : decode b_Model_shrink 36 = .ok (.iconst 0, 1) := by decide +kernel
theorem d_Model_shrink_37 : decode b_Model_shrink 37 = .ok (.istore_n 2, 1) := by decide +kernel
theorem d_Model_shrink_38 : decode b_Model_shrink 38 = .ok (.iload_n 2, 1) := by decide +kernel
theorem d_Model_shrink_39 : decode b_Model_shrink 39 = .ok (.sipush 4096, 3) := by decide +kernel
theorem d_Model_shrink_42 : decode b_Model_shrink 42 = .ok (.if_icmp .ge 106, 3) := by decide +kernel
theorem d_Model_shrink_45 : decode b_Model_shrink 45 = .ok (.aload_n 0, 1) := by decide +kernel
theorem d_Model_shrink_46 : decode b_Model_shrink 46 = .ok (.getfield 270, 3) := by decide +kernel
theorem d_Model_shrink_49 : decode b_Model_shrink 49 = .ok (.aload_n 0, 1) := by decide +kernel
theorem d_Model_shrink_50 : decode b_Model_shrink 50 = .ok (.getfield 826, 3) := by decide +kernel
theorem d_Model_shrink_53 : decode b_Model_shrink 53 = .ok (.iaload, 1) := by decide +kernel
theorem d_Model_shrink_54 : decode b_Model_shrink 54 = .ok (.ifCond .le 94, 3) := by decide +kernel
theorem d_Model_shrink_57 : decode b_Model_shrink 57 = .ok (.aload_n 0, 1) := by decide +kernel
theorem d_Model_shrink_58 : decode b_Model_shrink 58 = .ok (.getfield 273, 3) := by decide +kernel
theorem fl_Model_273 : Cond.fieldLink R_Model 273 "PointerHouseModel" "born" "[I" ∈ lw_good := lg_right (i := 1957) (by decide +kernel) rfl
theorem d_Model_shrink_61 : decode b_Model_shrink 61 = .ok (.iload_n 2, 1) := by decide +kernel
theorem d_Model_shrink_62 : decode b_Model_shrink 62 = .ok (.iaload, 1) := by decide +kernel
theorem d_Model_shrink_63 : decode b_Model_shrink 63 = .ok (.ifCond .eq 79, 3) := by decide +kernel
theorem d_Model_shrink_66 : decode b_Model_shrink 66 = .ok (.aload_n 0, 1) := by decide +kernel
theorem d_Model_shrink_67 : decode b_Model_shrink 67 = .ok (.getfield 282, 3) := by decide +kernel
theorem fl_Model_282 : Cond.fieldLink R_Model 282 "PointerHouseModel" "home" "[I" ∈ lw_good := lg_right (i := 1960) (by decide +kernel) rfl
theorem d_Model_shrink_70 : decode b_Model_shrink 70 = .ok (.iload_n 2, 1) := by decide +kernel
theorem d_Model_shrink_71 : decode b_Model_shrink 71 = .ok (.iaload, 1) := by decide +kernel
theorem d_Model_shrink_72 : decode b_Model_shrink 72 = .ok (.aload_n 0, 1) := by decide +kernel
theorem d_Model_shrink_73 : decode b_Model_shrink 73 = .ok (.getfield 826, 3) := by decide +kernel
theorem d_Model_shrink_76 : decode b_Model_shrink 76 = .ok (.if_icmp .eq 6, 3) := by decide +kernel
theorem d_Model_shrink_79 : decode b_Model_shrink 79 = .ok (.goto 63, 3) := by decide +kernel
theorem d_Model_shrink_82 : decode b_Model_shrink 82 = .ok (.aload_n 0, 1) := by decide +kernel
theorem d_Model_shrink_83 : decode b_Model_shrink 83 = .ok (.getfield 273, 3) := by decide +kernel
theorem d_Model_shrink_86 : decode b_Model_shrink 86 = .ok (.iload_n 2, 1) := by decide +kernel
theorem d_Model_shrink_87 : decode b_Model_shrink 87 = .ok (.iconst 0, 1) := by decide +kernel
theorem d_Model_shrink_88 : decode b_Model_shrink 88 = .ok (.iastore, 1) := by decide +kernel
theorem d_Model_shrink_89 : decode b_Model_shrink 89 = .ok (.aload_n 0, 1) := by decide +kernel
theorem d_Model_shrink_90 : decode b_Model_shrink 90 = .ok (.getfield 270, 3) := by decide +kernel
theorem d_Model_shrink_93 : decode b_Model_shrink 93 = .ok (.aload_n 0, 1) := by decide +kernel
theorem d_Model_shrink_94 : decode b_Model_shrink 94 = .ok (.getfield 826, 3) := by decide +kernel
theorem d_Model_shrink_97 : decode b_Model_shrink 97 = .ok (.dup2, 1) := by decide +kernel
theorem d_Model_shrink_98 : decode b_Model_shrink 98 = .ok (.iaload, 1) := by decide +kernel
theorem d_Model_shrink_99 : decode b_Model_shrink 99 = .ok (.iconst 1, 1) := by decide +kernel
theorem d_Model_shrink_100 : decode b_Model_shrink 100 = .ok (.isub, 1) := by decide +kernel
theorem d_Model_shrink_101 : decode b_Model_shrink 101 = .ok (.iastore, 1) := by decide +kernel
theorem d_Model_shrink_102 : decode b_Model_shrink 102 = .ok (.aload_n 0, 1) := by decide +kernel
theorem d_Model_shrink_103 : decode b_Model_shrink 103 = .ok (.getfield 276, 3) := by decide +kernel
theorem fl_Model_276 : Cond.fieldLink R_Model 276 "PointerHouseModel" "head" "[I" ∈ lw_good := lg_right (i := 1958) (by decide +kernel) rfl
theorem d_Model_shrink_106 : decode b_Model_shrink 106 = .ok (.iload_n 2, 1) := by decide +kernel
theorem d_Model_shrink_107 : decode b_Model_shrink 107 = .ok (.iaload, 1) := by decide +kernel
theorem d_Model_shrink_108 : decode b_Model_shrink 108 = .ok (.istore_n 3, 1) := by decide +kernel
theorem d_Model_shrink_109 : decode b_Model_shrink 109 = .ok (.iload_n 3, 1) := by decide +kernel
theorem d_Model_shrink_110 : decode b_Model_shrink 110 = .ok (.ifCond .lt 32, 3) := by decide +kernel
theorem d_Model_shrink_113 : decode b_Model_shrink 113 = .ok (.aload_n 0, 1) := by decide +kernel
theorem d_Model_shrink_114 : decode b_Model_shrink 114 = .ok (.getfield 304, 3) := by decide +kernel
theorem fl_Model_304 : Cond.fieldLink R_Model 304 "PointerHouseModel" "link" "[I" ∈ lw_good := lg_right (i := 1968) (by decide +kernel) rfl
theorem d_Model_shrink_117 : decode b_Model_shrink 117 = .ok (.iload_n 3, 1) := by decide +kernel
theorem d_Model_shrink_118 : decode b_Model_shrink 118 = .ok (.iaload, 1) := by decide +kernel
theorem d_Model_shrink_119 : decode b_Model_shrink 119 = .ok (.istore 4, 2) := by decide +kernel
theorem d_Model_shrink_121 : decode b_Model_shrink 121 = .ok (.aload_n 0, 1) := by decide +kernel
theorem d_Model_shrink_122 : decode b_Model_shrink 122 = .ok (.getfield 304, 3) := by decide +kernel
theorem d_Model_shrink_125 : decode b_Model_shrink 125 = .ok (.iload_n 3, 1) := by decide +kernel
theorem d_Model_shrink_126 : decode b_Model_shrink 126 = .ok (.aload_n 0, 1) := by decide +kernel
theorem d_Model_shrink_127 : decode b_Model_shrink 127 = .ok (.getfield 841, 3) := by decide +kernel
theorem fl_Model_841 : Cond.fieldLink R_Model 841 "PointerHouseModel" "freePlace" "I" ∈ lw_good := lg_right (i := 1962) (by decide +kernel) rfl
theorem d_Model_shrink_130 : decode b_Model_shrink 130 = .ok (.iastore, 1) := by decide +kernel
theorem d_Model_shrink_131 : decode b_Model_shrink 131 = .ok (.aload_n 0, 1) := by decide +kernel
theorem d_Model_shrink_132 : decode b_Model_shrink 132 = .ok (.iload_n 3, 1) := by decide +kernel
theorem d_Model_shrink_133 : decode b_Model_shrink 133 = .ok (.putfield 841, 3) := by decide +kernel
theorem d_Model_shrink_136 : decode b_Model_shrink 136 = .ok (.iload 4, 2) := by decide +kernel
theorem d_Model_shrink_138 : decode b_Model_shrink 138 = .ok (.istore_n 3, 1) := by decide +kernel
theorem d_Model_shrink_139 : decode b_Model_shrink 139 = .ok (.goto (-30), 3) := by decide +kernel
theorem d_Model_shrink_142 : decode b_Model_shrink 142 = .ok (.iinc 2 1, 3) := by decide +kernel
theorem d_Model_shrink_145 : decode b_Model_shrink 145 = .ok (.goto (-107), 3) := by decide +kernel
theorem d_Model_shrink_148 : decode b_Model_shrink 148 = .ok (.goto (-148), 3) := by decide +kernel
theorem d_Model_shrink_151 : decode b_Model_shrink 151 = .ok (.return_, 1) := by decide +kernel
section GV
variable {p : Program} {l : Launch} {e : Env} {R : Room} {s : State} {m : MethodId} {args : Array Value} {below : List Frame} {meth : Method} {c : Code} {H : Heap} {locs : List Loc} {cells slots : Nat} {Q : State → Prop}
variable {cc : ByteArray} {pc : Nat} {ls : Array Slot} {rest st0 : List Value} {dC : Nat → ClassId} {dI : Nat → Nat → Nat} {A : Nat → Prop} {ad ea ev : Nat → Nat} {km : Nat → ClassId} {T T' : gSt} {H0 : Heap}
theorem rd_Model_207 (hx : p.tables.exec = Jvm.exec) (hb : c.code = cc) (hT : ∀ w ∈ lw_good, w.before args s = true) (hown : s.vm.findClass R_Model = some m.cls) (hK : va_K (dC, dI) cls_all (gT LM km) s) (hP : va_P (dC, dI) cls_all (gW LM ad km T) H) (hdg : decode cc pc = .ok (.getfield 207, 3)) (kk : W p l e R s m args below meth c H locs cells slots Q (F0 m (pc + 3) ls (.ref (ad 65) :: rest))) : W p l e R s m args below meth c H locs cells slots Q (F0 m pc ls (.ref (ad 0) :: rest)) := gw_get hx hb hT i_Model hown hK hP 0 110 110 (Nat.le_of_ble_eq_true rfl) rfl rfl (Nat.le_of_ble_eq_true rfl) rfl (gv_a rfl) (hT _ fl_Model_207) (fun _ h9 => h9) hdg kk
theorem rd_Model_799 (hx : p.tables.exec = Jvm.exec) (hb : c.code = cc) (hT : ∀ w ∈ lw_good, w.before args s = true) (hown : s.vm.findClass R_Model = some m.cls) (hK : va_K (dC, dI) cls_all (gT LM km) s) (hP : va_P (dC, dI) cls_all (gW LM ad km T) H) (hdg : decode cc pc = .ok (.getfield 799, 3)) (kk : W p l e R s m args below meth c H locs cells slots Q (F0 m (pc + 3) ls (.int (T.1 109 0) :: rest))) : W p l e R s m args below meth c H locs cells slots Q (F0 m pc ls (.ref (ad 0) :: rest)) := gw_get hx hb hT i_Model hown hK hP 0 109 109 (Nat.le_of_ble_eq_true rfl) rfl rfl (Nat.le_of_ble_eq_true rfl) rfl (gv_i rfl) (hT _ fl_Model_799) (fun _ h9 => h9) hdg kk
theorem laM_64 (hx : p.tables.exec = Jvm.exec) (hb : c.code = cc) (hK : va_K (dC, dI) cls_all (gT LM km) s) (hP : va_P (dC, dI) cls_all (gW LM ad km T) H) {x : Int32} (hin : inb x 8200) (hdg : decode cc pc = .ok (.iaload, 1)) (kk : W p l e R s m args below meth c H locs cells slots Q (F0 m (pc + 1) ls (.int (T.1 110 x.toNatClampNeg) :: rest))) : W p l e R s m args below meth c H locs cells slots Q (F0 m pc ls (.int x :: .ref (ad 65) :: rest)) := gw_iald hx hb hK hP 64 110 8200 65 (Nat.le_of_ble_eq_true rfl) rfl rfl rfl rfl rfl hin hdg kk
theorem saM_64 (hx : p.tables.exec = Jvm.exec) (hb : c.code = cc) (hK : va_K (dC, dI) cls_all (gT LM km) s) (hP : va_P (dC, dI) cls_all (gW LM ad km T) H) (hD : va_D A (gW LM ad km T)) (hS : va_S A H0 H locs) {x : Int32} {v : Int32} (hin : inb x 8200) (hdg : decode cc pc = .ok (.iastore, 1)) (kk : ∀ (T1 : gSt), T1 = sI T 110 x.toNatClampNeg v → ∀ (H1 : Heap) (locs1 : List Loc), va_P (dC, dI) cls_all (gW LM ad km T1) H1 → va_D A (gW LM ad km T1) → va_S A H0 H1 locs1 → W p l e R s m args below meth c H1 locs1 cells slots Q (F0 m (pc + 1) ls rest)) : W p l e R s m args below meth c H locs cells slots Q (F0 m pc ls (.int v :: .int x :: .ref (ad 65) :: rest)) := gw_iast okM hx hb hK hP hD hS 64 110 8200 65 (Nat.le_of_ble_eq_true rfl) rfl rfl rfl rfl rfl hin hdg kk
theorem rd_Model_210 (hx : p.tables.exec = Jvm.exec) (hb : c.code = cc) (hT : ∀ w ∈ lw_good, w.before args s = true) (hown : s.vm.findClass R_Model = some m.cls) (hK : va_K (dC, dI) cls_all (gT LM km) s) (hP : va_P (dC, dI) cls_all (gW LM ad km T) H) (hdg : decode cc pc = .ok (.getfield 210, 3)) (kk : W p l e R s m args below meth c H locs cells slots Q (F0 m (pc + 3) ls (.ref (ad 66) :: rest))) : W p l e R s m args below meth c H locs cells slots Q (F0 m pc ls (.ref (ad 0) :: rest)) := gw_get hx hb hT i_Model hown hK hP 0 111 111 (Nat.le_of_ble_eq_true rfl) rfl rfl (Nat.le_of_ble_eq_true rfl) rfl (gv_a rfl) (hT _ fl_Model_210) (fun _ h9 => h9) hdg kk
theorem laM_65 (hx : p.tables.exec = Jvm.exec) (hb : c.code = cc) (hK : va_K (dC, dI) cls_all (gT LM km) s) (hP : va_P (dC, dI) cls_all (gW LM ad km T) H) {x : Int32} (hin : inb x 8200) (hdg : decode cc pc = .ok (.iaload, 1)) (kk : W p l e R s m args below meth c H locs cells slots Q (F0 m (pc + 1) ls (.int (T.1 111 x.toNatClampNeg) :: rest))) : W p l e R s m args below meth c H locs cells slots Q (F0 m pc ls (.int x :: .ref (ad 66) :: rest)) := gw_iald hx hb hK hP 65 111 8200 66 (Nat.le_of_ble_eq_true rfl) rfl rfl rfl rfl rfl hin hdg kk
theorem saM_65 (hx : p.tables.exec = Jvm.exec) (hb : c.code = cc) (hK : va_K (dC, dI) cls_all (gT LM km) s) (hP : va_P (dC, dI) cls_all (gW LM ad km T) H) (hD : va_D A (gW LM ad km T)) (hS : va_S A H0 H locs) {x : Int32} {v : Int32} (hin : inb x 8200) (hdg : decode cc pc = .ok (.iastore, 1)) (kk : ∀ (T1 : gSt), T1 = sI T 111 x.toNatClampNeg v → ∀ (H1 : Heap) (locs1 : List Loc), va_P (dC, dI) cls_all (gW LM ad km T1) H1 → va_D A (gW LM ad km T1) → va_S A H0 H1 locs1 → W p l e R s m args below meth c H1 locs1 cells slots Q (F0 m (pc + 1) ls rest)) : W p l e R s m args below meth c H locs cells slots Q (F0 m pc ls (.int v :: .int x :: .ref (ad 66) :: rest)) := gw_iast okM hx hb hK hP hD hS 65 111 8200 66 (Nat.le_of_ble_eq_true rfl) rfl rfl rfl rfl rfl hin hdg kk
theorem rd_Model_213 (hx : p.tables.exec = Jvm.exec) (hb : c.code = cc) (hT : ∀ w ∈ lw_good, w.before args s = true) (hown : s.vm.findClass R_Model = some m.cls) (hK : va_K (dC, dI) cls_all (gT LM km) s) (hP : va_P (dC, dI) cls_all (gW LM ad km T) H) (hdg : decode cc pc = .ok (.getfield 213, 3)) (kk : W p l e R s m args below meth c H locs cells slots Q (F0 m (pc + 3) ls (.ref (ad 67) :: rest))) : W p l e R s m args below meth c H locs cells slots Q (F0 m pc ls (.ref (ad 0) :: rest)) := gw_get hx hb hT i_Model hown hK hP 0 112 112 (Nat.le_of_ble_eq_true rfl) rfl rfl (Nat.le_of_ble_eq_true rfl) rfl (gv_a rfl) (hT _ fl_Model_213) (fun _ h9 => h9) hdg kk
theorem laM_66 (hx : p.tables.exec = Jvm.exec) (hb : c.code = cc) (hK : va_K (dC, dI) cls_all (gT LM km) s) (hP : va_P (dC, dI) cls_all (gW LM ad km T) H) {x : Int32} (hin : inb x 8200) (hdg : decode cc pc = .ok (.iaload, 1)) (kk : W p l e R s m args below meth c H locs cells slots Q (F0 m (pc + 1) ls (.int (T.1 112 x.toNatClampNeg) :: rest))) : W p l e R s m args below meth c H locs cells slots Q (F0 m pc ls (.int x :: .ref (ad 67) :: rest)) := gw_iald hx hb hK hP 66 112 8200 67 (Nat.le_of_ble_eq_true rfl) rfl rfl rfl rfl rfl hin hdg kk
theorem saM_66 (hx : p.tables.exec = Jvm.exec) (hb : c.code = cc) (hK : va_K (dC, dI) cls_all (gT LM km) s) (hP : va_P (dC, dI) cls_all (gW LM ad km T) H) (hD : va_D A (gW LM ad km T)) (hS : va_S A H0 H locs) {x : Int32} {v : Int32} (hin : inb x 8200) (hdg : decode cc pc = .ok (.iastore, 1)) (kk : ∀ (T1 : gSt), T1 = sI T 112 x.toNatClampNeg v → ∀ (H1 : Heap) (locs1 : List Loc), va_P (dC, dI) cls_all (gW LM ad km T1) H1 → va_D A (gW LM ad km T1) → va_S A H0 H1 locs1 → W p l e R s m args below meth c H1 locs1 cells slots Q (F0 m (pc + 1) ls rest)) : W p l e R s m args below meth c H locs cells slots Q (F0 m pc ls (.int v :: .int x :: .ref (ad 67) :: rest)) := gw_iast okM hx hb hK hP hD hS 66 112 8200 67 (Nat.le_of_ble_eq_true rfl) rfl rfl rfl rfl rfl hin hdg kk
theorem rd_Model_216 (hx : p.tables.exec = Jvm.exec) (hb : c.code = cc) (hT : ∀ w ∈ lw_good, w.before args s = true) (hown : s.vm.findClass R_Model = some m.cls) (hK : va_K (dC, dI) cls_all (gT LM km) s) (hP : va_P (dC, dI) cls_all (gW LM ad km T) H) (hdg : decode cc pc = .ok (.getfield 216, 3)) (kk : W p l e R s m args below meth c H locs cells slots Q (F0 m (pc + 3) ls (.ref (ad 68) :: rest))) : W p l e R s m args below meth c H locs cells slots Q (F0 m pc ls (.ref (ad 0) :: rest)) := gw_get hx hb hT i_Model hown hK hP 0 113 113 (Nat.le_of_ble_eq_true rfl) rfl rfl (Nat.le_of_ble_eq_true rfl) rfl (gv_a rfl) (hT _ fl_Model_216) (fun _ h9 => h9) hdg kk
theorem laM_67 (hx : p.tables.exec = Jvm.exec) (hb : c.code = cc) (hK : va_K (dC, dI) cls_all (gT LM km) s) (hP : va_P (dC, dI) cls_all (gW LM ad km T) H) {x : Int32} (hin : inb x 8200) (hdg : decode cc pc = .ok (.iaload, 1)) (kk : W p l e R s m args below meth c H locs cells slots Q (F0 m (pc + 1) ls (.int (T.1 113 x.toNatClampNeg) :: rest))) : W p l e R s m args below meth c H locs cells slots Q (F0 m pc ls (.int x :: .ref (ad 68) :: rest)) := gw_iald hx hb hK hP 67 113 8200 68 (Nat.le_of_ble_eq_true rfl) rfl rfl rfl rfl rfl hin hdg kk
theorem saM_67 (hx : p.tables.exec = Jvm.exec) (hb : c.code = cc) (hK : va_K (dC, dI) cls_all (gT LM km) s) (hP : va_P (dC, dI) cls_all (gW LM ad km T) H) (hD : va_D A (gW LM ad km T)) (hS : va_S A H0 H locs) {x : Int32} {v : Int32} (hin : inb x 8200) (hdg : decode cc pc = .ok (.iastore, 1)) (kk : ∀ (T1 : gSt), T1 = sI T 113 x.toNatClampNeg v → ∀ (H1 : Heap) (locs1 : List Loc), va_P (dC, dI) cls_all (gW LM ad km T1) H1 → va_D A (gW LM ad km T1) → va_S A H0 H1 locs1 → W p l e R s m args below meth c H1 locs1 cells slots Q (F0 m (pc + 1) ls rest)) : W p l e R s m args below meth c H locs cells slots Q (F0 m pc ls (.int v :: .int x :: .ref (ad 68) :: rest)) := gw_iast okM hx hb hK hP hD hS 67 113 8200 68 (Nat.le_of_ble_eq_true rfl) rfl rfl rfl rfl rfl hin hdg kk
theorem wr_Model_799 (hx : p.tables.exec = Jvm.exec) (hb : c.code = cc) (hT : ∀ w ∈ lw_good, w.before args s = true) (hown : s.vm.findClass R_Model = some m.cls) (hK : va_K (dC, dI) cls_all (gT LM km) s) (hP : va_P (dC, dI) cls_all (gW LM ad km T) H) (hD : va_D A (gW LM ad km T)) (hS : va_S A H0 H locs) {v : Int32} (hdg : decode cc pc = .ok (.putfield 799, 3)) (kk : ∀ (T1 : gSt), T1 = sI T 109 0 v → ∀ (H1 : Heap) (locs1 : List Loc), va_P (dC, dI) cls_all (gW LM ad km T1) H1 → va_D A (gW LM ad km T1) → va_S A H0 H1 locs1 → W p l e R s m args below meth c H1 locs1 cells slots Q (F0 m (pc + 3) ls rest)) : W p l e R s m args below meth c H locs cells slots Q (F0 m pc ls (.int v :: .ref (ad 0) :: rest)) := gw_puti okM hx hb hT i_Model t_Model t_Model_ok n_Model hown hK hP hD hS 0 109 109 (Nat.le_of_ble_eq_true rfl) rfl rfl (Nat.le_of_ble_eq_true rfl) rfl rfl (hT _ fl_Model_799) (fun _ h9 => h9) rfl (ty := .int) (by decide +kernel) rfl rfl hdg kk
theorem wr_Model_802 (hx : p.tables.exec = Jvm.exec) (hb : c.code = cc) (hT : ∀ w ∈ lw_good, w.before args s = true) (hown : s.vm.findClass R_Model = some m.cls) (hK : va_K (dC, dI) cls_all (gT LM km) s) (hP : va_P (dC, dI) cls_all (gW LM ad km T) H) (hD : va_D A (gW LM ad km T)) (hS : va_S A H0 H locs) {v : Int32} (hdg : decode cc pc = .ok (.putfield 802, 3)) (kk : ∀ (T1 : gSt), T1 = sI T 100 0 v → ∀ (H1 : Heap) (locs1 : List Loc), va_P (dC, dI) cls_all (gW LM ad km T1) H1 → va_D A (gW LM ad km T1) → va_S A H0 H1 locs1 → W p l e R s m args below meth c H1 locs1 cells slots Q (F0 m (pc + 3) ls rest)) : W p l e R s m args below meth c H locs cells slots Q (F0 m pc ls (.int v :: .ref (ad 0) :: rest)) := gw_puti okM hx hb hT i_Model t_Model t_Model_ok n_Model hown hK hP hD hS 0 100 100 (Nat.le_of_ble_eq_true rfl) rfl rfl (Nat.le_of_ble_eq_true rfl) rfl rfl (hT _ fl_Model_802) (fun _ h9 => h9) rfl (ty := .int) (by decide +kernel) rfl rfl hdg kk
theorem wr_Model_805 (hx : p.tables.exec = Jvm.exec) (hb : c.code = cc) (hT : ∀ w ∈ lw_good, w.before args s = true) (hown : s.vm.findClass R_Model = some m.cls) (hK : va_K (dC, dI) cls_all (gT LM km) s) (hP : va_P (dC, dI) cls_all (gW LM ad km T) H) (hD : va_D A (gW LM ad km T)) (hS : va_S A H0 H locs) {v : Int32} (hdg : decode cc pc = .ok (.putfield 805, 3)) (kk : ∀ (T1 : gSt), T1 = sI T 101 0 v → ∀ (H1 : Heap) (locs1 : List Loc), va_P (dC, dI) cls_all (gW LM ad km T1) H1 → va_D A (gW LM ad km T1) → va_S A H0 H1 locs1 → W p l e R s m args below meth c H1 locs1 cells slots Q (F0 m (pc + 3) ls rest)) : W p l e R s m args below meth c H locs cells slots Q (F0 m pc ls (.int v :: .ref (ad 0) :: rest)) := gw_puti okM hx hb hT i_Model t_Model t_Model_ok n_Model hown hK hP hD hS 0 101 101 (Nat.le_of_ble_eq_true rfl) rfl rfl (Nat.le_of_ble_eq_true rfl) rfl rfl (hT _ fl_Model_805) (fun _ h9 => h9) rfl (ty := .int) (by decide +kernel) rfl rfl hdg kk
theorem wr_Model_808 (hx : p.tables.exec = Jvm.exec) (hb : c.code = cc) (hT : ∀ w ∈ lw_good, w.before args s = true) (hown : s.vm.findClass R_Model = some m.cls) (hK : va_K (dC, dI) cls_all (gT LM km) s) (hP : va_P (dC, dI) cls_all (gW LM ad km T) H) (hD : va_D A (gW LM ad km T)) (hS : va_S A H0 H locs) {v : Int32} (hdg : decode cc pc = .ok (.putfield 808, 3)) (kk : ∀ (T1 : gSt), T1 = sI T 103 0 v → ∀ (H1 : Heap) (locs1 : List Loc), va_P (dC, dI) cls_all (gW LM ad km T1) H1 → va_D A (gW LM ad km T1) → va_S A H0 H1 locs1 → W p l e R s m args below meth c H1 locs1 cells slots Q (F0 m (pc + 3) ls rest)) : W p l e R s m args below meth c H locs cells slots Q (F0 m pc ls (.int v :: .ref (ad 0) :: rest)) := gw_puti okM hx hb hT i_Model t_Model t_Model_ok n_Model hown hK hP hD hS 0 103 103 (Nat.le_of_ble_eq_true rfl) rfl rfl (Nat.le_of_ble_eq_true rfl) rfl rfl (hT _ fl_Model_808) (fun _ h9 => h9) rfl (ty := .int) (by decide +kernel) rfl rfl hdg kk
theorem wr_Model_811 (hx : p.tables.exec = Jvm.exec) (hb : c.code = cc) (hT : ∀ w ∈ lw_good, w.before args s = true) (hown : s.vm.findClass R_Model = some m.cls) (hK : va_K (dC, dI) cls_all (gT LM km) s) (hP : va_P (dC, dI) cls_all (gW LM ad km T) H) (hD : va_D A (gW LM ad km T)) (hS : va_S A H0 H locs) {v : Int32} (hdg : decode cc pc = .ok (.putfield 811, 3)) (kk : ∀ (T1 : gSt), T1 = sI T 104 0 v → ∀ (H1 : Heap) (locs1 : List Loc), va_P (dC, dI) cls_all (gW LM ad km T1) H1 → va_D A (gW LM ad km T1) → va_S A H0 H1 locs1 → W p l e R s m args below meth c H1 locs1 cells slots Q (F0 m (pc + 3) ls rest)) : W p l e R s m args below meth c H locs cells slots Q (F0 m pc ls (.int v :: .ref (ad 0) :: rest)) := gw_puti okM hx hb hT i_Model t_Model t_Model_ok n_Model hown hK hP hD hS 0 104 104 (Nat.le_of_ble_eq_true rfl) rfl rfl (Nat.le_of_ble_eq_true rfl) rfl rfl (hT _ fl_Model_811) (fun _ h9 => h9) rfl (ty := .int) (by decide +kernel) rfl rfl hdg kk
theorem wr_Model_814 (hx : p.tables.exec = Jvm.exec) (hb : c.code = cc) (hT : ∀ w ∈ lw_good, w.before args s = true) (hown : s.vm.findClass R_Model = some m.cls) (hK : va_K (dC, dI) cls_all (gT LM km) s) (hP : va_P (dC, dI) cls_all (gW LM ad km T) H) (hD : va_D A (gW LM ad km T)) (hS : va_S A H0 H locs) {v : Int32} (hdg : decode cc pc = .ok (.putfield 814, 3)) (kk : ∀ (T1 : gSt), T1 = sI T 105 0 v → ∀ (H1 : Heap) (locs1 : List Loc), va_P (dC, dI) cls_all (gW LM ad km T1) H1 → va_D A (gW LM ad km T1) → va_S A H0 H1 locs1 → W p l e R s m args below meth c H1 locs1 cells slots Q (F0 m (pc + 3) ls rest)) : W p l e R s m args below meth c H locs cells slots Q (F0 m pc ls (.int v :: .ref (ad 0) :: rest)) := gw_puti okM hx hb hT i_Model t_Model t_Model_ok n_Model hown hK hP hD hS 0 105 105 (Nat.le_of_ble_eq_true rfl) rfl rfl (Nat.le_of_ble_eq_true rfl) rfl rfl (hT _ fl_Model_814) (fun _ h9 => h9) rfl (ty := .int) (by decide +kernel) rfl rfl hdg kk
theorem wr_Model_817 (hx : p.tables.exec = Jvm.exec) (hb : c.code = cc) (hT : ∀ w ∈ lw_good, w.before args s = true) (hown : s.vm.findClass R_Model = some m.cls) (hK : va_K (dC, dI) cls_all (gT LM km) s) (hP : va_P (dC, dI) cls_all (gW LM ad km T) H) (hD : va_D A (gW LM ad km T)) (hS : va_S A H0 H locs) {v : Int32} (hdg : decode cc pc = .ok (.putfield 817, 3)) (kk : ∀ (T1 : gSt), T1 = sI T 106 0 v → ∀ (H1 : Heap) (locs1 : List Loc), va_P (dC, dI) cls_all (gW LM ad km T1) H1 → va_D A (gW LM ad km T1) → va_S A H0 H1 locs1 → W p l e R s m args below meth c H1 locs1 cells slots Q (F0 m (pc + 3) ls rest)) : W p l e R s m args below meth c H locs cells slots Q (F0 m pc ls (.int v :: .ref (ad 0) :: rest)) := gw_puti okM hx hb hT i_Model t_Model t_Model_ok n_Model hown hK hP hD hS 0 106 106 (Nat.le_of_ble_eq_true rfl) rfl rfl (Nat.le_of_ble_eq_true rfl) rfl rfl (hT _ fl_Model_817) (fun _ h9 => h9) rfl (ty := .int) (by decide +kernel) rfl rfl hdg kk
theorem wr_Model_820 (hx : p.tables.exec = Jvm.exec) (hb : c.code = cc) (hT : ∀ w ∈ lw_good, w.before args s = true) (hown : s.vm.findClass R_Model = some m.cls) (hK : va_K (dC, dI) cls_all (gT LM km) s) (hP : va_P (dC, dI) cls_all (gW LM ad km T) H) (hD : va_D A (gW LM ad km T)) (hS : va_S A H0 H locs) {v : Int32} (hdg : decode cc pc = .ok (.putfield 820, 3)) (kk : ∀ (T1 : gSt), T1 = sI T 107 0 v → ∀ (H1 : Heap) (locs1 : List Loc), va_P (dC, dI) cls_all (gW LM ad km T1) H1 → va_D A (gW LM ad km T1) → va_S A H0 H1 locs1 → W p l e R s m args below meth c H1 locs1 cells slots Q (F0 m (pc + 3) ls rest)) : W p l e R s m args below meth c H locs cells slots Q (F0 m pc ls (.int v :: .ref (ad 0) :: rest)) := gw_puti okM hx hb hT i_Model t_Model t_Model_ok n_Model hown hK hP hD hS 0 107 107 (Nat.le_of_ble_eq_true rfl) rfl rfl (Nat.le_of_ble_eq_true rfl) rfl rfl (hT _ fl_Model_820) (fun _ h9 => h9) rfl (ty := .int) (by decide +kernel) rfl rfl hdg kk
theorem wr_Model_823 (hx : p.tables.exec = Jvm.exec) (hb : c.code = cc) (hT : ∀ w ∈ lw_good, w.before args s = true) (hown : s.vm.findClass R_Model = some m.cls) (hK : va_K (dC, dI) cls_all (gT LM km) s) (hP : va_P (dC, dI) cls_all (gW LM ad km T) H) (hD : va_D A (gW LM ad km T)) (hS : va_S A H0 H locs) {v : Int32} (hdg : decode cc pc = .ok (.putfield 823, 3)) (kk : ∀ (T1 : gSt), T1 = sI T 108 0 v → ∀ (H1 : Heap) (locs1 : List Loc), va_P (dC, dI) cls_all (gW LM ad km T1) H1 → va_D A (gW LM ad km T1) → va_S A H0 H1 locs1 → W p l e R s m args below meth c H1 locs1 cells slots Q (F0 m (pc + 3) ls rest)) : W p l e R s m args below meth c H locs cells slots Q (F0 m pc ls (.int v :: .ref (ad 0) :: rest)) := gw_puti okM hx hb hT i_Model t_Model t_Model_ok n_Model hown hK hP hD hS 0 108 108 (Nat.le_of_ble_eq_true rfl) rfl rfl (Nat.le_of_ble_eq_true rfl) rfl rfl (hT _ fl_Model_823) (fun _ h9 => h9) rfl (ty := .int) (by decide +kernel) rfl rfl hdg kk
theorem wr_Model_826 (hx : p.tables.exec = Jvm.exec) (hb : c.code = cc) (hT : ∀ w ∈ lw_good, w.before args s = true) (hown : s.vm.findClass R_Model = some m.cls) (hK : va_K (dC, dI) cls_all (gT LM km) s) (hP : va_P (dC, dI) cls_all (gW LM ad km T) H) (hD : va_D A (gW LM ad km T)) (hS : va_S A H0 H locs) {v : Int32} (hdg : decode cc pc = .ok (.putfield 826, 3)) (kk : ∀ (T1 : gSt), T1 = sI T 129 0 v → ∀ (H1 : Heap) (locs1 : List Loc), va_P (dC, dI) cls_all (gW LM ad km T1) H1 → va_D A (gW LM ad km T1) → va_S A H0 H1 locs1 → W p l e R s m args below meth c H1 locs1 cells slots Q (F0 m (pc + 3) ls rest)) : W p l e R s m args below meth c H locs cells slots Q (F0 m pc ls (.int v :: .ref (ad 0) :: rest)) := gw_puti okM hx hb hT i_Model t_Model t_Model_ok n_Model hown hK hP hD hS 0 129 129 (Nat.le_of_ble_eq_true rfl) rfl rfl (Nat.le_of_ble_eq_true rfl) rfl rfl (hT _ fl_Model_826) (fun _ h9 => h9) rfl (ty := .int) (by decide +kernel) rfl rfl hdg kk
theorem wr_Model_829 (hx : p.tables.exec = Jvm.exec) (hb : c.code = cc) (hT : ∀ w ∈ lw_good, w.before args s = true) (hown : s.vm.findClass R_Model = some m.cls) (hK : va_K (dC, dI) cls_all (gT LM km) s) (hP : va_P (dC, dI) cls_all (gW LM ad km T) H) (hD : va_D A (gW LM ad km T)) (hS : va_S A H0 H locs) {v : Int32} (hdg : decode cc pc = .ok (.putfield 829, 3)) (kk : ∀ (T1 : gSt), T1 = sI T 150 0 v → ∀ (H1 : Heap) (locs1 : List Loc), va_P (dC, dI) cls_all (gW LM ad km T1) H1 → va_D A (gW LM ad km T1) → va_S A H0 H1 locs1 → W p l e R s m args below meth c H1 locs1 cells slots Q (F0 m (pc + 3) ls rest)) : W p l e R s m args below meth c H locs cells slots Q (F0 m pc ls (.int v :: .ref (ad 0) :: rest)) := gw_puti okM hx hb hT i_Model t_Model t_Model_ok n_Model hown hK hP hD hS 0 150 150 (Nat.le_of_ble_eq_true rfl) rfl rfl (Nat.le_of_ble_eq_true rfl) rfl rfl (hT _ fl_Model_829) (fun _ h9 => h9) rfl (ty := .int) (by decide +kernel) rfl rfl hdg kk
theorem wr_Model_832 (hx : p.tables.exec = Jvm.exec) (hb : c.code = cc) (hT : ∀ w ∈ lw_good, w.before args s = true) (hown : s.vm.findClass R_Model = some m.cls) (hK : va_K (dC, dI) cls_all (gT LM km) s) (hP : va_P (dC, dI) cls_all (gW LM ad km T) H) (hD : va_D A (gW LM ad km T)) (hS : va_S A H0 H locs) {v : Int32} (hdg : decode cc pc = .ok (.putfield 832, 3)) (kk : ∀ (T1 : gSt), T1 = sI T 123 0 v → ∀ (H1 : Heap) (locs1 : List Loc), va_P (dC, dI) cls_all (gW LM ad km T1) H1 → va_D A (gW LM ad km T1) → va_S A H0 H1 locs1 → W p l e R s m args below meth c H1 locs1 cells slots Q (F0 m (pc + 3) ls rest)) : W p l e R s m args below meth c H locs cells slots Q (F0 m pc ls (.int v :: .ref (ad 0) :: rest)) := gw_puti okM hx hb hT i_Model t_Model t_Model_ok n_Model hown hK hP hD hS 0 123 123 (Nat.le_of_ble_eq_true rfl) rfl rfl (Nat.le_of_ble_eq_true rfl) rfl rfl (hT _ fl_Model_832) (fun _ h9 => h9) rfl (ty := .int) (by decide +kernel) rfl rfl hdg kk
theorem wr_Model_835 (hx : p.tables.exec = Jvm.exec) (hb : c.code = cc) (hT : ∀ w ∈ lw_good, w.before args s = true) (hown : s.vm.findClass R_Model = some m.cls) (hK : va_K (dC, dI) cls_all (gT LM km) s) (hP : va_P (dC, dI) cls_all (gW LM ad km T) H) (hD : va_D A (gW LM ad km T)) (hS : va_S A H0 H locs) {v : Int32} (hdg : decode cc pc = .ok (.putfield 835, 3)) (kk : ∀ (T1 : gSt), T1 = sI T 130 0 v → ∀ (H1 : Heap) (locs1 : List Loc), va_P (dC, dI) cls_all (gW LM ad km T1) H1 → va_D A (gW LM ad km T1) → va_S A H0 H1 locs1 → W p l e R s m args below meth c H1 locs1 cells slots Q (F0 m (pc + 3) ls rest)) : W p l e R s m args below meth c H locs cells slots Q (F0 m pc ls (.int v :: .ref (ad 0) :: rest)) := gw_puti okM hx hb hT i_Model t_Model t_Model_ok n_Model hown hK hP hD hS 0 130 130 (Nat.le_of_ble_eq_true rfl) rfl rfl (Nat.le_of_ble_eq_true rfl) rfl rfl (hT _ fl_Model_835) (fun _ h9 => h9) rfl (ty := .int) (by decide +kernel) rfl rfl hdg kk
theorem wr_Model_838 (hx : p.tables.exec = Jvm.exec) (hb : c.code = cc) (hT : ∀ w ∈ lw_good, w.before args s = true) (hown : s.vm.findClass R_Model = some m.cls) (hK : va_K (dC, dI) cls_all (gT LM km) s) (hP : va_P (dC, dI) cls_all (gW LM ad km T) H) (hD : va_D A (gW LM ad km T)) (hS : va_S A H0 H locs) {v : Int32} (hdg : decode cc pc = .ok (.putfield 838, 3)) (kk : ∀ (T1 : gSt), T1 = sI T 132 0 v → ∀ (H1 : Heap) (locs1 : List Loc), va_P (dC, dI) cls_all (gW LM ad km T1) H1 → va_D A (gW LM ad km T1) → va_S A H0 H1 locs1 → W p l e R s m args below meth c H1 locs1 cells slots Q (F0 m (pc + 3) ls rest)) : W p l e R s m args below meth c H locs cells slots Q (F0 m pc ls (.int v :: .ref (ad 0) :: rest)) := gw_puti okM hx hb hT i_Model t_Model t_Model_ok n_Model hown hK hP hD hS 0 132 132 (Nat.le_of_ble_eq_true rfl) rfl rfl (Nat.le_of_ble_eq_true rfl) rfl rfl (hT _ fl_Model_838) (fun _ h9 => h9) rfl (ty := .int) (by decide +kernel) rfl rfl hdg kk
theorem rd_Model_261 (hx : p.tables.exec = Jvm.exec) (hb : c.code = cc) (hT : ∀ w ∈ lw_good, w.before args s = true) (hown : s.vm.findClass R_Model = some m.cls) (hK : va_K (dC, dI) cls_all (gT LM km) s) (hP : va_P (dC, dI) cls_all (gW LM ad km T) H) (hdg : decode cc pc = .ok (.getfield 261, 3)) (kk : W p l e R s m args below meth c H locs cells slots Q (F0 m (pc + 3) ls (.ref (ad 83) :: rest))) : W p l e R s m args below meth c H locs cells slots Q (F0 m pc ls (.ref (ad 0) :: rest)) := gw_get hx hb hT i_Model hown hK hP 0 133 133 (Nat.le_of_ble_eq_true rfl) rfl rfl (Nat.le_of_ble_eq_true rfl) rfl (gv_a rfl) (hT _ fl_Model_261) (fun _ h9 => h9) hdg kk
theorem laM_82 (hx : p.tables.exec = Jvm.exec) (hb : c.code = cc) (hK : va_K (dC, dI) cls_all (gT LM km) s) (hP : va_P (dC, dI) cls_all (gW LM ad km T) H) {x : Int32} (hin : inb x 400) (hdg : decode cc pc = .ok (.iaload, 1)) (kk : W p l e R s m args below meth c H locs cells slots Q (F0 m (pc + 1) ls (.int (T.1 133 x.toNatClampNeg) :: rest))) : W p l e R s m args below meth c H locs cells slots Q (F0 m pc ls (.int x :: .ref (ad 83) :: rest)) := gw_iald hx hb hK hP 82 133 400 83 (Nat.le_of_ble_eq_true rfl) rfl rfl rfl rfl rfl hin hdg kk
theorem saM_82 (hx : p.tables.exec = Jvm.exec) (hb : c.code = cc) (hK : va_K (dC, dI) cls_all (gT LM km) s) (hP : va_P (dC, dI) cls_all (gW LM ad km T) H) (hD : va_D A (gW LM ad km T)) (hS : va_S A H0 H locs) {x : Int32} {v : Int32} (hin : inb x 400) (hdg : decode cc pc = .ok (.iastore, 1)) (kk : ∀ (T1 : gSt), T1 = sI T 133 x.toNatClampNeg v → ∀ (H1 : Heap) (locs1 : List Loc), va_P (dC, dI) cls_all (gW LM ad km T1) H1 → va_D A (gW LM ad km T1) → va_S A H0 H1 locs1 → W p l e R s m args below meth c H1 locs1 cells slots Q (F0 m (pc + 1) ls rest)) : W p l e R s m args below meth c H locs cells slots Q (F0 m pc ls (.int v :: .int x :: .ref (ad 83) :: rest)) := gw_iast okM hx hb hK hP hD hS 82 133 400 83 (Nat.le_of_ble_eq_true rfl) rfl rfl rfl rfl rfl hin hdg kk
theorem rd_Model_264 (hx : p.tables.exec = Jvm.exec) (hb : c.code = cc) (hT : ∀ w ∈ lw_good, w.before args s = true) (hown : s.vm.findClass R_Model = some m.cls) (hK : va_K (dC, dI) cls_all (gT LM km) s) (hP : va_P (dC, dI) cls_all (gW LM ad km T) H) (hdg : decode cc pc = .ok (.getfield 264, 3)) (kk : W p l e R s m args below meth c H locs cells slots Q (F0 m (pc + 3) ls (.ref (ad 84) :: rest))) : W p l e R s m args below meth c H locs cells slots Q (F0 m pc ls (.ref (ad 0) :: rest)) := gw_get hx hb hT i_Model hown hK hP 0 134 134 (Nat.le_of_ble_eq_true rfl) rfl rfl (Nat.le_of_ble_eq_true rfl) rfl (gv_a rfl) (hT _ fl_Model_264) (fun _ h9 => h9) hdg kk
theorem laM_83 (hx : p.tables.exec = Jvm.exec) (hb : c.code = cc) (hK : va_K (dC, dI) cls_all (gT LM km) s) (hP : va_P (dC, dI) cls_all (gW LM ad km T) H) {x : Int32} (hin : inb x 400) (hdg : decode cc pc = .ok (.iaload, 1)) (kk : W p l e R s m args below meth c H locs cells slots Q (F0 m (pc + 1) ls (.int (T.1 134 x.toNatClampNeg) :: rest))) : W p l e R s m args below meth c H locs cells slots Q (F0 m pc ls (.int x :: .ref (ad 84) :: rest)) := gw_iald hx hb hK hP 83 134 400 84 (Nat.le_of_ble_eq_true rfl) rfl rfl rfl rfl rfl hin hdg kk
theorem saM_83 (hx : p.tables.exec = Jvm.exec) (hb : c.code = cc) (hK : va_K (dC, dI) cls_all (gT LM km) s) (hP : va_P (dC, dI) cls_all (gW LM ad km T) H) (hD : va_D A (gW LM ad km T)) (hS : va_S A H0 H locs) {x : Int32} {v : Int32} (hin : inb x 400) (hdg : decode cc pc = .ok (.iastore, 1)) (kk : ∀ (T1 : gSt), T1 = sI T 134 x.toNatClampNeg v → ∀ (H1 : Heap) (locs1 : List Loc), va_P (dC, dI) cls_all (gW LM ad km T1) H1 → va_D A (gW LM ad km T1) → va_S A H0 H1 locs1 → W p l e R s m args below meth c H1 locs1 cells slots Q (F0 m (pc + 1) ls rest)) : W p l e R s m args below meth c H locs cells slots Q (F0 m pc ls (.int v :: .int x :: .ref (ad 84) :: rest)) := gw_iast okM hx hb hK hP hD hS 83 134 400 84 (Nat.le_of_ble_eq_true rfl) rfl rfl rfl rfl rfl hin hdg kk
theorem rd_Model_267 (hx : p.tables.exec = Jvm.exec) (hb : c.code = cc) (hT : ∀ w ∈ lw_good, w.before args s = true) (hown : s.vm.findClass R_Model = some m.cls) (hK : va_K (dC, dI) cls_all (gT LM km) s) (hP : va_P (dC, dI) cls_all (gW LM ad km T) H) (hdg : decode cc pc = .ok (.getfield 267, 3)) (kk : W p l e R s m args below meth c H locs cells slots Q (F0 m (pc + 3) ls (.ref (ad 85) :: rest))) : W p l e R s m args below meth c H locs cells slots Q (F0 m pc ls (.ref (ad 0) :: rest)) := gw_get hx hb hT i_Model hown hK hP 0 135 135 (Nat.le_of_ble_eq_true rfl) rfl rfl (Nat.le_of_ble_eq_true rfl) rfl (gv_a rfl) (hT _ fl_Model_267) (fun _ h9 => h9) hdg kk
theorem laM_84 (hx : p.tables.exec = Jvm.exec) (hb : c.code = cc) (hK : va_K (dC, dI) cls_all (gT LM km) s) (hP : va_P (dC, dI) cls_all (gW LM ad km T) H) {x : Int32} (hin : inb x 400) (hdg : decode cc pc = .ok (.iaload, 1)) (kk : W p l e R s m args below meth c H locs cells slots Q (F0 m (pc + 1) ls (.int (T.1 135 x.toNatClampNeg) :: rest))) : W p l e R s m args below meth c H locs cells slots Q (F0 m pc ls (.int x :: .ref (ad 85) :: rest)) := gw_iald hx hb hK hP 84 135 400 85 (Nat.le_of_ble_eq_true rfl) rfl rfl rfl rfl rfl hin hdg kk
theorem saM_84 (hx : p.tables.exec = Jvm.exec) (hb : c.code = cc) (hK : va_K (dC, dI) cls_all (gT LM km) s) (hP : va_P (dC, dI) cls_all (gW LM ad km T) H) (hD : va_D A (gW LM ad km T)) (hS : va_S A H0 H locs) {x : Int32} {v : Int32} (hin : inb x 400) (hdg : decode cc pc = .ok (.iastore, 1)) (kk : ∀ (T1 : gSt), T1 = sI T 135 x.toNatClampNeg v → ∀ (H1 : Heap) (locs1 : List Loc), va_P (dC, dI) cls_all (gW LM ad km T1) H1 → va_D A (gW LM ad km T1) → va_S A H0 H1 locs1 → W p l e R s m args below meth c H1 locs1 cells slots Q (F0 m (pc + 1) ls rest)) : W p l e R s m args below meth c H locs cells slots Q (F0 m pc ls (.int v :: .int x :: .ref (ad 85) :: rest)) := gw_iast okM hx hb hK hP hD hS 84 135 400 85 (Nat.le_of_ble_eq_true rfl) rfl rfl rfl rfl rfl hin hdg kk
theorem rd_Model_270 (hx : p.tables.exec = Jvm.exec) (hb : c.code = cc) (hT : ∀ w ∈ lw_good, w.before args s = true) (hown : s.vm.findClass R_Model = some m.cls) (hK : va_K (dC, dI) cls_all (gT LM km) s) (hP : va_P (dC, dI) cls_all (gW LM ad km T) H) (hdg : decode cc pc = .ok (.getfield 270, 3)) (kk : W p l e R s m args below meth c H locs cells slots Q (F0 m (pc + 3) ls (.ref (ad 86) :: rest))) : W p l e R s m args below meth c H locs cells slots Q (F0 m pc ls (.ref (ad 0) :: rest)) := gw_get hx hb hT i_Model hown hK hP 0 136 136 (Nat.le_of_ble_eq_true rfl) rfl rfl (Nat.le_of_ble_eq_true rfl) rfl (gv_a rfl) (hT _ fl_Model_270) (fun _ h9 => h9) hdg kk
theorem laM_85 (hx : p.tables.exec = Jvm.exec) (hb : c.code = cc) (hK : va_K (dC, dI) cls_all (gT LM km) s) (hP : va_P (dC, dI) cls_all (gW LM ad km T) H) {x : Int32} (hin : inb x 400) (hdg : decode cc pc = .ok (.iaload, 1)) (kk : W p l e R s m args below meth c H locs cells slots Q (F0 m (pc + 1) ls (.int (T.1 136 x.toNatClampNeg) :: rest))) : W p l e R s m args below meth c H locs cells slots Q (F0 m pc ls (.int x :: .ref (ad 86) :: rest)) := gw_iald hx hb hK hP 85 136 400 86 (Nat.le_of_ble_eq_true rfl) rfl rfl rfl rfl rfl hin hdg kk
theorem saM_85 (hx : p.tables.exec = Jvm.exec) (hb : c.code = cc) (hK : va_K (dC, dI) cls_all (gT LM km) s) (hP : va_P (dC, dI) cls_all (gW LM ad km T) H) (hD : va_D A (gW LM ad km T)) (hS : va_S A H0 H locs) {x : Int32} {v : Int32} (hin : inb x 400) (hdg : decode cc pc = .ok (.iastore, 1)) (kk : ∀ (T1 : gSt), T1 = sI T 136 x.toNatClampNeg v → ∀ (H1 : Heap) (locs1 : List Loc), va_P (dC, dI) cls_all (gW LM ad km T1) H1 → va_D A (gW LM ad km T1) → va_S A H0 H1 locs1 → W p l e R s m args below meth c H1 locs1 cells slots Q (F0 m (pc + 1) ls rest)) : W p l e R s m args below meth c H locs cells slots Q (F0 m pc ls (.int v :: .int x :: .ref (ad 86) :: rest)) := gw_iast okM hx hb hK hP hD hS 85 136 400 86 (Nat.le_of_ble_eq_true rfl) rfl rfl rfl rfl rfl hin hdg kk
theorem rd_Model_826 (hx : p.tables.exec = Jvm.exec) (hb : c.code = cc) (hT : ∀ w ∈ lw_good, w.before args s = true) (hown : s.vm.findClass R_Model = some m.cls) (hK : va_K (dC, dI) cls_all (gT LM km) s) (hP : va_P (dC, dI) cls_all (gW LM ad km T) H) (hdg : decode cc pc = .ok (.getfield 826, 3)) (kk : W p l e R s m args below meth c H locs cells slots Q (F0 m (pc + 3) ls (.int (T.1 129 0) :: rest))) : W p l e R s m args below meth c H locs cells slots Q (F0 m pc ls (.ref (ad 0) :: rest)) := gw_get hx hb hT i_Model hown hK hP 0 129 129 (Nat.le_of_ble_eq_true rfl) rfl rfl (Nat.le_of_ble_eq_true rfl) rfl (gv_i rfl) (hT _ fl_Model_826) (fun _ h9 => h9) hdg kk
theorem rd_Model_838 (hx : p.tables.exec = Jvm.exec) (hb : c.code = cc) (hT : ∀ w ∈ lw_good, w.before args s = true) (hown : s.vm.findClass R_Model = some m.cls) (hK : va_K (dC, dI) cls_all (gT LM km) s) (hP : va_P (dC, dI) cls_all (gW LM ad km T) H) (hdg : decode cc pc = .ok (.getfield 838, 3)) (kk : W p l e R s m args below meth c H locs cells slots Q (F0 m (pc + 3) ls (.int (T.1 132 0) :: rest))) : W p l e R s m args below meth c H locs cells slots Q (F0 m pc ls (.ref (ad 0) :: rest)) := gw_get hx hb hT i_Model hown hK hP 0 132 132 (Nat.le_of_ble_eq_true rfl) rfl rfl (Nat.le_of_ble_eq_true rfl) rfl (gv_i rfl) (hT _ fl_Model_838) (fun _ h9 => h9) hdg kk
theorem rd_Model_273 (hx : p.tables.exec = Jvm.exec) (hb : c.code = cc) (hT : ∀ w ∈ lw_good, w.before args s = true) (hown : s.vm.findClass R_Model = some m.cls) (hK : va_K (dC, dI) cls_all (gT LM km) s) (hP : va_P (dC, dI) cls_all (gW LM ad km T) H) (hdg : decode cc pc = .ok (.getfield 273, 3)) (kk : W p l e R s m args below meth c H locs cells slots Q (F0 m (pc + 3) ls (.ref (ad 87) :: rest))) : W p l e R s m args below meth c H locs cells slots Q (F0 m pc ls (.ref (ad 0) :: rest)) := gw_get hx hb hT i_Model hown hK hP 0 138 138 (Nat.le_of_ble_eq_true rfl) rfl rfl (Nat.le_of_ble_eq_true rfl) rfl (gv_a rfl) (hT _ fl_Model_273) (fun _ h9 => h9) hdg kk
theorem laM_86 (hx : p.tables.exec = Jvm.exec) (hb : c.code = cc) (hK : va_K (dC, dI) cls_all (gT LM km) s) (hP : va_P (dC, dI) cls_all (gW LM ad km T) H) {x : Int32} (hin : inb x 4096) (hdg : decode cc pc = .ok (.iaload, 1)) (kk : W p l e R s m args below meth c H locs cells slots Q (F0 m (pc + 1) ls (.int (T.1 138 x.toNatClampNeg) :: rest))) : W p l e R s m args below meth c H locs cells slots Q (F0 m pc ls (.int x :: .ref (ad 87) :: rest)) := gw_iald hx hb hK hP 86 138 4096 87 (Nat.le_of_ble_eq_true rfl) rfl rfl rfl rfl rfl hin hdg kk
theorem saM_86 (hx : p.tables.exec = Jvm.exec) (hb : c.code = cc) (hK : va_K (dC, dI) cls_all (gT LM km) s) (hP : va_P (dC, dI) cls_all (gW LM ad km T) H) (hD : va_D A (gW LM ad km T)) (hS : va_S A H0 H locs) {x : Int32} {v : Int32} (hin : inb x 4096) (hdg : decode cc pc = .ok (.iastore, 1)) (kk : ∀ (T1 : gSt), T1 = sI T 138 x.toNatClampNeg v → ∀ (H1 : Heap) (locs1 : List Loc), va_P (dC, dI) cls_all (gW LM ad km T1) H1 → va_D A (gW LM ad km T1) → va_S A H0 H1 locs1 → W p l e R s m args below meth c H1 locs1 cells slots Q (F0 m (pc + 1) ls rest)) : W p l e R s m args below meth c H locs cells slots Q (F0 m pc ls (.int v :: .int x :: .ref (ad 87) :: rest)) := gw_iast okM hx hb hK hP hD hS 86 138 4096 87 (Nat.le_of_ble_eq_true rfl) rfl rfl rfl rfl rfl hin hdg kk
theorem rd_Model_282 (hx : p.tables.exec = Jvm.exec) (hb : c.code = cc) (hT : ∀ w ∈ lw_good, w.before args s = true) (hown : s.vm.findClass R_Model = some m.cls) (hK : va_K (dC, dI) cls_all (gT LM km) s) (hP : va_P (dC, dI) cls_all (gW LM ad km T) H) (hdg : decode cc pc = .ok (.getfield 282, 3)) (kk : W p l e R s m args below meth c H locs cells slots Q (F0 m (pc + 3) ls (.ref (ad 90) :: rest))) : W p l e R s m args below meth c H locs cells slots Q (F0 m pc ls (.ref (ad 0) :: rest)) := gw_get hx hb hT i_Model hown hK hP 0 141 141 (Nat.le_of_ble_eq_true rfl) rfl rfl (Nat.le_of_ble_eq_true rfl) rfl (gv_a rfl) (hT _ fl_Model_282) (fun _ h9 => h9) hdg kk
theorem laM_89 (hx : p.tables.exec = Jvm.exec) (hb : c.code = cc) (hK : va_K (dC, dI) cls_all (gT LM km) s) (hP : va_P (dC, dI) cls_all (gW LM ad km T) H) {x : Int32} (hin : inb x 4096) (hdg : decode cc pc = .ok (.iaload, 1)) (kk : W p l e R s m args below meth c H locs cells slots Q (F0 m (pc + 1) ls (.int (T.1 141 x.toNatClampNeg) :: rest))) : W p l e R s m args below meth c H locs cells slots Q (F0 m pc ls (.int x :: .ref (ad 90) :: rest)) := gw_iald hx hb hK hP 89 141 4096 90 (Nat.le_of_ble_eq_true rfl) rfl rfl rfl rfl rfl hin hdg kk
theorem saM_89 (hx : p.tables.exec = Jvm.exec) (hb : c.code = cc) (hK : va_K (dC, dI) cls_all (gT LM km) s) (hP : va_P (dC, dI) cls_all (gW LM ad km T) H) (hD : va_D A (gW LM ad km T)) (hS : va_S A H0 H locs) {x : Int32} {v : Int32} (hin : inb x 4096) (hdg : decode cc pc = .ok (.iastore, 1)) (kk : ∀ (T1 : gSt), T1 = sI T 141 x.toNatClampNeg v → ∀ (H1 : Heap) (locs1 : List Loc), va_P (dC, dI) cls_all (gW LM ad km T1) H1 → va_D A (gW LM ad km T1) → va_S A H0 H1 locs1 → W p l e R s m args below meth c H1 locs1 cells slots Q (F0 m (pc + 1) ls rest)) : W p l e R s m args below meth c H locs cells slots Q (F0 m pc ls (.int v :: .int x :: .ref (ad 90) :: rest)) := gw_iast okM hx hb hK hP hD hS 89 141 4096 90 (Nat.le_of_ble_eq_true rfl) rfl rfl rfl rfl rfl hin hdg kk
theorem rd_Model_276 (hx : p.tables.exec = Jvm.exec) (hb : c.code = cc) (hT : ∀ w ∈ lw_good, w.before args s = true) (hown : s.vm.findClass R_Model = some m.cls) (hK : va_K (dC, dI) cls_all (gT LM km) s) (hP : va_P (dC, dI) cls_all (gW LM ad km T) H) (hdg : decode cc pc = .ok (.getfield 276, 3)) (kk : W p l e R s m args below meth c H locs cells slots Q (F0 m (pc + 3) ls (.ref (ad 88) :: rest))) : W p l e R s m args below meth c H locs cells slots Q (F0 m pc ls (.ref (ad 0) :: rest)) := gw_get hx hb hT i_Model hown hK hP 0 139 139 (Nat.le_of_ble_eq_true rfl) rfl rfl (Nat.le_of_ble_eq_true rfl) rfl (gv_a rfl) (hT _ fl_Model_276) (fun _ h9 => h9) hdg kk
theorem laM_87 (hx : p.tables.exec = Jvm.exec) (hb : c.code = cc) (hK : va_K (dC, dI) cls_all (gT LM km) s) (hP : va_P (dC, dI) cls_all (gW LM ad km T) H) {x : Int32} (hin : inb x 4096) (hdg : decode cc pc = .ok (.iaload, 1)) (kk : W p l e R s m args below meth c H locs cells slots Q (F0 m (pc + 1) ls (.int (T.1 139 x.toNatClampNeg) :: rest))) : W p l e R s m args below meth c H locs cells slots Q (F0 m pc ls (.int x :: .ref (ad 88) :: rest)) := gw_iald hx hb hK hP 87 139 4096 88 (Nat.le_of_ble_eq_true rfl) rfl rfl rfl rfl rfl hin hdg kk
theorem saM_87 (hx : p.tables.exec = Jvm.exec) (hb : c.code = cc) (hK : va_K (dC, dI) cls_all (gT LM km) s) (hP : va_P (dC, dI) cls_all (gW LM ad km T) H) (hD : va_D A (gW LM ad km T)) (hS : va_S A H0 H locs) {x : Int32} {v : Int32} (hin : inb x 4096) (hdg : decode cc pc = .ok (.iastore, 1)) (kk : ∀ (T1 : gSt), T1 = sI T 139 x.toNatClampNeg v → ∀ (H1 : Heap) (locs1 : List Loc), va_P (dC, dI) cls_all (gW LM ad km T1) H1 → va_D A (gW LM ad km T1) → va_S A H0 H1 locs1 → W p l e R s m args below meth c H1 locs1 cells slots Q (F0 m (pc + 1) ls rest)) : W p l e R s m args below meth c H locs cells slots Q (F0 m pc ls (.int v :: .int x :: .ref (ad 88) :: rest)) := gw_iast okM hx hb hK hP hD hS 87 139 4096 88 (Nat.le_of_ble_eq_true rfl) rfl rfl rfl rfl rfl hin hdg kk
theorem rd_Model_304 (hx : p.tables.exec = Jvm.exec) (hb : c.code = cc) (hT : ∀ w ∈ lw_good, w.before args s = true) (hown : s.vm.findClass R_Model = some m.cls) (hK : va_K (dC, dI) cls_all (gT LM km) s) (hP : va_P (dC, dI) cls_all (gW LM ad km T) H) (hdg : decode cc pc = .ok (.getfield 304, 3)) (kk : W p l e R s m args below meth c H locs cells slots Q (F0 m (pc + 3) ls (.ref (ad 97) :: rest))) : W p l e R s m args below meth c H locs cells slots Q (F0 m pc ls (.ref (ad 0) :: rest)) := gw_get hx hb hT i_Model hown hK hP 0 149 149 (Nat.le_of_ble_eq_true rfl) rfl rfl (Nat.le_of_ble_eq_true rfl) rfl (gv_a rfl) (hT _ fl_Model_304) (fun _ h9 => h9) hdg kk
theorem laM_96 (hx : p.tables.exec = Jvm.exec) (hb : c.code = cc) (hK : va_K (dC, dI) cls_all (gT LM km) s) (hP : va_P (dC, dI) cls_all (gW LM ad km T) H) {x : Int32} (hin : inb x 4096) (hdg : decode cc pc = .ok (.iaload, 1)) (kk : W p l e R s m args below meth c H locs cells slots Q (F0 m (pc + 1) ls (.int (T.1 149 x.toNatClampNeg) :: rest))) : W p l e R s m args below meth c H locs cells slots Q (F0 m pc ls (.int x :: .ref (ad 97) :: rest)) := gw_iald hx hb hK hP 96 149 4096 97 (Nat.le_of_ble_eq_true rfl) rfl rfl rfl rfl rfl hin hdg kk
theorem saM_96 (hx : p.tables.exec = Jvm.exec) (hb : c.code = cc) (hK : va_K (dC, dI) cls_all (gT LM km) s) (hP : va_P (dC, dI) cls_all (gW LM ad km T) H) (hD : va_D A (gW LM ad km T)) (hS : va_S A H0 H locs) {x : Int32} {v : Int32} (hin : inb x 4096) (hdg : decode cc pc = .ok (.iastore, 1)) (kk : ∀ (T1 : gSt), T1 = sI T 149 x.toNatClampNeg v → ∀ (H1 : Heap) (locs1 : List Loc), va_P (dC, dI) cls_all (gW LM ad km T1) H1 → va_D A (gW LM ad km T1) → va_S A H0 H1 locs1 → W p l e R s m args below meth c H1 locs1 cells slots Q (F0 m (pc + 1) ls rest)) : W p l e R s m args below meth c H locs cells slots Q (F0 m pc ls (.int v :: .int x :: .ref (ad 97) :: rest)) := gw_iast okM hx hb hK hP hD hS 96 149 4096 97 (Nat.le_of_ble_eq_true rfl) rfl rfl rfl rfl rfl hin hdg kk
theorem rd_Model_841 (hx : p.tables.exec = Jvm.exec) (hb : c.code = cc) (hT : ∀ w ∈ lw_good, w.before args s = true) (hown : s.vm.findClass R_Model = some m.cls) (hK : va_K (dC, dI) cls_all (gT LM km) s) (hP : va_P (dC, dI) cls_all (gW LM ad km T) H) (hdg : decode cc pc = .ok (.getfield 841, 3)) (kk : W p l e R s m args below meth c H locs cells slots Q (F0 m (pc + 3) ls (.int (T.1 143 0) :: rest))) : W p l e R s m args below meth c H locs cells slots Q (F0 m pc ls (.ref (ad 0) :: rest)) := gw_get hx hb hT i_Model hown hK hP 0 143 143 (Nat.le_of_ble_eq_true rfl) rfl rfl (Nat.le_of_ble_eq_true rfl) rfl (gv_i rfl) (hT _ fl_Model_841) (fun _ h9 => h9) hdg kk
theorem wr_Model_841 (hx : p.tables.exec = Jvm.exec) (hb : c.code = cc) (hT : ∀ w ∈ lw_good, w.before args s = true) (hown : s.vm.findClass R_Model = some m.cls) (hK : va_K (dC, dI) cls_all (gT LM km) s) (hP : va_P (dC, dI) cls_all (gW LM ad km T) H) (hD : va_D A (gW LM ad km T)) (hS : va_S A H0 H locs) {v : Int32} (hdg : decode cc pc = .ok (.putfield 841, 3)) (kk : ∀ (T1 : gSt), T1 = sI T 143 0 v → ∀ (H1 : Heap) (locs1 : List Loc), va_P (dC, dI) cls_all (gW LM ad km T1) H1 → va_D A (gW LM ad km T1) → va_S A H0 H1 locs1 → W p l e R s m args below meth c H1 locs1 cells slots Q (F0 m (pc + 3) ls rest)) : W p l e R s m args below meth c H locs cells slots Q (F0 m pc ls (.int v :: .ref (ad 0) :: rest)) := gw_puti okM hx hb hT i_Model t_Model t_Model_ok n_Model hown hK hP hD hS 0 143 143 (Nat.le_of_ble_eq_true rfl) rfl rfl (Nat.le_of_ble_eq_true rfl) rfl rfl (hT _ fl_Model_841) (fun _ h9 => h9) rfl (ty := .int) (by decide +kernel) rfl rfl hdg kk
end GV
def mt_Model_layExpression (l : Launch) (dC : Nat → ClassId) (dI : Nat → Nat → Nat) (ea ev ad : Nat → Nat) (km : Nat → ClassId) (F : gF) (d : Nat) : Prop := ∀ (T : gSt) (p1 : Int32) (r : Int32) (rl : Int64) (T' : gSt), F 103 T [p1] [] = some (r, rl, T') → GMv l dC dI LM ad km ea ev y_Model_layExpression w_Model_layExpression (rmD d) [.ref (ad 0), .int p1] T T'
theorem pd_Model_layExpression : (y_Model_layExpression).cls = R_Model ∧ (y_Model_layExpression).cls ≠ "java/lang/invoke/MethodHandle" ∧ (y_Model_layExpression).cls ≠ "java/lang/invoke/VarHandle" ∧ (parseMethodDescriptor (y_Model_layExpression).desc).map (fun d => d.parameters.length) = some 1 := by decide +kernel
def mt_Model_layPlace (l : Launch) (dC : Nat → ClassId) (dI : Nat → Nat → Nat) (ea ev ad : Nat → Nat) (km : Nat → ClassId) (F : gF) (d : Nat) : Prop := ∀ (T : gSt) (p1 : Int32) (r : Int32) (rl : Int64) (T' : gSt), F 101 T [p1] [] = some (r, rl, T') → GMv l dC dI LM ad km ea ev y_Model_layPlace w_Model_layPlace (rmD d) [.ref (ad 0), .int p1] T T'
theorem pd_Model_layPlace : (y_Model_layPlace).cls = R_Model ∧ (y_Model_layPlace).cls ≠ "java/lang/invoke/MethodHandle" ∧ (y_Model_layPlace).cls ≠ "java/lang/invoke/VarHandle" ∧ (parseMethodDescriptor (y_Model_layPlace).desc).map (fun d => d.parameters.length) = some 1 := by decide +kernel
def mt_Model_wordsOf (l : Launch) (dC : Nat → ClassId) (dI : Nat → Nat → Nat) (ea ev ad : Nat → Nat) (km : Nat → ClassId) (F : gF) (d : Nat) : Prop := ∀ (T : gSt) (p1 : Int32) (r : Int32) (rl : Int64) (T' : gSt), F 102 T [p1] [] = some (r, rl, T') → GMi l dC dI LM ad km ea ev y_Model_wordsOf w_Model_wordsOf (rmD d) [.ref (ad 0), .int p1] T r T'
theorem pd_Model_wordsOf : (y_Model_wordsOf).cls = R_Model ∧ (y_Model_wordsOf).cls ≠ "java/lang/invoke/MethodHandle" ∧ (y_Model_wordsOf).cls ≠ "java/lang/invoke/VarHandle" ∧ (parseMethodDescriptor (y_Model_wordsOf).desc).map (fun d => d.parameters.length) = some 1 := by decide +kernel
def mt_Model_layFirst (l : Launch) (dC : Nat → ClassId) (dI : Nat → Nat → Nat) (ea ev ad : Nat → Nat) (km : Nat → ClassId) (F : gF) (d : Nat) : Prop := ∀ (T : gSt) (p1 : Int32) (r : Int32) (rl : Int64) (T' : gSt), F 105 T [p1] [] = some (r, rl, T') → GMv l dC dI LM ad km ea ev y_Model_layFirst w_Model_layFirst (rmD d) [.ref (ad 0), .int p1] T T'
theorem pd_Model_layFirst : (y_Model_layFirst).cls = R_Model ∧ (y_Model_layFirst).cls ≠ "java/lang/invoke/MethodHandle" ∧ (y_Model_layFirst).cls ≠ "java/lang/invoke/VarHandle" ∧ (parseMethodDescriptor (y_Model_layFirst).desc).map (fun d => d.parameters.length) = some 1 := by decide +kernel
def mt_Model_layBehind (l : Launch) (dC : Nat → ClassId) (dI : Nat → Nat → Nat) (ea ev ad : Nat → Nat) (km : Nat → ClassId) (F : gF) (d : Nat) : Prop := ∀ (T : gSt) (p1 : Int32) (r : Int32) (rl : Int64) (T' : gSt), F 104 T [p1] [] = some (r, rl, T') → GMv l dC dI LM ad km ea ev y_Model_layBehind w_Model_layBehind (rmD d) [.ref (ad 0), .int p1] T T'
theorem pd_Model_layBehind : (y_Model_layBehind).cls = R_Model ∧ (y_Model_layBehind).cls ≠ "java/lang/invoke/MethodHandle" ∧ (y_Model_layBehind).cls ≠ "java/lang/invoke/VarHandle" ∧ (parseMethodDescriptor (y_Model_layBehind).desc).map (fun d => d.parameters.length) = some 1 := by decide +kernel
def mt_Model_push (l : Launch) (dC : Nat → ClassId) (dI : Nat → Nat → Nat) (ea ev ad : Nat → Nat) (km : Nat → ClassId) (F : gF) (d : Nat) : Prop := ∀ (T : gSt) (p1 : Int32) (p2 : Int32) (p3 : Int32) (r : Int32) (rl : Int64) (T' : gSt), F 106 T [p1, p2, p3] [] = some (r, rl, T') → GMv l dC dI LM ad km ea ev y_Model_push w_Model_push (rmD d) [.ref (ad 0), .int p1, .int p2, .int p3] T T'
theorem pd_Model_push : (y_Model_push).cls = R_Model ∧ (y_Model_push).cls ≠ "java/lang/invoke/MethodHandle" ∧ (y_Model_push).cls ≠ "java/lang/invoke/VarHandle" ∧ (parseMethodDescriptor (y_Model_push).desc).map (fun d => d.parameters.length) = some 3 := by decide +kernel
def mt_Model_stopAll (l : Launch) (dC : Nat → ClassId) (dI : Nat → Nat → Nat) (ea ev ad : Nat → Nat) (km : Nat → ClassId) (F : gF) (d : Nat) : Prop := ∀ (T : gSt)  (r : Int32) (rl : Int64) (T' : gSt), F 107 T [] [] = some (r, rl, T') → GMv l dC dI LM ad km ea ev y_Model_stopAll w_Model_stopAll (rmD d) [.ref (ad 0)] T T'
theorem pd_Model_stopAll : (y_Model_stopAll).cls = R_Model ∧ (y_Model_stopAll).cls ≠ "java/lang/invoke/MethodHandle" ∧ (y_Model_stopAll).cls ≠ "java/lang/invoke/VarHandle" ∧ (parseMethodDescriptor (y_Model_stopAll).desc).map (fun d => d.parameters.length) = some 0 := by decide +kernel
def mt_Model_begin (l : Launch) (dC : Nat → ClassId) (dI : Nat → Nat → Nat) (ea ev ad : Nat → Nat) (km : Nat → ClassId) (F : gF) (d : Nat) : Prop := ∀ (T : gSt) (p1 : Int32) (r : Int32) (rl : Int64) (T' : gSt), F 108 T [p1] [] = some (r, rl, T') → GMv l dC dI LM ad km ea ev y_Model_begin w_Model_begin (rmD d) [.ref (ad 0), .int p1] T T'
theorem pd_Model_begin : (y_Model_begin).cls = R_Model ∧ (y_Model_begin).cls ≠ "java/lang/invoke/MethodHandle" ∧ (y_Model_begin).cls ≠ "java/lang/invoke/VarHandle" ∧ (parseMethodDescriptor (y_Model_begin).desc).map (fun d => d.parameters.length) = some 1 := by decide +kernel
def mt_Model_shrink (l : Launch) (dC : Nat → ClassId) (dI : Nat → Nat → Nat) (ea ev ad : Nat → Nat) (km : Nat → ClassId) (F : gF) (d : Nat) : Prop := ∀ (T : gSt) (p1 : Int32) (r : Int32) (rl : Int64) (T' : gSt), F 109 T [p1] [] = some (r, rl, T') → GMv l dC dI LM ad km ea ev y_Model_shrink w_Model_shrink (rmD d) [.ref (ad 0), .int p1] T T'
theorem pd_Model_shrink : (y_Model_shrink).cls = R_Model ∧ (y_Model_shrink).cls ≠ "java/lang/invoke/MethodHandle" ∧ (y_Model_shrink).cls ≠ "java/lang/invoke/VarHandle" ∧ (parseMethodDescriptor (y_Model_shrink).desc).map (fun d => d.parameters.length) = some 1 := by decide +kernel
set_option maxHeartbeats 4000000 in
set_option maxRecDepth 100000 in
theorem sp_Model_layStep (l : Launch) (dC : Nat → ClassId) (dI : Nat → Nat → Nat) (ea ev ad : Nat → Nat) (km : Nat → ClassId) (F : gF) (nf d : Nat) (h_Model_lay : mt_Model_lay l dC dI ea ev ad km F d) (h_Model_layExpression : mt_Model_layExpression l dC dI ea ev ad km F d) (h_Model_layBlock : mt_Model_layBlock l dC dI ea ev ad km F d) (h_Model_layPlace : mt_Model_layPlace l dC dI ea ev ad km F d) (T0 : gSt) (p1 : Int32) (r0 : Int32) (rl0 : Int64) (T9 : gSt) (hR : rb_Model_layStep F nf T0 p1 = some (r0, rl0, T9)) : GMv l dC dI LM ad km ea ev y_Model_layStep w_Model_layStep (rmD (d + 1)) [.ref (ad 0), .int p1] T0 T9 := by
  intro sz
  refine Met.ofW (cc := b_Model_layStep) (maxL := 5) (ret := none) (by decide) rfl ?_
  intro p e s m args below meth c s₁ B hml hv
  obtain ⟨rfl, hsz, hP, hK, hD0, hnw, henv⟩ := hv
  have hx := B.exec
  have hb := B.bytes
  have hr := B.returns
  have hT : ∀ w ∈ lw_good, w.before _ s = true := fun w h => atoms_spec (ws := w_Model_layStep) B.pre w (List.mem_cons_of_mem _ h)
  have hown : s.vm.findClass R_Model = some m.cls := findClass_of_methodNamed B.named
  subst hsz
  have hD := hD0.self (sz := s.heap.size)
  clear hD0
  generalize hAe : va_A (gW LM ad km T0) s.heap.size = A at hD henv ⊢
  have hA : ∀ q : Nat, s.heap.size ≤ q → A q := fun q h => by rw [← hAe]; exact Or.inr h
  have hS : va_S A s.heap s.heap [] := va_S.rf
  have hl := lv_entry ([.ref (ad 0), .int p1]) (n := 5) (Nat.le_of_ble_eq_true rfl)
  rw [lg_entry_eq]
  generalize (lg_sl ([.ref (ad 0), .int p1]) ++ List.replicate (5 - (lg_sl ([.ref (ad 0), .int p1])).length) Slot.unset).toArray = ls at hl ⊢
  have hl : lv_has ls 5 [(0, .ref (ad 0)), (1, .int p1)] := hl
  obtain ⟨G, hG⟩ : ∃ G : Nat → List (Nat × Value) → List Value → gSt → Prop, G = (fun pc lv stk T => ∀ (H : Heap) (locs : List Loc), va_P (dC, dI) cls_all (gW LM ad km T) H → va_D A (gW LM ad km T) → va_S A s.heap H locs → ∀ (ls : Array Slot), lv_has ls 5 lv → W p l e (headSpec w_Model_layStep (rmD (d + 1))).room s m ([.ref (ad 0), .int p1] : List Value).toArray below meth c H locs 0 0 (MQ below (va_Qv (fun (_ : Unit) => True) (fun _ t => gPost dC dI LM ad km T9 A t) A) ([.ref (ad 0), .int p1] : List Value).toArray s 0 0 A) (F0 m pc ls stk)) := ⟨_, rfl⟩
  have lb_553 : ∀ (T : gSt) (x1 : Int32) (y0 : Int32), rj_Model_layStep_553 F nf T x1 y0 = some (r0, rl0, T9) → G 553 [(0, .ref (ad 0)), (1, .int x1)] [.int y0, .ref (ad 0)] T := by
    intro T x1 y0 hR; unfold rj_Model_layStep_553 at hR; rw [hG]; intro H locs hP hD hS ls hl
    refine lv_aload_n hx hb d_Model_layStep_553 rfl (lv_at hl 0 rfl) ?_
    refine rd_Model_150 hx hb hT hown hK hP d_Model_layStep_554 ?_
    refine lv_iload_n hx hb d_Model_layStep_557 rfl (lv_at hl 1 rfl) ?_
    replace hR := gd_e hR
    obtain ⟨b86, hR⟩ := hR
    refine laM_45 hx hb hK hP b86 d_Model_layStep_558 ?_
    refine lv_iconst (v := (-1)) hx hb d_Model_layStep_559 (by decide) ?_
    refine lv_icmp_ne (tgt := 567) hx hb d_Model_layStep_560 (by decide) (fun c87 => ?_) (fun c87 => ?_)
    · replace hR := if_n c87 hR
      refine lv_iconst (v := 1) hx hb d_Model_layStep_567 (by decide) ?_
      refine lv_iconst (v := 0) hx hb d_Model_layStep_568 (by decide) ?_
      refine lv_iconst (v := 0) hx hb d_Model_layStep_569 (by decide) ?_
      replace hR := bi_e hR
      obtain ⟨r88, l88, T88, hc88, hR⟩ := hR
      refine gcV_i (rest := []) ⟨hx, hb, hml, hown, hT⟩ (h_Model_lay _ _ _ _ _ _ _ _ hc88) (cwV 4 hT (gV ml_Model_777 im_Model_lay se_Model_lay ini_Model co_Model_lay) rfl rfl rfl pd_Model_lay ⟨rm_hi, rm_lo (Nat.le_of_ble_eq_true rfl)⟩) hK hP hD hS hA hnw henv (Nat.le_of_ble_eq_true rfl) rfl rfl hl.1 rfl (Nat.le_of_ble_eq_true rfl) d_Model_layStep_570 ⟨Nat.le_refl _, Nat.le_refl _⟩ (fun H locs hP hD hS => ?_)
      clear hc88
      refine lv_pop hx hb d_Model_layStep_573 rfl ?_
      obtain ⟨-, -, e3⟩ := re_e hR
      subst e3
      exact W.vret hx hb hr (fun t ht hW => ⟨⟨(), rfl, trivial, by rw [ht]; exact hP, va_K.moved hW.alike hK, hD⟩, hS.F ht⟩) hS.2.2 d_Model_layStep_574
    · replace hR := if_p c87 hR
      refine lv_iconst (v := 0) hx hb d_Model_layStep_563 (by decide) ?_
      refine lv_goto (tgt := 568) hx hb d_Model_layStep_564 (by decide) ?_
      refine lv_iconst (v := 0) hx hb d_Model_layStep_568 (by decide) ?_
      refine lv_iconst (v := 0) hx hb d_Model_layStep_569 (by decide) ?_
      replace hR := bi_e hR
      obtain ⟨r89, l89, T89, hc89, hR⟩ := hR
      refine gcV_i (rest := []) ⟨hx, hb, hml, hown, hT⟩ (h_Model_lay _ _ _ _ _ _ _ _ hc89) (cwV 4 hT (gV ml_Model_777 im_Model_lay se_Model_lay ini_Model co_Model_lay) rfl rfl rfl pd_Model_lay ⟨rm_hi, rm_lo (Nat.le_of_ble_eq_true rfl)⟩) hK hP hD hS hA hnw henv (Nat.le_of_ble_eq_true rfl) rfl rfl hl.1 rfl (Nat.le_of_ble_eq_true rfl) d_Model_layStep_570 ⟨Nat.le_refl _, Nat.le_refl _⟩ (fun H locs hP hD hS => ?_)
      clear hc89
      refine lv_pop hx hb d_Model_layStep_573 rfl ?_
      obtain ⟨-, -, e3⟩ := re_e hR
      subst e3
      exact W.vret hx hb hr (fun t ht hW => ⟨⟨(), rfl, trivial, by rw [ht]; exact hP, va_K.moved hW.alike hK, hD⟩, hS.F ht⟩) hS.2.2 d_Model_layStep_574
  have lb_508 : ∀ (T : gSt) (x1 : Int32), rj_Model_layStep_508 F nf T x1 = some (r0, rl0, T9) → G 508 [(0, .ref (ad 0)), (1, .int x1)] [] T := by
    intro T x1 hR; unfold rj_Model_layStep_508 at hR; rw [hG]; intro H locs hP hD hS ls hl
    refine lv_aload_n hx hb d_Model_layStep_508 rfl (lv_at hl 0 rfl) ?_
    refine lv_aload_n hx hb d_Model_layStep_509 rfl (lv_at hl 0 rfl) ?_
    refine rd_Model_126 hx hb hT hown hK hP d_Model_layStep_510 ?_
    refine lv_iload_n hx hb d_Model_layStep_513 rfl (lv_at hl 1 rfl) ?_
    replace hR := gd_e hR
    obtain ⟨b80, hR⟩ := hR
    refine laM_37 hx hb hK hP b80 d_Model_layStep_514 ?_
    replace hR := bi_e hR
    obtain ⟨r81, l81, T81, hc81, hR⟩ := hR
    refine gcV_v (rest := []) ⟨hx, hb, hml, hown, hT⟩ (h_Model_layExpression _ _ _ _ _ hc81) (cwV 1 hT (gV ml_Model_784 im_Model_layExpression se_Model_layExpression ini_Model co_Model_layExpression) rfl rfl rfl pd_Model_layExpression ⟨rm_hi, rm_lo (Nat.le_of_ble_eq_true rfl)⟩) hK hP hD hS hA hnw henv (Nat.le_of_ble_eq_true rfl) rfl rfl hl.1 rfl (Nat.le_of_ble_eq_true rfl) d_Model_layStep_515 ⟨Nat.le_refl _, Nat.le_refl _⟩ (fun H locs hP hD hS => ?_)
    clear hc81
    refine lv_aload_n hx hb d_Model_layStep_518 rfl (lv_at hl 0 rfl) ?_
    refine lv_aload_n hx hb d_Model_layStep_519 rfl (lv_at hl 0 rfl) ?_
    refine rd_Model_120 hx hb hT hown hK hP d_Model_layStep_520 ?_
    refine lv_iload_n hx hb d_Model_layStep_523 rfl (lv_at hl 1 rfl) ?_
    replace hR := gd_e hR
    obtain ⟨b82, hR⟩ := hR
    refine laM_35 hx hb hK hP b82 d_Model_layStep_524 ?_
    refine lv_bipush (v := 24) hx hb d_Model_layStep_525 (by decide) ?_
    refine lv_icmp_ne (tgt := 535) hx hb d_Model_layStep_527 (by decide) (fun c83 => ?_) (fun c83 => ?_)
    · replace hR := if_n c83 hR
      refine lv_aload_n hx hb d_Model_layStep_535 rfl (lv_at hl 0 rfl) ?_
      refine rd_Model_120 hx hb hT hown hK hP d_Model_layStep_536 ?_
      refine lv_iload_n hx hb d_Model_layStep_539 rfl (lv_at hl 1 rfl) ?_
      replace hR := gd_e hR
      obtain ⟨b84, hR⟩ := hR
      refine laM_35 hx hb hK hP b84 d_Model_layStep_540 ?_
      refine lv_bipush (v := 25) hx hb d_Model_layStep_541 (by decide) ?_
      refine lv_icmp_ne (tgt := 551) hx hb d_Model_layStep_543 (by decide) (fun c85 => ?_) (fun c85 => ?_)
      · replace hR := if_n c85 hR
        refine lv_bipush (v := 36) hx hb d_Model_layStep_551 (by decide) ?_
        have g := lb_553 T81 x1 (36 : Int32) hR
        rw [hG] at g
        exact g _ _ hP hD hS _ (lv_sub hl [0, 1] rfl)
      · replace hR := if_p c85 hR
        refine lv_bipush (v := 30) hx hb d_Model_layStep_546 (by decide) ?_
        refine lv_goto (tgt := 553) hx hb d_Model_layStep_548 (by decide) ?_
        have g := lb_553 T81 x1 (30 : Int32) hR
        rw [hG] at g
        exact g _ _ hP hD hS _ (lv_sub hl [0, 1] rfl)
    · replace hR := if_p c83 hR
      refine lv_bipush (v := 29) hx hb d_Model_layStep_530 (by decide) ?_
      refine lv_goto (tgt := 553) hx hb d_Model_layStep_532 (by decide) ?_
      have g := lb_553 T81 x1 (29 : Int32) hR
      rw [hG] at g
      exact g _ _ hP hD hS _ (lv_sub hl [0, 1] rfl)
  have lb_313 : ∀ (T : gSt) (x1 : Int32), rj_Model_layStep_313 F nf T x1 = some (r0, rl0, T9) → G 313 [(0, .ref (ad 0)), (1, .int x1)] [] T := by
    intro T x1 hR; unfold rj_Model_layStep_313 at hR; rw [hG]; intro H locs hP hD hS ls hl
    refine lv_aload_n hx hb d_Model_layStep_313 rfl (lv_at hl 0 rfl) ?_
    refine lv_bipush (v := 28) hx hb d_Model_layStep_314 (by decide) ?_
    refine lv_aload_n hx hb d_Model_layStep_316 rfl (lv_at hl 0 rfl) ?_
    refine rd_Model_126 hx hb hT hown hK hP d_Model_layStep_317 ?_
    refine lv_iload_n hx hb d_Model_layStep_320 rfl (lv_at hl 1 rfl) ?_
    replace hR := gd_e hR
    obtain ⟨b76, hR⟩ := hR
    refine laM_37 hx hb hK hP b76 d_Model_layStep_321 ?_
    refine lv_if_lt (tgt := 329) hx hb d_Model_layStep_322 (by decide) (fun c77 => ?_) (fun c77 => ?_)
    · replace hR := if_p c77 hR
      refine lv_iconst (v := 0) hx hb d_Model_layStep_329 (by decide) ?_
      refine lv_iconst (v := 0) hx hb d_Model_layStep_330 (by decide) ?_
      refine lv_iconst (v := 0) hx hb d_Model_layStep_331 (by decide) ?_
      replace hR := bi_e hR
      obtain ⟨r78, l78, T78, hc78, hR⟩ := hR
      refine gcV_i (rest := []) ⟨hx, hb, hml, hown, hT⟩ (h_Model_lay _ _ _ _ _ _ _ _ hc78) (cwV 4 hT (gV ml_Model_777 im_Model_lay se_Model_lay ini_Model co_Model_lay) rfl rfl rfl pd_Model_lay ⟨rm_hi, rm_lo (Nat.le_of_ble_eq_true rfl)⟩) hK hP hD hS hA hnw henv (Nat.le_of_ble_eq_true rfl) rfl rfl hl.1 rfl (Nat.le_of_ble_eq_true rfl) d_Model_layStep_332 ⟨Nat.le_refl _, Nat.le_refl _⟩ (fun H locs hP hD hS => ?_)
      clear hc78
      refine lv_pop hx hb d_Model_layStep_335 rfl ?_
      obtain ⟨-, -, e3⟩ := re_e hR
      subst e3
      exact W.vret hx hb hr (fun t ht hW => ⟨⟨(), rfl, trivial, by rw [ht]; exact hP, va_K.moved hW.alike hK, hD⟩, hS.F ht⟩) hS.2.2 d_Model_layStep_336
    · replace hR := if_n c77 hR
      refine lv_iconst (v := 1) hx hb d_Model_layStep_325 (by decide) ?_
      refine lv_goto (tgt := 330) hx hb d_Model_layStep_326 (by decide) ?_
      refine lv_iconst (v := 0) hx hb d_Model_layStep_330 (by decide) ?_
      refine lv_iconst (v := 0) hx hb d_Model_layStep_331 (by decide) ?_
      replace hR := bi_e hR
      obtain ⟨r79, l79, T79, hc79, hR⟩ := hR
      refine gcV_i (rest := []) ⟨hx, hb, hml, hown, hT⟩ (h_Model_lay _ _ _ _ _ _ _ _ hc79) (cwV 4 hT (gV ml_Model_777 im_Model_lay se_Model_lay ini_Model co_Model_lay) rfl rfl rfl pd_Model_lay ⟨rm_hi, rm_lo (Nat.le_of_ble_eq_true rfl)⟩) hK hP hD hS hA hnw henv (Nat.le_of_ble_eq_true rfl) rfl rfl hl.1 rfl (Nat.le_of_ble_eq_true rfl) d_Model_layStep_332 ⟨Nat.le_refl _, Nat.le_refl _⟩ (fun H locs hP hD hS => ?_)
      clear hc79
      refine lv_pop hx hb d_Model_layStep_335 rfl ?_
      obtain ⟨-, -, e3⟩ := re_e hR
      subst e3
      exact W.vret hx hb hr (fun t ht hW => ⟨⟨(), rfl, trivial, by rw [ht]; exact hP, va_K.moved hW.alike hK, hD⟩, hS.F ht⟩) hS.2.2 d_Model_layStep_336
  have lb_258 : ∀ (T : gSt) (x1 : Int32) (x2 : Int32) (y0 : Int32) (y1 : Int32) (y2 : Int32), rj_Model_layStep_258 F nf T x1 x2 y0 y1 y2 = some (r0, rl0, T9) → G 258 [(0, .ref (ad 0)), (1, .int x1), (2, .int x2)] [.int y0, .int y1, .int y2, .ref (ad 0)] T := by
    intro T x1 x2 y0 y1 y2 hR; unfold rj_Model_layStep_258 at hR; rw [hG]; intro H locs hP hD hS ls hl
    refine lv_iconst (v := 0) hx hb d_Model_layStep_258 (by decide) ?_
    replace hR := bi_e hR
    obtain ⟨r71, l71, T71, hc71, hR⟩ := hR
    refine gcV_i (rest := []) ⟨hx, hb, hml, hown, hT⟩ (h_Model_lay _ _ _ _ _ _ _ _ hc71) (cwV 4 hT (gV ml_Model_777 im_Model_lay se_Model_lay ini_Model co_Model_lay) rfl rfl rfl pd_Model_lay ⟨rm_hi, rm_lo (Nat.le_of_ble_eq_true rfl)⟩) hK hP hD hS hA hnw henv (Nat.le_of_ble_eq_true rfl) rfl rfl hl.1 rfl (Nat.le_of_ble_eq_true rfl) d_Model_layStep_259 ⟨Nat.le_refl _, Nat.le_refl _⟩ (fun H locs hP hD hS => ?_)
    clear hc71
    refine lv_istore_n (lv' := [(3, .int r71), (0, .ref (ad 0)), (1, .int x1), (2, .int x2)]) hx hb d_Model_layStep_262 rfl hl (by decide) rfl (fun ls hl => ?_)
    refine lv_aload_n hx hb d_Model_layStep_263 rfl (lv_at hl 1 rfl) ?_
    refine lv_aload_n hx hb d_Model_layStep_264 rfl (lv_at hl 1 rfl) ?_
    refine rd_Model_129 hx hb hT hown hK hP d_Model_layStep_265 ?_
    refine lv_iload_n hx hb d_Model_layStep_268 rfl (lv_at hl 2 rfl) ?_
    replace hR := gd_e hR
    obtain ⟨b72, hR⟩ := hR
    refine laM_38 hx hb hK hP b72 d_Model_layStep_269 ?_
    replace hR := bi_e hR
    obtain ⟨r73, l73, T73, hc73, hR⟩ := hR
    refine gcV_v (rest := []) ⟨hx, hb, hml, hown, hT⟩ (h_Model_layBlock _ _ _ _ _ hc73) (cwV 1 hT (gV ml_Model_774 im_Model_layBlock se_Model_layBlock ini_Model co_Model_layBlock) rfl rfl rfl pd_Model_layBlock ⟨rm_hi, rm_lo (Nat.le_of_ble_eq_true rfl)⟩) hK hP hD hS hA hnw henv (Nat.le_of_ble_eq_true rfl) rfl rfl hl.1 rfl (Nat.le_of_ble_eq_true rfl) d_Model_layStep_270 ⟨Nat.le_refl _, Nat.le_refl _⟩ (fun H locs hP hD hS => ?_)
    clear hc73
    refine lv_aload_n hx hb d_Model_layStep_273 rfl (lv_at hl 1 rfl) ?_
    refine lv_bipush (v := 27) hx hb d_Model_layStep_274 (by decide) ?_
    refine lv_iload_n hx hb d_Model_layStep_276 rfl (lv_at hl 3 rfl) ?_
    refine lv_iconst (v := 0) hx hb d_Model_layStep_277 (by decide) ?_
    refine lv_iconst (v := 0) hx hb d_Model_layStep_278 (by decide) ?_
    replace hR := bi_e hR
    obtain ⟨r74, l74, T74, hc74, hR⟩ := hR
    refine gcV_i (rest := []) ⟨hx, hb, hml, hown, hT⟩ (h_Model_lay _ _ _ _ _ _ _ _ hc74) (cwV 4 hT (gV ml_Model_777 im_Model_lay se_Model_lay ini_Model co_Model_lay) rfl rfl rfl pd_Model_lay ⟨rm_hi, rm_lo (Nat.le_of_ble_eq_true rfl)⟩) hK hP hD hS hA hnw henv (Nat.le_of_ble_eq_true rfl) rfl rfl hl.1 rfl (Nat.le_of_ble_eq_true rfl) d_Model_layStep_279 ⟨Nat.le_refl _, Nat.le_refl _⟩ (fun H locs hP hD hS => ?_)
    clear hc74
    refine lv_pop hx hb d_Model_layStep_282 rfl ?_
    refine lv_aload_n hx hb d_Model_layStep_283 rfl (lv_at hl 1 rfl) ?_
    refine rd_Model_198 hx hb hT hown hK hP d_Model_layStep_284 ?_
    refine lv_iload_n hx hb d_Model_layStep_287 rfl (lv_at hl 0 rfl) ?_
    refine lv_aload_n hx hb d_Model_layStep_288 rfl (lv_at hl 1 rfl) ?_
    refine rd_Model_771 hx hb hT hown hK hP d_Model_layStep_289 ?_
    replace hR := gd_e hR
    obtain ⟨b75, hR⟩ := hR
    refine saM_61 hx hb hK hP hD hS b75 d_Model_layStep_292 (fun T75 eT H locs hP hD hS => ?_)
    replace hR := stK_e eT hR
    clear eT
    obtain ⟨-, -, e3⟩ := re_e hR
    subst e3
    exact W.vret hx hb hr (fun t ht hW => ⟨⟨(), rfl, trivial, by rw [ht]; exact hP, va_K.moved hW.alike hK, hD⟩, hS.F ht⟩) hS.2.2 d_Model_layStep_293
  have lb_145 : ∀ (T : gSt) (x1 : Int32) (y0 : Int32) (y1 : Int32) (y2 : Int32), rj_Model_layStep_145 F nf T x1 y0 y1 y2 = some (r0, rl0, T9) → G 145 [(0, .ref (ad 0)), (1, .int x1)] [.int y0, .int y1, .int y2, .ref (ad 0)] T := by
    intro T x1 y0 y1 y2 hR; unfold rj_Model_layStep_145 at hR; rw [hG]; intro H locs hP hD hS ls hl
    refine lv_iconst (v := 0) hx hb d_Model_layStep_145 (by decide) ?_
    replace hR := bi_e hR
    obtain ⟨r60, l60, T60, hc60, hR⟩ := hR
    refine gcV_i (rest := []) ⟨hx, hb, hml, hown, hT⟩ (h_Model_lay _ _ _ _ _ _ _ _ hc60) (cwV 4 hT (gV ml_Model_777 im_Model_lay se_Model_lay ini_Model co_Model_lay) rfl rfl rfl pd_Model_lay ⟨rm_hi, rm_lo (Nat.le_of_ble_eq_true rfl)⟩) hK hP hD hS hA hnw henv (Nat.le_of_ble_eq_true rfl) rfl rfl hl.1 rfl (Nat.le_of_ble_eq_true rfl) d_Model_layStep_146 ⟨Nat.le_refl _, Nat.le_refl _⟩ (fun H locs hP hD hS => ?_)
    clear hc60
    refine lv_istore_n (lv' := [(3, .int r60), (0, .ref (ad 0)), (1, .int x1)]) hx hb d_Model_layStep_149 rfl hl (by decide) rfl (fun ls hl => ?_)
    refine lv_aload_n hx hb d_Model_layStep_150 rfl (lv_at hl 1 rfl) ?_
    refine lv_aload_n hx hb d_Model_layStep_151 rfl (lv_at hl 1 rfl) ?_
    refine rd_Model_129 hx hb hT hown hK hP d_Model_layStep_152 ?_
    refine lv_iload_n hx hb d_Model_layStep_155 rfl (lv_at hl 2 rfl) ?_
    replace hR := gd_e hR
    obtain ⟨b61, hR⟩ := hR
    refine laM_38 hx hb hK hP b61 d_Model_layStep_156 ?_
    replace hR := bi_e hR
    obtain ⟨r62, l62, T62, hc62, hR⟩ := hR
    refine gcV_v (rest := []) ⟨hx, hb, hml, hown, hT⟩ (h_Model_layBlock _ _ _ _ _ hc62) (cwV 1 hT (gV ml_Model_774 im_Model_layBlock se_Model_layBlock ini_Model co_Model_layBlock) rfl rfl rfl pd_Model_layBlock ⟨rm_hi, rm_lo (Nat.le_of_ble_eq_true rfl)⟩) hK hP hD hS hA hnw henv (Nat.le_of_ble_eq_true rfl) rfl rfl hl.1 rfl (Nat.le_of_ble_eq_true rfl) d_Model_layStep_157 ⟨Nat.le_refl _, Nat.le_refl _⟩ (fun H locs hP hD hS => ?_)
    clear hc62
    refine lv_aload_n hx hb d_Model_layStep_160 rfl (lv_at hl 1 rfl) ?_
    refine rd_Model_132 hx hb hT hown hK hP d_Model_layStep_161 ?_
    refine lv_iload_n hx hb d_Model_layStep_164 rfl (lv_at hl 2 rfl) ?_
    replace hR := gd_e hR
    obtain ⟨b63, hR⟩ := hR
    refine laM_39 hx hb hK hP b63 d_Model_layStep_165 ?_
    refine lv_if_lt (tgt := 214) hx hb d_Model_layStep_166 (by decide) (fun c64 => ?_) (fun c64 => ?_)
    · replace hR := if_p c64 hR
      refine lv_aload_n hx hb d_Model_layStep_214 rfl (lv_at hl 1 rfl) ?_
      refine rd_Model_198 hx hb hT hown hK hP d_Model_layStep_215 ?_
      refine lv_iload_n hx hb d_Model_layStep_218 rfl (lv_at hl 0 rfl) ?_
      refine lv_aload_n hx hb d_Model_layStep_219 rfl (lv_at hl 1 rfl) ?_
      refine rd_Model_771 hx hb hT hown hK hP d_Model_layStep_220 ?_
      replace hR := gd_e hR
      obtain ⟨b65, hR⟩ := hR
      refine saM_61 hx hb hK hP hD hS b65 d_Model_layStep_223 (fun T65 eT H locs hP hD hS => ?_)
      replace hR := stK_e eT hR
      clear eT
      obtain ⟨-, -, e3⟩ := re_e hR
      subst e3
      exact W.vret hx hb hr (fun t ht hW => ⟨⟨(), rfl, trivial, by rw [ht]; exact hP, va_K.moved hW.alike hK, hD⟩, hS.F ht⟩) hS.2.2 d_Model_layStep_224
    · replace hR := if_n c64 hR
      refine lv_aload_n hx hb d_Model_layStep_169 rfl (lv_at hl 1 rfl) ?_
      refine lv_bipush (v := 27) hx hb d_Model_layStep_170 (by decide) ?_
      refine lv_iconst (v := 0) hx hb d_Model_layStep_172 (by decide) ?_
      refine lv_iconst (v := 0) hx hb d_Model_layStep_173 (by decide) ?_
      refine lv_iconst (v := 0) hx hb d_Model_layStep_174 (by decide) ?_
      replace hR := bi_e hR
      obtain ⟨r66, l66, T66, hc66, hR⟩ := hR
      refine gcV_i (rest := []) ⟨hx, hb, hml, hown, hT⟩ (h_Model_lay _ _ _ _ _ _ _ _ hc66) (cwV 4 hT (gV ml_Model_777 im_Model_lay se_Model_lay ini_Model co_Model_lay) rfl rfl rfl pd_Model_lay ⟨rm_hi, rm_lo (Nat.le_of_ble_eq_true rfl)⟩) hK hP hD hS hA hnw henv (Nat.le_of_ble_eq_true rfl) rfl rfl hl.1 rfl (Nat.le_of_ble_eq_true rfl) d_Model_layStep_175 ⟨Nat.le_refl _, Nat.le_refl _⟩ (fun H locs hP hD hS => ?_)
      clear hc66
      refine lv_istore (lv' := [(4, .int r66), (3, .int r60), (0, .ref (ad 0)), (1, .int x1)]) hx hb d_Model_layStep_178 hl (by decide) rfl (fun ls hl => ?_)
      refine lv_aload_n hx hb d_Model_layStep_180 rfl (lv_at hl 2 rfl) ?_
      refine rd_Model_198 hx hb hT hown hK hP d_Model_layStep_181 ?_
      refine lv_iload_n hx hb d_Model_layStep_184 rfl (lv_at hl 1 rfl) ?_
      refine lv_aload_n hx hb d_Model_layStep_185 rfl (lv_at hl 2 rfl) ?_
      refine rd_Model_771 hx hb hT hown hK hP d_Model_layStep_186 ?_
      replace hR := gd_e hR
      obtain ⟨b67, hR⟩ := hR
      refine saM_61 hx hb hK hP hD hS b67 d_Model_layStep_189 (fun T67 eT H locs hP hD hS => ?_)
      replace hR := stK_e eT hR
      clear eT
      refine lv_aload_n hx hb d_Model_layStep_190 rfl (lv_at hl 2 rfl) ?_
      refine lv_aload_n hx hb d_Model_layStep_191 rfl (lv_at hl 2 rfl) ?_
      refine rd_Model_132 hx hb hT hown hK hP d_Model_layStep_192 ?_
      refine lv_iload_n hx hb d_Model_layStep_195 rfl (lv_at hl 3 rfl) ?_
      replace hR := gd_e hR
      obtain ⟨b68, hR⟩ := hR
      refine laM_39 hx hb hK hP b68 d_Model_layStep_196 ?_
      replace hR := bi_e hR
      obtain ⟨r69, l69, T69, hc69, hR⟩ := hR
      refine gcV_v (rest := []) ⟨hx, hb, hml, hown, hT⟩ (h_Model_layBlock _ _ _ _ _ hc69) (cwV 1 hT (gV ml_Model_774 im_Model_layBlock se_Model_layBlock ini_Model co_Model_layBlock) rfl rfl rfl pd_Model_layBlock ⟨rm_hi, rm_lo (Nat.le_of_ble_eq_true rfl)⟩) hK hP hD hS hA hnw henv (Nat.le_of_ble_eq_true rfl) rfl rfl hl.1 rfl (Nat.le_of_ble_eq_true rfl) d_Model_layStep_197 ⟨Nat.le_refl _, Nat.le_refl _⟩ (fun H locs hP hD hS => ?_)
      clear hc69
      refine lv_aload_n hx hb d_Model_layStep_200 rfl (lv_at hl 2 rfl) ?_
      refine rd_Model_198 hx hb hT hown hK hP d_Model_layStep_201 ?_
      refine lv_iload hx hb d_Model_layStep_204 (lv_at hl 0 rfl) ?_
      refine lv_aload_n hx hb d_Model_layStep_206 rfl (lv_at hl 2 rfl) ?_
      refine rd_Model_771 hx hb hT hown hK hP d_Model_layStep_207 ?_
      replace hR := gd_e hR
      obtain ⟨b70, hR⟩ := hR
      refine saM_61 hx hb hK hP hD hS b70 d_Model_layStep_210 (fun T70 eT H locs hP hD hS => ?_)
      replace hR := stK_e eT hR
      clear eT
      refine lv_goto (tgt := 224) hx hb d_Model_layStep_211 (by decide) ?_
      obtain ⟨-, -, e3⟩ := re_e hR
      subst e3
      exact W.vret hx hb hr (fun t ht hW => ⟨⟨(), rfl, trivial, by rw [ht]; exact hP, va_K.moved hW.alike hK, hD⟩, hS.F ht⟩) hS.2.2 d_Model_layStep_224
  unfold rb_Model_layStep at hR
  refine lv_aload_n hx hb d_Model_layStep_0 rfl (lv_at hl 0 rfl) ?_
  refine lv_iconst (v := 0) hx hb d_Model_layStep_1 (by decide) ?_
  refine lv_aload_n hx hb d_Model_layStep_2 rfl (lv_at hl 0 rfl) ?_
  refine rd_Model_123 hx hb hT hown hK hP d_Model_layStep_3 ?_
  refine lv_iload_n hx hb d_Model_layStep_6 rfl (lv_at hl 1 rfl) ?_
  replace hR := gd_e hR
  obtain ⟨b1, hR⟩ := hR
  refine laM_36 hx hb hK hP b1 d_Model_layStep_7 ?_
  refine lv_iconst (v := 0) hx hb d_Model_layStep_8 (by decide) ?_
  refine lv_iconst (v := 0) hx hb d_Model_layStep_9 (by decide) ?_
  replace hR := bi_e hR
  obtain ⟨r2, l2, T2, hc2, hR⟩ := hR
  refine gcV_i (rest := []) ⟨hx, hb, hml, hown, hT⟩ (h_Model_lay _ _ _ _ _ _ _ _ hc2) (cwV 4 hT (gV ml_Model_777 im_Model_lay se_Model_lay ini_Model co_Model_lay) rfl rfl rfl pd_Model_lay ⟨rm_hi, rm_lo (Nat.le_of_ble_eq_true rfl)⟩) hK hP hD hS hA hnw henv (Nat.le_of_ble_eq_true rfl) rfl rfl hl.1 rfl (Nat.le_of_ble_eq_true rfl) d_Model_layStep_10 ⟨Nat.le_refl _, Nat.le_refl _⟩ (fun H locs hP hD hS => ?_)
  clear hc2
  refine lv_istore_n (lv' := [(2, .int r2), (0, .ref (ad 0)), (1, .int p1)]) hx hb d_Model_layStep_13 rfl hl (by decide) rfl (fun ls hl => ?_)
  refine lv_aload_n hx hb d_Model_layStep_14 rfl (lv_at hl 1 rfl) ?_
  refine rd_Model_120 hx hb hT hown hK hP d_Model_layStep_15 ?_
  refine lv_iload_n hx hb d_Model_layStep_18 rfl (lv_at hl 2 rfl) ?_
  replace hR := gd_e hR
  obtain ⟨b3, hR⟩ := hR
  refine laM_35 hx hb hK hP b3 d_Model_layStep_19 ?_
  by_cases c4 : T2.1 50 p1.toNatClampNeg = (20 : Int32)
  · replace hR := if_p c4 hR
    refine lv_tableIn (off := 56) (tgt := 76) hx hb d_Model_layStep_20 (by rw [c4]; decide) (by rw [c4]; decide) (by rw [c4]; decide) (by decide) ?_
    refine lv_aload_n hx hb d_Model_layStep_76 rfl (lv_at hl 1 rfl) ?_
    refine rd_Model_126 hx hb hT hown hK hP d_Model_layStep_77 ?_
    refine lv_iload_n hx hb d_Model_layStep_80 rfl (lv_at hl 2 rfl) ?_
    replace hR := gd_e hR
    obtain ⟨b5, hR⟩ := hR
    refine laM_37 hx hb hK hP b5 d_Model_layStep_81 ?_
    refine lv_if_ge (tgt := 86) hx hb d_Model_layStep_82 (by decide) (fun c6 => ?_) (fun c6 => ?_)
    · replace hR := if_p c6 hR
      refine lv_aload_n hx hb d_Model_layStep_86 rfl (lv_at hl 1 rfl) ?_
      refine lv_aload_n hx hb d_Model_layStep_87 rfl (lv_at hl 1 rfl) ?_
      refine rd_Model_126 hx hb hT hown hK hP d_Model_layStep_88 ?_
      refine lv_iload_n hx hb d_Model_layStep_91 rfl (lv_at hl 2 rfl) ?_
      replace hR := gd_e hR
      obtain ⟨b7, hR⟩ := hR
      refine laM_37 hx hb hK hP b7 d_Model_layStep_92 ?_
      replace hR := bi_e hR
      obtain ⟨r8, l8, T8, hc8, hR⟩ := hR
      refine gcV_v (rest := []) ⟨hx, hb, hml, hown, hT⟩ (h_Model_layExpression _ _ _ _ _ hc8) (cwV 1 hT (gV ml_Model_784 im_Model_layExpression se_Model_layExpression ini_Model co_Model_layExpression) rfl rfl rfl pd_Model_layExpression ⟨rm_hi, rm_lo (Nat.le_of_ble_eq_true rfl)⟩) hK hP hD hS hA hnw henv (Nat.le_of_ble_eq_true rfl) rfl rfl hl.1 rfl (Nat.le_of_ble_eq_true rfl) d_Model_layStep_93 ⟨Nat.le_refl _, Nat.le_refl _⟩ (fun H locs hP hD hS => ?_)
      clear hc8
      refine lv_aload_n hx hb d_Model_layStep_96 rfl (lv_at hl 1 rfl) ?_
      refine lv_bipush (v := 22) hx hb d_Model_layStep_97 (by decide) ?_
      refine lv_aload_n hx hb d_Model_layStep_99 rfl (lv_at hl 1 rfl) ?_
      refine rd_Model_153 hx hb hT hown hK hP d_Model_layStep_100 ?_
      refine lv_iload_n hx hb d_Model_layStep_103 rfl (lv_at hl 2 rfl) ?_
      replace hR := gd_e hR
      obtain ⟨b9, hR⟩ := hR
      refine laM_46 hx hb hK hP b9 d_Model_layStep_104 ?_
      refine lv_iconst (v := 0) hx hb d_Model_layStep_105 (by decide) ?_
      refine lv_iconst (v := 0) hx hb d_Model_layStep_106 (by decide) ?_
      replace hR := bi_e hR
      obtain ⟨r10, l10, T10, hc10, hR⟩ := hR
      refine gcV_i (rest := []) ⟨hx, hb, hml, hown, hT⟩ (h_Model_lay _ _ _ _ _ _ _ _ hc10) (cwV 4 hT (gV ml_Model_777 im_Model_lay se_Model_lay ini_Model co_Model_lay) rfl rfl rfl pd_Model_lay ⟨rm_hi, rm_lo (Nat.le_of_ble_eq_true rfl)⟩) hK hP hD hS hA hnw henv (Nat.le_of_ble_eq_true rfl) rfl rfl hl.1 rfl (Nat.le_of_ble_eq_true rfl) d_Model_layStep_107 ⟨Nat.le_refl _, Nat.le_refl _⟩ (fun H locs hP hD hS => ?_)
      clear hc10
      refine lv_pop hx hb d_Model_layStep_110 rfl ?_
      obtain ⟨-, -, e3⟩ := re_e hR
      subst e3
      exact W.vret hx hb hr (fun t ht hW => ⟨⟨(), rfl, trivial, by rw [ht]; exact hP, va_K.moved hW.alike hK, hD⟩, hS.F ht⟩) hS.2.2 d_Model_layStep_111
    · replace hR := if_n c6 hR
      obtain ⟨-, -, e3⟩ := re_e hR
      subst e3
      exact W.vret hx hb hr (fun t ht hW => ⟨⟨(), rfl, trivial, by rw [ht]; exact hP, va_K.moved hW.alike hK, hD⟩, hS.F ht⟩) hS.2.2 d_Model_layStep_85
  replace hR := if_n c4 hR
  by_cases c11 : T2.1 50 p1.toNatClampNeg = (21 : Int32)
  · replace hR := if_p c11 hR
    refine lv_tableIn (off := 92) (tgt := 112) hx hb d_Model_layStep_20 (by rw [c11]; decide) (by rw [c11]; decide) (by rw [c11]; decide) (by decide) ?_
    refine lv_aload_n hx hb d_Model_layStep_112 rfl (lv_at hl 1 rfl) ?_
    refine lv_aload_n hx hb d_Model_layStep_113 rfl (lv_at hl 1 rfl) ?_
    refine rd_Model_126 hx hb hT hown hK hP d_Model_layStep_114 ?_
    refine lv_iload_n hx hb d_Model_layStep_117 rfl (lv_at hl 2 rfl) ?_
    replace hR := gd_e hR
    obtain ⟨b12, hR⟩ := hR
    refine laM_37 hx hb hK hP b12 d_Model_layStep_118 ?_
    replace hR := bi_e hR
    obtain ⟨r13, l13, T13, hc13, hR⟩ := hR
    refine gcV_v (rest := []) ⟨hx, hb, hml, hown, hT⟩ (h_Model_layExpression _ _ _ _ _ hc13) (cwV 1 hT (gV ml_Model_784 im_Model_layExpression se_Model_layExpression ini_Model co_Model_layExpression) rfl rfl rfl pd_Model_layExpression ⟨rm_hi, rm_lo (Nat.le_of_ble_eq_true rfl)⟩) hK hP hD hS hA hnw henv (Nat.le_of_ble_eq_true rfl) rfl rfl hl.1 rfl (Nat.le_of_ble_eq_true rfl) d_Model_layStep_119 ⟨Nat.le_refl _, Nat.le_refl _⟩ (fun H locs hP hD hS => ?_)
    clear hc13
    refine lv_aload_n hx hb d_Model_layStep_122 rfl (lv_at hl 1 rfl) ?_
    refine lv_bipush (v := 26) hx hb d_Model_layStep_123 (by decide) ?_
    refine lv_iconst (v := 0) hx hb d_Model_layStep_125 (by decide) ?_
    refine lv_aload_n hx hb d_Model_layStep_126 rfl (lv_at hl 1 rfl) ?_
    refine rd_Model_150 hx hb hT hown hK hP d_Model_layStep_127 ?_
    refine lv_aload_n hx hb d_Model_layStep_130 rfl (lv_at hl 1 rfl) ?_
    refine rd_Model_126 hx hb hT hown hK hP d_Model_layStep_131 ?_
    refine lv_iload_n hx hb d_Model_layStep_134 rfl (lv_at hl 2 rfl) ?_
    replace hR := gd_e hR
    obtain ⟨b14, hR⟩ := hR
    refine laM_37 hx hb hK hP b14 d_Model_layStep_135 ?_
    replace hR := gd_e hR
    obtain ⟨b15, hR⟩ := hR
    refine laM_45 hx hb hK hP b15 d_Model_layStep_136 ?_
    refine lv_if_ne (tgt := 144) hx hb d_Model_layStep_137 (by decide) (fun c16 => ?_) (fun c16 => ?_)
    · replace hR := if_n c16 hR
      refine lv_iconst (v := 1) hx hb d_Model_layStep_144 (by decide) ?_
      have g := lb_145 T13 p1 (1 : Int32) (0 : Int32) (26 : Int32) hR
      rw [hG] at g
      exact g _ _ hP hD hS _ (lv_sub hl [1, 2] rfl)
    · replace hR := if_p c16 hR
      refine lv_iconst (v := 0) hx hb d_Model_layStep_140 (by decide) ?_
      refine lv_goto (tgt := 145) hx hb d_Model_layStep_141 (by decide) ?_
      have g := lb_145 T13 p1 (0 : Int32) (0 : Int32) (26 : Int32) hR
      rw [hG] at g
      exact g _ _ hP hD hS _ (lv_sub hl [1, 2] rfl)
  replace hR := if_n c11 hR
  by_cases c17 : T2.1 50 p1.toNatClampNeg = (22 : Int32)
  · replace hR := if_p c17 hR
    refine lv_tableIn (off := 205) (tgt := 225) hx hb d_Model_layStep_20 (by rw [c17]; decide) (by rw [c17]; decide) (by rw [c17]; decide) (by decide) ?_
    refine lv_aload_n hx hb d_Model_layStep_225 rfl (lv_at hl 1 rfl) ?_
    refine lv_aload_n hx hb d_Model_layStep_226 rfl (lv_at hl 1 rfl) ?_
    refine rd_Model_126 hx hb hT hown hK hP d_Model_layStep_227 ?_
    refine lv_iload_n hx hb d_Model_layStep_230 rfl (lv_at hl 2 rfl) ?_
    replace hR := gd_e hR
    obtain ⟨b18, hR⟩ := hR
    refine laM_37 hx hb hK hP b18 d_Model_layStep_231 ?_
    replace hR := bi_e hR
    obtain ⟨r19, l19, T19, hc19, hR⟩ := hR
    refine gcV_v (rest := []) ⟨hx, hb, hml, hown, hT⟩ (h_Model_layExpression _ _ _ _ _ hc19) (cwV 1 hT (gV ml_Model_784 im_Model_layExpression se_Model_layExpression ini_Model co_Model_layExpression) rfl rfl rfl pd_Model_layExpression ⟨rm_hi, rm_lo (Nat.le_of_ble_eq_true rfl)⟩) hK hP hD hS hA hnw henv (Nat.le_of_ble_eq_true rfl) rfl rfl hl.1 rfl (Nat.le_of_ble_eq_true rfl) d_Model_layStep_232 ⟨Nat.le_refl _, Nat.le_refl _⟩ (fun H locs hP hD hS => ?_)
    clear hc19
    refine lv_aload_n hx hb d_Model_layStep_235 rfl (lv_at hl 1 rfl) ?_
    refine lv_bipush (v := 26) hx hb d_Model_layStep_236 (by decide) ?_
    refine lv_iconst (v := 0) hx hb d_Model_layStep_238 (by decide) ?_
    refine lv_aload_n hx hb d_Model_layStep_239 rfl (lv_at hl 1 rfl) ?_
    refine rd_Model_150 hx hb hT hown hK hP d_Model_layStep_240 ?_
    refine lv_aload_n hx hb d_Model_layStep_243 rfl (lv_at hl 1 rfl) ?_
    refine rd_Model_126 hx hb hT hown hK hP d_Model_layStep_244 ?_
    refine lv_iload_n hx hb d_Model_layStep_247 rfl (lv_at hl 2 rfl) ?_
    replace hR := gd_e hR
    obtain ⟨b20, hR⟩ := hR
    refine laM_37 hx hb hK hP b20 d_Model_layStep_248 ?_
    replace hR := gd_e hR
    obtain ⟨b21, hR⟩ := hR
    refine laM_45 hx hb hK hP b21 d_Model_layStep_249 ?_
    refine lv_if_ne (tgt := 257) hx hb d_Model_layStep_250 (by decide) (fun c22 => ?_) (fun c22 => ?_)
    · replace hR := if_n c22 hR
      refine lv_iconst (v := 1) hx hb d_Model_layStep_257 (by decide) ?_
      have g := lb_258 T19 p1 r2 (1 : Int32) (0 : Int32) (26 : Int32) hR
      rw [hG] at g
      exact g _ _ hP hD hS _ (lv_sub hl [1, 2, 0] rfl)
    · replace hR := if_p c22 hR
      refine lv_iconst (v := 0) hx hb d_Model_layStep_253 (by decide) ?_
      refine lv_goto (tgt := 258) hx hb d_Model_layStep_254 (by decide) ?_
      have g := lb_258 T19 p1 r2 (0 : Int32) (0 : Int32) (26 : Int32) hR
      rw [hG] at g
      exact g _ _ hP hD hS _ (lv_sub hl [1, 2, 0] rfl)
  replace hR := if_n c17 hR
  by_cases c23 : T2.1 50 p1.toNatClampNeg = (23 : Int32)
  · replace hR := if_p c23 hR
    refine lv_tableIn (off := 274) (tgt := 294) hx hb d_Model_layStep_20 (by rw [c23]; decide) (by rw [c23]; decide) (by rw [c23]; decide) (by decide) ?_
    refine lv_aload_n hx hb d_Model_layStep_294 rfl (lv_at hl 1 rfl) ?_
    refine rd_Model_126 hx hb hT hown hK hP d_Model_layStep_295 ?_
    refine lv_iload_n hx hb d_Model_layStep_298 rfl (lv_at hl 2 rfl) ?_
    replace hR := gd_e hR
    obtain ⟨b24, hR⟩ := hR
    refine laM_37 hx hb hK hP b24 d_Model_layStep_299 ?_
    refine lv_if_lt (tgt := 313) hx hb d_Model_layStep_300 (by decide) (fun c25 => ?_) (fun c25 => ?_)
    · replace hR := if_p c25 hR
      have g := lb_313 T2 p1 hR
      rw [hG] at g
      exact g _ _ hP hD hS _ (lv_sub hl [1, 2] rfl)
    · replace hR := if_n c25 hR
      refine lv_aload_n hx hb d_Model_layStep_303 rfl (lv_at hl 1 rfl) ?_
      refine lv_aload_n hx hb d_Model_layStep_304 rfl (lv_at hl 1 rfl) ?_
      refine rd_Model_126 hx hb hT hown hK hP d_Model_layStep_305 ?_
      refine lv_iload_n hx hb d_Model_layStep_308 rfl (lv_at hl 2 rfl) ?_
      replace hR := gd_e hR
      obtain ⟨b26, hR⟩ := hR
      refine laM_37 hx hb hK hP b26 d_Model_layStep_309 ?_
      replace hR := bi_e hR
      obtain ⟨r27, l27, T27, hc27, hR⟩ := hR
      refine gcV_v (rest := []) ⟨hx, hb, hml, hown, hT⟩ (h_Model_layExpression _ _ _ _ _ hc27) (cwV 1 hT (gV ml_Model_784 im_Model_layExpression se_Model_layExpression ini_Model co_Model_layExpression) rfl rfl rfl pd_Model_layExpression ⟨rm_hi, rm_lo (Nat.le_of_ble_eq_true rfl)⟩) hK hP hD hS hA hnw henv (Nat.le_of_ble_eq_true rfl) rfl rfl hl.1 rfl (Nat.le_of_ble_eq_true rfl) d_Model_layStep_310 ⟨Nat.le_refl _, Nat.le_refl _⟩ (fun H locs hP hD hS => ?_)
      clear hc27
      have g := lb_313 T27 p1 hR
      rw [hG] at g
      exact g _ _ hP hD hS _ (lv_sub hl [1, 2] rfl)
  replace hR := if_n c23 hR
  by_cases c28 : T2.1 50 p1.toNatClampNeg = (24 : Int32)
  · replace hR := if_p c28 hR
    refine lv_tableIn (off := 488) (tgt := 508) hx hb d_Model_layStep_20 (by rw [c28]; decide) (by rw [c28]; decide) (by rw [c28]; decide) (by decide) ?_
    have g := lb_508 T2 p1 hR
    rw [hG] at g
    exact g _ _ hP hD hS _ (lv_sub hl [1, 2] rfl)
  replace hR := if_n c28 hR
  by_cases c29 : T2.1 50 p1.toNatClampNeg = (25 : Int32)
  · replace hR := if_p c29 hR
    refine lv_tableIn (off := 488) (tgt := 508) hx hb d_Model_layStep_20 (by rw [c29]; decide) (by rw [c29]; decide) (by rw [c29]; decide) (by decide) ?_
    have g := lb_508 T2 p1 hR
    rw [hG] at g
    exact g _ _ hP hD hS _ (lv_sub hl [1, 2] rfl)
  replace hR := if_n c29 hR
  by_cases c30 : T2.1 50 p1.toNatClampNeg = (26 : Int32)
  · replace hR := if_p c30 hR
    refine lv_tableIn (off := 317) (tgt := 337) hx hb d_Model_layStep_20 (by rw [c30]; decide) (by rw [c30]; decide) (by rw [c30]; decide) (by decide) ?_
    refine lv_aload_n hx hb d_Model_layStep_337 rfl (lv_at hl 1 rfl) ?_
    refine lv_bipush (v := 31) hx hb d_Model_layStep_338 (by decide) ?_
    refine lv_aload_n hx hb d_Model_layStep_340 rfl (lv_at hl 1 rfl) ?_
    refine rd_Model_117 hx hb hT hown hK hP d_Model_layStep_341 ?_
    refine lv_aload_n hx hb d_Model_layStep_344 rfl (lv_at hl 1 rfl) ?_
    refine rd_Model_144 hx hb hT hown hK hP d_Model_layStep_345 ?_
    refine lv_iload_n hx hb d_Model_layStep_348 rfl (lv_at hl 2 rfl) ?_
    replace hR := gd_e hR
    obtain ⟨b31, hR⟩ := hR
    refine laM_43 hx hb hK hP b31 d_Model_layStep_349 ?_
    replace hR := gd_e hR
    obtain ⟨b32, hR⟩ := hR
    refine laM_34 hx hb hK hP b32 d_Model_layStep_350 ?_
    refine lv_iconst (v := 0) hx hb d_Model_layStep_351 (by decide) ?_
    refine lv_iconst (v := 0) hx hb d_Model_layStep_352 (by decide) ?_
    replace hR := bi_e hR
    obtain ⟨r33, l33, T33, hc33, hR⟩ := hR
    refine gcV_i (rest := []) ⟨hx, hb, hml, hown, hT⟩ (h_Model_lay _ _ _ _ _ _ _ _ hc33) (cwV 4 hT (gV ml_Model_777 im_Model_lay se_Model_lay ini_Model co_Model_lay) rfl rfl rfl pd_Model_lay ⟨rm_hi, rm_lo (Nat.le_of_ble_eq_true rfl)⟩) hK hP hD hS hA hnw henv (Nat.le_of_ble_eq_true rfl) rfl rfl hl.1 rfl (Nat.le_of_ble_eq_true rfl) d_Model_layStep_353 ⟨Nat.le_refl _, Nat.le_refl _⟩ (fun H locs hP hD hS => ?_)
    clear hc33
    refine lv_pop hx hb d_Model_layStep_356 rfl ?_
    refine lv_aload_n hx hb d_Model_layStep_357 rfl (lv_at hl 1 rfl) ?_
    refine lv_aload_n hx hb d_Model_layStep_358 rfl (lv_at hl 1 rfl) ?_
    refine rd_Model_126 hx hb hT hown hK hP d_Model_layStep_359 ?_
    refine lv_iload_n hx hb d_Model_layStep_362 rfl (lv_at hl 2 rfl) ?_
    replace hR := gd_e hR
    obtain ⟨b34, hR⟩ := hR
    refine laM_37 hx hb hK hP b34 d_Model_layStep_363 ?_
    replace hR := bi_e hR
    obtain ⟨r35, l35, T35, hc35, hR⟩ := hR
    refine gcV_v (rest := []) ⟨hx, hb, hml, hown, hT⟩ (h_Model_layBlock _ _ _ _ _ hc35) (cwV 1 hT (gV ml_Model_774 im_Model_layBlock se_Model_layBlock ini_Model co_Model_layBlock) rfl rfl rfl pd_Model_layBlock ⟨rm_hi, rm_lo (Nat.le_of_ble_eq_true rfl)⟩) hK hP hD hS hA hnw henv (Nat.le_of_ble_eq_true rfl) rfl rfl hl.1 rfl (Nat.le_of_ble_eq_true rfl) d_Model_layStep_364 ⟨Nat.le_refl _, Nat.le_refl _⟩ (fun H locs hP hD hS => ?_)
    clear hc35
    refine lv_aload_n hx hb d_Model_layStep_367 rfl (lv_at hl 1 rfl) ?_
    refine lv_bipush (v := 32) hx hb d_Model_layStep_368 (by decide) ?_
    refine lv_aload_n hx hb d_Model_layStep_370 rfl (lv_at hl 1 rfl) ?_
    refine rd_Model_117 hx hb hT hown hK hP d_Model_layStep_371 ?_
    refine lv_aload_n hx hb d_Model_layStep_374 rfl (lv_at hl 1 rfl) ?_
    refine rd_Model_144 hx hb hT hown hK hP d_Model_layStep_375 ?_
    refine lv_iload_n hx hb d_Model_layStep_378 rfl (lv_at hl 2 rfl) ?_
    replace hR := gd_e hR
    obtain ⟨b36, hR⟩ := hR
    refine laM_43 hx hb hK hP b36 d_Model_layStep_379 ?_
    replace hR := gd_e hR
    obtain ⟨b37, hR⟩ := hR
    refine laM_34 hx hb hK hP b37 d_Model_layStep_380 ?_
    refine lv_iconst (v := 0) hx hb d_Model_layStep_381 (by decide) ?_
    refine lv_iconst (v := 0) hx hb d_Model_layStep_382 (by decide) ?_
    replace hR := bi_e hR
    obtain ⟨r38, l38, T38, hc38, hR⟩ := hR
    refine gcV_i (rest := []) ⟨hx, hb, hml, hown, hT⟩ (h_Model_lay _ _ _ _ _ _ _ _ hc38) (cwV 4 hT (gV ml_Model_777 im_Model_lay se_Model_lay ini_Model co_Model_lay) rfl rfl rfl pd_Model_lay ⟨rm_hi, rm_lo (Nat.le_of_ble_eq_true rfl)⟩) hK hP hD hS hA hnw henv (Nat.le_of_ble_eq_true rfl) rfl rfl hl.1 rfl (Nat.le_of_ble_eq_true rfl) d_Model_layStep_383 ⟨Nat.le_refl _, Nat.le_refl _⟩ (fun H locs hP hD hS => ?_)
    clear hc38
    refine lv_pop hx hb d_Model_layStep_386 rfl ?_
    obtain ⟨-, -, e3⟩ := re_e hR
    subst e3
    exact W.vret hx hb hr (fun t ht hW => ⟨⟨(), rfl, trivial, by rw [ht]; exact hP, va_K.moved hW.alike hK, hD⟩, hS.F ht⟩) hS.2.2 d_Model_layStep_387
  replace hR := if_n c30 hR
  by_cases c39 : T2.1 50 p1.toNatClampNeg = (27 : Int32)
  · replace hR := if_p c39 hR
    refine lv_tableIn (off := 368) (tgt := 388) hx hb d_Model_layStep_20 (by rw [c39]; decide) (by rw [c39]; decide) (by rw [c39]; decide) (by decide) ?_
    refine lv_aload_n hx hb d_Model_layStep_388 rfl (lv_at hl 1 rfl) ?_
    refine lv_bipush (v := 33) hx hb d_Model_layStep_389 (by decide) ?_
    refine lv_aload_n hx hb d_Model_layStep_391 rfl (lv_at hl 1 rfl) ?_
    refine rd_Model_117 hx hb hT hown hK hP d_Model_layStep_392 ?_
    refine lv_aload_n hx hb d_Model_layStep_395 rfl (lv_at hl 1 rfl) ?_
    refine rd_Model_144 hx hb hT hown hK hP d_Model_layStep_396 ?_
    refine lv_iload_n hx hb d_Model_layStep_399 rfl (lv_at hl 2 rfl) ?_
    replace hR := gd_e hR
    obtain ⟨b40, hR⟩ := hR
    refine laM_43 hx hb hK hP b40 d_Model_layStep_400 ?_
    replace hR := gd_e hR
    obtain ⟨b41, hR⟩ := hR
    refine laM_34 hx hb hK hP b41 d_Model_layStep_401 ?_
    refine lv_iconst (v := 0) hx hb d_Model_layStep_402 (by decide) ?_
    refine lv_iconst (v := 0) hx hb d_Model_layStep_403 (by decide) ?_
    replace hR := bi_e hR
    obtain ⟨r42, l42, T42, hc42, hR⟩ := hR
    refine gcV_i (rest := []) ⟨hx, hb, hml, hown, hT⟩ (h_Model_lay _ _ _ _ _ _ _ _ hc42) (cwV 4 hT (gV ml_Model_777 im_Model_lay se_Model_lay ini_Model co_Model_lay) rfl rfl rfl pd_Model_lay ⟨rm_hi, rm_lo (Nat.le_of_ble_eq_true rfl)⟩) hK hP hD hS hA hnw henv (Nat.le_of_ble_eq_true rfl) rfl rfl hl.1 rfl (Nat.le_of_ble_eq_true rfl) d_Model_layStep_404 ⟨Nat.le_refl _, Nat.le_refl _⟩ (fun H locs hP hD hS => ?_)
    clear hc42
    refine lv_pop hx hb d_Model_layStep_407 rfl ?_
    obtain ⟨-, -, e3⟩ := re_e hR
    subst e3
    exact W.vret hx hb hr (fun t ht hW => ⟨⟨(), rfl, trivial, by rw [ht]; exact hP, va_K.moved hW.alike hK, hD⟩, hS.F ht⟩) hS.2.2 d_Model_layStep_408
  replace hR := if_n c39 hR
  by_cases c43 : T2.1 50 p1.toNatClampNeg = (28 : Int32)
  · replace hR := if_p c43 hR
    refine lv_tableIn (off := 389) (tgt := 409) hx hb d_Model_layStep_20 (by rw [c43]; decide) (by rw [c43]; decide) (by rw [c43]; decide) (by decide) ?_
    refine lv_aload_n hx hb d_Model_layStep_409 rfl (lv_at hl 1 rfl) ?_
    refine lv_bipush (v := 34) hx hb d_Model_layStep_410 (by decide) ?_
    refine lv_iconst (v := 0) hx hb d_Model_layStep_412 (by decide) ?_
    refine lv_aload_n hx hb d_Model_layStep_413 rfl (lv_at hl 1 rfl) ?_
    refine rd_Model_153 hx hb hT hown hK hP d_Model_layStep_414 ?_
    refine lv_iload_n hx hb d_Model_layStep_417 rfl (lv_at hl 2 rfl) ?_
    replace hR := gd_e hR
    obtain ⟨b44, hR⟩ := hR
    refine laM_46 hx hb hK hP b44 d_Model_layStep_418 ?_
    refine lv_iconst (v := 0) hx hb d_Model_layStep_419 (by decide) ?_
    replace hR := bi_e hR
    obtain ⟨r45, l45, T45, hc45, hR⟩ := hR
    refine gcV_i (rest := []) ⟨hx, hb, hml, hown, hT⟩ (h_Model_lay _ _ _ _ _ _ _ _ hc45) (cwV 4 hT (gV ml_Model_777 im_Model_lay se_Model_lay ini_Model co_Model_lay) rfl rfl rfl pd_Model_lay ⟨rm_hi, rm_lo (Nat.le_of_ble_eq_true rfl)⟩) hK hP hD hS hA hnw henv (Nat.le_of_ble_eq_true rfl) rfl rfl hl.1 rfl (Nat.le_of_ble_eq_true rfl) d_Model_layStep_420 ⟨Nat.le_refl _, Nat.le_refl _⟩ (fun H locs hP hD hS => ?_)
    clear hc45
    refine lv_istore_n (lv' := [(3, .int r45), (2, .int r2), (0, .ref (ad 0)), (1, .int p1)]) hx hb d_Model_layStep_423 rfl hl (by decide) rfl (fun ls hl => ?_)
    refine lv_aload_n hx hb d_Model_layStep_424 rfl (lv_at hl 2 rfl) ?_
    refine lv_aload_n hx hb d_Model_layStep_425 rfl (lv_at hl 2 rfl) ?_
    refine rd_Model_126 hx hb hT hown hK hP d_Model_layStep_426 ?_
    refine lv_iload_n hx hb d_Model_layStep_429 rfl (lv_at hl 3 rfl) ?_
    replace hR := gd_e hR
    obtain ⟨b46, hR⟩ := hR
    refine laM_37 hx hb hK hP b46 d_Model_layStep_430 ?_
    replace hR := bi_e hR
    obtain ⟨r47, l47, T47, hc47, hR⟩ := hR
    refine gcV_v (rest := []) ⟨hx, hb, hml, hown, hT⟩ (h_Model_layBlock _ _ _ _ _ hc47) (cwV 1 hT (gV ml_Model_774 im_Model_layBlock se_Model_layBlock ini_Model co_Model_layBlock) rfl rfl rfl pd_Model_layBlock ⟨rm_hi, rm_lo (Nat.le_of_ble_eq_true rfl)⟩) hK hP hD hS hA hnw henv (Nat.le_of_ble_eq_true rfl) rfl rfl hl.1 rfl (Nat.le_of_ble_eq_true rfl) d_Model_layStep_431 ⟨Nat.le_refl _, Nat.le_refl _⟩ (fun H locs hP hD hS => ?_)
    clear hc47
    refine lv_aload_n hx hb d_Model_layStep_434 rfl (lv_at hl 2 rfl) ?_
    refine lv_bipush (v := 35) hx hb d_Model_layStep_435 (by decide) ?_
    refine lv_iconst (v := 0) hx hb d_Model_layStep_437 (by decide) ?_
    refine lv_iconst (v := 0) hx hb d_Model_layStep_438 (by decide) ?_
    refine lv_iconst (v := 0) hx hb d_Model_layStep_439 (by decide) ?_
    replace hR := bi_e hR
    obtain ⟨r48, l48, T48, hc48, hR⟩ := hR
    refine gcV_i (rest := []) ⟨hx, hb, hml, hown, hT⟩ (h_Model_lay _ _ _ _ _ _ _ _ hc48) (cwV 4 hT (gV ml_Model_777 im_Model_lay se_Model_lay ini_Model co_Model_lay) rfl rfl rfl pd_Model_lay ⟨rm_hi, rm_lo (Nat.le_of_ble_eq_true rfl)⟩) hK hP hD hS hA hnw henv (Nat.le_of_ble_eq_true rfl) rfl rfl hl.1 rfl (Nat.le_of_ble_eq_true rfl) d_Model_layStep_440 ⟨Nat.le_refl _, Nat.le_refl _⟩ (fun H locs hP hD hS => ?_)
    clear hc48
    refine lv_pop hx hb d_Model_layStep_443 rfl ?_
    refine lv_aload_n hx hb d_Model_layStep_444 rfl (lv_at hl 2 rfl) ?_
    refine lv_bipush (v := 27) hx hb d_Model_layStep_445 (by decide) ?_
    refine lv_iconst (v := 0) hx hb d_Model_layStep_447 (by decide) ?_
    refine lv_iconst (v := 0) hx hb d_Model_layStep_448 (by decide) ?_
    refine lv_iconst (v := 0) hx hb d_Model_layStep_449 (by decide) ?_
    replace hR := bi_e hR
    obtain ⟨r49, l49, T49, hc49, hR⟩ := hR
    refine gcV_i (rest := []) ⟨hx, hb, hml, hown, hT⟩ (h_Model_lay _ _ _ _ _ _ _ _ hc49) (cwV 4 hT (gV ml_Model_777 im_Model_lay se_Model_lay ini_Model co_Model_lay) rfl rfl rfl pd_Model_lay ⟨rm_hi, rm_lo (Nat.le_of_ble_eq_true rfl)⟩) hK hP hD hS hA hnw henv (Nat.le_of_ble_eq_true rfl) rfl rfl hl.1 rfl (Nat.le_of_ble_eq_true rfl) d_Model_layStep_450 ⟨Nat.le_refl _, Nat.le_refl _⟩ (fun H locs hP hD hS => ?_)
    clear hc49
    refine lv_istore (lv' := [(4, .int r49), (3, .int r45), (2, .int r2), (0, .ref (ad 0)), (1, .int p1)]) hx hb d_Model_layStep_453 hl (by decide) rfl (fun ls hl => ?_)
    refine lv_aload_n hx hb d_Model_layStep_455 rfl (lv_at hl 3 rfl) ?_
    refine rd_Model_198 hx hb hT hown hK hP d_Model_layStep_456 ?_
    refine lv_iload_n hx hb d_Model_layStep_459 rfl (lv_at hl 1 rfl) ?_
    refine lv_aload_n hx hb d_Model_layStep_460 rfl (lv_at hl 3 rfl) ?_
    refine rd_Model_771 hx hb hT hown hK hP d_Model_layStep_461 ?_
    replace hR := gd_e hR
    obtain ⟨b50, hR⟩ := hR
    refine saM_61 hx hb hK hP hD hS b50 d_Model_layStep_464 (fun T50 eT H locs hP hD hS => ?_)
    replace hR := stK_e eT hR
    clear eT
    refine lv_aload_n hx hb d_Model_layStep_465 rfl (lv_at hl 3 rfl) ?_
    refine lv_aload_n hx hb d_Model_layStep_466 rfl (lv_at hl 3 rfl) ?_
    refine rd_Model_129 hx hb hT hown hK hP d_Model_layStep_467 ?_
    refine lv_iload_n hx hb d_Model_layStep_470 rfl (lv_at hl 4 rfl) ?_
    replace hR := gd_e hR
    obtain ⟨b51, hR⟩ := hR
    refine laM_38 hx hb hK hP b51 d_Model_layStep_471 ?_
    replace hR := bi_e hR
    obtain ⟨r52, l52, T52, hc52, hR⟩ := hR
    refine gcV_v (rest := []) ⟨hx, hb, hml, hown, hT⟩ (h_Model_layBlock _ _ _ _ _ hc52) (cwV 1 hT (gV ml_Model_774 im_Model_layBlock se_Model_layBlock ini_Model co_Model_layBlock) rfl rfl rfl pd_Model_layBlock ⟨rm_hi, rm_lo (Nat.le_of_ble_eq_true rfl)⟩) hK hP hD hS hA hnw henv (Nat.le_of_ble_eq_true rfl) rfl rfl hl.1 rfl (Nat.le_of_ble_eq_true rfl) d_Model_layStep_472 ⟨Nat.le_refl _, Nat.le_refl _⟩ (fun H locs hP hD hS => ?_)
    clear hc52
    refine lv_aload_n hx hb d_Model_layStep_475 rfl (lv_at hl 3 rfl) ?_
    refine rd_Model_198 hx hb hT hown hK hP d_Model_layStep_476 ?_
    refine lv_iload hx hb d_Model_layStep_479 (lv_at hl 0 rfl) ?_
    refine lv_aload_n hx hb d_Model_layStep_481 rfl (lv_at hl 3 rfl) ?_
    refine rd_Model_771 hx hb hT hown hK hP d_Model_layStep_482 ?_
    replace hR := gd_e hR
    obtain ⟨b53, hR⟩ := hR
    refine saM_61 hx hb hK hP hD hS b53 d_Model_layStep_485 (fun T53 eT H locs hP hD hS => ?_)
    replace hR := stK_e eT hR
    clear eT
    obtain ⟨-, -, e3⟩ := re_e hR
    subst e3
    exact W.vret hx hb hr (fun t ht hW => ⟨⟨(), rfl, trivial, by rw [ht]; exact hP, va_K.moved hW.alike hK, hD⟩, hS.F ht⟩) hS.2.2 d_Model_layStep_486
  replace hR := if_n c43 hR
  by_cases c54 : T2.1 50 p1.toNatClampNeg = (29 : Int32)
  · replace hR := if_p c54 hR
    refine lv_tableIn (off := 467) (tgt := 487) hx hb d_Model_layStep_20 (by rw [c54]; decide) (by rw [c54]; decide) (by rw [c54]; decide) (by decide) ?_
    refine lv_aload_n hx hb d_Model_layStep_487 rfl (lv_at hl 1 rfl) ?_
    refine lv_aload_n hx hb d_Model_layStep_488 rfl (lv_at hl 1 rfl) ?_
    refine rd_Model_129 hx hb hT hown hK hP d_Model_layStep_489 ?_
    refine lv_iload_n hx hb d_Model_layStep_492 rfl (lv_at hl 2 rfl) ?_
    replace hR := gd_e hR
    obtain ⟨b55, hR⟩ := hR
    refine laM_38 hx hb hK hP b55 d_Model_layStep_493 ?_
    replace hR := bi_e hR
    obtain ⟨r56, l56, T56, hc56, hR⟩ := hR
    refine gcV_v (rest := []) ⟨hx, hb, hml, hown, hT⟩ (h_Model_layExpression _ _ _ _ _ hc56) (cwV 1 hT (gV ml_Model_784 im_Model_layExpression se_Model_layExpression ini_Model co_Model_layExpression) rfl rfl rfl pd_Model_layExpression ⟨rm_hi, rm_lo (Nat.le_of_ble_eq_true rfl)⟩) hK hP hD hS hA hnw henv (Nat.le_of_ble_eq_true rfl) rfl rfl hl.1 rfl (Nat.le_of_ble_eq_true rfl) d_Model_layStep_494 ⟨Nat.le_refl _, Nat.le_refl _⟩ (fun H locs hP hD hS => ?_)
    clear hc56
    refine lv_aload_n hx hb d_Model_layStep_497 rfl (lv_at hl 1 rfl) ?_
    refine lv_aload_n hx hb d_Model_layStep_498 rfl (lv_at hl 1 rfl) ?_
    refine rd_Model_126 hx hb hT hown hK hP d_Model_layStep_499 ?_
    refine lv_iload_n hx hb d_Model_layStep_502 rfl (lv_at hl 2 rfl) ?_
    replace hR := gd_e hR
    obtain ⟨b57, hR⟩ := hR
    refine laM_37 hx hb hK hP b57 d_Model_layStep_503 ?_
    replace hR := bi_e hR
    obtain ⟨r58, l58, T58, hc58, hR⟩ := hR
    refine gcV_v (rest := []) ⟨hx, hb, hml, hown, hT⟩ (h_Model_layPlace _ _ _ _ _ hc58) (cwV 1 hT (gV ml_Model_787 im_Model_layPlace se_Model_layPlace ini_Model co_Model_layPlace) rfl rfl rfl pd_Model_layPlace ⟨rm_hi, rm_lo (Nat.le_of_ble_eq_true rfl)⟩) hK hP hD hS hA hnw henv (Nat.le_of_ble_eq_true rfl) rfl rfl hl.1 rfl (Nat.le_of_ble_eq_true rfl) d_Model_layStep_504 ⟨Nat.le_refl _, Nat.le_refl _⟩ (fun H locs hP hD hS => ?_)
    clear hc58
    obtain ⟨-, -, e3⟩ := re_e hR
    subst e3
    exact W.vret hx hb hr (fun t ht hW => ⟨⟨(), rfl, trivial, by rw [ht]; exact hP, va_K.moved hW.alike hK, hD⟩, hS.F ht⟩) hS.2.2 d_Model_layStep_507
  replace hR := if_n c54 hR
  have h359 : (T2.1 50 p1.toNatClampNeg : Int32).toInt < 20 ∨ 29 < (T2.1 50 p1.toNatClampNeg : Int32).toInt := by
    simp only [i_eq, Int32.reduceToInt] at c4 c11 c17 c23 c28 c29 c30 c39 c43 c54; omega
  refine lv_tableOut (tgt := 508) hx hb d_Model_layStep_20 h359 (by decide) ?_
  have g := lb_508 T2 p1 hR
  rw [hG] at g
  exact g _ _ hP hD hS _ (lv_sub hl [1, 2] rfl)
set_option maxHeartbeats 4000000 in
set_option maxRecDepth 100000 in
theorem sp_Model_layPlace (l : Launch) (dC : Nat → ClassId) (dI : Nat → Nat → Nat) (ea ev ad : Nat → Nat) (km : Nat → ClassId) (F : gF) (nf d : Nat) (h_Model_layExpression : mt_Model_layExpression l dC dI ea ev ad km F d) (h_Model_lay : mt_Model_lay l dC dI ea ev ad km F d) (T0 : gSt) (p1 : Int32) (r0 : Int32) (rl0 : Int64) (T9 : gSt) (hR : rb_Model_layPlace F nf T0 p1 = some (r0, rl0, T9)) : GMv l dC dI LM ad km ea ev y_Model_layPlace w_Model_layPlace (rmD (d + 1)) [.ref (ad 0), .int p1] T0 T9 := by
  intro sz
  refine Met.ofW (cc := b_Model_layPlace) (maxL := 2) (ret := none) (by decide) rfl ?_
  intro p e s m args below meth c s₁ B hml hv
  obtain ⟨rfl, hsz, hP, hK, hD0, hnw, henv⟩ := hv
  have hx := B.exec
  have hb := B.bytes
  have hr := B.returns
  have hT : ∀ w ∈ lw_good, w.before _ s = true := fun w h => atoms_spec (ws := w_Model_layPlace) B.pre w (List.mem_cons_of_mem _ h)
  have hown : s.vm.findClass R_Model = some m.cls := findClass_of_methodNamed B.named
  subst hsz
  have hD := hD0.self (sz := s.heap.size)
  clear hD0
  generalize hAe : va_A (gW LM ad km T0) s.heap.size = A at hD henv ⊢
  have hA : ∀ q : Nat, s.heap.size ≤ q → A q := fun q h => by rw [← hAe]; exact Or.inr h
  have hS : va_S A s.heap s.heap [] := va_S.rf
  have hl := lv_entry ([.ref (ad 0), .int p1]) (n := 2) (Nat.le_of_ble_eq_true rfl)
  rw [lg_entry_eq]
  generalize (lg_sl ([.ref (ad 0), .int p1]) ++ List.replicate (2 - (lg_sl ([.ref (ad 0), .int p1])).length) Slot.unset).toArray = ls at hl ⊢
  have hl : lv_has ls 2 [(0, .ref (ad 0)), (1, .int p1)] := hl
  unfold rb_Model_layPlace at hR
  refine lv_aload_n hx hb d_Model_layPlace_0 rfl (lv_at hl 0 rfl) ?_
  refine rd_Model_120 hx hb hT hown hK hP d_Model_layPlace_1 ?_
  refine lv_iload_n hx hb d_Model_layPlace_4 rfl (lv_at hl 1 rfl) ?_
  replace hR := gd_e hR
  obtain ⟨b1, hR⟩ := hR
  refine laM_35 hx hb hK hP b1 d_Model_layPlace_5 ?_
  refine lv_iconst (v := 4) hx hb d_Model_layPlace_6 (by decide) ?_
  refine lv_icmp_ne (tgt := 26) hx hb d_Model_layPlace_7 (by decide) (fun c2 => ?_) (fun c2 => ?_)
  · replace hR := if_n c2 hR
    refine lv_aload_n hx hb d_Model_layPlace_26 rfl (lv_at hl 0 rfl) ?_
    refine lv_aload_n hx hb d_Model_layPlace_27 rfl (lv_at hl 0 rfl) ?_
    refine rd_Model_126 hx hb hT hown hK hP d_Model_layPlace_28 ?_
    refine lv_iload_n hx hb d_Model_layPlace_31 rfl (lv_at hl 1 rfl) ?_
    replace hR := gd_e hR
    obtain ⟨b3, hR⟩ := hR
    refine laM_37 hx hb hK hP b3 d_Model_layPlace_32 ?_
    replace hR := bi_e hR
    obtain ⟨r4, l4, T4, hc4, hR⟩ := hR
    refine gcV_v (rest := []) ⟨hx, hb, hml, hown, hT⟩ (h_Model_layExpression _ _ _ _ _ hc4) (cwV 1 hT (gV ml_Model_784 im_Model_layExpression se_Model_layExpression ini_Model co_Model_layExpression) rfl rfl rfl pd_Model_layExpression ⟨rm_hi, rm_lo (Nat.le_of_ble_eq_true rfl)⟩) hK hP hD hS hA hnw henv (Nat.le_of_ble_eq_true rfl) rfl rfl hl.1 rfl (Nat.le_of_ble_eq_true rfl) d_Model_layPlace_33 ⟨Nat.le_refl _, Nat.le_refl _⟩ (fun H locs hP hD hS => ?_)
    clear hc4
    refine lv_aload_n hx hb d_Model_layPlace_36 rfl (lv_at hl 0 rfl) ?_
    refine rd_Model_120 hx hb hT hown hK hP d_Model_layPlace_37 ?_
    refine lv_iload_n hx hb d_Model_layPlace_40 rfl (lv_at hl 1 rfl) ?_
    replace hR := gd_e hR
    obtain ⟨b5, hR⟩ := hR
    refine laM_35 hx hb hK hP b5 d_Model_layPlace_41 ?_
    refine lv_bipush (v := 15) hx hb d_Model_layPlace_42 (by decide) ?_
    refine lv_icmp_ne (tgt := 70) hx hb d_Model_layPlace_44 (by decide) (fun c6 => ?_) (fun c6 => ?_)
    · replace hR := if_n c6 hR
      refine lv_aload_n hx hb d_Model_layPlace_70 rfl (lv_at hl 0 rfl) ?_
      refine rd_Model_120 hx hb hT hown hK hP d_Model_layPlace_71 ?_
      refine lv_iload_n hx hb d_Model_layPlace_74 rfl (lv_at hl 1 rfl) ?_
      replace hR := gd_e hR
      obtain ⟨b7, hR⟩ := hR
      refine laM_35 hx hb hK hP b7 d_Model_layPlace_75 ?_
      refine lv_bipush (v := 14) hx hb d_Model_layPlace_76 (by decide) ?_
      refine lv_icmp_ne (tgt := 119) hx hb d_Model_layPlace_78 (by decide) (fun c8 => ?_) (fun c8 => ?_)
      · replace hR := if_n c8 hR
        refine lv_aload_n hx hb d_Model_layPlace_119 rfl (lv_at hl 0 rfl) ?_
        refine lv_bipush (v := 25) hx hb d_Model_layPlace_120 (by decide) ?_
        refine lv_iconst (v := 0) hx hb d_Model_layPlace_122 (by decide) ?_
        refine lv_iconst (v := 0) hx hb d_Model_layPlace_123 (by decide) ?_
        refine lv_iconst (v := 0) hx hb d_Model_layPlace_124 (by decide) ?_
        replace hR := bi_e hR
        obtain ⟨r9, l9, T9, hc9, hR⟩ := hR
        refine gcV_i (rest := []) ⟨hx, hb, hml, hown, hT⟩ (h_Model_lay _ _ _ _ _ _ _ _ hc9) (cwV 4 hT (gV ml_Model_777 im_Model_lay se_Model_lay ini_Model co_Model_lay) rfl rfl rfl pd_Model_lay ⟨rm_hi, rm_lo (Nat.le_of_ble_eq_true rfl)⟩) hK hP hD hS hA hnw henv (Nat.le_of_ble_eq_true rfl) rfl rfl hl.1 rfl (Nat.le_of_ble_eq_true rfl) d_Model_layPlace_125 ⟨Nat.le_refl _, Nat.le_refl _⟩ (fun H locs hP hD hS => ?_)
        clear hc9
        refine lv_pop hx hb d_Model_layPlace_128 rfl ?_
        obtain ⟨-, -, e3⟩ := re_e hR
        subst e3
        exact W.vret hx hb hr (fun t ht hW => ⟨⟨(), rfl, trivial, by rw [ht]; exact hP, va_K.moved hW.alike hK, hD⟩, hS.F ht⟩) hS.2.2 d_Model_layPlace_129
      · replace hR := if_p c8 hR
        refine lv_aload_n hx hb d_Model_layPlace_81 rfl (lv_at hl 0 rfl) ?_
        refine lv_bipush (v := 23) hx hb d_Model_layPlace_82 (by decide) ?_
        refine lv_aload_n hx hb d_Model_layPlace_84 rfl (lv_at hl 0 rfl) ?_
        refine rd_Model_153 hx hb hT hown hK hP d_Model_layPlace_85 ?_
        refine lv_iload_n hx hb d_Model_layPlace_88 rfl (lv_at hl 1 rfl) ?_
        replace hR := gd_e hR
        obtain ⟨b10, hR⟩ := hR
        refine laM_46 hx hb hK hP b10 d_Model_layPlace_89 ?_
        refine lv_aload_n hx hb d_Model_layPlace_90 rfl (lv_at hl 0 rfl) ?_
        refine rd_Model_17 hx hb hT hown hK hP d_Model_layPlace_91 ?_
        refine lv_aload_n hx hb d_Model_layPlace_94 rfl (lv_at hl 0 rfl) ?_
        refine rd_Model_165 hx hb hT hown hK hP d_Model_layPlace_95 ?_
        refine lv_aload_n hx hb d_Model_layPlace_98 rfl (lv_at hl 0 rfl) ?_
        refine rd_Model_150 hx hb hT hown hK hP d_Model_layPlace_99 ?_
        refine lv_aload_n hx hb d_Model_layPlace_102 rfl (lv_at hl 0 rfl) ?_
        refine rd_Model_126 hx hb hT hown hK hP d_Model_layPlace_103 ?_
        refine lv_iload_n hx hb d_Model_layPlace_106 rfl (lv_at hl 1 rfl) ?_
        replace hR := gd_e hR
        obtain ⟨b11, hR⟩ := hR
        refine laM_37 hx hb hK hP b11 d_Model_layPlace_107 ?_
        replace hR := gd_e hR
        obtain ⟨b12, hR⟩ := hR
        refine laM_45 hx hb hK hP b12 d_Model_layPlace_108 ?_
        replace hR := gd_e hR
        obtain ⟨b13, hR⟩ := hR
        refine laM_50 hx hb hK hP b13 d_Model_layPlace_109 ?_
        replace hR := gd_e hR
        obtain ⟨b14, hR⟩ := hR
        refine laM_1 hx hb hK hP b14 d_Model_layPlace_110 ?_
        refine lv_iconst (v := 0) hx hb d_Model_layPlace_111 (by decide) ?_
        replace hR := bi_e hR
        obtain ⟨r15, l15, T15, hc15, hR⟩ := hR
        refine gcV_i (rest := []) ⟨hx, hb, hml, hown, hT⟩ (h_Model_lay _ _ _ _ _ _ _ _ hc15) (cwV 4 hT (gV ml_Model_777 im_Model_lay se_Model_lay ini_Model co_Model_lay) rfl rfl rfl pd_Model_lay ⟨rm_hi, rm_lo (Nat.le_of_ble_eq_true rfl)⟩) hK hP hD hS hA hnw henv (Nat.le_of_ble_eq_true rfl) rfl rfl hl.1 rfl (Nat.le_of_ble_eq_true rfl) d_Model_layPlace_112 ⟨Nat.le_refl _, Nat.le_refl _⟩ (fun H locs hP hD hS => ?_)
        clear hc15
        refine lv_pop hx hb d_Model_layPlace_115 rfl ?_
        refine lv_goto (tgt := 129) hx hb d_Model_layPlace_116 (by decide) ?_
        obtain ⟨-, -, e3⟩ := re_e hR
        subst e3
        exact W.vret hx hb hr (fun t ht hW => ⟨⟨(), rfl, trivial, by rw [ht]; exact hP, va_K.moved hW.alike hK, hD⟩, hS.F ht⟩) hS.2.2 d_Model_layPlace_129
    · replace hR := if_p c6 hR
      refine lv_aload_n hx hb d_Model_layPlace_47 rfl (lv_at hl 0 rfl) ?_
      refine lv_aload_n hx hb d_Model_layPlace_48 rfl (lv_at hl 0 rfl) ?_
      refine rd_Model_129 hx hb hT hown hK hP d_Model_layPlace_49 ?_
      refine lv_iload_n hx hb d_Model_layPlace_52 rfl (lv_at hl 1 rfl) ?_
      replace hR := gd_e hR
      obtain ⟨b16, hR⟩ := hR
      refine laM_38 hx hb hK hP b16 d_Model_layPlace_53 ?_
      replace hR := bi_e hR
      obtain ⟨r17, l17, T17, hc17, hR⟩ := hR
      refine gcV_v (rest := []) ⟨hx, hb, hml, hown, hT⟩ (h_Model_layExpression _ _ _ _ _ hc17) (cwV 1 hT (gV ml_Model_784 im_Model_layExpression se_Model_layExpression ini_Model co_Model_layExpression) rfl rfl rfl pd_Model_layExpression ⟨rm_hi, rm_lo (Nat.le_of_ble_eq_true rfl)⟩) hK hP hD hS hA hnw henv (Nat.le_of_ble_eq_true rfl) rfl rfl hl.1 rfl (Nat.le_of_ble_eq_true rfl) d_Model_layPlace_54 ⟨Nat.le_refl _, Nat.le_refl _⟩ (fun H locs hP hD hS => ?_)
      clear hc17
      refine lv_aload_n hx hb d_Model_layPlace_57 rfl (lv_at hl 0 rfl) ?_
      refine lv_bipush (v := 24) hx hb d_Model_layPlace_58 (by decide) ?_
      refine lv_iconst (v := 0) hx hb d_Model_layPlace_60 (by decide) ?_
      refine lv_iconst (v := 0) hx hb d_Model_layPlace_61 (by decide) ?_
      refine lv_iconst (v := 0) hx hb d_Model_layPlace_62 (by decide) ?_
      replace hR := bi_e hR
      obtain ⟨r18, l18, T18, hc18, hR⟩ := hR
      refine gcV_i (rest := []) ⟨hx, hb, hml, hown, hT⟩ (h_Model_lay _ _ _ _ _ _ _ _ hc18) (cwV 4 hT (gV ml_Model_777 im_Model_lay se_Model_lay ini_Model co_Model_lay) rfl rfl rfl pd_Model_lay ⟨rm_hi, rm_lo (Nat.le_of_ble_eq_true rfl)⟩) hK hP hD hS hA hnw henv (Nat.le_of_ble_eq_true rfl) rfl rfl hl.1 rfl (Nat.le_of_ble_eq_true rfl) d_Model_layPlace_63 ⟨Nat.le_refl _, Nat.le_refl _⟩ (fun H locs hP hD hS => ?_)
      clear hc18
      refine lv_pop hx hb d_Model_layPlace_66 rfl ?_
      refine lv_goto (tgt := 129) hx hb d_Model_layPlace_67 (by decide) ?_
      obtain ⟨-, -, e3⟩ := re_e hR
      subst e3
      exact W.vret hx hb hr (fun t ht hW => ⟨⟨(), rfl, trivial, by rw [ht]; exact hP, va_K.moved hW.alike hK, hD⟩, hS.F ht⟩) hS.2.2 d_Model_layPlace_129
  · replace hR := if_p c2 hR
    refine lv_aload_n hx hb d_Model_layPlace_10 rfl (lv_at hl 0 rfl) ?_
    refine lv_bipush (v := 22) hx hb d_Model_layPlace_11 (by decide) ?_
    refine lv_aload_n hx hb d_Model_layPlace_13 rfl (lv_at hl 0 rfl) ?_
    refine rd_Model_153 hx hb hT hown hK hP d_Model_layPlace_14 ?_
    refine lv_iload_n hx hb d_Model_layPlace_17 rfl (lv_at hl 1 rfl) ?_
    replace hR := gd_e hR
    obtain ⟨b19, hR⟩ := hR
    refine laM_46 hx hb hK hP b19 d_Model_layPlace_18 ?_
    refine lv_iconst (v := 0) hx hb d_Model_layPlace_19 (by decide) ?_
    refine lv_iconst (v := 0) hx hb d_Model_layPlace_20 (by decide) ?_
    replace hR := bi_e hR
    obtain ⟨r20, l20, T20, hc20, hR⟩ := hR
    refine gcV_i (rest := []) ⟨hx, hb, hml, hown, hT⟩ (h_Model_lay _ _ _ _ _ _ _ _ hc20) (cwV 4 hT (gV ml_Model_777 im_Model_lay se_Model_lay ini_Model co_Model_lay) rfl rfl rfl pd_Model_lay ⟨rm_hi, rm_lo (Nat.le_of_ble_eq_true rfl)⟩) hK hP hD hS hA hnw henv (Nat.le_of_ble_eq_true rfl) rfl rfl hl.1 rfl (Nat.le_of_ble_eq_true rfl) d_Model_layPlace_21 ⟨Nat.le_refl _, Nat.le_refl _⟩ (fun H locs hP hD hS => ?_)
    clear hc20
    refine lv_pop hx hb d_Model_layPlace_24 rfl ?_
    obtain ⟨-, -, e3⟩ := re_e hR
    subst e3
    exact W.vret hx hb hr (fun t ht hW => ⟨⟨(), rfl, trivial, by rw [ht]; exact hP, va_K.moved hW.alike hK, hD⟩, hS.F ht⟩) hS.2.2 d_Model_layPlace_25
set_option maxHeartbeats 4000000 in
set_option maxRecDepth 100000 in
theorem sp_Model_wordsOf (l : Launch) (dC : Nat → ClassId) (dI : Nat → Nat → Nat) (ea ev ad : Nat → Nat) (km : Nat → ClassId) (F : gF) (nf d : Nat) (h_Model_isRow : mt_Model_isRow l dC dI ea ev ad km F d) (T0 : gSt) (p1 : Int32) (r0 : Int32) (rl0 : Int64) (T9 : gSt) (hR : rb_Model_wordsOf F nf T0 p1 = some (r0, rl0, T9)) : GMi l dC dI LM ad km ea ev y_Model_wordsOf w_Model_wordsOf (rmD (d + 1)) [.ref (ad 0), .int p1] T0 r0 T9 := by
  intro sz
  refine Met.ofW (cc := b_Model_wordsOf) (maxL := 2) (ret := (some .int)) (by decide) rfl ?_
  intro p e s m args below meth c s₁ B hml hv
  obtain ⟨rfl, hsz, hP, hK, hD0, hnw, henv⟩ := hv
  have hx := B.exec
  have hb := B.bytes
  have hr := B.returns
  have hT : ∀ w ∈ lw_good, w.before _ s = true := fun w h => atoms_spec (ws := w_Model_wordsOf) B.pre w (List.mem_cons_of_mem _ h)
  have hown : s.vm.findClass R_Model = some m.cls := findClass_of_methodNamed B.named
  subst hsz
  have hD := hD0.self (sz := s.heap.size)
  clear hD0
  generalize hAe : va_A (gW LM ad km T0) s.heap.size = A at hD henv ⊢
  have hA : ∀ q : Nat, s.heap.size ≤ q → A q := fun q h => by rw [← hAe]; exact Or.inr h
  have hS : va_S A s.heap s.heap [] := va_S.rf
  have hl := lv_entry ([.ref (ad 0), .int p1]) (n := 2) (Nat.le_of_ble_eq_true rfl)
  rw [lg_entry_eq]
  generalize (lg_sl ([.ref (ad 0), .int p1]) ++ List.replicate (2 - (lg_sl ([.ref (ad 0), .int p1])).length) Slot.unset).toArray = ls at hl ⊢
  have hl : lv_has ls 2 [(0, .ref (ad 0)), (1, .int p1)] := hl
  unfold rb_Model_wordsOf at hR
  refine lv_aload_n hx hb d_Model_wordsOf_0 rfl (lv_at hl 0 rfl) ?_
  refine lv_iload_n hx hb d_Model_wordsOf_1 rfl (lv_at hl 1 rfl) ?_
  replace hR := bi_e hR
  obtain ⟨r1, l1, T1, hc1, hR⟩ := hR
  refine gcV_i (rest := []) ⟨hx, hb, hml, hown, hT⟩ (h_Model_isRow _ _ _ _ _ hc1) (cwV 1 hT (gV ml_Model_744 im_Model_isRow se_Model_isRow ini_Model co_Model_isRow) rfl rfl rfl pd_Model_isRow ⟨rm_hi, rm_lo (Nat.le_of_ble_eq_true rfl)⟩) hK hP hD hS hA hnw henv (Nat.le_of_ble_eq_true rfl) rfl rfl hl.1 rfl (Nat.le_of_ble_eq_true rfl) d_Model_wordsOf_2 ⟨Nat.le_refl _, Nat.le_refl _⟩ (fun H locs hP hD hS => ?_)
  clear hc1
  refine lv_if_eq (tgt := 12) hx hb d_Model_wordsOf_5 (by decide) (fun c2 => ?_) (fun c2 => ?_)
  · replace hR := if_p c2 hR
    refine lv_iconst (v := 1) hx hb d_Model_wordsOf_12 (by decide) ?_
    obtain ⟨e1, -, e3⟩ := re_e hR
    subst e1; subst e3
    exact W.iret (v := (1 : Int32)) hx hb hr (fun t ht hW => ⟨⟨(1 : Int32), (), rfl, rfl, by rw [ht]; exact hP, va_K.moved hW.alike hK, hD⟩, hS.F ht⟩) hS.2.2 d_Model_wordsOf_13
  · replace hR := if_n c2 hR
    refine lv_iconst (v := 3) hx hb d_Model_wordsOf_8 (by decide) ?_
    refine lv_goto (tgt := 13) hx hb d_Model_wordsOf_9 (by decide) ?_
    obtain ⟨e1, -, e3⟩ := re_e hR
    subst e1; subst e3
    exact W.iret (v := (3 : Int32)) hx hb hr (fun t ht hW => ⟨⟨(3 : Int32), (), rfl, rfl, by rw [ht]; exact hP, va_K.moved hW.alike hK, hD⟩, hS.F ht⟩) hS.2.2 d_Model_wordsOf_13
set_option maxHeartbeats 4000000 in
set_option maxRecDepth 100000 in
theorem sp_Model_layExpression (l : Launch) (dC : Nat → ClassId) (dI : Nat → Nat → Nat) (ea ev ad : Nat → Nat) (km : Nat → ClassId) (F : gF) (nf d : Nat) (h_Model_isLeft : mt_Model_isLeft l dC dI ea ev ad km F d) (h_Model_layFirst : mt_Model_layFirst l dC dI ea ev ad km F d) (h_Model_layBehind : mt_Model_layBehind l dC dI ea ev ad km F d) (T0 : gSt) (p1 : Int32) (r0 : Int32) (rl0 : Int64) (T9 : gSt) (hR : rb_Model_layExpression F nf T0 p1 = some (r0, rl0, T9)) : GMv l dC dI LM ad km ea ev y_Model_layExpression w_Model_layExpression (rmD (d + 1)) [.ref (ad 0), .int p1] T0 T9 := by
  intro sz
  refine Met.ofW (cc := b_Model_layExpression) (maxL := 4) (ret := none) (by decide) rfl ?_
  intro p e s m args below meth c s₁ B hml hv
  obtain ⟨rfl, hsz, hP, hK, hD0, hnw, henv⟩ := hv
  have hx := B.exec
  have hb := B.bytes
  have hr := B.returns
  have hT : ∀ w ∈ lw_good, w.before _ s = true := fun w h => atoms_spec (ws := w_Model_layExpression) B.pre w (List.mem_cons_of_mem _ h)
  have hown : s.vm.findClass R_Model = some m.cls := findClass_of_methodNamed B.named
  subst hsz
  have hD := hD0.self (sz := s.heap.size)
  clear hD0
  generalize hAe : va_A (gW LM ad km T0) s.heap.size = A at hD henv ⊢
  have hA : ∀ q : Nat, s.heap.size ≤ q → A q := fun q h => by rw [← hAe]; exact Or.inr h
  have hS : va_S A s.heap s.heap [] := va_S.rf
  have hl := lv_entry ([.ref (ad 0), .int p1]) (n := 4) (Nat.le_of_ble_eq_true rfl)
  rw [lg_entry_eq]
  generalize (lg_sl ([.ref (ad 0), .int p1]) ++ List.replicate (4 - (lg_sl ([.ref (ad 0), .int p1])).length) Slot.unset).toArray = ls at hl ⊢
  have hl : lv_has ls 4 [(0, .ref (ad 0)), (1, .int p1)] := hl
  obtain ⟨G, hG⟩ : ∃ G : Nat → List (Nat × Value) → List Value → gSt → Prop, G = (fun pc lv stk T => ∀ (H : Heap) (locs : List Loc), va_P (dC, dI) cls_all (gW LM ad km T) H → va_D A (gW LM ad km T) → va_S A s.heap H locs → ∀ (ls : Array Slot), lv_has ls 4 lv → W p l e (headSpec w_Model_layExpression (rmD (d + 1))).room s m ([.ref (ad 0), .int p1] : List Value).toArray below meth c H locs 0 0 (MQ below (va_Qv (fun (_ : Unit) => True) (fun _ t => gPost dC dI LM ad km T9 A t) A) ([.ref (ad 0), .int p1] : List Value).toArray s 0 0 A) (F0 m pc ls stk)) := ⟨_, rfl⟩
  have lb_54 : ∀ (n : Nat) (T : gSt) (x2 : Int32), rl_Model_layExpression_54 F nf n T x2 = some (r0, rl0, T9) → G 54 [(0, .ref (ad 0)), (2, .int x2)] [] T := by
    intro n
    induction n with
    | zero => intro T x2 hR; rw [rl_Model_layExpression_54] at hR; cases hR
    | succ n ih =>
      intro T x2 hR; rw [rl_Model_layExpression_54] at hR; rw [hG]; intro H locs hP hD hS ls hl
      refine lv_aload_n hx hb d_Model_layExpression_54 rfl (lv_at hl 0 rfl) ?_
      refine rd_Model_717 hx hb hT hown hK hP d_Model_layExpression_55 ?_
      refine lv_iload_n hx hb d_Model_layExpression_58 rfl (lv_at hl 1 rfl) ?_
      refine lv_icmp_le (tgt := 88) hx hb d_Model_layExpression_59 (by decide) (fun c10 => ?_) (fun c10 => ?_)
      · replace hR := if_p c10 hR
        obtain ⟨-, -, e3⟩ := re_e hR
        subst e3
        exact W.vret hx hb hr (fun t ht hW => ⟨⟨(), rfl, trivial, by rw [ht]; exact hP, va_K.moved hW.alike hK, hD⟩, hS.F ht⟩) hS.2.2 d_Model_layExpression_88
      · replace hR := if_n c10 hR
        refine lv_aload_n hx hb d_Model_layExpression_62 rfl (lv_at hl 0 rfl) ?_
        refine lv_dup hx hb d_Model_layExpression_63 rfl ?_
        refine rd_Model_717 hx hb hT hown hK hP d_Model_layExpression_64 ?_
        refine lv_iconst (v := 1) hx hb d_Model_layExpression_67 (by decide) ?_
        refine lv_isub hx hb d_Model_layExpression_68 ?_
        refine wr_Model_717 hx hb hT hown hK hP hD hS d_Model_layExpression_69 (fun T11 eT H locs hP hD hS => ?_)
        replace hR := stK_e eT hR
        clear eT
        refine lv_aload_n hx hb d_Model_layExpression_72 rfl (lv_at hl 0 rfl) ?_
        refine lv_aload_n hx hb d_Model_layExpression_73 rfl (lv_at hl 0 rfl) ?_
        refine rd_Model_192 hx hb hT hown hK hP d_Model_layExpression_74 ?_
        refine lv_aload_n hx hb d_Model_layExpression_77 rfl (lv_at hl 0 rfl) ?_
        refine rd_Model_717 hx hb hT hown hK hP d_Model_layExpression_78 ?_
        replace hR := gd_e hR
        obtain ⟨b12, hR⟩ := hR
        refine laM_59 hx hb hK hP b12 d_Model_layExpression_81 ?_
        replace hR := bi_e hR
        obtain ⟨r13, l13, T13, hc13, hR⟩ := hR
        refine gcV_v (rest := []) ⟨hx, hb, hml, hown, hT⟩ (h_Model_layBehind _ _ _ _ _ hc13) (cwV 1 hT (gV ml_Model_793 im_Model_layBehind se_Model_layBehind ini_Model co_Model_layBehind) rfl rfl rfl pd_Model_layBehind ⟨rm_hi, rm_lo (Nat.le_of_ble_eq_true rfl)⟩) hK hP hD hS hA hnw henv (Nat.le_of_ble_eq_true rfl) rfl rfl hl.1 rfl (Nat.le_of_ble_eq_true rfl) d_Model_layExpression_82 ⟨Nat.le_refl _, Nat.le_refl _⟩ (fun H locs hP hD hS => ?_)
        clear hc13
        refine lv_goto (tgt := 54) hx hb d_Model_layExpression_85 (by decide) ?_
        have g := ih T13 x2 hR
        rw [hG] at g
        exact g _ _ hP hD hS _ (lv_sub hl [0, 1] rfl)
  have lb_7 : ∀ (n : Nat) (T : gSt) (x2 : Int32) (x3 : Int32), rl_Model_layExpression_7 F nf n T x2 x3 = some (r0, rl0, T9) → G 7 [(0, .ref (ad 0)), (2, .int x2), (3, .int x3)] [] T := by
    intro n
    induction n with
    | zero => intro T x2 x3 hR; rw [rl_Model_layExpression_7] at hR; cases hR
    | succ n ih =>
      intro T x2 x3 hR; rw [rl_Model_layExpression_7] at hR; rw [hG]; intro H locs hP hD hS ls hl
      refine lv_aload_n hx hb d_Model_layExpression_7 rfl (lv_at hl 0 rfl) ?_
      refine rd_Model_120 hx hb hT hown hK hP d_Model_layExpression_8 ?_
      refine lv_iload_n hx hb d_Model_layExpression_11 rfl (lv_at hl 2 rfl) ?_
      replace hR := gd_e hR
      obtain ⟨b2, hR⟩ := hR
      refine laM_35 hx hb hK hP b2 d_Model_layExpression_12 ?_
      replace hR := bi_e hR
      obtain ⟨r3, l3, T3, hc3, hR⟩ := hR
      refine gcS_i (rest := []) ⟨hx, hb, hml, hown, hT⟩ (h_Model_isLeft _ _ _ _ _ hc3) (va_cwS 1 hT (gS ml_Model_720 st_Model_isLeft ini_Model co_Model_isLeft) rfl rfl rfl pd_Model_isLeft ⟨rm_hi, rm_lo (Nat.le_of_ble_eq_true rfl)⟩) hK hP hD hS hA hnw henv rfl hl.1 rfl (Nat.le_of_ble_eq_true rfl) d_Model_layExpression_13 ⟨Nat.le_refl _, Nat.le_refl _⟩ (fun H locs hP hD hS => ?_)
      clear hc3
      refine lv_if_eq (tgt := 49) hx hb d_Model_layExpression_16 (by decide) (fun c4 => ?_) (fun c4 => ?_)
      · replace hR := if_p c4 hR
        refine lv_aload_n hx hb d_Model_layExpression_49 rfl (lv_at hl 0 rfl) ?_
        refine lv_iload_n hx hb d_Model_layExpression_50 rfl (lv_at hl 2 rfl) ?_
        replace hR := bi_e hR
        obtain ⟨r5, l5, T5, hc5, hR⟩ := hR
        refine gcV_v (rest := []) ⟨hx, hb, hml, hown, hT⟩ (h_Model_layFirst _ _ _ _ _ hc5) (cwV 1 hT (gV ml_Model_790 im_Model_layFirst se_Model_layFirst ini_Model co_Model_layFirst) rfl rfl rfl pd_Model_layFirst ⟨rm_hi, rm_lo (Nat.le_of_ble_eq_true rfl)⟩) hK hP hD hS hA hnw henv (Nat.le_of_ble_eq_true rfl) rfl rfl hl.1 rfl (Nat.le_of_ble_eq_true rfl) d_Model_layExpression_51 ⟨Nat.le_refl _, Nat.le_refl _⟩ (fun H locs hP hD hS => ?_)
        clear hc5
        have g := lb_54 nf T5 x2 hR
        rw [hG] at g
        exact g _ _ hP hD hS _ (lv_sub hl [0, 1] rfl)
      · replace hR := if_n c4 hR
        refine lv_aload_n hx hb d_Model_layExpression_19 rfl (lv_at hl 0 rfl) ?_
        refine rd_Model_192 hx hb hT hown hK hP d_Model_layExpression_20 ?_
        refine lv_aload_n hx hb d_Model_layExpression_23 rfl (lv_at hl 0 rfl) ?_
        refine rd_Model_717 hx hb hT hown hK hP d_Model_layExpression_24 ?_
        refine lv_iload_n hx hb d_Model_layExpression_27 rfl (lv_at hl 2 rfl) ?_
        replace hR := gd_e hR
        obtain ⟨b6, hR⟩ := hR
        refine saM_59 hx hb hK hP hD hS b6 d_Model_layExpression_28 (fun T6 eT H locs hP hD hS => ?_)
        replace hR := stK_e eT hR
        clear eT
        refine lv_aload_n hx hb d_Model_layExpression_29 rfl (lv_at hl 0 rfl) ?_
        refine lv_dup hx hb d_Model_layExpression_30 rfl ?_
        refine rd_Model_717 hx hb hT hown hK hP d_Model_layExpression_31 ?_
        refine lv_iconst (v := 1) hx hb d_Model_layExpression_34 (by decide) ?_
        refine lv_iadd hx hb d_Model_layExpression_35 ?_
        refine wr_Model_717 hx hb hT hown hK hP hD hS d_Model_layExpression_36 (fun T7 eT H locs hP hD hS => ?_)
        replace hR := stK_e eT hR
        clear eT
        refine lv_aload_n hx hb d_Model_layExpression_39 rfl (lv_at hl 0 rfl) ?_
        refine rd_Model_126 hx hb hT hown hK hP d_Model_layExpression_40 ?_
        refine lv_iload_n hx hb d_Model_layExpression_43 rfl (lv_at hl 2 rfl) ?_
        replace hR := gd_e hR
        obtain ⟨b8, hR⟩ := hR
        refine laM_37 hx hb hK hP b8 d_Model_layExpression_44 ?_
        refine lv_topi (fun z9 e9 => ?_)
        replace hR := vK_e e9 hR
        refine lv_istore_n (lv' := [(3, .int z9), (0, .ref (ad 0)), (2, .int x2)]) hx hb d_Model_layExpression_45 rfl hl (by decide) rfl (fun ls hl => ?_)
        refine lv_goto (tgt := 7) hx hb d_Model_layExpression_46 (by decide) ?_
        have g := ih T7 x2 z9 hR
        rw [hG] at g
        exact g _ _ hP hD hS _ (lv_sub hl [1, 2, 0] rfl)
  unfold rb_Model_layExpression at hR
  refine lv_aload_n hx hb d_Model_layExpression_0 rfl (lv_at hl 0 rfl) ?_
  refine rd_Model_717 hx hb hT hown hK hP d_Model_layExpression_1 ?_
  refine lv_topi (fun z1 e1 => ?_)
  replace hR := vK_e e1 hR
  refine lv_istore_n (lv' := [(2, .int z1), (0, .ref (ad 0)), (1, .int p1)]) hx hb d_Model_layExpression_4 rfl hl (by decide) rfl (fun ls hl => ?_)
  refine lv_iload_n hx hb d_Model_layExpression_5 rfl (lv_at hl 2 rfl) ?_
  refine lv_istore_n (lv' := [(3, .int p1), (2, .int z1), (0, .ref (ad 0)), (1, .int p1)]) hx hb d_Model_layExpression_6 rfl hl (by decide) rfl (fun ls hl => ?_)
  have g := lb_7 nf T0 z1 p1 hR
  rw [hG] at g
  exact g _ _ hP hD hS _ (lv_sub hl [2, 1, 0] rfl)
set_option maxHeartbeats 4000000 in
set_option maxRecDepth 100000 in
theorem sp_Model_layBehind (l : Launch) (dC : Nat → ClassId) (dI : Nat → Nat → Nat) (ea ev ad : Nat → Nat) (km : Nat → ClassId) (F : gF) (nf d : Nat) (h_Model_layExpression : mt_Model_layExpression l dC dI ea ev ad km F d) (h_Model_isRow : mt_Model_isRow l dC dI ea ev ad km F d) (h_Model_lay : mt_Model_lay l dC dI ea ev ad km F d) (T0 : gSt) (p1 : Int32) (r0 : Int32) (rl0 : Int64) (T9 : gSt) (hR : rb_Model_layBehind F nf T0 p1 = some (r0, rl0, T9)) : GMv l dC dI LM ad km ea ev y_Model_layBehind w_Model_layBehind (rmD (d + 1)) [.ref (ad 0), .int p1] T0 T9 := by
  intro sz
  refine Met.ofW (cc := b_Model_layBehind) (maxL := 2) (ret := none) (by decide) rfl ?_
  intro p e s m args below meth c s₁ B hml hv
  obtain ⟨rfl, hsz, hP, hK, hD0, hnw, henv⟩ := hv
  have hx := B.exec
  have hb := B.bytes
  have hr := B.returns
  have hT : ∀ w ∈ lw_good, w.before _ s = true := fun w h => atoms_spec (ws := w_Model_layBehind) B.pre w (List.mem_cons_of_mem _ h)
  have hown : s.vm.findClass R_Model = some m.cls := findClass_of_methodNamed B.named
  subst hsz
  have hD := hD0.self (sz := s.heap.size)
  clear hD0
  generalize hAe : va_A (gW LM ad km T0) s.heap.size = A at hD henv ⊢
  have hA : ∀ q : Nat, s.heap.size ≤ q → A q := fun q h => by rw [← hAe]; exact Or.inr h
  have hS : va_S A s.heap s.heap [] := va_S.rf
  have hl := lv_entry ([.ref (ad 0), .int p1]) (n := 2) (Nat.le_of_ble_eq_true rfl)
  rw [lg_entry_eq]
  generalize (lg_sl ([.ref (ad 0), .int p1]) ++ List.replicate (2 - (lg_sl ([.ref (ad 0), .int p1])).length) Slot.unset).toArray = ls at hl ⊢
  have hl : lv_has ls 2 [(0, .ref (ad 0)), (1, .int p1)] := hl
  unfold rb_Model_layBehind at hR
  refine lv_aload_n hx hb d_Model_layBehind_0 rfl (lv_at hl 0 rfl) ?_
  refine rd_Model_120 hx hb hT hown hK hP d_Model_layBehind_1 ?_
  refine lv_iload_n hx hb d_Model_layBehind_4 rfl (lv_at hl 1 rfl) ?_
  replace hR := gd_e hR
  obtain ⟨b1, hR⟩ := hR
  refine laM_35 hx hb hK hP b1 d_Model_layBehind_5 ?_
  by_cases c2 : T0.1 50 p1.toNatClampNeg = (13 : Int32)
  · replace hR := if_p c2 hR
    refine lv_tableIn (off := 34) (tgt := 40) hx hb d_Model_layBehind_6 (by rw [c2]; decide) (by rw [c2]; decide) (by rw [c2]; decide) (by decide) ?_
    refine lv_aload_n hx hb d_Model_layBehind_40 rfl (lv_at hl 0 rfl) ?_
    refine lv_aload_n hx hb d_Model_layBehind_41 rfl (lv_at hl 0 rfl) ?_
    refine rd_Model_129 hx hb hT hown hK hP d_Model_layBehind_42 ?_
    refine lv_iload_n hx hb d_Model_layBehind_45 rfl (lv_at hl 1 rfl) ?_
    replace hR := gd_e hR
    obtain ⟨b3, hR⟩ := hR
    refine laM_38 hx hb hK hP b3 d_Model_layBehind_46 ?_
    replace hR := bi_e hR
    obtain ⟨r4, l4, T4, hc4, hR⟩ := hR
    refine gcV_v (rest := []) ⟨hx, hb, hml, hown, hT⟩ (h_Model_layExpression _ _ _ _ _ hc4) (cwV 1 hT (gV ml_Model_784 im_Model_layExpression se_Model_layExpression ini_Model co_Model_layExpression) rfl rfl rfl pd_Model_layExpression ⟨rm_hi, rm_lo (Nat.le_of_ble_eq_true rfl)⟩) hK hP hD hS hA hnw henv (Nat.le_of_ble_eq_true rfl) rfl rfl hl.1 rfl (Nat.le_of_ble_eq_true rfl) d_Model_layBehind_47 ⟨Nat.le_refl _, Nat.le_refl _⟩ (fun H locs hP hD hS => ?_)
    clear hc4
    refine lv_aload_n hx hb d_Model_layBehind_50 rfl (lv_at hl 0 rfl) ?_
    refine lv_aload_n hx hb d_Model_layBehind_51 rfl (lv_at hl 0 rfl) ?_
    refine rd_Model_150 hx hb hT hown hK hP d_Model_layBehind_52 ?_
    refine lv_iload_n hx hb d_Model_layBehind_55 rfl (lv_at hl 1 rfl) ?_
    replace hR := gd_e hR
    obtain ⟨b5, hR⟩ := hR
    refine laM_45 hx hb hK hP b5 d_Model_layBehind_56 ?_
    replace hR := bi_e hR
    obtain ⟨r6, l6, T6, hc6, hR⟩ := hR
    refine gcV_i (rest := []) ⟨hx, hb, hml, hown, hT⟩ (h_Model_isRow _ _ _ _ _ hc6) (cwV 1 hT (gV ml_Model_744 im_Model_isRow se_Model_isRow ini_Model co_Model_isRow) rfl rfl rfl pd_Model_isRow ⟨rm_hi, rm_lo (Nat.le_of_ble_eq_true rfl)⟩) hK hP hD hS hA hnw henv (Nat.le_of_ble_eq_true rfl) rfl rfl hl.1 rfl (Nat.le_of_ble_eq_true rfl) d_Model_layBehind_57 ⟨Nat.le_refl _, Nat.le_refl _⟩ (fun H locs hP hD hS => ?_)
    clear hc6
    refine lv_if_eq (tgt := 76) hx hb d_Model_layBehind_60 (by decide) (fun c7 => ?_) (fun c7 => ?_)
    · replace hR := if_p c7 hR
      refine lv_aload_n hx hb d_Model_layBehind_76 rfl (lv_at hl 0 rfl) ?_
      refine rd_Model_132 hx hb hT hown hK hP d_Model_layBehind_77 ?_
      refine lv_iload_n hx hb d_Model_layBehind_80 rfl (lv_at hl 1 rfl) ?_
      replace hR := gd_e hR
      obtain ⟨b8, hR⟩ := hR
      refine laM_39 hx hb hK hP b8 d_Model_layBehind_81 ?_
      refine lv_sipush (v := 256) hx hb d_Model_layBehind_82 (by decide) ?_
      refine lv_icmp_ne (tgt := 115) hx hb d_Model_layBehind_85 (by decide) (fun c9 => ?_) (fun c9 => ?_)
      · replace hR := if_n c9 hR
        refine lv_aload_n hx hb d_Model_layBehind_115 rfl (lv_at hl 0 rfl) ?_
        refine lv_bipush (v := 19) hx hb d_Model_layBehind_116 (by decide) ?_
        refine lv_aload_n hx hb d_Model_layBehind_118 rfl (lv_at hl 0 rfl) ?_
        refine rd_Model_132 hx hb hT hown hK hP d_Model_layBehind_119 ?_
        refine lv_iload_n hx hb d_Model_layBehind_122 rfl (lv_at hl 1 rfl) ?_
        replace hR := gd_e hR
        obtain ⟨b10, hR⟩ := hR
        refine laM_39 hx hb hK hP b10 d_Model_layBehind_123 ?_
        refine lv_iconst (v := 0) hx hb d_Model_layBehind_124 (by decide) ?_
        refine lv_iconst (v := 0) hx hb d_Model_layBehind_125 (by decide) ?_
        replace hR := bi_e hR
        obtain ⟨r11, l11, T11, hc11, hR⟩ := hR
        refine gcV_i (rest := []) ⟨hx, hb, hml, hown, hT⟩ (h_Model_lay _ _ _ _ _ _ _ _ hc11) (cwV 4 hT (gV ml_Model_777 im_Model_lay se_Model_lay ini_Model co_Model_lay) rfl rfl rfl pd_Model_lay ⟨rm_hi, rm_lo (Nat.le_of_ble_eq_true rfl)⟩) hK hP hD hS hA hnw henv (Nat.le_of_ble_eq_true rfl) rfl rfl hl.1 rfl (Nat.le_of_ble_eq_true rfl) d_Model_layBehind_126 ⟨Nat.le_refl _, Nat.le_refl _⟩ (fun H locs hP hD hS => ?_)
        clear hc11
        refine lv_pop hx hb d_Model_layBehind_129 rfl ?_
        obtain ⟨-, -, e3⟩ := re_e hR
        subst e3
        exact W.vret hx hb hr (fun t ht hW => ⟨⟨(), rfl, trivial, by rw [ht]; exact hP, va_K.moved hW.alike hK, hD⟩, hS.F ht⟩) hS.2.2 d_Model_layBehind_130
      · replace hR := if_p c9 hR
        refine lv_aload_n hx hb d_Model_layBehind_88 rfl (lv_at hl 0 rfl) ?_
        refine rd_Model_150 hx hb hT hown hK hP d_Model_layBehind_89 ?_
        refine lv_aload_n hx hb d_Model_layBehind_92 rfl (lv_at hl 0 rfl) ?_
        refine rd_Model_126 hx hb hT hown hK hP d_Model_layBehind_93 ?_
        refine lv_iload_n hx hb d_Model_layBehind_96 rfl (lv_at hl 1 rfl) ?_
        replace hR := gd_e hR
        obtain ⟨b12, hR⟩ := hR
        refine laM_37 hx hb hK hP b12 d_Model_layBehind_97 ?_
        replace hR := gd_e hR
        obtain ⟨b13, hR⟩ := hR
        refine laM_45 hx hb hK hP b13 d_Model_layBehind_98 ?_
        refine lv_if_eq (tgt := 115) hx hb d_Model_layBehind_99 (by decide) (fun c14 => ?_) (fun c14 => ?_)
        · replace hR := if_p c14 hR
          refine lv_aload_n hx hb d_Model_layBehind_115 rfl (lv_at hl 0 rfl) ?_
          refine lv_bipush (v := 19) hx hb d_Model_layBehind_116 (by decide) ?_
          refine lv_aload_n hx hb d_Model_layBehind_118 rfl (lv_at hl 0 rfl) ?_
          refine rd_Model_132 hx hb hT hown hK hP d_Model_layBehind_119 ?_
          refine lv_iload_n hx hb d_Model_layBehind_122 rfl (lv_at hl 1 rfl) ?_
          replace hR := gd_e hR
          obtain ⟨b15, hR⟩ := hR
          refine laM_39 hx hb hK hP b15 d_Model_layBehind_123 ?_
          refine lv_iconst (v := 0) hx hb d_Model_layBehind_124 (by decide) ?_
          refine lv_iconst (v := 0) hx hb d_Model_layBehind_125 (by decide) ?_
          replace hR := bi_e hR
          obtain ⟨r16, l16, T16, hc16, hR⟩ := hR
          refine gcV_i (rest := []) ⟨hx, hb, hml, hown, hT⟩ (h_Model_lay _ _ _ _ _ _ _ _ hc16) (cwV 4 hT (gV ml_Model_777 im_Model_lay se_Model_lay ini_Model co_Model_lay) rfl rfl rfl pd_Model_lay ⟨rm_hi, rm_lo (Nat.le_of_ble_eq_true rfl)⟩) hK hP hD hS hA hnw henv (Nat.le_of_ble_eq_true rfl) rfl rfl hl.1 rfl (Nat.le_of_ble_eq_true rfl) d_Model_layBehind_126 ⟨Nat.le_refl _, Nat.le_refl _⟩ (fun H locs hP hD hS => ?_)
          clear hc16
          refine lv_pop hx hb d_Model_layBehind_129 rfl ?_
          obtain ⟨-, -, e3⟩ := re_e hR
          subst e3
          exact W.vret hx hb hr (fun t ht hW => ⟨⟨(), rfl, trivial, by rw [ht]; exact hP, va_K.moved hW.alike hK, hD⟩, hS.F ht⟩) hS.2.2 d_Model_layBehind_130
        · replace hR := if_n c14 hR
          refine lv_aload_n hx hb d_Model_layBehind_102 rfl (lv_at hl 0 rfl) ?_
          refine lv_bipush (v := 21) hx hb d_Model_layBehind_103 (by decide) ?_
          refine lv_iconst (v := 0) hx hb d_Model_layBehind_105 (by decide) ?_
          refine lv_iconst (v := 0) hx hb d_Model_layBehind_106 (by decide) ?_
          refine lv_iconst (v := 0) hx hb d_Model_layBehind_107 (by decide) ?_
          replace hR := bi_e hR
          obtain ⟨r17, l17, T17, hc17, hR⟩ := hR
          refine gcV_i (rest := []) ⟨hx, hb, hml, hown, hT⟩ (h_Model_lay _ _ _ _ _ _ _ _ hc17) (cwV 4 hT (gV ml_Model_777 im_Model_lay se_Model_lay ini_Model co_Model_lay) rfl rfl rfl pd_Model_lay ⟨rm_hi, rm_lo (Nat.le_of_ble_eq_true rfl)⟩) hK hP hD hS hA hnw henv (Nat.le_of_ble_eq_true rfl) rfl rfl hl.1 rfl (Nat.le_of_ble_eq_true rfl) d_Model_layBehind_108 ⟨Nat.le_refl _, Nat.le_refl _⟩ (fun H locs hP hD hS => ?_)
          clear hc17
          refine lv_pop hx hb d_Model_layBehind_111 rfl ?_
          refine lv_goto (tgt := 130) hx hb d_Model_layBehind_112 (by decide) ?_
          obtain ⟨-, -, e3⟩ := re_e hR
          subst e3
          exact W.vret hx hb hr (fun t ht hW => ⟨⟨(), rfl, trivial, by rw [ht]; exact hP, va_K.moved hW.alike hK, hD⟩, hS.F ht⟩) hS.2.2 d_Model_layBehind_130
    · replace hR := if_n c7 hR
      refine lv_aload_n hx hb d_Model_layBehind_63 rfl (lv_at hl 0 rfl) ?_
      refine lv_bipush (v := 20) hx hb d_Model_layBehind_64 (by decide) ?_
      refine lv_iconst (v := 0) hx hb d_Model_layBehind_66 (by decide) ?_
      refine lv_iconst (v := 0) hx hb d_Model_layBehind_67 (by decide) ?_
      refine lv_iconst (v := 0) hx hb d_Model_layBehind_68 (by decide) ?_
      replace hR := bi_e hR
      obtain ⟨r18, l18, T18, hc18, hR⟩ := hR
      refine gcV_i (rest := []) ⟨hx, hb, hml, hown, hT⟩ (h_Model_lay _ _ _ _ _ _ _ _ hc18) (cwV 4 hT (gV ml_Model_777 im_Model_lay se_Model_lay ini_Model co_Model_lay) rfl rfl rfl pd_Model_lay ⟨rm_hi, rm_lo (Nat.le_of_ble_eq_true rfl)⟩) hK hP hD hS hA hnw henv (Nat.le_of_ble_eq_true rfl) rfl rfl hl.1 rfl (Nat.le_of_ble_eq_true rfl) d_Model_layBehind_69 ⟨Nat.le_refl _, Nat.le_refl _⟩ (fun H locs hP hD hS => ?_)
      clear hc18
      refine lv_pop hx hb d_Model_layBehind_72 rfl ?_
      refine lv_goto (tgt := 130) hx hb d_Model_layBehind_73 (by decide) ?_
      obtain ⟨-, -, e3⟩ := re_e hR
      subst e3
      exact W.vret hx hb hr (fun t ht hW => ⟨⟨(), rfl, trivial, by rw [ht]; exact hP, va_K.moved hW.alike hK, hD⟩, hS.F ht⟩) hS.2.2 d_Model_layBehind_130
  replace hR := if_n c2 hR
  by_cases c19 : T0.1 50 p1.toNatClampNeg = (14 : Int32)
  · replace hR := if_p c19 hR
    refine lv_tableIn (off := 146) (tgt := 152) hx hb d_Model_layBehind_6 (by rw [c19]; decide) (by rw [c19]; decide) (by rw [c19]; decide) (by decide) ?_
    refine lv_aload_n hx hb d_Model_layBehind_152 rfl (lv_at hl 0 rfl) ?_
    refine lv_bipush (v := 6) hx hb d_Model_layBehind_153 (by decide) ?_
    refine lv_aload_n hx hb d_Model_layBehind_155 rfl (lv_at hl 0 rfl) ?_
    refine rd_Model_153 hx hb hT hown hK hP d_Model_layBehind_156 ?_
    refine lv_iload_n hx hb d_Model_layBehind_159 rfl (lv_at hl 1 rfl) ?_
    replace hR := gd_e hR
    obtain ⟨b20, hR⟩ := hR
    refine laM_46 hx hb hK hP b20 d_Model_layBehind_160 ?_
    refine lv_aload_n hx hb d_Model_layBehind_161 rfl (lv_at hl 0 rfl) ?_
    refine rd_Model_17 hx hb hT hown hK hP d_Model_layBehind_162 ?_
    refine lv_aload_n hx hb d_Model_layBehind_165 rfl (lv_at hl 0 rfl) ?_
    refine rd_Model_165 hx hb hT hown hK hP d_Model_layBehind_166 ?_
    refine lv_aload_n hx hb d_Model_layBehind_169 rfl (lv_at hl 0 rfl) ?_
    refine rd_Model_150 hx hb hT hown hK hP d_Model_layBehind_170 ?_
    refine lv_aload_n hx hb d_Model_layBehind_173 rfl (lv_at hl 0 rfl) ?_
    refine rd_Model_126 hx hb hT hown hK hP d_Model_layBehind_174 ?_
    refine lv_iload_n hx hb d_Model_layBehind_177 rfl (lv_at hl 1 rfl) ?_
    replace hR := gd_e hR
    obtain ⟨b21, hR⟩ := hR
    refine laM_37 hx hb hK hP b21 d_Model_layBehind_178 ?_
    replace hR := gd_e hR
    obtain ⟨b22, hR⟩ := hR
    refine laM_45 hx hb hK hP b22 d_Model_layBehind_179 ?_
    replace hR := gd_e hR
    obtain ⟨b23, hR⟩ := hR
    refine laM_50 hx hb hK hP b23 d_Model_layBehind_180 ?_
    replace hR := gd_e hR
    obtain ⟨b24, hR⟩ := hR
    refine laM_1 hx hb hK hP b24 d_Model_layBehind_181 ?_
    refine lv_iconst (v := 0) hx hb d_Model_layBehind_182 (by decide) ?_
    replace hR := bi_e hR
    obtain ⟨r25, l25, T25, hc25, hR⟩ := hR
    refine gcV_i (rest := []) ⟨hx, hb, hml, hown, hT⟩ (h_Model_lay _ _ _ _ _ _ _ _ hc25) (cwV 4 hT (gV ml_Model_777 im_Model_lay se_Model_lay ini_Model co_Model_lay) rfl rfl rfl pd_Model_lay ⟨rm_hi, rm_lo (Nat.le_of_ble_eq_true rfl)⟩) hK hP hD hS hA hnw henv (Nat.le_of_ble_eq_true rfl) rfl rfl hl.1 rfl (Nat.le_of_ble_eq_true rfl) d_Model_layBehind_183 ⟨Nat.le_refl _, Nat.le_refl _⟩ (fun H locs hP hD hS => ?_)
    clear hc25
    refine lv_pop hx hb d_Model_layBehind_186 rfl ?_
    obtain ⟨-, -, e3⟩ := re_e hR
    subst e3
    exact W.vret hx hb hr (fun t ht hW => ⟨⟨(), rfl, trivial, by rw [ht]; exact hP, va_K.moved hW.alike hK, hD⟩, hS.F ht⟩) hS.2.2 d_Model_layBehind_187
  replace hR := if_n c19 hR
  by_cases c26 : T0.1 50 p1.toNatClampNeg = (15 : Int32)
  · replace hR := if_p c26 hR
    refine lv_tableIn (off := 125) (tgt := 131) hx hb d_Model_layBehind_6 (by rw [c26]; decide) (by rw [c26]; decide) (by rw [c26]; decide) (by decide) ?_
    refine lv_aload_n hx hb d_Model_layBehind_131 rfl (lv_at hl 0 rfl) ?_
    refine lv_aload_n hx hb d_Model_layBehind_132 rfl (lv_at hl 0 rfl) ?_
    refine rd_Model_129 hx hb hT hown hK hP d_Model_layBehind_133 ?_
    refine lv_iload_n hx hb d_Model_layBehind_136 rfl (lv_at hl 1 rfl) ?_
    replace hR := gd_e hR
    obtain ⟨b27, hR⟩ := hR
    refine laM_38 hx hb hK hP b27 d_Model_layBehind_137 ?_
    replace hR := bi_e hR
    obtain ⟨r28, l28, T28, hc28, hR⟩ := hR
    refine gcV_v (rest := []) ⟨hx, hb, hml, hown, hT⟩ (h_Model_layExpression _ _ _ _ _ hc28) (cwV 1 hT (gV ml_Model_784 im_Model_layExpression se_Model_layExpression ini_Model co_Model_layExpression) rfl rfl rfl pd_Model_layExpression ⟨rm_hi, rm_lo (Nat.le_of_ble_eq_true rfl)⟩) hK hP hD hS hA hnw henv (Nat.le_of_ble_eq_true rfl) rfl rfl hl.1 rfl (Nat.le_of_ble_eq_true rfl) d_Model_layBehind_138 ⟨Nat.le_refl _, Nat.le_refl _⟩ (fun H locs hP hD hS => ?_)
    clear hc28
    refine lv_aload_n hx hb d_Model_layBehind_141 rfl (lv_at hl 0 rfl) ?_
    refine lv_bipush (v := 8) hx hb d_Model_layBehind_142 (by decide) ?_
    refine lv_iconst (v := 0) hx hb d_Model_layBehind_144 (by decide) ?_
    refine lv_iconst (v := 0) hx hb d_Model_layBehind_145 (by decide) ?_
    refine lv_iconst (v := 0) hx hb d_Model_layBehind_146 (by decide) ?_
    replace hR := bi_e hR
    obtain ⟨r29, l29, T29, hc29, hR⟩ := hR
    refine gcV_i (rest := []) ⟨hx, hb, hml, hown, hT⟩ (h_Model_lay _ _ _ _ _ _ _ _ hc29) (cwV 4 hT (gV ml_Model_777 im_Model_lay se_Model_lay ini_Model co_Model_lay) rfl rfl rfl pd_Model_lay ⟨rm_hi, rm_lo (Nat.le_of_ble_eq_true rfl)⟩) hK hP hD hS hA hnw henv (Nat.le_of_ble_eq_true rfl) rfl rfl hl.1 rfl (Nat.le_of_ble_eq_true rfl) d_Model_layBehind_147 ⟨Nat.le_refl _, Nat.le_refl _⟩ (fun H locs hP hD hS => ?_)
    clear hc29
    refine lv_pop hx hb d_Model_layBehind_150 rfl ?_
    obtain ⟨-, -, e3⟩ := re_e hR
    subst e3
    exact W.vret hx hb hr (fun t ht hW => ⟨⟨(), rfl, trivial, by rw [ht]; exact hP, va_K.moved hW.alike hK, hD⟩, hS.F ht⟩) hS.2.2 d_Model_layBehind_151
  replace hR := if_n c26 hR
  by_cases c30 : T0.1 50 p1.toNatClampNeg = (16 : Int32)
  · replace hR := if_p c30 hR
    refine lv_tableIn (off := 198) (tgt := 204) hx hb d_Model_layBehind_6 (by rw [c30]; decide) (by rw [c30]; decide) (by rw [c30]; decide) (by decide) ?_
    refine lv_aload_n hx hb d_Model_layBehind_204 rfl (lv_at hl 0 rfl) ?_
    refine lv_bipush (v := 10) hx hb d_Model_layBehind_205 (by decide) ?_
    refine lv_iconst (v := 0) hx hb d_Model_layBehind_207 (by decide) ?_
    refine lv_iconst (v := 0) hx hb d_Model_layBehind_208 (by decide) ?_
    refine lv_iconst (v := 0) hx hb d_Model_layBehind_209 (by decide) ?_
    replace hR := bi_e hR
    obtain ⟨r31, l31, T31, hc31, hR⟩ := hR
    refine gcV_i (rest := []) ⟨hx, hb, hml, hown, hT⟩ (h_Model_lay _ _ _ _ _ _ _ _ hc31) (cwV 4 hT (gV ml_Model_777 im_Model_lay se_Model_lay ini_Model co_Model_lay) rfl rfl rfl pd_Model_lay ⟨rm_hi, rm_lo (Nat.le_of_ble_eq_true rfl)⟩) hK hP hD hS hA hnw henv (Nat.le_of_ble_eq_true rfl) rfl rfl hl.1 rfl (Nat.le_of_ble_eq_true rfl) d_Model_layBehind_210 ⟨Nat.le_refl _, Nat.le_refl _⟩ (fun H locs hP hD hS => ?_)
    clear hc31
    refine lv_pop hx hb d_Model_layBehind_213 rfl ?_
    obtain ⟨-, -, e3⟩ := re_e hR
    subst e3
    exact W.vret hx hb hr (fun t ht hW => ⟨⟨(), rfl, trivial, by rw [ht]; exact hP, va_K.moved hW.alike hK, hD⟩, hS.F ht⟩) hS.2.2 d_Model_layBehind_214
  replace hR := if_n c30 hR
  by_cases c32 : T0.1 50 p1.toNatClampNeg = (17 : Int32)
  · replace hR := if_p c32 hR
    refine lv_tableIn (off := 182) (tgt := 188) hx hb d_Model_layBehind_6 (by rw [c32]; decide) (by rw [c32]; decide) (by rw [c32]; decide) (by decide) ?_
    refine lv_aload_n hx hb d_Model_layBehind_188 rfl (lv_at hl 0 rfl) ?_
    refine lv_bipush (v := 11) hx hb d_Model_layBehind_189 (by decide) ?_
    refine lv_aload_n hx hb d_Model_layBehind_191 rfl (lv_at hl 0 rfl) ?_
    refine rd_Model_153 hx hb hT hown hK hP d_Model_layBehind_192 ?_
    refine lv_iload_n hx hb d_Model_layBehind_195 rfl (lv_at hl 1 rfl) ?_
    replace hR := gd_e hR
    obtain ⟨b33, hR⟩ := hR
    refine laM_46 hx hb hK hP b33 d_Model_layBehind_196 ?_
    refine lv_iconst (v := 0) hx hb d_Model_layBehind_197 (by decide) ?_
    refine lv_iconst (v := 0) hx hb d_Model_layBehind_198 (by decide) ?_
    replace hR := bi_e hR
    obtain ⟨r34, l34, T34, hc34, hR⟩ := hR
    refine gcV_i (rest := []) ⟨hx, hb, hml, hown, hT⟩ (h_Model_lay _ _ _ _ _ _ _ _ hc34) (cwV 4 hT (gV ml_Model_777 im_Model_lay se_Model_lay ini_Model co_Model_lay) rfl rfl rfl pd_Model_lay ⟨rm_hi, rm_lo (Nat.le_of_ble_eq_true rfl)⟩) hK hP hD hS hA hnw henv (Nat.le_of_ble_eq_true rfl) rfl rfl hl.1 rfl (Nat.le_of_ble_eq_true rfl) d_Model_layBehind_199 ⟨Nat.le_refl _, Nat.le_refl _⟩ (fun H locs hP hD hS => ?_)
    clear hc34
    refine lv_pop hx hb d_Model_layBehind_202 rfl ?_
    obtain ⟨-, -, e3⟩ := re_e hR
    subst e3
    exact W.vret hx hb hr (fun t ht hW => ⟨⟨(), rfl, trivial, by rw [ht]; exact hP, va_K.moved hW.alike hK, hD⟩, hS.F ht⟩) hS.2.2 d_Model_layBehind_203
  replace hR := if_n c32 hR
  have h335 : (T0.1 50 p1.toNatClampNeg : Int32).toInt < 13 ∨ 17 < (T0.1 50 p1.toNatClampNeg : Int32).toInt := by
    simp only [i_eq, Int32.reduceToInt] at c2 c19 c26 c30 c32; omega
  refine lv_tableOut (tgt := 204) hx hb d_Model_layBehind_6 h335 (by decide) ?_
  refine lv_aload_n hx hb d_Model_layBehind_204 rfl (lv_at hl 0 rfl) ?_
  refine lv_bipush (v := 10) hx hb d_Model_layBehind_205 (by decide) ?_
  refine lv_iconst (v := 0) hx hb d_Model_layBehind_207 (by decide) ?_
  refine lv_iconst (v := 0) hx hb d_Model_layBehind_208 (by decide) ?_
  refine lv_iconst (v := 0) hx hb d_Model_layBehind_209 (by decide) ?_
  replace hR := bi_e hR
  obtain ⟨r36, l36, T36, hc36, hR⟩ := hR
  refine gcV_i (rest := []) ⟨hx, hb, hml, hown, hT⟩ (h_Model_lay _ _ _ _ _ _ _ _ hc36) (cwV 4 hT (gV ml_Model_777 im_Model_lay se_Model_lay ini_Model co_Model_lay) rfl rfl rfl pd_Model_lay ⟨rm_hi, rm_lo (Nat.le_of_ble_eq_true rfl)⟩) hK hP hD hS hA hnw henv (Nat.le_of_ble_eq_true rfl) rfl rfl hl.1 rfl (Nat.le_of_ble_eq_true rfl) d_Model_layBehind_210 ⟨Nat.le_refl _, Nat.le_refl _⟩ (fun H locs hP hD hS => ?_)
  clear hc36
  refine lv_pop hx hb d_Model_layBehind_213 rfl ?_
  obtain ⟨-, -, e3⟩ := re_e hR
  subst e3
  exact W.vret hx hb hr (fun t ht hW => ⟨⟨(), rfl, trivial, by rw [ht]; exact hP, va_K.moved hW.alike hK, hD⟩, hS.F ht⟩) hS.2.2 d_Model_layBehind_214
set_option maxHeartbeats 4000000 in
set_option maxRecDepth 100000 in
theorem sp_Model_layFirst (l : Launch) (dC : Nat → ClassId) (dI : Nat → Nat → Nat) (ea ev ad : Nat → Nat) (km : Nat → ClassId) (F : gF) (nf d : Nat) (h_Model_lay : mt_Model_lay l dC dI ea ev ad km F d) (h_Model_layExpression : mt_Model_layExpression l dC dI ea ev ad km F d) (h_Model_wordsOf : mt_Model_wordsOf l dC dI ea ev ad km F d) (T0 : gSt) (p1 : Int32) (r0 : Int32) (rl0 : Int64) (T9 : gSt) (hR : rb_Model_layFirst F nf T0 p1 = some (r0, rl0, T9)) : GMv l dC dI LM ad km ea ev y_Model_layFirst w_Model_layFirst (rmD (d + 1)) [.ref (ad 0), .int p1] T0 T9 := by
  intro sz
  refine Met.ofW (cc := b_Model_layFirst) (maxL := 3) (ret := none) (by decide) rfl ?_
  intro p e s m args below meth c s₁ B hml hv
  obtain ⟨rfl, hsz, hP, hK, hD0, hnw, henv⟩ := hv
  have hx := B.exec
  have hb := B.bytes
  have hr := B.returns
  have hT : ∀ w ∈ lw_good, w.before _ s = true := fun w h => atoms_spec (ws := w_Model_layFirst) B.pre w (List.mem_cons_of_mem _ h)
  have hown : s.vm.findClass R_Model = some m.cls := findClass_of_methodNamed B.named
  subst hsz
  have hD := hD0.self (sz := s.heap.size)
  clear hD0
  generalize hAe : va_A (gW LM ad km T0) s.heap.size = A at hD henv ⊢
  have hA : ∀ q : Nat, s.heap.size ≤ q → A q := fun q h => by rw [← hAe]; exact Or.inr h
  have hS : va_S A s.heap s.heap [] := va_S.rf
  have hl := lv_entry ([.ref (ad 0), .int p1]) (n := 3) (Nat.le_of_ble_eq_true rfl)
  rw [lg_entry_eq]
  generalize (lg_sl ([.ref (ad 0), .int p1]) ++ List.replicate (3 - (lg_sl ([.ref (ad 0), .int p1])).length) Slot.unset).toArray = ls at hl ⊢
  have hl : lv_has ls 3 [(0, .ref (ad 0)), (1, .int p1)] := hl
  obtain ⟨G, hG⟩ : ∃ G : Nat → List (Nat × Value) → List Value → gSt → Prop, G = (fun pc lv stk T => ∀ (H : Heap) (locs : List Loc), va_P (dC, dI) cls_all (gW LM ad km T) H → va_D A (gW LM ad km T) → va_S A s.heap H locs → ∀ (ls : Array Slot), lv_has ls 3 lv → W p l e (headSpec w_Model_layFirst (rmD (d + 1))).room s m ([.ref (ad 0), .int p1] : List Value).toArray below meth c H locs 0 0 (MQ below (va_Qv (fun (_ : Unit) => True) (fun _ t => gPost dC dI LM ad km T9 A t) A) ([.ref (ad 0), .int p1] : List Value).toArray s 0 0 A) (F0 m pc ls stk)) := ⟨_, rfl⟩
  have lb_192 : ∀ (n : Nat) (T : gSt) (x1 : Int32) (x2 : Int32), rl_Model_layFirst_192 F nf n T x1 x2 = some (r0, rl0, T9) → G 192 [(0, .ref (ad 0)), (1, .int x1), (2, .int x2)] [] T := by
    intro n
    induction n with
    | zero => intro T x1 x2 hR; rw [rl_Model_layFirst_192] at hR; cases hR
    | succ n ih =>
      intro T x1 x2 hR; rw [rl_Model_layFirst_192] at hR; rw [hG]; intro H locs hP hD hS ls hl
      refine lv_iload_n hx hb d_Model_layFirst_192 rfl (lv_at hl 2 rfl) ?_
      refine lv_if_lt (tgt := 216) hx hb d_Model_layFirst_193 (by decide) (fun c80 => ?_) (fun c80 => ?_)
      · replace hR := if_p c80 hR
        refine lv_aload_n hx hb d_Model_layFirst_216 rfl (lv_at hl 0 rfl) ?_
        refine lv_bipush (v := 16) hx hb d_Model_layFirst_217 (by decide) ?_
        refine lv_aload_n hx hb d_Model_layFirst_219 rfl (lv_at hl 0 rfl) ?_
        refine rd_Model_117 hx hb hT hown hK hP d_Model_layFirst_220 ?_
        refine lv_aload_n hx hb d_Model_layFirst_223 rfl (lv_at hl 0 rfl) ?_
        refine rd_Model_132 hx hb hT hown hK hP d_Model_layFirst_224 ?_
        refine lv_iload_n hx hb d_Model_layFirst_227 rfl (lv_at hl 1 rfl) ?_
        replace hR := gd_e hR
        obtain ⟨b81, hR⟩ := hR
        refine laM_39 hx hb hK hP b81 d_Model_layFirst_228 ?_
        replace hR := gd_e hR
        obtain ⟨b82, hR⟩ := hR
        refine laM_34 hx hb hK hP b82 d_Model_layFirst_229 ?_
        refine lv_aload_n hx hb d_Model_layFirst_230 rfl (lv_at hl 0 rfl) ?_
        refine rd_Model_165 hx hb hT hown hK hP d_Model_layFirst_231 ?_
        refine lv_aload_n hx hb d_Model_layFirst_234 rfl (lv_at hl 0 rfl) ?_
        refine rd_Model_150 hx hb hT hown hK hP d_Model_layFirst_235 ?_
        refine lv_iload_n hx hb d_Model_layFirst_238 rfl (lv_at hl 1 rfl) ?_
        replace hR := gd_e hR
        obtain ⟨b83, hR⟩ := hR
        refine laM_45 hx hb hK hP b83 d_Model_layFirst_239 ?_
        replace hR := gd_e hR
        obtain ⟨b84, hR⟩ := hR
        refine laM_50 hx hb hK hP b84 d_Model_layFirst_240 ?_
        refine lv_iconst (v := 0) hx hb d_Model_layFirst_241 (by decide) ?_
        replace hR := bi_e hR
        obtain ⟨r85, l85, T85, hc85, hR⟩ := hR
        refine gcV_i (rest := []) ⟨hx, hb, hml, hown, hT⟩ (h_Model_lay _ _ _ _ _ _ _ _ hc85) (cwV 4 hT (gV ml_Model_777 im_Model_lay se_Model_lay ini_Model co_Model_lay) rfl rfl rfl pd_Model_lay ⟨rm_hi, rm_lo (Nat.le_of_ble_eq_true rfl)⟩) hK hP hD hS hA hnw henv (Nat.le_of_ble_eq_true rfl) rfl rfl hl.1 rfl (Nat.le_of_ble_eq_true rfl) d_Model_layFirst_242 ⟨Nat.le_refl _, Nat.le_refl _⟩ (fun H locs hP hD hS => ?_)
        clear hc85
        refine lv_pop hx hb d_Model_layFirst_245 rfl ?_
        obtain ⟨-, -, e3⟩ := re_e hR
        subst e3
        exact W.vret hx hb hr (fun t ht hW => ⟨⟨(), rfl, trivial, by rw [ht]; exact hP, va_K.moved hW.alike hK, hD⟩, hS.F ht⟩) hS.2.2 d_Model_layFirst_246
      · replace hR := if_n c80 hR
        refine lv_aload_n hx hb d_Model_layFirst_196 rfl (lv_at hl 0 rfl) ?_
        refine lv_aload_n hx hb d_Model_layFirst_197 rfl (lv_at hl 0 rfl) ?_
        refine rd_Model_126 hx hb hT hown hK hP d_Model_layFirst_198 ?_
        refine lv_iload_n hx hb d_Model_layFirst_201 rfl (lv_at hl 2 rfl) ?_
        replace hR := gd_e hR
        obtain ⟨b86, hR⟩ := hR
        refine laM_37 hx hb hK hP b86 d_Model_layFirst_202 ?_
        replace hR := bi_e hR
        obtain ⟨r87, l87, T87, hc87, hR⟩ := hR
        refine gcV_v (rest := []) ⟨hx, hb, hml, hown, hT⟩ (h_Model_layExpression _ _ _ _ _ hc87) (cwV 1 hT (gV ml_Model_784 im_Model_layExpression se_Model_layExpression ini_Model co_Model_layExpression) rfl rfl rfl pd_Model_layExpression ⟨rm_hi, rm_lo (Nat.le_of_ble_eq_true rfl)⟩) hK hP hD hS hA hnw henv (Nat.le_of_ble_eq_true rfl) rfl rfl hl.1 rfl (Nat.le_of_ble_eq_true rfl) d_Model_layFirst_203 ⟨Nat.le_refl _, Nat.le_refl _⟩ (fun H locs hP hD hS => ?_)
        clear hc87
        refine lv_aload_n hx hb d_Model_layFirst_206 rfl (lv_at hl 0 rfl) ?_
        refine rd_Model_135 hx hb hT hown hK hP d_Model_layFirst_207 ?_
        refine lv_iload_n hx hb d_Model_layFirst_210 rfl (lv_at hl 2 rfl) ?_
        replace hR := gd_e hR
        obtain ⟨b88, hR⟩ := hR
        refine laM_40 hx hb hK hP b88 d_Model_layFirst_211 ?_
        refine lv_topi (fun z89 e89 => ?_)
        replace hR := vK_e e89 hR
        refine lv_istore_n (lv' := [(2, .int z89), (0, .ref (ad 0)), (1, .int x1)]) hx hb d_Model_layFirst_212 rfl hl (by decide) rfl (fun ls hl => ?_)
        refine lv_goto (tgt := 192) hx hb d_Model_layFirst_213 (by decide) ?_
        have g := ih T87 x1 z89 hR
        rw [hG] at g
        exact g _ _ hP hD hS _ (lv_sub hl [1, 2, 0] rfl)
  have lb_140 : ∀ (n : Nat) (T : gSt) (x1 : Int32) (x2 : Int32), rl_Model_layFirst_140 F nf n T x1 x2 = some (r0, rl0, T9) → G 140 [(0, .ref (ad 0)), (1, .int x1), (2, .int x2)] [] T := by
    intro n
    induction n with
    | zero => intro T x1 x2 hR; rw [rl_Model_layFirst_140] at hR; cases hR
    | succ n ih =>
      intro T x1 x2 hR; rw [rl_Model_layFirst_140] at hR; rw [hG]; intro H locs hP hD hS ls hl
      refine lv_iload_n hx hb d_Model_layFirst_140 rfl (lv_at hl 2 rfl) ?_
      refine lv_if_lt (tgt := 164) hx hb d_Model_layFirst_141 (by decide) (fun c72 => ?_) (fun c72 => ?_)
      · replace hR := if_p c72 hR
        refine lv_aload_n hx hb d_Model_layFirst_164 rfl (lv_at hl 0 rfl) ?_
        refine lv_bipush (v := 18) hx hb d_Model_layFirst_165 (by decide) ?_
        refine lv_aload_n hx hb d_Model_layFirst_167 rfl (lv_at hl 0 rfl) ?_
        refine rd_Model_153 hx hb hT hown hK hP d_Model_layFirst_168 ?_
        refine lv_iload_n hx hb d_Model_layFirst_171 rfl (lv_at hl 1 rfl) ?_
        replace hR := gd_e hR
        obtain ⟨b73, hR⟩ := hR
        refine laM_46 hx hb hK hP b73 d_Model_layFirst_172 ?_
        refine lv_aload_n hx hb d_Model_layFirst_173 rfl (lv_at hl 0 rfl) ?_
        refine rd_Model_144 hx hb hT hown hK hP d_Model_layFirst_174 ?_
        refine lv_iload_n hx hb d_Model_layFirst_177 rfl (lv_at hl 1 rfl) ?_
        replace hR := gd_e hR
        obtain ⟨b74, hR⟩ := hR
        refine laM_43 hx hb hK hP b74 d_Model_layFirst_178 ?_
        refine lv_iconst (v := 0) hx hb d_Model_layFirst_179 (by decide) ?_
        replace hR := bi_e hR
        obtain ⟨r75, l75, T75, hc75, hR⟩ := hR
        refine gcV_i (rest := []) ⟨hx, hb, hml, hown, hT⟩ (h_Model_lay _ _ _ _ _ _ _ _ hc75) (cwV 4 hT (gV ml_Model_777 im_Model_lay se_Model_lay ini_Model co_Model_lay) rfl rfl rfl pd_Model_lay ⟨rm_hi, rm_lo (Nat.le_of_ble_eq_true rfl)⟩) hK hP hD hS hA hnw henv (Nat.le_of_ble_eq_true rfl) rfl rfl hl.1 rfl (Nat.le_of_ble_eq_true rfl) d_Model_layFirst_180 ⟨Nat.le_refl _, Nat.le_refl _⟩ (fun H locs hP hD hS => ?_)
        clear hc75
        refine lv_pop hx hb d_Model_layFirst_183 rfl ?_
        obtain ⟨-, -, e3⟩ := re_e hR
        subst e3
        exact W.vret hx hb hr (fun t ht hW => ⟨⟨(), rfl, trivial, by rw [ht]; exact hP, va_K.moved hW.alike hK, hD⟩, hS.F ht⟩) hS.2.2 d_Model_layFirst_184
      · replace hR := if_n c72 hR
        refine lv_aload_n hx hb d_Model_layFirst_144 rfl (lv_at hl 0 rfl) ?_
        refine lv_aload_n hx hb d_Model_layFirst_145 rfl (lv_at hl 0 rfl) ?_
        refine rd_Model_126 hx hb hT hown hK hP d_Model_layFirst_146 ?_
        refine lv_iload_n hx hb d_Model_layFirst_149 rfl (lv_at hl 2 rfl) ?_
        replace hR := gd_e hR
        obtain ⟨b76, hR⟩ := hR
        refine laM_37 hx hb hK hP b76 d_Model_layFirst_150 ?_
        replace hR := bi_e hR
        obtain ⟨r77, l77, T77, hc77, hR⟩ := hR
        refine gcV_v (rest := []) ⟨hx, hb, hml, hown, hT⟩ (h_Model_layExpression _ _ _ _ _ hc77) (cwV 1 hT (gV ml_Model_784 im_Model_layExpression se_Model_layExpression ini_Model co_Model_layExpression) rfl rfl rfl pd_Model_layExpression ⟨rm_hi, rm_lo (Nat.le_of_ble_eq_true rfl)⟩) hK hP hD hS hA hnw henv (Nat.le_of_ble_eq_true rfl) rfl rfl hl.1 rfl (Nat.le_of_ble_eq_true rfl) d_Model_layFirst_151 ⟨Nat.le_refl _, Nat.le_refl _⟩ (fun H locs hP hD hS => ?_)
        clear hc77
        refine lv_aload_n hx hb d_Model_layFirst_154 rfl (lv_at hl 0 rfl) ?_
        refine rd_Model_135 hx hb hT hown hK hP d_Model_layFirst_155 ?_
        refine lv_iload_n hx hb d_Model_layFirst_158 rfl (lv_at hl 2 rfl) ?_
        replace hR := gd_e hR
        obtain ⟨b78, hR⟩ := hR
        refine laM_40 hx hb hK hP b78 d_Model_layFirst_159 ?_
        refine lv_topi (fun z79 e79 => ?_)
        replace hR := vK_e e79 hR
        refine lv_istore_n (lv' := [(2, .int z79), (0, .ref (ad 0)), (1, .int x1)]) hx hb d_Model_layFirst_160 rfl hl (by decide) rfl (fun ls hl => ?_)
        refine lv_goto (tgt := 140) hx hb d_Model_layFirst_161 (by decide) ?_
        have g := ih T77 x1 z79 hR
        rw [hG] at g
        exact g _ _ hP hD hS _ (lv_sub hl [1, 2, 0] rfl)
  unfold rb_Model_layFirst at hR
  refine lv_aload_n hx hb d_Model_layFirst_0 rfl (lv_at hl 0 rfl) ?_
  refine rd_Model_120 hx hb hT hown hK hP d_Model_layFirst_1 ?_
  refine lv_iload_n hx hb d_Model_layFirst_4 rfl (lv_at hl 1 rfl) ?_
  replace hR := gd_e hR
  obtain ⟨b1, hR⟩ := hR
  refine laM_35 hx hb hK hP b1 d_Model_layFirst_5 ?_
  by_cases c2 : T0.1 50 p1.toNatClampNeg = (0 : Int32)
  · replace hR := if_p c2 hR
    refine lv_tableIn (off := 62) (tgt := 68) hx hb d_Model_layFirst_6 (by rw [c2]; decide) (by rw [c2]; decide) (by rw [c2]; decide) (by decide) ?_
    refine lv_aload_n hx hb d_Model_layFirst_68 rfl (lv_at hl 0 rfl) ?_
    refine lv_iconst (v := 1) hx hb d_Model_layFirst_69 (by decide) ?_
    refine lv_aload_n hx hb d_Model_layFirst_70 rfl (lv_at hl 0 rfl) ?_
    refine rd_Model_126 hx hb hT hown hK hP d_Model_layFirst_71 ?_
    refine lv_iload_n hx hb d_Model_layFirst_74 rfl (lv_at hl 1 rfl) ?_
    replace hR := gd_e hR
    obtain ⟨b3, hR⟩ := hR
    refine laM_37 hx hb hK hP b3 d_Model_layFirst_75 ?_
    refine lv_iconst (v := 0) hx hb d_Model_layFirst_76 (by decide) ?_
    refine lv_iconst (v := 0) hx hb d_Model_layFirst_77 (by decide) ?_
    replace hR := bi_e hR
    obtain ⟨r4, l4, T4, hc4, hR⟩ := hR
    refine gcV_i (rest := []) ⟨hx, hb, hml, hown, hT⟩ (h_Model_lay _ _ _ _ _ _ _ _ hc4) (cwV 4 hT (gV ml_Model_777 im_Model_lay se_Model_lay ini_Model co_Model_lay) rfl rfl rfl pd_Model_lay ⟨rm_hi, rm_lo (Nat.le_of_ble_eq_true rfl)⟩) hK hP hD hS hA hnw henv (Nat.le_of_ble_eq_true rfl) rfl rfl hl.1 rfl (Nat.le_of_ble_eq_true rfl) d_Model_layFirst_78 ⟨Nat.le_refl _, Nat.le_refl _⟩ (fun H locs hP hD hS => ?_)
    clear hc4
    refine lv_pop hx hb d_Model_layFirst_81 rfl ?_
    obtain ⟨-, -, e3⟩ := re_e hR
    subst e3
    exact W.vret hx hb hr (fun t ht hW => ⟨⟨(), rfl, trivial, by rw [ht]; exact hP, va_K.moved hW.alike hK, hD⟩, hS.F ht⟩) hS.2.2 d_Model_layFirst_82
  replace hR := if_n c2 hR
  by_cases c5 : T0.1 50 p1.toNatClampNeg = (1 : Int32)
  · replace hR := if_p c5 hR
    refine lv_tableIn (off := 77) (tgt := 83) hx hb d_Model_layFirst_6 (by rw [c5]; decide) (by rw [c5]; decide) (by rw [c5]; decide) (by decide) ?_
    refine lv_aload_n hx hb d_Model_layFirst_83 rfl (lv_at hl 0 rfl) ?_
    refine lv_iconst (v := 2) hx hb d_Model_layFirst_84 (by decide) ?_
    refine lv_iconst (v := 0) hx hb d_Model_layFirst_85 (by decide) ?_
    refine lv_iconst (v := 0) hx hb d_Model_layFirst_86 (by decide) ?_
    refine lv_iconst (v := 0) hx hb d_Model_layFirst_87 (by decide) ?_
    replace hR := bi_e hR
    obtain ⟨r6, l6, T6, hc6, hR⟩ := hR
    refine gcV_i (rest := []) ⟨hx, hb, hml, hown, hT⟩ (h_Model_lay _ _ _ _ _ _ _ _ hc6) (cwV 4 hT (gV ml_Model_777 im_Model_lay se_Model_lay ini_Model co_Model_lay) rfl rfl rfl pd_Model_lay ⟨rm_hi, rm_lo (Nat.le_of_ble_eq_true rfl)⟩) hK hP hD hS hA hnw henv (Nat.le_of_ble_eq_true rfl) rfl rfl hl.1 rfl (Nat.le_of_ble_eq_true rfl) d_Model_layFirst_88 ⟨Nat.le_refl _, Nat.le_refl _⟩ (fun H locs hP hD hS => ?_)
    clear hc6
    refine lv_pop hx hb d_Model_layFirst_91 rfl ?_
    obtain ⟨-, -, e3⟩ := re_e hR
    subst e3
    exact W.vret hx hb hr (fun t ht hW => ⟨⟨(), rfl, trivial, by rw [ht]; exact hP, va_K.moved hW.alike hK, hD⟩, hS.F ht⟩) hS.2.2 d_Model_layFirst_92
  replace hR := if_n c5 hR
  by_cases c7 : T0.1 50 p1.toNatClampNeg = (2 : Int32)
  · replace hR := if_p c7 hR
    refine lv_tableIn (off := 87) (tgt := 93) hx hb d_Model_layFirst_6 (by rw [c7]; decide) (by rw [c7]; decide) (by rw [c7]; decide) (by decide) ?_
    refine lv_aload_n hx hb d_Model_layFirst_93 rfl (lv_at hl 0 rfl) ?_
    refine lv_iconst (v := 3) hx hb d_Model_layFirst_94 (by decide) ?_
    refine lv_iconst (v := 0) hx hb d_Model_layFirst_95 (by decide) ?_
    refine lv_iconst (v := 0) hx hb d_Model_layFirst_96 (by decide) ?_
    refine lv_iconst (v := 0) hx hb d_Model_layFirst_97 (by decide) ?_
    replace hR := bi_e hR
    obtain ⟨r8, l8, T8, hc8, hR⟩ := hR
    refine gcV_i (rest := []) ⟨hx, hb, hml, hown, hT⟩ (h_Model_lay _ _ _ _ _ _ _ _ hc8) (cwV 4 hT (gV ml_Model_777 im_Model_lay se_Model_lay ini_Model co_Model_lay) rfl rfl rfl pd_Model_lay ⟨rm_hi, rm_lo (Nat.le_of_ble_eq_true rfl)⟩) hK hP hD hS hA hnw henv (Nat.le_of_ble_eq_true rfl) rfl rfl hl.1 rfl (Nat.le_of_ble_eq_true rfl) d_Model_layFirst_98 ⟨Nat.le_refl _, Nat.le_refl _⟩ (fun H locs hP hD hS => ?_)
    clear hc8
    refine lv_pop hx hb d_Model_layFirst_101 rfl ?_
    obtain ⟨-, -, e3⟩ := re_e hR
    subst e3
    exact W.vret hx hb hr (fun t ht hW => ⟨⟨(), rfl, trivial, by rw [ht]; exact hP, va_K.moved hW.alike hK, hD⟩, hS.F ht⟩) hS.2.2 d_Model_layFirst_102
  replace hR := if_n c7 hR
  by_cases c9 : T0.1 50 p1.toNatClampNeg = (3 : Int32)
  · replace hR := if_p c9 hR
    refine lv_tableIn (off := 97) (tgt := 103) hx hb d_Model_layFirst_6 (by rw [c9]; decide) (by rw [c9]; decide) (by rw [c9]; decide) (by decide) ?_
    refine lv_aload_n hx hb d_Model_layFirst_103 rfl (lv_at hl 0 rfl) ?_
    refine lv_iconst (v := 4) hx hb d_Model_layFirst_104 (by decide) ?_
    refine lv_aload_n hx hb d_Model_layFirst_105 rfl (lv_at hl 0 rfl) ?_
    refine rd_Model_153 hx hb hT hown hK hP d_Model_layFirst_106 ?_
    refine lv_iload_n hx hb d_Model_layFirst_109 rfl (lv_at hl 1 rfl) ?_
    replace hR := gd_e hR
    obtain ⟨b10, hR⟩ := hR
    refine laM_46 hx hb hK hP b10 d_Model_layFirst_110 ?_
    refine lv_iconst (v := 0) hx hb d_Model_layFirst_111 (by decide) ?_
    refine lv_iconst (v := 0) hx hb d_Model_layFirst_112 (by decide) ?_
    replace hR := bi_e hR
    obtain ⟨r11, l11, T11, hc11, hR⟩ := hR
    refine gcV_i (rest := []) ⟨hx, hb, hml, hown, hT⟩ (h_Model_lay _ _ _ _ _ _ _ _ hc11) (cwV 4 hT (gV ml_Model_777 im_Model_lay se_Model_lay ini_Model co_Model_lay) rfl rfl rfl pd_Model_lay ⟨rm_hi, rm_lo (Nat.le_of_ble_eq_true rfl)⟩) hK hP hD hS hA hnw henv (Nat.le_of_ble_eq_true rfl) rfl rfl hl.1 rfl (Nat.le_of_ble_eq_true rfl) d_Model_layFirst_113 ⟨Nat.le_refl _, Nat.le_refl _⟩ (fun H locs hP hD hS => ?_)
    clear hc11
    refine lv_pop hx hb d_Model_layFirst_116 rfl ?_
    obtain ⟨-, -, e3⟩ := re_e hR
    subst e3
    exact W.vret hx hb hr (fun t ht hW => ⟨⟨(), rfl, trivial, by rw [ht]; exact hP, va_K.moved hW.alike hK, hD⟩, hS.F ht⟩) hS.2.2 d_Model_layFirst_117
  replace hR := if_n c9 hR
  by_cases c12 : T0.1 50 p1.toNatClampNeg = (4 : Int32)
  · replace hR := if_p c12 hR
    refine lv_tableIn (off := 112) (tgt := 118) hx hb d_Model_layFirst_6 (by rw [c12]; decide) (by rw [c12]; decide) (by rw [c12]; decide) (by decide) ?_
    refine lv_aload_n hx hb d_Model_layFirst_118 rfl (lv_at hl 0 rfl) ?_
    refine lv_iconst (v := 5) hx hb d_Model_layFirst_119 (by decide) ?_
    refine lv_aload_n hx hb d_Model_layFirst_120 rfl (lv_at hl 0 rfl) ?_
    refine rd_Model_153 hx hb hT hown hK hP d_Model_layFirst_121 ?_
    refine lv_iload_n hx hb d_Model_layFirst_124 rfl (lv_at hl 1 rfl) ?_
    replace hR := gd_e hR
    obtain ⟨b13, hR⟩ := hR
    refine laM_46 hx hb hK hP b13 d_Model_layFirst_125 ?_
    refine lv_iconst (v := 0) hx hb d_Model_layFirst_126 (by decide) ?_
    refine lv_iconst (v := 0) hx hb d_Model_layFirst_127 (by decide) ?_
    replace hR := bi_e hR
    obtain ⟨r14, l14, T14, hc14, hR⟩ := hR
    refine gcV_i (rest := []) ⟨hx, hb, hml, hown, hT⟩ (h_Model_lay _ _ _ _ _ _ _ _ hc14) (cwV 4 hT (gV ml_Model_777 im_Model_lay se_Model_lay ini_Model co_Model_lay) rfl rfl rfl pd_Model_lay ⟨rm_hi, rm_lo (Nat.le_of_ble_eq_true rfl)⟩) hK hP hD hS hA hnw henv (Nat.le_of_ble_eq_true rfl) rfl rfl hl.1 rfl (Nat.le_of_ble_eq_true rfl) d_Model_layFirst_128 ⟨Nat.le_refl _, Nat.le_refl _⟩ (fun H locs hP hD hS => ?_)
    clear hc14
    refine lv_pop hx hb d_Model_layFirst_131 rfl ?_
    obtain ⟨-, -, e3⟩ := re_e hR
    subst e3
    exact W.vret hx hb hr (fun t ht hW => ⟨⟨(), rfl, trivial, by rw [ht]; exact hP, va_K.moved hW.alike hK, hD⟩, hS.F ht⟩) hS.2.2 d_Model_layFirst_132
  replace hR := if_n c12 hR
  by_cases c15 : T0.1 50 p1.toNatClampNeg = (5 : Int32)
  · replace hR := if_p c15 hR
    refine lv_tableIn (off := 127) (tgt := 133) hx hb d_Model_layFirst_6 (by rw [c15]; decide) (by rw [c15]; decide) (by rw [c15]; decide) (by decide) ?_
    refine lv_aload_n hx hb d_Model_layFirst_133 rfl (lv_at hl 0 rfl) ?_
    refine rd_Model_126 hx hb hT hown hK hP d_Model_layFirst_134 ?_
    refine lv_iload_n hx hb d_Model_layFirst_137 rfl (lv_at hl 1 rfl) ?_
    replace hR := gd_e hR
    obtain ⟨b16, hR⟩ := hR
    refine laM_37 hx hb hK hP b16 d_Model_layFirst_138 ?_
    refine lv_topi (fun z17 e17 => ?_)
    replace hR := vK_e e17 hR
    refine lv_istore_n (lv' := [(2, .int z17), (0, .ref (ad 0)), (1, .int p1)]) hx hb d_Model_layFirst_139 rfl hl (by decide) rfl (fun ls hl => ?_)
    have g := lb_140 nf T0 p1 z17 hR
    rw [hG] at g
    exact g _ _ hP hD hS _ (lv_sub hl [1, 2, 0] rfl)
  replace hR := if_n c15 hR
  by_cases c18 : T0.1 50 p1.toNatClampNeg = (6 : Int32)
  · replace hR := if_p c18 hR
    refine lv_tableIn (off := 179) (tgt := 185) hx hb d_Model_layFirst_6 (by rw [c18]; decide) (by rw [c18]; decide) (by rw [c18]; decide) (by decide) ?_
    refine lv_aload_n hx hb d_Model_layFirst_185 rfl (lv_at hl 0 rfl) ?_
    refine rd_Model_126 hx hb hT hown hK hP d_Model_layFirst_186 ?_
    refine lv_iload_n hx hb d_Model_layFirst_189 rfl (lv_at hl 1 rfl) ?_
    replace hR := gd_e hR
    obtain ⟨b19, hR⟩ := hR
    refine laM_37 hx hb hK hP b19 d_Model_layFirst_190 ?_
    refine lv_topi (fun z20 e20 => ?_)
    replace hR := vK_e e20 hR
    refine lv_istore_n (lv' := [(2, .int z20), (0, .ref (ad 0)), (1, .int p1)]) hx hb d_Model_layFirst_191 rfl hl (by decide) rfl (fun ls hl => ?_)
    have g := lb_192 nf T0 p1 z20 hR
    rw [hG] at g
    exact g _ _ hP hD hS _ (lv_sub hl [1, 2, 0] rfl)
  replace hR := if_n c18 hR
  by_cases c21 : T0.1 50 p1.toNatClampNeg = (7 : Int32)
  · replace hR := if_p c21 hR
    refine lv_tableIn (off := 241) (tgt := 247) hx hb d_Model_layFirst_6 (by rw [c21]; decide) (by rw [c21]; decide) (by rw [c21]; decide) (by decide) ?_
    refine lv_aload_n hx hb d_Model_layFirst_247 rfl (lv_at hl 0 rfl) ?_
    refine lv_aload_n hx hb d_Model_layFirst_248 rfl (lv_at hl 0 rfl) ?_
    refine rd_Model_126 hx hb hT hown hK hP d_Model_layFirst_249 ?_
    refine lv_aload_n hx hb d_Model_layFirst_252 rfl (lv_at hl 0 rfl) ?_
    refine rd_Model_126 hx hb hT hown hK hP d_Model_layFirst_253 ?_
    refine lv_iload_n hx hb d_Model_layFirst_256 rfl (lv_at hl 1 rfl) ?_
    replace hR := gd_e hR
    obtain ⟨b22, hR⟩ := hR
    refine laM_37 hx hb hK hP b22 d_Model_layFirst_257 ?_
    replace hR := gd_e hR
    obtain ⟨b23, hR⟩ := hR
    refine laM_37 hx hb hK hP b23 d_Model_layFirst_258 ?_
    replace hR := bi_e hR
    obtain ⟨r24, l24, T24, hc24, hR⟩ := hR
    refine gcV_v (rest := []) ⟨hx, hb, hml, hown, hT⟩ (h_Model_layExpression _ _ _ _ _ hc24) (cwV 1 hT (gV ml_Model_784 im_Model_layExpression se_Model_layExpression ini_Model co_Model_layExpression) rfl rfl rfl pd_Model_layExpression ⟨rm_hi, rm_lo (Nat.le_of_ble_eq_true rfl)⟩) hK hP hD hS hA hnw henv (Nat.le_of_ble_eq_true rfl) rfl rfl hl.1 rfl (Nat.le_of_ble_eq_true rfl) d_Model_layFirst_259 ⟨Nat.le_refl _, Nat.le_refl _⟩ (fun H locs hP hD hS => ?_)
    clear hc24
    refine lv_aload_n hx hb d_Model_layFirst_262 rfl (lv_at hl 0 rfl) ?_
    refine lv_bipush (v := 17) hx hb d_Model_layFirst_263 (by decide) ?_
    refine lv_aload_n hx hb d_Model_layFirst_265 rfl (lv_at hl 0 rfl) ?_
    refine rd_Model_117 hx hb hT hown hK hP d_Model_layFirst_266 ?_
    refine lv_aload_n hx hb d_Model_layFirst_269 rfl (lv_at hl 0 rfl) ?_
    refine rd_Model_132 hx hb hT hown hK hP d_Model_layFirst_270 ?_
    refine lv_iload_n hx hb d_Model_layFirst_273 rfl (lv_at hl 1 rfl) ?_
    replace hR := gd_e hR
    obtain ⟨b25, hR⟩ := hR
    refine laM_39 hx hb hK hP b25 d_Model_layFirst_274 ?_
    replace hR := gd_e hR
    obtain ⟨b26, hR⟩ := hR
    refine laM_34 hx hb hK hP b26 d_Model_layFirst_275 ?_
    refine lv_aload_n hx hb d_Model_layFirst_276 rfl (lv_at hl 0 rfl) ?_
    refine rd_Model_165 hx hb hT hown hK hP d_Model_layFirst_277 ?_
    refine lv_aload_n hx hb d_Model_layFirst_280 rfl (lv_at hl 0 rfl) ?_
    refine rd_Model_150 hx hb hT hown hK hP d_Model_layFirst_281 ?_
    refine lv_iload_n hx hb d_Model_layFirst_284 rfl (lv_at hl 1 rfl) ?_
    replace hR := gd_e hR
    obtain ⟨b27, hR⟩ := hR
    refine laM_45 hx hb hK hP b27 d_Model_layFirst_285 ?_
    replace hR := gd_e hR
    obtain ⟨b28, hR⟩ := hR
    refine laM_50 hx hb hK hP b28 d_Model_layFirst_286 ?_
    refine lv_aload_n hx hb d_Model_layFirst_287 rfl (lv_at hl 0 rfl) ?_
    refine rd_Model_153 hx hb hT hown hK hP d_Model_layFirst_288 ?_
    refine lv_aload_n hx hb d_Model_layFirst_291 rfl (lv_at hl 0 rfl) ?_
    refine rd_Model_126 hx hb hT hown hK hP d_Model_layFirst_292 ?_
    refine lv_iload_n hx hb d_Model_layFirst_295 rfl (lv_at hl 1 rfl) ?_
    replace hR := gd_e hR
    obtain ⟨b29, hR⟩ := hR
    refine laM_37 hx hb hK hP b29 d_Model_layFirst_296 ?_
    replace hR := gd_e hR
    obtain ⟨b30, hR⟩ := hR
    refine laM_46 hx hb hK hP b30 d_Model_layFirst_297 ?_
    replace hR := bi_e hR
    obtain ⟨r31, l31, T31, hc31, hR⟩ := hR
    refine gcV_i (rest := []) ⟨hx, hb, hml, hown, hT⟩ (h_Model_lay _ _ _ _ _ _ _ _ hc31) (cwV 4 hT (gV ml_Model_777 im_Model_lay se_Model_lay ini_Model co_Model_lay) rfl rfl rfl pd_Model_lay ⟨rm_hi, rm_lo (Nat.le_of_ble_eq_true rfl)⟩) hK hP hD hS hA hnw henv (Nat.le_of_ble_eq_true rfl) rfl rfl hl.1 rfl (Nat.le_of_ble_eq_true rfl) d_Model_layFirst_298 ⟨Nat.le_refl _, Nat.le_refl _⟩ (fun H locs hP hD hS => ?_)
    clear hc31
    refine lv_pop hx hb d_Model_layFirst_301 rfl ?_
    obtain ⟨-, -, e3⟩ := re_e hR
    subst e3
    exact W.vret hx hb hr (fun t ht hW => ⟨⟨(), rfl, trivial, by rw [ht]; exact hP, va_K.moved hW.alike hK, hD⟩, hS.F ht⟩) hS.2.2 d_Model_layFirst_302
  replace hR := if_n c21 hR
  by_cases c32 : T0.1 50 p1.toNatClampNeg = (8 : Int32)
  · replace hR := if_p c32 hR
    refine lv_tableIn (off := 297) (tgt := 303) hx hb d_Model_layFirst_6 (by rw [c32]; decide) (by rw [c32]; decide) (by rw [c32]; decide) (by decide) ?_
    refine lv_aload_n hx hb d_Model_layFirst_303 rfl (lv_at hl 0 rfl) ?_
    refine lv_aload_n hx hb d_Model_layFirst_304 rfl (lv_at hl 0 rfl) ?_
    refine rd_Model_126 hx hb hT hown hK hP d_Model_layFirst_305 ?_
    refine lv_iload_n hx hb d_Model_layFirst_308 rfl (lv_at hl 1 rfl) ?_
    replace hR := gd_e hR
    obtain ⟨b33, hR⟩ := hR
    refine laM_37 hx hb hK hP b33 d_Model_layFirst_309 ?_
    replace hR := bi_e hR
    obtain ⟨r34, l34, T34, hc34, hR⟩ := hR
    refine gcV_v (rest := []) ⟨hx, hb, hml, hown, hT⟩ (h_Model_layExpression _ _ _ _ _ hc34) (cwV 1 hT (gV ml_Model_784 im_Model_layExpression se_Model_layExpression ini_Model co_Model_layExpression) rfl rfl rfl pd_Model_layExpression ⟨rm_hi, rm_lo (Nat.le_of_ble_eq_true rfl)⟩) hK hP hD hS hA hnw henv (Nat.le_of_ble_eq_true rfl) rfl rfl hl.1 rfl (Nat.le_of_ble_eq_true rfl) d_Model_layFirst_310 ⟨Nat.le_refl _, Nat.le_refl _⟩ (fun H locs hP hD hS => ?_)
    clear hc34
    refine lv_aload_n hx hb d_Model_layFirst_313 rfl (lv_at hl 0 rfl) ?_
    refine lv_bipush (v := 14) hx hb d_Model_layFirst_314 (by decide) ?_
    refine lv_aload_n hx hb d_Model_layFirst_316 rfl (lv_at hl 0 rfl) ?_
    refine rd_Model_117 hx hb hT hown hK hP d_Model_layFirst_317 ?_
    refine lv_aload_n hx hb d_Model_layFirst_320 rfl (lv_at hl 0 rfl) ?_
    refine rd_Model_144 hx hb hT hown hK hP d_Model_layFirst_321 ?_
    refine lv_iload_n hx hb d_Model_layFirst_324 rfl (lv_at hl 1 rfl) ?_
    replace hR := gd_e hR
    obtain ⟨b35, hR⟩ := hR
    refine laM_43 hx hb hK hP b35 d_Model_layFirst_325 ?_
    replace hR := gd_e hR
    obtain ⟨b36, hR⟩ := hR
    refine laM_34 hx hb hK hP b36 d_Model_layFirst_326 ?_
    refine lv_aload_n hx hb d_Model_layFirst_327 rfl (lv_at hl 0 rfl) ?_
    refine lv_aload_n hx hb d_Model_layFirst_328 rfl (lv_at hl 0 rfl) ?_
    refine rd_Model_150 hx hb hT hown hK hP d_Model_layFirst_329 ?_
    refine lv_aload_n hx hb d_Model_layFirst_332 rfl (lv_at hl 0 rfl) ?_
    refine rd_Model_126 hx hb hT hown hK hP d_Model_layFirst_333 ?_
    refine lv_iload_n hx hb d_Model_layFirst_336 rfl (lv_at hl 1 rfl) ?_
    replace hR := gd_e hR
    obtain ⟨b37, hR⟩ := hR
    refine laM_37 hx hb hK hP b37 d_Model_layFirst_337 ?_
    replace hR := gd_e hR
    obtain ⟨b38, hR⟩ := hR
    refine laM_45 hx hb hK hP b38 d_Model_layFirst_338 ?_
    replace hR := bi_e hR
    obtain ⟨r39, l39, T39, hc39, hR⟩ := hR
    refine gcV_i (rest := [.int (T34.1 48 (T34.1 58 p1.toNatClampNeg).toNatClampNeg), .int (14 : Int32), .ref (ad 0)]) ⟨hx, hb, hml, hown, hT⟩ (h_Model_wordsOf _ _ _ _ _ hc39) (cwV 1 hT (gV ml_Model_796 im_Model_wordsOf se_Model_wordsOf ini_Model co_Model_wordsOf) rfl rfl rfl pd_Model_wordsOf ⟨rm_hi, rm_lo (Nat.le_of_ble_eq_true rfl)⟩) hK hP hD hS hA hnw henv (Nat.le_of_ble_eq_true rfl) rfl rfl hl.1 rfl (Nat.le_of_ble_eq_true rfl) d_Model_layFirst_339 ⟨Nat.le_refl _, Nat.le_refl _⟩ (fun H locs hP hD hS => ?_)
    clear hc39
    refine lv_iconst (v := 0) hx hb d_Model_layFirst_342 (by decide) ?_
    replace hR := bi_e hR
    obtain ⟨r40, l40, T40, hc40, hR⟩ := hR
    refine gcV_i (rest := []) ⟨hx, hb, hml, hown, hT⟩ (h_Model_lay _ _ _ _ _ _ _ _ hc40) (cwV 4 hT (gV ml_Model_777 im_Model_lay se_Model_lay ini_Model co_Model_lay) rfl rfl rfl pd_Model_lay ⟨rm_hi, rm_lo (Nat.le_of_ble_eq_true rfl)⟩) hK hP hD hS hA hnw henv (Nat.le_of_ble_eq_true rfl) rfl rfl hl.1 rfl (Nat.le_of_ble_eq_true rfl) d_Model_layFirst_343 ⟨Nat.le_refl _, Nat.le_refl _⟩ (fun H locs hP hD hS => ?_)
    clear hc40
    refine lv_pop hx hb d_Model_layFirst_346 rfl ?_
    obtain ⟨-, -, e3⟩ := re_e hR
    subst e3
    exact W.vret hx hb hr (fun t ht hW => ⟨⟨(), rfl, trivial, by rw [ht]; exact hP, va_K.moved hW.alike hK, hD⟩, hS.F ht⟩) hS.2.2 d_Model_layFirst_347
  replace hR := if_n c32 hR
  by_cases c41 : T0.1 50 p1.toNatClampNeg = (9 : Int32)
  · replace hR := if_p c41 hR
    refine lv_tableIn (off := 342) (tgt := 348) hx hb d_Model_layFirst_6 (by rw [c41]; decide) (by rw [c41]; decide) (by rw [c41]; decide) (by decide) ?_
    refine lv_aload_n hx hb d_Model_layFirst_348 rfl (lv_at hl 0 rfl) ?_
    refine lv_aload_n hx hb d_Model_layFirst_349 rfl (lv_at hl 0 rfl) ?_
    refine rd_Model_126 hx hb hT hown hK hP d_Model_layFirst_350 ?_
    refine lv_iload_n hx hb d_Model_layFirst_353 rfl (lv_at hl 1 rfl) ?_
    replace hR := gd_e hR
    obtain ⟨b42, hR⟩ := hR
    refine laM_37 hx hb hK hP b42 d_Model_layFirst_354 ?_
    replace hR := bi_e hR
    obtain ⟨r43, l43, T43, hc43, hR⟩ := hR
    refine gcV_v (rest := []) ⟨hx, hb, hml, hown, hT⟩ (h_Model_layExpression _ _ _ _ _ hc43) (cwV 1 hT (gV ml_Model_784 im_Model_layExpression se_Model_layExpression ini_Model co_Model_layExpression) rfl rfl rfl pd_Model_layExpression ⟨rm_hi, rm_lo (Nat.le_of_ble_eq_true rfl)⟩) hK hP hD hS hA hnw henv (Nat.le_of_ble_eq_true rfl) rfl rfl hl.1 rfl (Nat.le_of_ble_eq_true rfl) d_Model_layFirst_355 ⟨Nat.le_refl _, Nat.le_refl _⟩ (fun H locs hP hD hS => ?_)
    clear hc43
    refine lv_aload_n hx hb d_Model_layFirst_358 rfl (lv_at hl 0 rfl) ?_
    refine lv_aload_n hx hb d_Model_layFirst_359 rfl (lv_at hl 0 rfl) ?_
    refine rd_Model_129 hx hb hT hown hK hP d_Model_layFirst_360 ?_
    refine lv_iload_n hx hb d_Model_layFirst_363 rfl (lv_at hl 1 rfl) ?_
    replace hR := gd_e hR
    obtain ⟨b44, hR⟩ := hR
    refine laM_38 hx hb hK hP b44 d_Model_layFirst_364 ?_
    replace hR := bi_e hR
    obtain ⟨r45, l45, T45, hc45, hR⟩ := hR
    refine gcV_v (rest := []) ⟨hx, hb, hml, hown, hT⟩ (h_Model_layExpression _ _ _ _ _ hc45) (cwV 1 hT (gV ml_Model_784 im_Model_layExpression se_Model_layExpression ini_Model co_Model_layExpression) rfl rfl rfl pd_Model_layExpression ⟨rm_hi, rm_lo (Nat.le_of_ble_eq_true rfl)⟩) hK hP hD hS hA hnw henv (Nat.le_of_ble_eq_true rfl) rfl rfl hl.1 rfl (Nat.le_of_ble_eq_true rfl) d_Model_layFirst_365 ⟨Nat.le_refl _, Nat.le_refl _⟩ (fun H locs hP hD hS => ?_)
    clear hc45
    refine lv_aload_n hx hb d_Model_layFirst_368 rfl (lv_at hl 0 rfl) ?_
    refine lv_bipush (v := 15) hx hb d_Model_layFirst_369 (by decide) ?_
    refine lv_aload_n hx hb d_Model_layFirst_371 rfl (lv_at hl 0 rfl) ?_
    refine rd_Model_117 hx hb hT hown hK hP d_Model_layFirst_372 ?_
    refine lv_aload_n hx hb d_Model_layFirst_375 rfl (lv_at hl 0 rfl) ?_
    refine rd_Model_144 hx hb hT hown hK hP d_Model_layFirst_376 ?_
    refine lv_iload_n hx hb d_Model_layFirst_379 rfl (lv_at hl 1 rfl) ?_
    replace hR := gd_e hR
    obtain ⟨b46, hR⟩ := hR
    refine laM_43 hx hb hK hP b46 d_Model_layFirst_380 ?_
    replace hR := gd_e hR
    obtain ⟨b47, hR⟩ := hR
    refine laM_34 hx hb hK hP b47 d_Model_layFirst_381 ?_
    refine lv_aload_n hx hb d_Model_layFirst_382 rfl (lv_at hl 0 rfl) ?_
    refine lv_aload_n hx hb d_Model_layFirst_383 rfl (lv_at hl 0 rfl) ?_
    refine rd_Model_150 hx hb hT hown hK hP d_Model_layFirst_384 ?_
    refine lv_aload_n hx hb d_Model_layFirst_387 rfl (lv_at hl 0 rfl) ?_
    refine rd_Model_129 hx hb hT hown hK hP d_Model_layFirst_388 ?_
    refine lv_iload_n hx hb d_Model_layFirst_391 rfl (lv_at hl 1 rfl) ?_
    replace hR := gd_e hR
    obtain ⟨b48, hR⟩ := hR
    refine laM_38 hx hb hK hP b48 d_Model_layFirst_392 ?_
    replace hR := gd_e hR
    obtain ⟨b49, hR⟩ := hR
    refine laM_45 hx hb hK hP b49 d_Model_layFirst_393 ?_
    replace hR := bi_e hR
    obtain ⟨r50, l50, T50, hc50, hR⟩ := hR
    refine gcV_i (rest := [.int (T45.1 48 (T45.1 58 p1.toNatClampNeg).toNatClampNeg), .int (15 : Int32), .ref (ad 0)]) ⟨hx, hb, hml, hown, hT⟩ (h_Model_wordsOf _ _ _ _ _ hc50) (cwV 1 hT (gV ml_Model_796 im_Model_wordsOf se_Model_wordsOf ini_Model co_Model_wordsOf) rfl rfl rfl pd_Model_wordsOf ⟨rm_hi, rm_lo (Nat.le_of_ble_eq_true rfl)⟩) hK hP hD hS hA hnw henv (Nat.le_of_ble_eq_true rfl) rfl rfl hl.1 rfl (Nat.le_of_ble_eq_true rfl) d_Model_layFirst_394 ⟨Nat.le_refl _, Nat.le_refl _⟩ (fun H locs hP hD hS => ?_)
    clear hc50
    refine lv_iconst (v := 0) hx hb d_Model_layFirst_397 (by decide) ?_
    replace hR := bi_e hR
    obtain ⟨r51, l51, T51, hc51, hR⟩ := hR
    refine gcV_i (rest := []) ⟨hx, hb, hml, hown, hT⟩ (h_Model_lay _ _ _ _ _ _ _ _ hc51) (cwV 4 hT (gV ml_Model_777 im_Model_lay se_Model_lay ini_Model co_Model_lay) rfl rfl rfl pd_Model_lay ⟨rm_hi, rm_lo (Nat.le_of_ble_eq_true rfl)⟩) hK hP hD hS hA hnw henv (Nat.le_of_ble_eq_true rfl) rfl rfl hl.1 rfl (Nat.le_of_ble_eq_true rfl) d_Model_layFirst_398 ⟨Nat.le_refl _, Nat.le_refl _⟩ (fun H locs hP hD hS => ?_)
    clear hc51
    refine lv_pop hx hb d_Model_layFirst_401 rfl ?_
    obtain ⟨-, -, e3⟩ := re_e hR
    subst e3
    exact W.vret hx hb hr (fun t ht hW => ⟨⟨(), rfl, trivial, by rw [ht]; exact hP, va_K.moved hW.alike hK, hD⟩, hS.F ht⟩) hS.2.2 d_Model_layFirst_402
  replace hR := if_n c41 hR
  by_cases c52 : T0.1 50 p1.toNatClampNeg = (10 : Int32)
  · replace hR := if_p c52 hR
    refine lv_tableIn (off := 397) (tgt := 403) hx hb d_Model_layFirst_6 (by rw [c52]; decide) (by rw [c52]; decide) (by rw [c52]; decide) (by decide) ?_
    refine lv_aload_n hx hb d_Model_layFirst_403 rfl (lv_at hl 0 rfl) ?_
    refine rd_Model_126 hx hb hT hown hK hP d_Model_layFirst_404 ?_
    refine lv_iload_n hx hb d_Model_layFirst_407 rfl (lv_at hl 1 rfl) ?_
    replace hR := gd_e hR
    obtain ⟨b53, hR⟩ := hR
    refine laM_37 hx hb hK hP b53 d_Model_layFirst_408 ?_
    refine lv_topi (fun z54 e54 => ?_)
    replace hR := vK_e e54 hR
    refine lv_istore_n (lv' := [(2, .int z54), (0, .ref (ad 0)), (1, .int p1)]) hx hb d_Model_layFirst_409 rfl hl (by decide) rfl (fun ls hl => ?_)
    refine lv_aload_n hx hb d_Model_layFirst_410 rfl (lv_at hl 1 rfl) ?_
    refine lv_aload_n hx hb d_Model_layFirst_411 rfl (lv_at hl 1 rfl) ?_
    refine rd_Model_126 hx hb hT hown hK hP d_Model_layFirst_412 ?_
    refine lv_iload_n hx hb d_Model_layFirst_415 rfl (lv_at hl 0 rfl) ?_
    replace hR := gd_e hR
    obtain ⟨b55, hR⟩ := hR
    refine laM_37 hx hb hK hP b55 d_Model_layFirst_416 ?_
    replace hR := bi_e hR
    obtain ⟨r56, l56, T56, hc56, hR⟩ := hR
    refine gcV_v (rest := []) ⟨hx, hb, hml, hown, hT⟩ (h_Model_layExpression _ _ _ _ _ hc56) (cwV 1 hT (gV ml_Model_784 im_Model_layExpression se_Model_layExpression ini_Model co_Model_layExpression) rfl rfl rfl pd_Model_layExpression ⟨rm_hi, rm_lo (Nat.le_of_ble_eq_true rfl)⟩) hK hP hD hS hA hnw henv (Nat.le_of_ble_eq_true rfl) rfl rfl hl.1 rfl (Nat.le_of_ble_eq_true rfl) d_Model_layFirst_417 ⟨Nat.le_refl _, Nat.le_refl _⟩ (fun H locs hP hD hS => ?_)
    clear hc56
    refine lv_aload_n hx hb d_Model_layFirst_420 rfl (lv_at hl 1 rfl) ?_
    refine rd_Model_120 hx hb hT hown hK hP d_Model_layFirst_421 ?_
    refine lv_iload_n hx hb d_Model_layFirst_424 rfl (lv_at hl 0 rfl) ?_
    replace hR := gd_e hR
    obtain ⟨b57, hR⟩ := hR
    refine laM_35 hx hb hK hP b57 d_Model_layFirst_425 ?_
    refine lv_bipush (v := 15) hx hb d_Model_layFirst_426 (by decide) ?_
    refine lv_icmp_ne (tgt := 454) hx hb d_Model_layFirst_428 (by decide) (fun c58 => ?_) (fun c58 => ?_)
    · replace hR := if_n c58 hR
      refine lv_aload_n hx hb d_Model_layFirst_454 rfl (lv_at hl 1 rfl) ?_
      refine lv_bipush (v := 7) hx hb d_Model_layFirst_455 (by decide) ?_
      refine lv_aload_n hx hb d_Model_layFirst_457 rfl (lv_at hl 1 rfl) ?_
      refine rd_Model_153 hx hb hT hown hK hP d_Model_layFirst_458 ?_
      refine lv_iload_n hx hb d_Model_layFirst_461 rfl (lv_at hl 0 rfl) ?_
      replace hR := gd_e hR
      obtain ⟨b59, hR⟩ := hR
      refine laM_46 hx hb hK hP b59 d_Model_layFirst_462 ?_
      refine lv_iconst (v := 0) hx hb d_Model_layFirst_463 (by decide) ?_
      refine lv_iconst (v := 0) hx hb d_Model_layFirst_464 (by decide) ?_
      replace hR := bi_e hR
      obtain ⟨r60, l60, T60, hc60, hR⟩ := hR
      refine gcV_i (rest := []) ⟨hx, hb, hml, hown, hT⟩ (h_Model_lay _ _ _ _ _ _ _ _ hc60) (cwV 4 hT (gV ml_Model_777 im_Model_lay se_Model_lay ini_Model co_Model_lay) rfl rfl rfl pd_Model_lay ⟨rm_hi, rm_lo (Nat.le_of_ble_eq_true rfl)⟩) hK hP hD hS hA hnw henv (Nat.le_of_ble_eq_true rfl) rfl rfl hl.1 rfl (Nat.le_of_ble_eq_true rfl) d_Model_layFirst_465 ⟨Nat.le_refl _, Nat.le_refl _⟩ (fun H locs hP hD hS => ?_)
      clear hc60
      refine lv_pop hx hb d_Model_layFirst_468 rfl ?_
      obtain ⟨-, -, e3⟩ := re_e hR
      subst e3
      exact W.vret hx hb hr (fun t ht hW => ⟨⟨(), rfl, trivial, by rw [ht]; exact hP, va_K.moved hW.alike hK, hD⟩, hS.F ht⟩) hS.2.2 d_Model_layFirst_469
    · replace hR := if_p c58 hR
      refine lv_aload_n hx hb d_Model_layFirst_431 rfl (lv_at hl 1 rfl) ?_
      refine lv_aload_n hx hb d_Model_layFirst_432 rfl (lv_at hl 1 rfl) ?_
      refine rd_Model_129 hx hb hT hown hK hP d_Model_layFirst_433 ?_
      refine lv_iload_n hx hb d_Model_layFirst_436 rfl (lv_at hl 0 rfl) ?_
      replace hR := gd_e hR
      obtain ⟨b61, hR⟩ := hR
      refine laM_38 hx hb hK hP b61 d_Model_layFirst_437 ?_
      replace hR := bi_e hR
      obtain ⟨r62, l62, T62, hc62, hR⟩ := hR
      refine gcV_v (rest := []) ⟨hx, hb, hml, hown, hT⟩ (h_Model_layExpression _ _ _ _ _ hc62) (cwV 1 hT (gV ml_Model_784 im_Model_layExpression se_Model_layExpression ini_Model co_Model_layExpression) rfl rfl rfl pd_Model_layExpression ⟨rm_hi, rm_lo (Nat.le_of_ble_eq_true rfl)⟩) hK hP hD hS hA hnw henv (Nat.le_of_ble_eq_true rfl) rfl rfl hl.1 rfl (Nat.le_of_ble_eq_true rfl) d_Model_layFirst_438 ⟨Nat.le_refl _, Nat.le_refl _⟩ (fun H locs hP hD hS => ?_)
      clear hc62
      refine lv_aload_n hx hb d_Model_layFirst_441 rfl (lv_at hl 1 rfl) ?_
      refine lv_bipush (v := 9) hx hb d_Model_layFirst_442 (by decide) ?_
      refine lv_iconst (v := 0) hx hb d_Model_layFirst_444 (by decide) ?_
      refine lv_iconst (v := 0) hx hb d_Model_layFirst_445 (by decide) ?_
      refine lv_iconst (v := 0) hx hb d_Model_layFirst_446 (by decide) ?_
      replace hR := bi_e hR
      obtain ⟨r63, l63, T63, hc63, hR⟩ := hR
      refine gcV_i (rest := []) ⟨hx, hb, hml, hown, hT⟩ (h_Model_lay _ _ _ _ _ _ _ _ hc63) (cwV 4 hT (gV ml_Model_777 im_Model_lay se_Model_lay ini_Model co_Model_lay) rfl rfl rfl pd_Model_lay ⟨rm_hi, rm_lo (Nat.le_of_ble_eq_true rfl)⟩) hK hP hD hS hA hnw henv (Nat.le_of_ble_eq_true rfl) rfl rfl hl.1 rfl (Nat.le_of_ble_eq_true rfl) d_Model_layFirst_447 ⟨Nat.le_refl _, Nat.le_refl _⟩ (fun H locs hP hD hS => ?_)
      clear hc63
      refine lv_pop hx hb d_Model_layFirst_450 rfl ?_
      refine lv_goto (tgt := 469) hx hb d_Model_layFirst_451 (by decide) ?_
      obtain ⟨-, -, e3⟩ := re_e hR
      subst e3
      exact W.vret hx hb hr (fun t ht hW => ⟨⟨(), rfl, trivial, by rw [ht]; exact hP, va_K.moved hW.alike hK, hD⟩, hS.F ht⟩) hS.2.2 d_Model_layFirst_469
  replace hR := if_n c52 hR
  by_cases c64 : T0.1 50 p1.toNatClampNeg = (11 : Int32)
  · replace hR := if_p c64 hR
    refine lv_tableIn (off := 464) (tgt := 470) hx hb d_Model_layFirst_6 (by rw [c64]; decide) (by rw [c64]; decide) (by rw [c64]; decide) (by decide) ?_
    refine lv_aload_n hx hb d_Model_layFirst_470 rfl (lv_at hl 0 rfl) ?_
    refine lv_aload_n hx hb d_Model_layFirst_471 rfl (lv_at hl 0 rfl) ?_
    refine rd_Model_126 hx hb hT hown hK hP d_Model_layFirst_472 ?_
    refine lv_iload_n hx hb d_Model_layFirst_475 rfl (lv_at hl 1 rfl) ?_
    replace hR := gd_e hR
    obtain ⟨b65, hR⟩ := hR
    refine laM_37 hx hb hK hP b65 d_Model_layFirst_476 ?_
    replace hR := bi_e hR
    obtain ⟨r66, l66, T66, hc66, hR⟩ := hR
    refine gcV_v (rest := []) ⟨hx, hb, hml, hown, hT⟩ (h_Model_layExpression _ _ _ _ _ hc66) (cwV 1 hT (gV ml_Model_784 im_Model_layExpression se_Model_layExpression ini_Model co_Model_layExpression) rfl rfl rfl pd_Model_layExpression ⟨rm_hi, rm_lo (Nat.le_of_ble_eq_true rfl)⟩) hK hP hD hS hA hnw henv (Nat.le_of_ble_eq_true rfl) rfl rfl hl.1 rfl (Nat.le_of_ble_eq_true rfl) d_Model_layFirst_477 ⟨Nat.le_refl _, Nat.le_refl _⟩ (fun H locs hP hD hS => ?_)
    clear hc66
    refine lv_aload_n hx hb d_Model_layFirst_480 rfl (lv_at hl 0 rfl) ?_
    refine lv_bipush (v := 12) hx hb d_Model_layFirst_481 (by decide) ?_
    refine lv_iconst (v := 0) hx hb d_Model_layFirst_483 (by decide) ?_
    refine lv_iconst (v := 0) hx hb d_Model_layFirst_484 (by decide) ?_
    refine lv_iconst (v := 0) hx hb d_Model_layFirst_485 (by decide) ?_
    replace hR := bi_e hR
    obtain ⟨r67, l67, T67, hc67, hR⟩ := hR
    refine gcV_i (rest := []) ⟨hx, hb, hml, hown, hT⟩ (h_Model_lay _ _ _ _ _ _ _ _ hc67) (cwV 4 hT (gV ml_Model_777 im_Model_lay se_Model_lay ini_Model co_Model_lay) rfl rfl rfl pd_Model_lay ⟨rm_hi, rm_lo (Nat.le_of_ble_eq_true rfl)⟩) hK hP hD hS hA hnw henv (Nat.le_of_ble_eq_true rfl) rfl rfl hl.1 rfl (Nat.le_of_ble_eq_true rfl) d_Model_layFirst_486 ⟨Nat.le_refl _, Nat.le_refl _⟩ (fun H locs hP hD hS => ?_)
    clear hc67
    refine lv_pop hx hb d_Model_layFirst_489 rfl ?_
    obtain ⟨-, -, e3⟩ := re_e hR
    subst e3
    exact W.vret hx hb hr (fun t ht hW => ⟨⟨(), rfl, trivial, by rw [ht]; exact hP, va_K.moved hW.alike hK, hD⟩, hS.F ht⟩) hS.2.2 d_Model_layFirst_490
  replace hR := if_n c64 hR
  have h368 : (T0.1 50 p1.toNatClampNeg : Int32).toInt < 0 ∨ 11 < (T0.1 50 p1.toNatClampNeg : Int32).toInt := by
    simp only [i_eq, Int32.reduceToInt] at c2 c5 c7 c9 c12 c15 c18 c21 c32 c41 c52 c64; omega
  refine lv_tableOut (tgt := 491) hx hb d_Model_layFirst_6 h368 (by decide) ?_
  refine lv_aload_n hx hb d_Model_layFirst_491 rfl (lv_at hl 0 rfl) ?_
  refine lv_aload_n hx hb d_Model_layFirst_492 rfl (lv_at hl 0 rfl) ?_
  refine rd_Model_126 hx hb hT hown hK hP d_Model_layFirst_493 ?_
  refine lv_iload_n hx hb d_Model_layFirst_496 rfl (lv_at hl 1 rfl) ?_
  replace hR := gd_e hR
  obtain ⟨b69, hR⟩ := hR
  refine laM_37 hx hb hK hP b69 d_Model_layFirst_497 ?_
  replace hR := bi_e hR
  obtain ⟨r70, l70, T70, hc70, hR⟩ := hR
  refine gcV_v (rest := []) ⟨hx, hb, hml, hown, hT⟩ (h_Model_layExpression _ _ _ _ _ hc70) (cwV 1 hT (gV ml_Model_784 im_Model_layExpression se_Model_layExpression ini_Model co_Model_layExpression) rfl rfl rfl pd_Model_layExpression ⟨rm_hi, rm_lo (Nat.le_of_ble_eq_true rfl)⟩) hK hP hD hS hA hnw henv (Nat.le_of_ble_eq_true rfl) rfl rfl hl.1 rfl (Nat.le_of_ble_eq_true rfl) d_Model_layFirst_498 ⟨Nat.le_refl _, Nat.le_refl _⟩ (fun H locs hP hD hS => ?_)
  clear hc70
  refine lv_aload_n hx hb d_Model_layFirst_501 rfl (lv_at hl 0 rfl) ?_
  refine lv_bipush (v := 13) hx hb d_Model_layFirst_502 (by decide) ?_
  refine lv_iconst (v := 0) hx hb d_Model_layFirst_504 (by decide) ?_
  refine lv_iconst (v := 0) hx hb d_Model_layFirst_505 (by decide) ?_
  refine lv_iconst (v := 0) hx hb d_Model_layFirst_506 (by decide) ?_
  replace hR := bi_e hR
  obtain ⟨r71, l71, T71, hc71, hR⟩ := hR
  refine gcV_i (rest := []) ⟨hx, hb, hml, hown, hT⟩ (h_Model_lay _ _ _ _ _ _ _ _ hc71) (cwV 4 hT (gV ml_Model_777 im_Model_lay se_Model_lay ini_Model co_Model_lay) rfl rfl rfl pd_Model_lay ⟨rm_hi, rm_lo (Nat.le_of_ble_eq_true rfl)⟩) hK hP hD hS hA hnw henv (Nat.le_of_ble_eq_true rfl) rfl rfl hl.1 rfl (Nat.le_of_ble_eq_true rfl) d_Model_layFirst_507 ⟨Nat.le_refl _, Nat.le_refl _⟩ (fun H locs hP hD hS => ?_)
  clear hc71
  refine lv_pop hx hb d_Model_layFirst_510 rfl ?_
  obtain ⟨-, -, e3⟩ := re_e hR
  subst e3
  exact W.vret hx hb hr (fun t ht hW => ⟨⟨(), rfl, trivial, by rw [ht]; exact hP, va_K.moved hW.alike hK, hD⟩, hS.F ht⟩) hS.2.2 d_Model_layFirst_511
set_option maxHeartbeats 4000000 in
set_option maxRecDepth 100000 in
theorem sp_Model_push (l : Launch) (dC : Nat → ClassId) (dI : Nat → Nat → Nat) (ea ev ad : Nat → Nat) (km : Nat → ClassId) (F : gF) (nf d : Nat) (T0 : gSt) (p1 : Int32) (p2 : Int32) (p3 : Int32) (r0 : Int32) (rl0 : Int64) (T9 : gSt) (hR : rb_Model_push F nf T0 p1 p2 p3 = some (r0, rl0, T9)) : GMv l dC dI LM ad km ea ev y_Model_push w_Model_push (rmD (d + 1)) [.ref (ad 0), .int p1, .int p2, .int p3] T0 T9 := by
  intro sz
  refine Met.ofW (cc := b_Model_push) (maxL := 4) (ret := none) (by decide) rfl ?_
  intro p e s m args below meth c s₁ B hml hv
  obtain ⟨rfl, hsz, hP, hK, hD0, hnw, henv⟩ := hv
  have hx := B.exec
  have hb := B.bytes
  have hr := B.returns
  have hT : ∀ w ∈ lw_good, w.before _ s = true := fun w h => atoms_spec (ws := w_Model_push) B.pre w (List.mem_cons_of_mem _ h)
  have hown : s.vm.findClass R_Model = some m.cls := findClass_of_methodNamed B.named
  subst hsz
  have hD := hD0.self (sz := s.heap.size)
  clear hD0
  generalize hAe : va_A (gW LM ad km T0) s.heap.size = A at hD henv ⊢
  have hA : ∀ q : Nat, s.heap.size ≤ q → A q := fun q h => by rw [← hAe]; exact Or.inr h
  have hS : va_S A s.heap s.heap [] := va_S.rf
  have hl := lv_entry ([.ref (ad 0), .int p1, .int p2, .int p3]) (n := 4) (Nat.le_of_ble_eq_true rfl)
  rw [lg_entry_eq]
  generalize (lg_sl ([.ref (ad 0), .int p1, .int p2, .int p3]) ++ List.replicate (4 - (lg_sl ([.ref (ad 0), .int p1, .int p2, .int p3])).length) Slot.unset).toArray = ls at hl ⊢
  have hl : lv_has ls 4 [(0, .ref (ad 0)), (1, .int p1), (2, .int p2), (3, .int p3)] := hl
  unfold rb_Model_push at hR
  refine lv_aload_n hx hb d_Model_push_0 rfl (lv_at hl 0 rfl) ?_
  refine rd_Model_207 hx hb hT hown hK hP d_Model_push_1 ?_
  refine lv_aload_n hx hb d_Model_push_4 rfl (lv_at hl 0 rfl) ?_
  refine rd_Model_799 hx hb hT hown hK hP d_Model_push_5 ?_
  refine lv_iload_n hx hb d_Model_push_8 rfl (lv_at hl 1 rfl) ?_
  replace hR := gd_e hR
  obtain ⟨b1, hR⟩ := hR
  refine saM_64 hx hb hK hP hD hS b1 d_Model_push_9 (fun T1 eT H locs hP hD hS => ?_)
  replace hR := stK_e eT hR
  clear eT
  refine lv_aload_n hx hb d_Model_push_10 rfl (lv_at hl 0 rfl) ?_
  refine rd_Model_210 hx hb hT hown hK hP d_Model_push_11 ?_
  refine lv_aload_n hx hb d_Model_push_14 rfl (lv_at hl 0 rfl) ?_
  refine rd_Model_799 hx hb hT hown hK hP d_Model_push_15 ?_
  refine lv_iload_n hx hb d_Model_push_18 rfl (lv_at hl 2 rfl) ?_
  replace hR := gd_e hR
  obtain ⟨b2, hR⟩ := hR
  refine saM_65 hx hb hK hP hD hS b2 d_Model_push_19 (fun T2 eT H locs hP hD hS => ?_)
  replace hR := stK_e eT hR
  clear eT
  refine lv_aload_n hx hb d_Model_push_20 rfl (lv_at hl 0 rfl) ?_
  refine rd_Model_213 hx hb hT hown hK hP d_Model_push_21 ?_
  refine lv_aload_n hx hb d_Model_push_24 rfl (lv_at hl 0 rfl) ?_
  refine rd_Model_799 hx hb hT hown hK hP d_Model_push_25 ?_
  refine lv_iload_n hx hb d_Model_push_28 rfl (lv_at hl 3 rfl) ?_
  replace hR := gd_e hR
  obtain ⟨b3, hR⟩ := hR
  refine saM_66 hx hb hK hP hD hS b3 d_Model_push_29 (fun T3 eT H locs hP hD hS => ?_)
  replace hR := stK_e eT hR
  clear eT
  refine lv_aload_n hx hb d_Model_push_30 rfl (lv_at hl 0 rfl) ?_
  refine rd_Model_216 hx hb hT hown hK hP d_Model_push_31 ?_
  refine lv_aload_n hx hb d_Model_push_34 rfl (lv_at hl 0 rfl) ?_
  refine rd_Model_799 hx hb hT hown hK hP d_Model_push_35 ?_
  refine lv_iconst (v := 0) hx hb d_Model_push_38 (by decide) ?_
  replace hR := gd_e hR
  obtain ⟨b4, hR⟩ := hR
  refine saM_67 hx hb hK hP hD hS b4 d_Model_push_39 (fun T4 eT H locs hP hD hS => ?_)
  replace hR := stK_e eT hR
  clear eT
  refine lv_aload_n hx hb d_Model_push_40 rfl (lv_at hl 0 rfl) ?_
  refine lv_dup hx hb d_Model_push_41 rfl ?_
  refine rd_Model_799 hx hb hT hown hK hP d_Model_push_42 ?_
  refine lv_iconst (v := 1) hx hb d_Model_push_45 (by decide) ?_
  refine lv_iadd hx hb d_Model_push_46 ?_
  refine wr_Model_799 hx hb hT hown hK hP hD hS d_Model_push_47 (fun T5 eT H locs hP hD hS => ?_)
  replace hR := stK_e eT hR
  clear eT
  obtain ⟨-, -, e3⟩ := re_e hR
  subst e3
  exact W.vret hx hb hr (fun t ht hW => ⟨⟨(), rfl, trivial, by rw [ht]; exact hP, va_K.moved hW.alike hK, hD⟩, hS.F ht⟩) hS.2.2 d_Model_push_50
set_option maxHeartbeats 4000000 in
set_option maxRecDepth 100000 in
theorem sp_Model_stopAll (l : Launch) (dC : Nat → ClassId) (dI : Nat → Nat → Nat) (ea ev ad : Nat → Nat) (km : Nat → ClassId) (F : gF) (nf d : Nat) (T0 : gSt) (r0 : Int32) (rl0 : Int64) (T9 : gSt) (hR : rb_Model_stopAll F nf T0 = some (r0, rl0, T9)) : GMv l dC dI LM ad km ea ev y_Model_stopAll w_Model_stopAll (rmD (d + 1)) [.ref (ad 0)] T0 T9 := by
  intro sz
  refine Met.ofW (cc := b_Model_stopAll) (maxL := 1) (ret := none) (by decide) rfl ?_
  intro p e s m args below meth c s₁ B hml hv
  obtain ⟨rfl, hsz, hP, hK, hD0, hnw, henv⟩ := hv
  have hx := B.exec
  have hb := B.bytes
  have hr := B.returns
  have hT : ∀ w ∈ lw_good, w.before _ s = true := fun w h => atoms_spec (ws := w_Model_stopAll) B.pre w (List.mem_cons_of_mem _ h)
  have hown : s.vm.findClass R_Model = some m.cls := findClass_of_methodNamed B.named
  subst hsz
  have hD := hD0.self (sz := s.heap.size)
  clear hD0
  generalize hAe : va_A (gW LM ad km T0) s.heap.size = A at hD henv ⊢
  have hA : ∀ q : Nat, s.heap.size ≤ q → A q := fun q h => by rw [← hAe]; exact Or.inr h
  have hS : va_S A s.heap s.heap [] := va_S.rf
  have hl := lv_entry ([.ref (ad 0)]) (n := 1) (Nat.le_of_ble_eq_true rfl)
  rw [lg_entry_eq]
  generalize (lg_sl ([.ref (ad 0)]) ++ List.replicate (1 - (lg_sl ([.ref (ad 0)])).length) Slot.unset).toArray = ls at hl ⊢
  have hl : lv_has ls 1 [(0, .ref (ad 0))] := hl
  unfold rb_Model_stopAll at hR
  refine lv_aload_n hx hb d_Model_stopAll_0 rfl (lv_at hl 0 rfl) ?_
  refine lv_iconst (v := 0) hx hb d_Model_stopAll_1 (by decide) ?_
  refine wr_Model_802 hx hb hT hown hK hP hD hS d_Model_stopAll_2 (fun T1 eT H locs hP hD hS => ?_)
  replace hR := stK_e eT hR
  clear eT
  refine lv_aload_n hx hb d_Model_stopAll_5 rfl (lv_at hl 0 rfl) ?_
  refine lv_iconst (v := 0) hx hb d_Model_stopAll_6 (by decide) ?_
  refine wr_Model_805 hx hb hT hown hK hP hD hS d_Model_stopAll_7 (fun T2 eT H locs hP hD hS => ?_)
  replace hR := stK_e eT hR
  clear eT
  refine lv_aload_n hx hb d_Model_stopAll_10 rfl (lv_at hl 0 rfl) ?_
  refine lv_iconst (v := 0) hx hb d_Model_stopAll_11 (by decide) ?_
  refine wr_Model_808 hx hb hT hown hK hP hD hS d_Model_stopAll_12 (fun T3 eT H locs hP hD hS => ?_)
  replace hR := stK_e eT hR
  clear eT
  refine lv_aload_n hx hb d_Model_stopAll_15 rfl (lv_at hl 0 rfl) ?_
  refine lv_iconst (v := 0) hx hb d_Model_stopAll_16 (by decide) ?_
  refine wr_Model_811 hx hb hT hown hK hP hD hS d_Model_stopAll_17 (fun T4 eT H locs hP hD hS => ?_)
  replace hR := stK_e eT hR
  clear eT
  refine lv_aload_n hx hb d_Model_stopAll_20 rfl (lv_at hl 0 rfl) ?_
  refine lv_iconst (v := 0) hx hb d_Model_stopAll_21 (by decide) ?_
  refine wr_Model_814 hx hb hT hown hK hP hD hS d_Model_stopAll_22 (fun T5 eT H locs hP hD hS => ?_)
  replace hR := stK_e eT hR
  clear eT
  refine lv_aload_n hx hb d_Model_stopAll_25 rfl (lv_at hl 0 rfl) ?_
  refine lv_iconst (v := 0) hx hb d_Model_stopAll_26 (by decide) ?_
  refine wr_Model_817 hx hb hT hown hK hP hD hS d_Model_stopAll_27 (fun T6 eT H locs hP hD hS => ?_)
  replace hR := stK_e eT hR
  clear eT
  refine lv_aload_n hx hb d_Model_stopAll_30 rfl (lv_at hl 0 rfl) ?_
  refine lv_iconst (v := 0) hx hb d_Model_stopAll_31 (by decide) ?_
  refine wr_Model_820 hx hb hT hown hK hP hD hS d_Model_stopAll_32 (fun T7 eT H locs hP hD hS => ?_)
  replace hR := stK_e eT hR
  clear eT
  refine lv_aload_n hx hb d_Model_stopAll_35 rfl (lv_at hl 0 rfl) ?_
  refine lv_iconst (v := 0) hx hb d_Model_stopAll_36 (by decide) ?_
  refine wr_Model_823 hx hb hT hown hK hP hD hS d_Model_stopAll_37 (fun T8 eT H locs hP hD hS => ?_)
  replace hR := stK_e eT hR
  clear eT
  refine lv_aload_n hx hb d_Model_stopAll_40 rfl (lv_at hl 0 rfl) ?_
  refine lv_iconst (v := 0) hx hb d_Model_stopAll_41 (by decide) ?_
  refine wr_Model_826 hx hb hT hown hK hP hD hS d_Model_stopAll_42 (fun T9 eT H locs hP hD hS => ?_)
  replace hR := stK_e eT hR
  clear eT
  refine lv_aload_n hx hb d_Model_stopAll_45 rfl (lv_at hl 0 rfl) ?_
  refine lv_iconst (v := 0) hx hb d_Model_stopAll_46 (by decide) ?_
  refine wr_Model_829 hx hb hT hown hK hP hD hS d_Model_stopAll_47 (fun T10 eT H locs hP hD hS => ?_)
  replace hR := stK_e eT hR
  clear eT
  refine lv_aload_n hx hb d_Model_stopAll_50 rfl (lv_at hl 0 rfl) ?_
  refine lv_iconst (v := 0) hx hb d_Model_stopAll_51 (by decide) ?_
  refine wr_Model_799 hx hb hT hown hK hP hD hS d_Model_stopAll_52 (fun T11 eT H locs hP hD hS => ?_)
  replace hR := stK_e eT hR
  clear eT
  refine lv_aload_n hx hb d_Model_stopAll_55 rfl (lv_at hl 0 rfl) ?_
  refine lv_iconst (v := 0) hx hb d_Model_stopAll_56 (by decide) ?_
  refine wr_Model_832 hx hb hT hown hK hP hD hS d_Model_stopAll_57 (fun T12 eT H locs hP hD hS => ?_)
  replace hR := stK_e eT hR
  clear eT
  refine lv_aload_n hx hb d_Model_stopAll_60 rfl (lv_at hl 0 rfl) ?_
  refine lv_iconst (v := 0) hx hb d_Model_stopAll_61 (by decide) ?_
  refine wr_Model_835 hx hb hT hown hK hP hD hS d_Model_stopAll_62 (fun T13 eT H locs hP hD hS => ?_)
  replace hR := stK_e eT hR
  clear eT
  refine lv_aload_n hx hb d_Model_stopAll_65 rfl (lv_at hl 0 rfl) ?_
  refine lv_iconst (v := 0) hx hb d_Model_stopAll_66 (by decide) ?_
  refine wr_Model_838 hx hb hT hown hK hP hD hS d_Model_stopAll_67 (fun T14 eT H locs hP hD hS => ?_)
  replace hR := stK_e eT hR
  clear eT
  obtain ⟨-, -, e3⟩ := re_e hR
  subst e3
  exact W.vret hx hb hr (fun t ht hW => ⟨⟨(), rfl, trivial, by rw [ht]; exact hP, va_K.moved hW.alike hK, hD⟩, hS.F ht⟩) hS.2.2 d_Model_stopAll_70
set_option maxHeartbeats 4000000 in
set_option maxRecDepth 100000 in
theorem sp_Model_begin (l : Launch) (dC : Nat → ClassId) (dI : Nat → Nat → Nat) (ea ev ad : Nat → Nat) (km : Nat → ClassId) (F : gF) (nf d : Nat) (T0 : gSt) (p1 : Int32) (r0 : Int32) (rl0 : Int64) (T9 : gSt) (hR : rb_Model_begin F nf T0 p1 = some (r0, rl0, T9)) : GMv l dC dI LM ad km ea ev y_Model_begin w_Model_begin (rmD (d + 1)) [.ref (ad 0), .int p1] T0 T9 := by
  intro sz
  refine Met.ofW (cc := b_Model_begin) (maxL := 2) (ret := none) (by decide) rfl ?_
  intro p e s m args below meth c s₁ B hml hv
  obtain ⟨rfl, hsz, hP, hK, hD0, hnw, henv⟩ := hv
  have hx := B.exec
  have hb := B.bytes
  have hr := B.returns
  have hT : ∀ w ∈ lw_good, w.before _ s = true := fun w h => atoms_spec (ws := w_Model_begin) B.pre w (List.mem_cons_of_mem _ h)
  have hown : s.vm.findClass R_Model = some m.cls := findClass_of_methodNamed B.named
  subst hsz
  have hD := hD0.self (sz := s.heap.size)
  clear hD0
  generalize hAe : va_A (gW LM ad km T0) s.heap.size = A at hD henv ⊢
  have hA : ∀ q : Nat, s.heap.size ≤ q → A q := fun q h => by rw [← hAe]; exact Or.inr h
  have hS : va_S A s.heap s.heap [] := va_S.rf
  have hl := lv_entry ([.ref (ad 0), .int p1]) (n := 2) (Nat.le_of_ble_eq_true rfl)
  rw [lg_entry_eq]
  generalize (lg_sl ([.ref (ad 0), .int p1]) ++ List.replicate (2 - (lg_sl ([.ref (ad 0), .int p1])).length) Slot.unset).toArray = ls at hl ⊢
  have hl : lv_has ls 2 [(0, .ref (ad 0)), (1, .int p1)] := hl
  unfold rb_Model_begin at hR
  refine lv_aload_n hx hb d_Model_begin_0 rfl (lv_at hl 0 rfl) ?_
  refine rd_Model_261 hx hb hT hown hK hP d_Model_begin_1 ?_
  refine lv_iload_n hx hb d_Model_begin_4 rfl (lv_at hl 1 rfl) ?_
  refine lv_iconst (v := 0) hx hb d_Model_begin_5 (by decide) ?_
  replace hR := gd_e hR
  obtain ⟨b1, hR⟩ := hR
  refine saM_82 hx hb hK hP hD hS b1 d_Model_begin_6 (fun T1 eT H locs hP hD hS => ?_)
  replace hR := stK_e eT hR
  clear eT
  refine lv_aload_n hx hb d_Model_begin_7 rfl (lv_at hl 0 rfl) ?_
  refine rd_Model_264 hx hb hT hown hK hP d_Model_begin_8 ?_
  refine lv_iload_n hx hb d_Model_begin_11 rfl (lv_at hl 1 rfl) ?_
  refine lv_iconst (v := 0) hx hb d_Model_begin_12 (by decide) ?_
  replace hR := gd_e hR
  obtain ⟨b2, hR⟩ := hR
  refine saM_83 hx hb hK hP hD hS b2 d_Model_begin_13 (fun T2 eT H locs hP hD hS => ?_)
  replace hR := stK_e eT hR
  clear eT
  refine lv_aload_n hx hb d_Model_begin_14 rfl (lv_at hl 0 rfl) ?_
  refine rd_Model_267 hx hb hT hown hK hP d_Model_begin_15 ?_
  refine lv_iload_n hx hb d_Model_begin_18 rfl (lv_at hl 1 rfl) ?_
  refine lv_iconst (v := 0) hx hb d_Model_begin_19 (by decide) ?_
  replace hR := gd_e hR
  obtain ⟨b3, hR⟩ := hR
  refine saM_84 hx hb hK hP hD hS b3 d_Model_begin_20 (fun T3 eT H locs hP hD hS => ?_)
  replace hR := stK_e eT hR
  clear eT
  refine lv_aload_n hx hb d_Model_begin_21 rfl (lv_at hl 0 rfl) ?_
  refine rd_Model_270 hx hb hT hown hK hP d_Model_begin_22 ?_
  refine lv_iload_n hx hb d_Model_begin_25 rfl (lv_at hl 1 rfl) ?_
  refine lv_iconst (v := 0) hx hb d_Model_begin_26 (by decide) ?_
  replace hR := gd_e hR
  obtain ⟨b4, hR⟩ := hR
  refine saM_85 hx hb hK hP hD hS b4 d_Model_begin_27 (fun T4 eT H locs hP hD hS => ?_)
  replace hR := stK_e eT hR
  clear eT
  obtain ⟨-, -, e3⟩ := re_e hR
  subst e3
  exact W.vret hx hb hr (fun t ht hW => ⟨⟨(), rfl, trivial, by rw [ht]; exact hP, va_K.moved hW.alike hK, hD⟩, hS.F ht⟩) hS.2.2 d_Model_begin_28
set_option maxHeartbeats 4000000 in
set_option maxRecDepth 100000 in
theorem sp_Model_shrink (l : Launch) (dC : Nat → ClassId) (dI : Nat → Nat → Nat) (ea ev ad : Nat → Nat) (km : Nat → ClassId) (F : gF) (nf d : Nat) (T0 : gSt) (p1 : Int32) (r0 : Int32) (rl0 : Int64) (T9 : gSt) (hR : rb_Model_shrink F nf T0 p1 = some (r0, rl0, T9)) : GMv l dC dI LM ad km ea ev y_Model_shrink w_Model_shrink (rmD (d + 1)) [.ref (ad 0), .int p1] T0 T9 := by
  intro sz
  refine Met.ofW (cc := b_Model_shrink) (maxL := 5) (ret := none) (by decide) rfl ?_
  intro p e s m args below meth c s₁ B hml hv
  obtain ⟨rfl, hsz, hP, hK, hD0, hnw, henv⟩ := hv
  have hx := B.exec
  have hb := B.bytes
  have hr := B.returns
  have hT : ∀ w ∈ lw_good, w.before _ s = true := fun w h => atoms_spec (ws := w_Model_shrink) B.pre w (List.mem_cons_of_mem _ h)
  have hown : s.vm.findClass R_Model = some m.cls := findClass_of_methodNamed B.named
  subst hsz
  have hD := hD0.self (sz := s.heap.size)
  clear hD0
  generalize hAe : va_A (gW LM ad km T0) s.heap.size = A at hD henv ⊢
  have hA : ∀ q : Nat, s.heap.size ≤ q → A q := fun q h => by rw [← hAe]; exact Or.inr h
  have hS : va_S A s.heap s.heap [] := va_S.rf
  have hl := lv_entry ([.ref (ad 0), .int p1]) (n := 5) (Nat.le_of_ble_eq_true rfl)
  rw [lg_entry_eq]
  generalize (lg_sl ([.ref (ad 0), .int p1]) ++ List.replicate (5 - (lg_sl ([.ref (ad 0), .int p1])).length) Slot.unset).toArray = ls at hl ⊢
  have hl : lv_has ls 5 [(0, .ref (ad 0)), (1, .int p1)] := hl
  obtain ⟨G, hG⟩ : ∃ G : Nat → List (Nat × Value) → List Value → gSt → Prop, G = (fun pc lv stk T => ∀ (H : Heap) (locs : List Loc), va_P (dC, dI) cls_all (gW LM ad km T) H → va_D A (gW LM ad km T) → va_S A s.heap H locs → ∀ (ls : Array Slot), lv_has ls 5 lv → W p l e (headSpec w_Model_shrink (rmD (d + 1))).room s m ([.ref (ad 0), .int p1] : List Value).toArray below meth c H locs 0 0 (MQ below (va_Qv (fun (_ : Unit) => True) (fun _ t => gPost dC dI LM ad km T9 A t) A) ([.ref (ad 0), .int p1] : List Value).toArray s 0 0 A) (F0 m pc ls stk)) := ⟨_, rfl⟩
  have lb_109 : ∀ (rec_0 : gSt → Int32 → gR) (hrec_0 : ∀ (T : gSt) (x1 : Int32), rec_0 T x1 = some (r0, rl0, T9) → G 0 [(0, .ref (ad 0)), (1, .int x1)] [] T) (rec_38 : gSt → Int32 → Int32 → gR) (hrec_38 : ∀ (T : gSt) (x1 : Int32) (x2 : Int32), rec_38 T x1 x2 = some (r0, rl0, T9) → G 38 [(0, .ref (ad 0)), (1, .int x1), (2, .int x2)] [] T) (n : Nat) (T : gSt) (x1 : Int32) (x2 : Int32) (x3 : Int32), rl_Model_shrink_109 F nf rec_0 rec_38 n T x1 x2 x3 = some (r0, rl0, T9) → G 109 [(0, .ref (ad 0)), (1, .int x1), (2, .int x2), (3, .int x3)] [] T := by
    intro rec_0 hrec_0 rec_38 hrec_38 n
    induction n with
    | zero => intro T x1 x2 x3 hR; rw [rl_Model_shrink_109] at hR; cases hR
    | succ n ih =>
      intro T x1 x2 x3 hR; rw [rl_Model_shrink_109] at hR; rw [hG]; intro H locs hP hD hS ls hl
      refine lv_iload_n hx hb d_Model_shrink_109 rfl (lv_at hl 3 rfl) ?_
      refine lv_if_lt (tgt := 142) hx hb d_Model_shrink_110 (by decide) (fun c19 => ?_) (fun c19 => ?_)
      · replace hR := if_p c19 hR
        obtain ⟨z20, e20⟩ : ∃ y : Int32, y = x2 + (1 : Int32) := ⟨_, rfl⟩
        replace hR := vK_e e20 hR
        refine lv_iinc (v := z20) (lv' := [(2, .int z20), (0, .ref (ad 0)), (1, .int x1), (3, .int x3)]) hx hb d_Model_shrink_142 hl (k := 2) rfl (by rw [e20]; rfl) (by decide) rfl (fun ls hl => ?_)
        refine lv_goto (tgt := 38) hx hb d_Model_shrink_145 (by decide) ?_
        have g := hrec_38 T x1 z20 hR
        rw [hG] at g
        exact g _ _ hP hD hS _ (lv_sub hl [1, 2, 0] rfl)
      · replace hR := if_n c19 hR
        refine lv_aload_n hx hb d_Model_shrink_113 rfl (lv_at hl 0 rfl) ?_
        refine rd_Model_304 hx hb hT hown hK hP d_Model_shrink_114 ?_
        refine lv_iload_n hx hb d_Model_shrink_117 rfl (lv_at hl 3 rfl) ?_
        replace hR := gd_e hR
        obtain ⟨b21, hR⟩ := hR
        refine laM_96 hx hb hK hP b21 d_Model_shrink_118 ?_
        refine lv_topi (fun z22 e22 => ?_)
        replace hR := vK_e e22 hR
        refine lv_istore (lv' := [(4, .int z22), (0, .ref (ad 0)), (1, .int x1), (2, .int x2), (3, .int x3)]) hx hb d_Model_shrink_119 hl (by decide) rfl (fun ls hl => ?_)
        refine lv_aload_n hx hb d_Model_shrink_121 rfl (lv_at hl 1 rfl) ?_
        refine rd_Model_304 hx hb hT hown hK hP d_Model_shrink_122 ?_
        refine lv_iload_n hx hb d_Model_shrink_125 rfl (lv_at hl 4 rfl) ?_
        refine lv_aload_n hx hb d_Model_shrink_126 rfl (lv_at hl 1 rfl) ?_
        refine rd_Model_841 hx hb hT hown hK hP d_Model_shrink_127 ?_
        replace hR := gd_e hR
        obtain ⟨b23, hR⟩ := hR
        refine saM_96 hx hb hK hP hD hS b23 d_Model_shrink_130 (fun T23 eT H locs hP hD hS => ?_)
        replace hR := stK_e eT hR
        clear eT
        refine lv_aload_n hx hb d_Model_shrink_131 rfl (lv_at hl 1 rfl) ?_
        refine lv_iload_n hx hb d_Model_shrink_132 rfl (lv_at hl 4 rfl) ?_
        refine wr_Model_841 hx hb hT hown hK hP hD hS d_Model_shrink_133 (fun T24 eT H locs hP hD hS => ?_)
        replace hR := stK_e eT hR
        clear eT
        refine lv_iload hx hb d_Model_shrink_136 (lv_at hl 0 rfl) ?_
        refine lv_istore_n (lv' := [(3, .int z22), (4, .int z22), (0, .ref (ad 0)), (1, .int x1), (2, .int x2)]) hx hb d_Model_shrink_138 rfl hl (by decide) rfl (fun ls hl => ?_)
        refine lv_goto (tgt := 109) hx hb d_Model_shrink_139 (by decide) ?_
        have g := ih T24 x1 x2 z22 hR
        rw [hG] at g
        exact g _ _ hP hD hS _ (lv_sub hl [2, 3, 4, 0] rfl)
  have lb_38 : ∀ (rec_0 : gSt → Int32 → gR) (hrec_0 : ∀ (T : gSt) (x1 : Int32), rec_0 T x1 = some (r0, rl0, T9) → G 0 [(0, .ref (ad 0)), (1, .int x1)] [] T) (n : Nat) (T : gSt) (x1 : Int32) (x2 : Int32), rl_Model_shrink_38 F nf rec_0 n T x1 x2 = some (r0, rl0, T9) → G 38 [(0, .ref (ad 0)), (1, .int x1), (2, .int x2)] [] T := by
    intro rec_0 hrec_0 n
    induction n with
    | zero => intro T x1 x2 hR; rw [rl_Model_shrink_38] at hR; cases hR
    | succ n ih =>
      intro T x1 x2 hR; rw [rl_Model_shrink_38] at hR; rw [hG]; intro H locs hP hD hS ls hl
      refine lv_iload_n hx hb d_Model_shrink_38 rfl (lv_at hl 2 rfl) ?_
      refine lv_sipush (v := 4096) hx hb d_Model_shrink_39 (by decide) ?_
      refine lv_icmp_ge (tgt := 148) hx hb d_Model_shrink_42 (by decide) (fun c5 => ?_) (fun c5 => ?_)
      · replace hR := if_p c5 hR
        refine lv_goto (tgt := 0) hx hb d_Model_shrink_148 (by decide) ?_
        have g := hrec_0 T x1 hR
        rw [hG] at g
        exact g _ _ hP hD hS _ (lv_sub hl [0, 1] rfl)
      · replace hR := if_n c5 hR
        refine lv_aload_n hx hb d_Model_shrink_45 rfl (lv_at hl 0 rfl) ?_
        refine rd_Model_270 hx hb hT hown hK hP d_Model_shrink_46 ?_
        refine lv_aload_n hx hb d_Model_shrink_49 rfl (lv_at hl 0 rfl) ?_
        refine rd_Model_826 hx hb hT hown hK hP d_Model_shrink_50 ?_
        replace hR := gd_e hR
        obtain ⟨b6, hR⟩ := hR
        refine laM_85 hx hb hK hP b6 d_Model_shrink_53 ?_
        refine lv_if_le (tgt := 148) hx hb d_Model_shrink_54 (by decide) (fun c7 => ?_) (fun c7 => ?_)
        · replace hR := if_p c7 hR
          refine lv_goto (tgt := 0) hx hb d_Model_shrink_148 (by decide) ?_
          have g := hrec_0 T x1 hR
          rw [hG] at g
          exact g _ _ hP hD hS _ (lv_sub hl [0, 1] rfl)
        · replace hR := if_n c7 hR
          refine lv_aload_n hx hb d_Model_shrink_57 rfl (lv_at hl 0 rfl) ?_
          refine rd_Model_273 hx hb hT hown hK hP d_Model_shrink_58 ?_
          refine lv_iload_n hx hb d_Model_shrink_61 rfl (lv_at hl 2 rfl) ?_
          replace hR := gd_e hR
          obtain ⟨b8, hR⟩ := hR
          refine laM_86 hx hb hK hP b8 d_Model_shrink_62 ?_
          refine lv_if_eq (tgt := 142) hx hb d_Model_shrink_63 (by decide) (fun c9 => ?_) (fun c9 => ?_)
          · replace hR := if_p c9 hR
            obtain ⟨z10, e10⟩ : ∃ y : Int32, y = x2 + (1 : Int32) := ⟨_, rfl⟩
            replace hR := vK_e e10 hR
            refine lv_iinc (v := z10) (lv' := [(2, .int z10), (0, .ref (ad 0)), (1, .int x1)]) hx hb d_Model_shrink_142 hl (k := 2) rfl (by rw [e10]; rfl) (by decide) rfl (fun ls hl => ?_)
            refine lv_goto (tgt := 38) hx hb d_Model_shrink_145 (by decide) ?_
            have g := ih T x1 z10 hR
            rw [hG] at g
            exact g _ _ hP hD hS _ (lv_sub hl [1, 2, 0] rfl)
          · replace hR := if_n c9 hR
            refine lv_aload_n hx hb d_Model_shrink_66 rfl (lv_at hl 0 rfl) ?_
            refine rd_Model_282 hx hb hT hown hK hP d_Model_shrink_67 ?_
            refine lv_iload_n hx hb d_Model_shrink_70 rfl (lv_at hl 2 rfl) ?_
            replace hR := gd_e hR
            obtain ⟨b11, hR⟩ := hR
            refine laM_89 hx hb hK hP b11 d_Model_shrink_71 ?_
            refine lv_aload_n hx hb d_Model_shrink_72 rfl (lv_at hl 0 rfl) ?_
            refine rd_Model_826 hx hb hT hown hK hP d_Model_shrink_73 ?_
            refine lv_icmp_eq (tgt := 82) hx hb d_Model_shrink_76 (by decide) (fun c12 => ?_) (fun c12 => ?_)
            · replace hR := if_p c12 hR
              refine lv_aload_n hx hb d_Model_shrink_82 rfl (lv_at hl 0 rfl) ?_
              refine rd_Model_273 hx hb hT hown hK hP d_Model_shrink_83 ?_
              refine lv_iload_n hx hb d_Model_shrink_86 rfl (lv_at hl 2 rfl) ?_
              refine lv_iconst (v := 0) hx hb d_Model_shrink_87 (by decide) ?_
              replace hR := gd_e hR
              obtain ⟨b13, hR⟩ := hR
              refine saM_86 hx hb hK hP hD hS b13 d_Model_shrink_88 (fun T13 eT H locs hP hD hS => ?_)
              replace hR := stK_e eT hR
              clear eT
              refine lv_aload_n hx hb d_Model_shrink_89 rfl (lv_at hl 0 rfl) ?_
              refine rd_Model_270 hx hb hT hown hK hP d_Model_shrink_90 ?_
              refine lv_aload_n hx hb d_Model_shrink_93 rfl (lv_at hl 0 rfl) ?_
              refine rd_Model_826 hx hb hT hown hK hP d_Model_shrink_94 ?_
              refine lv_dup2_11 hx hb d_Model_shrink_97 rfl rfl ?_
              replace hR := gd_e hR
              obtain ⟨b14, hR⟩ := hR
              refine laM_85 hx hb hK hP b14 d_Model_shrink_98 ?_
              refine lv_iconst (v := 1) hx hb d_Model_shrink_99 (by decide) ?_
              refine lv_isub hx hb d_Model_shrink_100 ?_
              replace hR := gd_e hR
              obtain ⟨b15, hR⟩ := hR
              refine saM_85 hx hb hK hP hD hS b15 d_Model_shrink_101 (fun T15 eT H locs hP hD hS => ?_)
              replace hR := stK_e eT hR
              clear eT
              refine lv_aload_n hx hb d_Model_shrink_102 rfl (lv_at hl 0 rfl) ?_
              refine rd_Model_276 hx hb hT hown hK hP d_Model_shrink_103 ?_
              refine lv_iload_n hx hb d_Model_shrink_106 rfl (lv_at hl 2 rfl) ?_
              replace hR := gd_e hR
              obtain ⟨b16, hR⟩ := hR
              refine laM_87 hx hb hK hP b16 d_Model_shrink_107 ?_
              refine lv_topi (fun z17 e17 => ?_)
              replace hR := vK_e e17 hR
              refine lv_istore_n (lv' := [(3, .int z17), (0, .ref (ad 0)), (1, .int x1), (2, .int x2)]) hx hb d_Model_shrink_108 rfl hl (by decide) rfl (fun ls hl => ?_)
              have g := lb_109 rec_0 hrec_0 (rl_Model_shrink_38 F nf rec_0 n) ih nf T15 x1 x2 z17 hR
              rw [hG] at g
              exact g _ _ hP hD hS _ (lv_sub hl [1, 2, 3, 0] rfl)
            · replace hR := if_n c12 hR
              refine lv_goto (tgt := 142) hx hb d_Model_shrink_79 (by decide) ?_
              obtain ⟨z18, e18⟩ : ∃ y : Int32, y = x2 + (1 : Int32) := ⟨_, rfl⟩
              replace hR := vK_e e18 hR
              refine lv_iinc (v := z18) (lv' := [(2, .int z18), (0, .ref (ad 0)), (1, .int x1)]) hx hb d_Model_shrink_142 hl (k := 2) rfl (by rw [e18]; rfl) (by decide) rfl (fun ls hl => ?_)
              refine lv_goto (tgt := 38) hx hb d_Model_shrink_145 (by decide) ?_
              have g := ih T x1 z18 hR
              rw [hG] at g
              exact g _ _ hP hD hS _ (lv_sub hl [1, 2, 0] rfl)
  have lb_0 : ∀ (n : Nat) (T : gSt) (x1 : Int32), rl_Model_shrink_0 F nf n T x1 = some (r0, rl0, T9) → G 0 [(0, .ref (ad 0)), (1, .int x1)] [] T := by
    intro n
    induction n with
    | zero => intro T x1 hR; rw [rl_Model_shrink_0] at hR; cases hR
    | succ n ih =>
      intro T x1 hR; rw [rl_Model_shrink_0] at hR; rw [hG]; intro H locs hP hD hS ls hl
      refine lv_aload_n hx hb d_Model_shrink_0 rfl (lv_at hl 0 rfl) ?_
      refine rd_Model_826 hx hb hT hown hK hP d_Model_shrink_1 ?_
      refine lv_iload_n hx hb d_Model_shrink_4 rfl (lv_at hl 1 rfl) ?_
      refine lv_icmp_le (tgt := 151) hx hb d_Model_shrink_5 (by decide) (fun c1 => ?_) (fun c1 => ?_)
      · replace hR := if_p c1 hR
        obtain ⟨-, -, e3⟩ := re_e hR
        subst e3
        exact W.vret hx hb hr (fun t ht hW => ⟨⟨(), rfl, trivial, by rw [ht]; exact hP, va_K.moved hW.alike hK, hD⟩, hS.F ht⟩) hS.2.2 d_Model_shrink_151
      · replace hR := if_n c1 hR
        refine lv_aload_n hx hb d_Model_shrink_8 rfl (lv_at hl 0 rfl) ?_
        refine lv_dup hx hb d_Model_shrink_9 rfl ?_
        refine rd_Model_826 hx hb hT hown hK hP d_Model_shrink_10 ?_
        refine lv_iconst (v := 1) hx hb d_Model_shrink_13 (by decide) ?_
        refine lv_isub hx hb d_Model_shrink_14 ?_
        refine wr_Model_826 hx hb hT hown hK hP hD hS d_Model_shrink_15 (fun T2 eT H locs hP hD hS => ?_)
        replace hR := stK_e eT hR
        clear eT
        refine lv_aload_n hx hb d_Model_shrink_18 rfl (lv_at hl 0 rfl) ?_
        refine lv_dup hx hb d_Model_shrink_19 rfl ?_
        refine rd_Model_838 hx hb hT hown hK hP d_Model_shrink_20 ?_
        refine lv_aload_n hx hb d_Model_shrink_23 rfl (lv_at hl 0 rfl) ?_
        refine rd_Model_261 hx hb hT hown hK hP d_Model_shrink_24 ?_
        refine lv_aload_n hx hb d_Model_shrink_27 rfl (lv_at hl 0 rfl) ?_
        refine rd_Model_826 hx hb hT hown hK hP d_Model_shrink_28 ?_
        replace hR := gd_e hR
        obtain ⟨b3, hR⟩ := hR
        refine laM_82 hx hb hK hP b3 d_Model_shrink_31 ?_
        refine lv_iadd hx hb d_Model_shrink_32 ?_
        refine wr_Model_838 hx hb hT hown hK hP hD hS d_Model_shrink_33 (fun T4 eT H locs hP hD hS => ?_)
        replace hR := stK_e eT hR
        clear eT
        refine lv_iconst (v := 0) hx hb d_Model_shrink_36 (by decide) ?_
        refine lv_istore_n (lv' := [(2, .int (0 : Int32)), (0, .ref (ad 0)), (1, .int x1)]) hx hb d_Model_shrink_37 rfl hl (by decide) rfl (fun ls hl => ?_)
        have g := lb_38 (rl_Model_shrink_0 F nf n) ih nf T4 x1 (0 : Int32) hR
        rw [hG] at g
        exact g _ _ hP hD hS _ (lv_sub hl [1, 2, 0] rfl)
  unfold rb_Model_shrink at hR
  have g := lb_0 nf T0 p1 hR
  rw [hG] at g
  exact g _ _ hP hD hS _ (lv_sub hl [0, 1] rfl)
