abbrev b_Model_init : ByteArray := prog_14_method_1_code
abbrev y_Model_init : MethodName := ⟨R_Model, "<init>", "()V"⟩
abbrev w_Model_init : List Cond := Cond.code y_Model_init b_Model_init 1 none :: lw_good
theorem co_Model_init : Cond.code y_Model_init b_Model_init 1 none ∈ lw_good := lg_in (tin_8 _ (List.mem_of_getElem? (i := 129) rfl)) rfl
theorem im_Model_init : Cond.instanceMethod y_Model_init ∈ lw_good := lg_right (i := 1808) (by decide +kernel) rfl
theorem d_Model_init_0 : decode b_Model_init 0 = .ok (.aload_n 0, 1) := by decide +kernel
theorem d_Model_init_1 : decode b_Model_init 1 = .ok (.invokespecial 1, 3) := by decide +kernel
theorem ml_Model_1 : Cond.methodLink R_Model 1 objectInit ∈ lw_good := lg_right (i := 1810) (by decide +kernel) rfl
theorem d_Model_init_4 : decode b_Model_init 4 = .ok (.aload_n 0, 1) := by decide +kernel
theorem d_Model_init_5 : decode b_Model_init 5 = .ok (.sipush 4000, 3) := by decide +kernel
theorem d_Model_init_8 : decode b_Model_init 8 = .ok (.newarray .int, 2) := by decide +kernel
theorem d_Model_init_10 : decode b_Model_init 10 = .ok (.putfield 7, 3) := by decide +kernel
theorem d_Model_init_13 : decode b_Model_init 13 = .ok (.aload_n 0, 1) := by decide +kernel
theorem d_Model_init_14 : decode b_Model_init 14 = .ok (.iconst (-1), 1) := by decide +kernel
theorem d_Model_init_15 : decode b_Model_init 15 = .ok (.putfield 13, 3) := by decide +kernel
theorem d_Model_init_18 : decode b_Model_init 18 = .ok (.aload_n 0, 1) := by decide +kernel
theorem d_Model_init_19 : decode b_Model_init 19 = .ok (.bipush 24, 2) := by decide +kernel
theorem d_Model_init_21 : decode b_Model_init 21 = .ok (.newarray .int, 2) := by decide +kernel
theorem d_Model_init_23 : decode b_Model_init 23 = .ok (.putfield 17, 3) := by decide +kernel
theorem d_Model_init_26 : decode b_Model_init 26 = .ok (.aload_n 0, 1) := by decide +kernel
theorem d_Model_init_27 : decode b_Model_init 27 = .ok (.bipush 24, 2) := by decide +kernel
theorem d_Model_init_29 : decode b_Model_init 29 = .ok (.newarray .long, 2) := by decide +kernel
theorem d_Model_init_31 : decode b_Model_init 31 = .ok (.putfield 20, 3) := by decide +kernel
theorem fl_Model_20 : Cond.fieldLink R_Model 20 "PointerHouseModel" "itemName" "[J" ∈ lw_good := lg_right (i := 1824) (by decide +kernel) rfl
theorem d_Model_init_34 : decode b_Model_init 34 = .ok (.aload_n 0, 1) := by decide +kernel
theorem d_Model_init_35 : decode b_Model_init 35 = .ok (.bipush 24, 2) := by decide +kernel
theorem d_Model_init_37 : decode b_Model_init 37 = .ok (.newarray .int, 2) := by decide +kernel
theorem d_Model_init_39 : decode b_Model_init 39 = .ok (.putfield 24, 3) := by decide +kernel
theorem fl_Model_24 : Cond.fieldLink R_Model 24 "PointerHouseModel" "itemPlace" "[I" ∈ lw_good := lg_right (i := 1825) (by decide +kernel) rfl
theorem d_Model_init_42 : decode b_Model_init 42 = .ok (.aload_n 0, 1) := by decide +kernel
theorem d_Model_init_43 : decode b_Model_init 43 = .ok (.bipush 24, 2) := by decide +kernel
theorem d_Model_init_45 : decode b_Model_init 45 = .ok (.newarray .int, 2) := by decide +kernel
theorem d_Model_init_47 : decode b_Model_init 47 = .ok (.putfield 27, 3) := by decide +kernel
theorem fl_Model_27 : Cond.fieldLink R_Model 27 "PointerHouseModel" "regions" "[I" ∈ lw_good := lg_right (i := 1826) (by decide +kernel) rfl
theorem d_Model_init_50 : decode b_Model_init 50 = .ok (.aload_n 0, 1) := by decide +kernel
theorem d_Model_init_51 : decode b_Model_init 51 = .ok (.bipush 72, 2) := by decide +kernel
theorem d_Model_init_53 : decode b_Model_init 53 = .ok (.newarray .long, 2) := by decide +kernel
theorem d_Model_init_55 : decode b_Model_init 55 = .ok (.putfield 30, 3) := by decide +kernel
theorem fl_Model_30 : Cond.fieldLink R_Model 30 "PointerHouseModel" "regionName" "[J" ∈ lw_good := lg_right (i := 1827) (by decide +kernel) rfl
theorem d_Model_init_58 : decode b_Model_init 58 = .ok (.aload_n 0, 1) := by decide +kernel
theorem d_Model_init_59 : decode b_Model_init 59 = .ok (.bipush 72, 2) := by decide +kernel
theorem d_Model_init_61 : decode b_Model_init 61 = .ok (.newarray .int, 2) := by decide +kernel
theorem d_Model_init_63 : decode b_Model_init 63 = .ok (.putfield 33, 3) := by decide +kernel
theorem fl_Model_33 : Cond.fieldLink R_Model 33 "PointerHouseModel" "regionPlace" "[I" ∈ lw_good := lg_right (i := 1828) (by decide +kernel) rfl
theorem d_Model_init_66 : decode b_Model_init 66 = .ok (.aload_n 0, 1) := by decide +kernel
theorem d_Model_init_67 : decode b_Model_init 67 = .ok (.bipush 24, 2) := by decide +kernel
theorem d_Model_init_69 : decode b_Model_init 69 = .ok (.newarray .int, 2) := by decide +kernel
theorem d_Model_init_71 : decode b_Model_init 71 = .ok (.putfield 36, 3) := by decide +kernel
theorem fl_Model_36 : Cond.fieldLink R_Model 36 "PointerHouseModel" "firstField" "[I" ∈ lw_good := lg_right (i := 1829) (by decide +kernel) rfl
theorem d_Model_init_74 : decode b_Model_init 74 = .ok (.aload_n 0, 1) := by decide +kernel
theorem d_Model_init_75 : decode b_Model_init 75 = .ok (.bipush 24, 2) := by decide +kernel
theorem d_Model_init_77 : decode b_Model_init 77 = .ok (.newarray .int, 2) := by decide +kernel
theorem d_Model_init_79 : decode b_Model_init 79 = .ok (.putfield 39, 3) := by decide +kernel
theorem fl_Model_39 : Cond.fieldLink R_Model 39 "PointerHouseModel" "manyFields" "[I" ∈ lw_good := lg_right (i := 1830) (by decide +kernel) rfl
theorem d_Model_init_82 : decode b_Model_init 82 = .ok (.aload_n 0, 1) := by decide +kernel
theorem d_Model_init_83 : decode b_Model_init 83 = .ok (.sipush 220, 3) := by decide +kernel
theorem d_Model_init_86 : decode b_Model_init 86 = .ok (.newarray .long, 2) := by decide +kernel
theorem d_Model_init_88 : decode b_Model_init 88 = .ok (.putfield 42, 3) := by decide +kernel
theorem fl_Model_42 : Cond.fieldLink R_Model 42 "PointerHouseModel" "fieldName" "[J" ∈ lw_good := lg_right (i := 1832) (by decide +kernel) rfl
theorem d_Model_init_91 : decode b_Model_init 91 = .ok (.aload_n 0, 1) := by decide +kernel
theorem d_Model_init_92 : decode b_Model_init 92 = .ok (.sipush 220, 3) := by decide +kernel
theorem d_Model_init_95 : decode b_Model_init 95 = .ok (.newarray .int, 2) := by decide +kernel
theorem d_Model_init_97 : decode b_Model_init 97 = .ok (.putfield 45, 3) := by decide +kernel
theorem fl_Model_45 : Cond.fieldLink R_Model 45 "PointerHouseModel" "fieldPlace" "[I" ∈ lw_good := lg_right (i := 1833) (by decide +kernel) rfl
theorem d_Model_init_100 : decode b_Model_init 100 = .ok (.aload_n 0, 1) := by decide +kernel
theorem d_Model_init_101 : decode b_Model_init 101 = .ok (.sipush 220, 3) := by decide +kernel
theorem d_Model_init_104 : decode b_Model_init 104 = .ok (.newarray .int, 2) := by decide +kernel
theorem d_Model_init_106 : decode b_Model_init 106 = .ok (.putfield 48, 3) := by decide +kernel
theorem fl_Model_48 : Cond.fieldLink R_Model 48 "PointerHouseModel" "fieldNode" "[I" ∈ lw_good := lg_right (i := 1834) (by decide +kernel) rfl
theorem d_Model_init_109 : decode b_Model_init 109 = .ok (.aload_n 0, 1) := by decide +kernel
theorem d_Model_init_110 : decode b_Model_init 110 = .ok (.sipush 220, 3) := by decide +kernel
theorem d_Model_init_113 : decode b_Model_init 113 = .ok (.newarray .int, 2) := by decide +kernel
theorem d_Model_init_115 : decode b_Model_init 115 = .ok (.putfield 51, 3) := by decide +kernel
theorem fl_Model_51 : Cond.fieldLink R_Model 51 "PointerHouseModel" "fieldType" "[I" ∈ lw_good := lg_right (i := 1835) (by decide +kernel) rfl
theorem d_Model_init_118 : decode b_Model_init 118 = .ok (.aload_n 0, 1) := by decide +kernel
theorem d_Model_init_119 : decode b_Model_init 119 = .ok (.bipush 24, 2) := by decide +kernel
theorem d_Model_init_121 : decode b_Model_init 121 = .ok (.newarray .int, 2) := by decide +kernel
theorem d_Model_init_123 : decode b_Model_init 123 = .ok (.putfield 54, 3) := by decide +kernel
theorem fl_Model_54 : Cond.fieldLink R_Model 54 "PointerHouseModel" "resultNode" "[I" ∈ lw_good := lg_right (i := 1836) (by decide +kernel) rfl
theorem d_Model_init_126 : decode b_Model_init 126 = .ok (.aload_n 0, 1) := by decide +kernel
theorem d_Model_init_127 : decode b_Model_init 127 = .ok (.bipush 24, 2) := by decide +kernel
theorem d_Model_init_129 : decode b_Model_init 129 = .ok (.newarray .int, 2) := by decide +kernel
theorem d_Model_init_131 : decode b_Model_init 131 = .ok (.putfield 57, 3) := by decide +kernel
theorem fl_Model_57 : Cond.fieldLink R_Model 57 "PointerHouseModel" "resultType" "[I" ∈ lw_good := lg_right (i := 1837) (by decide +kernel) rfl
theorem d_Model_init_134 : decode b_Model_init 134 = .ok (.aload_n 0, 1) := by decide +kernel
theorem d_Model_init_135 : decode b_Model_init 135 = .ok (.bipush 24, 2) := by decide +kernel
theorem d_Model_init_137 : decode b_Model_init 137 = .ok (.newarray .int, 2) := by decide +kernel
theorem d_Model_init_139 : decode b_Model_init 139 = .ok (.putfield 60, 3) := by decide +kernel
theorem fl_Model_60 : Cond.fieldLink R_Model 60 "PointerHouseModel" "dead" "[I" ∈ lw_good := lg_right (i := 1838) (by decide +kernel) rfl
theorem d_Model_init_142 : decode b_Model_init 142 = .ok (.aload_n 0, 1) := by decide +kernel
theorem d_Model_init_143 : decode b_Model_init 143 = .ok (.bipush 72, 2) := by decide +kernel
theorem d_Model_init_145 : decode b_Model_init 145 = .ok (.newarray .long, 2) := by decide +kernel
theorem d_Model_init_147 : decode b_Model_init 147 = .ok (.putfield 63, 3) := by decide +kernel
