abbrev b_House_end : ByteArray := prog_1_method_4_code
abbrev y_House_end : MethodName := ⟨R_House, "end", "(I)I"⟩
theorem co_House_end : Cond.code y_House_end b_House_end 2 (some .int) ∈ lw_good := lg_in (tin_4 _ (List.mem_of_getElem? (i := 26) rfl)) rfl
abbrev w_House_end : List Cond := Cond.code y_House_end b_House_end 2 (some .int) :: lw_good
theorem im_House_end : Cond.instanceMethod y_House_end ∈ lw_good := lg_right (i := 744) (by decide +kernel) rfl
theorem se_House_end : Cond.selects R_House y_House_end y_House_end ∈ lw_good := lg_right (i := 745) (by decide +kernel) rfl
theorem d_House_end_0 : decode b_House_end 0 = .ok (.iload_n 1, 1) := by decide +kernel
theorem d_House_end_1 : decode b_House_end 1 = .ok (.ifCond .lt 11, 3) := by decide +kernel
theorem d_House_end_4 : decode b_House_end 4 = .ok (.iload_n 1, 1) := by decide +kernel
theorem d_House_end_5 : decode b_House_end 5 = .ok (.aload_n 0, 1) := by decide +kernel
theorem d_House_end_6 : decode b_House_end 6 = .ok (.getfield 83, 3) := by decide +kernel
theorem fl_House_83 : Cond.fieldLink R_House 83 "PointerHouse" "length" "I" ∈ lw_good := lg_right (i := 702) (by decide +kernel) rfl
theorem d_House_end_9 : decode b_House_end 9 = .ok (.if_icmp .le 5, 3) := by decide +kernel
theorem d_House_end_12 : decode b_House_end 12 = .ok (.iconst (-1), 1) := by decide +kernel
theorem d_House_end_13 : decode b_House_end 13 = .ok (.ireturn, 1) := by decide +kernel
theorem d_House_end_14 : decode b_House_end 14 = .ok (.aload_n 0, 1) := by decide +kernel
theorem d_House_end_15 : decode b_House_end 15 = .ok (.iload_n 1, 1) := by decide +kernel
theorem d_House_end_16 : decode b_House_end 16 = .ok (.putfield 83, 3) := by decide +kernel
theorem d_House_end_19 : decode b_House_end 19 = .ok (.iload_n 1, 1) := by decide +kernel
theorem d_House_end_20 : decode b_House_end 20 = .ok (.ireturn, 1) := by decide +kernel
abbrev b_House_build : ByteArray := prog_1_method_5_code
abbrev y_House_build : MethodName := ⟨R_House, "build", "()I"⟩
theorem co_House_build : Cond.code y_House_build b_House_build 1 (some .int) ∈ lw_good := lg_in (tin_4 _ (List.mem_of_getElem? (i := 30) rfl)) rfl
abbrev w_House_build : List Cond := Cond.code y_House_build b_House_build 1 (some .int) :: lw_good
theorem im_House_build : Cond.instanceMethod y_House_build ∈ lw_good := lg_right (i := 748) (by decide +kernel) rfl
theorem se_House_build : Cond.selects R_House y_House_build y_House_build ∈ lw_good := lg_right (i := 749) (by decide +kernel) rfl
theorem d_House_build_0 : decode b_House_build 0 = .ok (.aload_n 0, 1) := by decide +kernel
theorem d_House_build_1 : decode b_House_build 1 = .ok (.iconst 1, 1) := by decide +kernel
theorem d_House_build_2 : decode b_House_build 2 = .ok (.putfield 91, 3) := by decide +kernel
theorem fl_House_91 : Cond.fieldLink R_House 91 "PointerHouse" "built" "Z" ∈ lw_good := lg_right (i := 703) (by decide +kernel) rfl
theorem d_House_build_5 : decode b_House_build 5 = .ok (.aload_n 0, 1) := by decide +kernel
theorem d_House_build_6 : decode b_House_build 6 = .ok (.getfield 79, 3) := by decide +kernel
theorem fl_House_79 : Cond.fieldLink R_House 79 "PointerHouse" "machine" "LPointerHouse$Machine;" ∈ lw_good := lg_right (i := 711) (by decide +kernel) rfl
theorem d_House_build_9 : decode b_House_build 9 = .ok (.invokevirtual 95, 3) := by decide +kernel
theorem ml_House_95 : Cond.methodLink R_House 95 ⟨"PointerHouse$Machine", "halt", "()V"⟩ ∈ lw_good := lg_right (i := 751) (by decide +kernel) rfl
theorem d_House_build_12 : decode b_House_build 12 = .ok (.aload_n 0, 1) := by decide +kernel
theorem d_House_build_13 : decode b_House_build 13 = .ok (.getfield 30, 3) := by decide +kernel
theorem fl_House_30 : Cond.fieldLink R_House 30 "PointerHouse" "code" "LPointerHouse$Code;" ∈ lw_good := lg_right (i := 707) (by decide +kernel) rfl
theorem d_House_build_16 : decode b_House_build 16 = .ok (.invokevirtual 98, 3) := by decide +kernel
theorem ml_House_98 : Cond.methodLink R_House 98 ⟨"PointerHouse$Code", "clear", "()V"⟩ ∈ lw_good := lg_right (i := 755) (by decide +kernel) rfl
theorem d_House_build_19 : decode b_House_build 19 = .ok (.aload_n 0, 1) := by decide +kernel
theorem d_House_build_20 : decode b_House_build 20 = .ok (.getfield 16, 3) := by decide +kernel
theorem fl_House_16 : Cond.fieldLink R_House 16 "PointerHouse" "source" "LPointerHouse$Source;" ∈ lw_good := lg_right (i := 705) (by decide +kernel) rfl
theorem d_House_build_23 : decode b_House_build 23 = .ok (.aload_n 0, 1) := by decide +kernel
theorem d_House_build_24 : decode b_House_build 24 = .ok (.getfield 9, 3) := by decide +kernel
theorem fl_House_9 : Cond.fieldLink R_House 9 "PointerHouse" "text" "[C" ∈ lw_good := lg_right (i := 701) (by decide +kernel) rfl
theorem d_House_build_27 : decode b_House_build 27 = .ok (.aload_n 0, 1) := by decide +kernel
theorem d_House_build_28 : decode b_House_build 28 = .ok (.getfield 83, 3) := by decide +kernel
theorem d_House_build_31 : decode b_House_build 31 = .ok (.invokevirtual 101, 3) := by decide +kernel
theorem ml_House_101 : Cond.methodLink R_House 101 ⟨"PointerHouse$Source", "scan", "([CI)V"⟩ ∈ lw_good := lg_right (i := 762) (by decide +kernel) rfl
theorem d_House_build_34 : decode b_House_build 34 = .ok (.aload_n 0, 1) := by decide +kernel
theorem d_House_build_35 : decode b_House_build 35 = .ok (.getfield 39, 3) := by decide +kernel
theorem fl_House_39 : Cond.fieldLink R_House 39 "PointerHouse" "parser" "LPointerHouse$Parser;" ∈ lw_good := lg_right (i := 708) (by decide +kernel) rfl
theorem d_House_build_38 : decode b_House_build 38 = .ok (.invokevirtual 105, 3) := by decide +kernel
theorem ml_House_105 : Cond.methodLink R_House 105 ⟨"PointerHouse$Parser", "parse", "()V"⟩ ∈ lw_good := lg_right (i := 862) (by decide +kernel) rfl
theorem d_House_build_41 : decode b_House_build 41 = .ok (.aload_n 0, 1) := by decide +kernel
theorem d_House_build_42 : decode b_House_build 42 = .ok (.getfield 30, 3) := by decide +kernel
theorem d_House_build_45 : decode b_House_build 45 = .ok (.invokevirtual 108, 3) := by decide +kernel
theorem ml_House_108 : Cond.methodLink R_House 108 ⟨"PointerHouse$Code", "isSound", "()Z"⟩ ∈ lw_good := lg_right (i := 999) (by decide +kernel) rfl
theorem d_House_build_48 : decode b_House_build 48 = .ok (.ifCond .eq 10, 3) := by decide +kernel
theorem d_House_build_51 : decode b_House_build 51 = .ok (.aload_n 0, 1) := by decide +kernel
theorem d_House_build_52 : decode b_House_build 52 = .ok (.getfield 56, 3) := by decide +kernel
theorem fl_House_56 : Cond.fieldLink R_House 56 "PointerHouse" "heads" "LPointerHouse$Heads;" ∈ lw_good := lg_right (i := 709) (by decide +kernel) rfl
theorem d_House_build_55 : decode b_House_build 55 = .ok (.invokevirtual 112, 3) := by decide +kernel
theorem ml_House_112 : Cond.methodLink R_House 112 ⟨"PointerHouse$Heads", "check", "()V"⟩ ∈ lw_good := lg_right (i := 1003) (by decide +kernel) rfl
theorem d_House_build_58 : decode b_House_build 58 = .ok (.aload_n 0, 1) := by decide +kernel
theorem d_House_build_59 : decode b_House_build 59 = .ok (.getfield 30, 3) := by decide +kernel
theorem d_House_build_62 : decode b_House_build 62 = .ok (.invokevirtual 108, 3) := by decide +kernel
theorem d_House_build_65 : decode b_House_build 65 = .ok (.ifCond .eq 10, 3) := by decide +kernel
theorem d_House_build_68 : decode b_House_build 68 = .ok (.aload_n 0, 1) := by decide +kernel
theorem d_House_build_69 : decode b_House_build 69 = .ok (.getfield 70, 3) := by decide +kernel
theorem fl_House_70 : Cond.fieldLink R_House 70 "PointerHouse" "steps" "LPointerHouse$Steps;" ∈ lw_good := lg_right (i := 710) (by decide +kernel) rfl
theorem d_House_build_72 : decode b_House_build 72 = .ok (.invokevirtual 115, 3) := by decide +kernel
theorem ml_House_115 : Cond.methodLink R_House 115 ⟨"PointerHouse$Steps", "check", "()V"⟩ ∈ lw_good := lg_right (i := 1127) (by decide +kernel) rfl
theorem d_House_build_75 : decode b_House_build 75 = .ok (.aload_n 0, 1) := by decide +kernel
theorem d_House_build_76 : decode b_House_build 76 = .ok (.iconst 0, 1) := by decide +kernel
theorem d_House_build_77 : decode b_House_build 77 = .ok (.putfield 83, 3) := by decide +kernel
theorem d_House_build_80 : decode b_House_build 80 = .ok (.aload_n 0, 1) := by decide +kernel
theorem d_House_build_81 : decode b_House_build 81 = .ok (.aload_n 0, 1) := by decide +kernel
theorem d_House_build_82 : decode b_House_build 82 = .ok (.getfield 30, 3) := by decide +kernel
theorem d_House_build_85 : decode b_House_build 85 = .ok (.invokevirtual 108, 3) := by decide +kernel
theorem d_House_build_88 : decode b_House_build 88 = .ok (.putfield 116, 3) := by decide +kernel
theorem fl_House_116 : Cond.fieldLink R_House 116 "PointerHouse" "ready" "Z" ∈ lw_good := lg_right (i := 704) (by decide +kernel) rfl
theorem d_House_build_91 : decode b_House_build 91 = .ok (.aload_n 0, 1) := by decide +kernel
theorem d_House_build_92 : decode b_House_build 92 = .ok (.getfield 116, 3) := by decide +kernel
theorem d_House_build_95 : decode b_House_build 95 = .ok (.ifCond .eq 13, 3) := by decide +kernel
theorem d_House_build_98 : decode b_House_build 98 = .ok (.aload_n 0, 1) := by decide +kernel
theorem d_House_build_99 : decode b_House_build 99 = .ok (.getfield 23, 3) := by decide +kernel
theorem fl_House_23 : Cond.fieldLink R_House 23 "PointerHouse" "items" "LPointerHouse$Items;" ∈ lw_good := lg_right (i := 706) (by decide +kernel) rfl
theorem d_House_build_102 : decode b_House_build 102 = .ok (.getfield 119, 3) := by decide +kernel
theorem fl_House_119 : Cond.fieldLink R_House 119 "PointerHouse$Items" "count" "I" ∈ lw_good := lg_right (i := 272) (by decide +kernel) rfl
theorem d_House_build_105 : decode b_House_build 105 = .ok (.goto 4, 3) := by decide +kernel
theorem d_House_build_108 : decode b_House_build 108 = .ok (.iconst (-1), 1) := by decide +kernel
theorem d_House_build_109 : decode b_House_build 109 = .ok (.ireturn, 1) := by decide +kernel
abbrev b_Machine_halt : ByteArray := prog_6_method_2_code
abbrev y_Machine_halt : MethodName := ⟨R_Machine, "halt", "()V"⟩
theorem co_Machine_halt : Cond.code y_Machine_halt b_Machine_halt 1 none ∈ lw_good := lg_in (tin_4 _ (List.mem_of_getElem? (i := 34) rfl)) rfl
abbrev w_Machine_halt : List Cond := Cond.code y_Machine_halt b_Machine_halt 1 none :: lw_good
theorem im_Machine_halt : Cond.instanceMethod y_Machine_halt ∈ lw_good := lg_right (i := 752) (by decide +kernel) rfl
theorem se_Machine_halt : Cond.selects R_Machine y_Machine_halt y_Machine_halt ∈ lw_good := lg_right (i := 753) (by decide +kernel) rfl
theorem d_Machine_halt_0 : decode b_Machine_halt 0 = .ok (.aload_n 0, 1) := by decide +kernel
theorem d_Machine_halt_1 : decode b_Machine_halt 1 = .ok (.iconst 0, 1) := by decide +kernel
theorem d_Machine_halt_2 : decode b_Machine_halt 2 = .ok (.putfield 44, 3) := by decide +kernel
theorem fl_Machine_44 : Cond.fieldLink R_Machine 44 "PointerHouse$Machine" "state" "I" ∈ lw_good := lg_right (i := 654) (by decide +kernel) rfl
theorem d_Machine_halt_5 : decode b_Machine_halt 5 = .ok (.return_, 1) := by decide +kernel
abbrev b_Code_clear : ByteArray := prog_2_method_2_code
abbrev y_Code_clear : MethodName := ⟨R_Code, "clear", "()V"⟩
theorem co_Code_clear : Cond.code y_Code_clear b_Code_clear 1 none ∈ lw_good := lg_in (tin_4 _ (List.mem_of_getElem? (i := 38) rfl)) rfl
abbrev w_Code_clear : List Cond := Cond.code y_Code_clear b_Code_clear 1 none :: lw_good
theorem im_Code_clear : Cond.instanceMethod y_Code_clear ∈ lw_good := lg_right (i := 756) (by decide +kernel) rfl
theorem se_Code_clear : Cond.selects R_Code y_Code_clear y_Code_clear ∈ lw_good := lg_right (i := 757) (by decide +kernel) rfl
theorem d_Code_clear_0 : decode b_Code_clear 0 = .ok (.aload_n 0, 1) := by decide +kernel
theorem d_Code_clear_1 : decode b_Code_clear 1 = .ok (.iconst 0, 1) := by decide +kernel
theorem d_Code_clear_2 : decode b_Code_clear 2 = .ok (.putfield 28, 3) := by decide +kernel
theorem fl_Code_28 : Cond.fieldLink R_Code 28 "PointerHouse$Code" "count" "I" ∈ lw_good := lg_right (i := 388) (by decide +kernel) rfl
theorem d_Code_clear_5 : decode b_Code_clear 5 = .ok (.aload_n 0, 1) := by decide +kernel
theorem d_Code_clear_6 : decode b_Code_clear 6 = .ok (.getfield 21, 3) := by decide +kernel
theorem fl_Code_21 : Cond.fieldLink R_Code 21 "PointerHouse$Code" "counts" "[I" ∈ lw_good := lg_right (i := 389) (by decide +kernel) rfl
theorem d_Code_clear_9 : decode b_Code_clear 9 = .ok (.iconst 0, 1) := by decide +kernel
theorem d_Code_clear_10 : decode b_Code_clear 10 = .ok (.invokestatic 31, 3) := by decide +kernel
theorem ml_Code_31 : Cond.methodLink R_Code 31 ⟨"java/util/Arrays", "fill", "([II)V"⟩ ∈ lw_good := lg_right (i := 759) (by decide +kernel) rfl
theorem d_Code_clear_13 : decode b_Code_clear 13 = .ok (.aload_n 0, 1) := by decide +kernel
theorem d_Code_clear_14 : decode b_Code_clear 14 = .ok (.iconst 0, 1) := by decide +kernel
theorem d_Code_clear_15 : decode b_Code_clear 15 = .ok (.putfield 37, 3) := by decide +kernel
theorem fl_Code_37 : Cond.fieldLink R_Code 37 "PointerHouse$Code" "faultKind" "I" ∈ lw_good := lg_right (i := 391) (by decide +kernel) rfl
theorem d_Code_clear_18 : decode b_Code_clear 18 = .ok (.aload_n 0, 1) := by decide +kernel
theorem d_Code_clear_19 : decode b_Code_clear 19 = .ok (.iconst (-1), 1) := by decide +kernel
theorem d_Code_clear_20 : decode b_Code_clear 20 = .ok (.putfield 24, 3) := by decide +kernel
theorem fl_Code_24 : Cond.fieldLink R_Code 24 "PointerHouse$Code" "faultPlace" "I" ∈ lw_good := lg_right (i := 393) (by decide +kernel) rfl
theorem d_Code_clear_23 : decode b_Code_clear 23 = .ok (.return_, 1) := by decide +kernel
abbrev b_Source_scan : ByteArray := prog_10_method_3_code
abbrev y_Source_scan : MethodName := ⟨R_Source, "scan", "([CI)V"⟩
theorem co_Source_scan : Cond.code y_Source_scan b_Source_scan 4 none ∈ lw_good := lg_in (tin_4 _ (List.mem_of_getElem? (i := 45) rfl)) rfl
abbrev w_Source_scan : List Cond := Cond.code y_Source_scan b_Source_scan 4 none :: lw_good
theorem im_Source_scan : Cond.instanceMethod y_Source_scan ∈ lw_good := lg_right (i := 763) (by decide +kernel) rfl
theorem se_Source_scan : Cond.selects R_Source y_Source_scan y_Source_scan ∈ lw_good := lg_right (i := 764) (by decide +kernel) rfl
theorem d_Source_scan_0 : decode b_Source_scan 0 = .ok (.aload_n 0, 1) := by decide +kernel
theorem d_Source_scan_1 : decode b_Source_scan 1 = .ok (.aload_n 1, 1) := by decide +kernel
theorem d_Source_scan_2 : decode b_Source_scan 2 = .ok (.putfield 73, 3) := by decide +kernel
theorem fl_Source_73 : Cond.fieldLink R_Source 73 "PointerHouse$Source" "text" "[C" ∈ lw_good := lg_right (i := 222) (by decide +kernel) rfl
theorem d_Source_scan_5 : decode b_Source_scan 5 = .ok (.aload_n 0, 1) := by decide +kernel
theorem d_Source_scan_6 : decode b_Source_scan 6 = .ok (.iload_n 2, 1) := by decide +kernel
theorem d_Source_scan_7 : decode b_Source_scan 7 = .ok (.aload_n 1, 1) := by decide +kernel
theorem d_Source_scan_8 : decode b_Source_scan 8 = .ok (.arraylength, 1) := by decide +kernel
theorem d_Source_scan_9 : decode b_Source_scan 9 = .ok (.invokestatic 77, 3) := by decide +kernel
theorem ml_Source_77 : Cond.methodLink R_Source 77 ⟨"java/lang/Math", "min", "(II)I"⟩ ∈ lw_good := lg_right (i := 766) (by decide +kernel) rfl
theorem d_Source_scan_12 : decode b_Source_scan 12 = .ok (.putfield 83, 3) := by decide +kernel
theorem fl_Source_83 : Cond.fieldLink R_Source 83 "PointerHouse$Source" "length" "I" ∈ lw_good := lg_right (i := 224) (by decide +kernel) rfl
theorem d_Source_scan_15 : decode b_Source_scan 15 = .ok (.aload_n 0, 1) := by decide +kernel
theorem d_Source_scan_16 : decode b_Source_scan 16 = .ok (.iconst 0, 1) := by decide +kernel
theorem d_Source_scan_17 : decode b_Source_scan 17 = .ok (.putfield 86, 3) := by decide +kernel
theorem fl_Source_86 : Cond.fieldLink R_Source 86 "PointerHouse$Source" "tokens" "I" ∈ lw_good := lg_right (i := 228) (by decide +kernel) rfl
theorem d_Source_scan_20 : decode b_Source_scan 20 = .ok (.iconst 0, 1) := by decide +kernel
theorem d_Source_scan_21 : decode b_Source_scan 21 = .ok (.istore_n 3, 1) := by decide +kernel
theorem d_Source_scan_22 : decode b_Source_scan 22 = .ok (.iload_n 3, 1) := by decide +kernel
theorem d_Source_scan_23 : decode b_Source_scan 23 = .ok (.aload_n 0, 1) := by decide +kernel
theorem d_Source_scan_24 : decode b_Source_scan 24 = .ok (.getfield 83, 3) := by decide +kernel
theorem d_Source_scan_27 : decode b_Source_scan 27 = .ok (.if_icmp .ge 18, 3) := by decide +kernel
theorem d_Source_scan_30 : decode b_Source_scan 30 = .ok (.iload_n 3, 1) := by decide +kernel
theorem d_Source_scan_31 : decode b_Source_scan 31 = .ok (.iconst 1, 1) := by decide +kernel
theorem d_Source_scan_32 : decode b_Source_scan 32 = .ok (.iadd, 1) := by decide +kernel
theorem d_Source_scan_33 : decode b_Source_scan 33 = .ok (.aload_n 0, 1) := by decide +kernel
theorem d_Source_scan_34 : decode b_Source_scan 34 = .ok (.iload_n 3, 1) := by decide +kernel
theorem d_Source_scan_35 : decode b_Source_scan 35 = .ok (.invokevirtual 89, 3) := by decide +kernel
theorem ml_Source_89 : Cond.methodLink R_Source 89 ⟨"PointerHouse$Source", "scanToken", "(I)I"⟩ ∈ lw_good := lg_right (i := 767) (by decide +kernel) rfl
theorem d_Source_scan_38 : decode b_Source_scan 38 = .ok (.invokestatic 93, 3) := by decide +kernel
theorem ml_Source_93 : Cond.methodLink R_Source 93 ⟨"java/lang/Math", "max", "(II)I"⟩ ∈ lw_good := lg_right (i := 857) (by decide +kernel) rfl
theorem d_Source_scan_41 : decode b_Source_scan 41 = .ok (.istore_n 3, 1) := by decide +kernel
theorem d_Source_scan_42 : decode b_Source_scan 42 = .ok (.goto (-20), 3) := by decide +kernel
theorem d_Source_scan_45 : decode b_Source_scan 45 = .ok (.aload_n 0, 1) := by decide +kernel
theorem d_Source_scan_46 : decode b_Source_scan 46 = .ok (.getfield 36, 3) := by decide +kernel
theorem fl_Source_36 : Cond.fieldLink R_Source 36 "PointerHouse$Source" "tokenKind" "[I" ∈ lw_good := lg_right (i := 225) (by decide +kernel) rfl
theorem d_Source_scan_49 : decode b_Source_scan 49 = .ok (.aload_n 0, 1) := by decide +kernel
theorem d_Source_scan_50 : decode b_Source_scan 50 = .ok (.getfield 86, 3) := by decide +kernel
theorem d_Source_scan_53 : decode b_Source_scan 53 = .ok (.iconst 0, 1) := by decide +kernel
theorem d_Source_scan_54 : decode b_Source_scan 54 = .ok (.iastore, 1) := by decide +kernel
theorem d_Source_scan_55 : decode b_Source_scan 55 = .ok (.aload_n 0, 1) := by decide +kernel
theorem d_Source_scan_56 : decode b_Source_scan 56 = .ok (.getfield 39, 3) := by decide +kernel
theorem fl_Source_39 : Cond.fieldLink R_Source 39 "PointerHouse$Source" "tokenStart" "[I" ∈ lw_good := lg_right (i := 226) (by decide +kernel) rfl
theorem d_Source_scan_59 : decode b_Source_scan 59 = .ok (.aload_n 0, 1) := by decide +kernel
theorem d_Source_scan_60 : decode b_Source_scan 60 = .ok (.getfield 86, 3) := by decide +kernel
theorem d_Source_scan_63 : decode b_Source_scan 63 = .ok (.aload_n 0, 1) := by decide +kernel
theorem d_Source_scan_64 : decode b_Source_scan 64 = .ok (.getfield 83, 3) := by decide +kernel
theorem d_Source_scan_67 : decode b_Source_scan 67 = .ok (.iastore, 1) := by decide +kernel
theorem d_Source_scan_68 : decode b_Source_scan 68 = .ok (.aload_n 0, 1) := by decide +kernel
theorem d_Source_scan_69 : decode b_Source_scan 69 = .ok (.iconst 0, 1) := by decide +kernel
theorem d_Source_scan_70 : decode b_Source_scan 70 = .ok (.putfield 96, 3) := by decide +kernel
theorem fl_Source_96 : Cond.fieldLink R_Source 96 "PointerHouse$Source" "nodes" "I" ∈ lw_good := lg_right (i := 221) (by decide +kernel) rfl
theorem d_Source_scan_73 : decode b_Source_scan 73 = .ok (.aload_n 0, 1) := by decide +kernel
theorem d_Source_scan_74 : decode b_Source_scan 74 = .ok (.iconst 0, 1) := by decide +kernel
theorem d_Source_scan_75 : decode b_Source_scan 75 = .ok (.iconst 0, 1) := by decide +kernel
theorem d_Source_scan_76 : decode b_Source_scan 76 = .ok (.invokevirtual 99, 3) := by decide +kernel
theorem ml_Source_99 : Cond.methodLink R_Source 99 ⟨"PointerHouse$Source", "addNode", "(II)I"⟩ ∈ lw_good := lg_right (i := 858) (by decide +kernel) rfl
theorem d_Source_scan_79 : decode b_Source_scan 79 = .ok (.pop, 1) := by decide +kernel
theorem d_Source_scan_80 : decode b_Source_scan 80 = .ok (.return_, 1) := by decide +kernel
abbrev b_Parser_parse : ByteArray := prog_8_method_2_code
abbrev y_Parser_parse : MethodName := ⟨R_Parser, "parse", "()V"⟩
theorem co_Parser_parse : Cond.code y_Parser_parse b_Parser_parse 2 none ∈ lw_good := lg_in (tin_4 _ (List.mem_of_getElem? (i := 145) rfl)) rfl
abbrev w_Parser_parse : List Cond := Cond.code y_Parser_parse b_Parser_parse 2 none :: lw_good
theorem im_Parser_parse : Cond.instanceMethod y_Parser_parse ∈ lw_good := lg_right (i := 863) (by decide +kernel) rfl
theorem se_Parser_parse : Cond.selects R_Parser y_Parser_parse y_Parser_parse ∈ lw_good := lg_right (i := 864) (by decide +kernel) rfl
theorem d_Parser_parse_0 : decode b_Parser_parse 0 = .ok (.aload_n 0, 1) := by decide +kernel
theorem d_Parser_parse_1 : decode b_Parser_parse 1 = .ok (.iconst 0, 1) := by decide +kernel
theorem d_Parser_parse_2 : decode b_Parser_parse 2 = .ok (.putfield 23, 3) := by decide +kernel
theorem fl_Parser_23 : Cond.fieldLink R_Parser 23 "PointerHouse$Parser" "at" "I" ∈ lw_good := lg_right (i := 419) (by decide +kernel) rfl
theorem d_Parser_parse_5 : decode b_Parser_parse 5 = .ok (.aload_n 0, 1) := by decide +kernel
theorem d_Parser_parse_6 : decode b_Parser_parse 6 = .ok (.aload_n 0, 1) := by decide +kernel
theorem d_Parser_parse_7 : decode b_Parser_parse 7 = .ok (.getfield 9, 3) := by decide +kernel
theorem fl_Parser_9 : Cond.fieldLink R_Parser 9 "PointerHouse$Parser" "source" "LPointerHouse$Source;" ∈ lw_good := lg_right (i := 416) (by decide +kernel) rfl
theorem d_Parser_parse_10 : decode b_Parser_parse 10 = .ok (.aload_n 0, 1) := by decide +kernel
theorem d_Parser_parse_11 : decode b_Parser_parse 11 = .ok (.getfield 23, 3) := by decide +kernel
theorem d_Parser_parse_14 : decode b_Parser_parse 14 = .ok (.invokevirtual 27, 3) := by decide +kernel
theorem ml_Parser_27 : Cond.methodLink R_Parser 27 ⟨"PointerHouse$Source", "kindAt", "(I)I"⟩ ∈ lw_good := lg_right (i := 866) (by decide +kernel) rfl
theorem d_Parser_parse_17 : decode b_Parser_parse 17 = .ok (.putfield 33, 3) := by decide +kernel
theorem fl_Parser_33 : Cond.fieldLink R_Parser 33 "PointerHouse$Parser" "look" "I" ∈ lw_good := lg_right (i := 420) (by decide +kernel) rfl
theorem d_Parser_parse_20 : decode b_Parser_parse 20 = .ok (.aload_n 0, 1) := by decide +kernel
theorem d_Parser_parse_21 : decode b_Parser_parse 21 = .ok (.iconst 0, 1) := by decide +kernel
theorem d_Parser_parse_22 : decode b_Parser_parse 22 = .ok (.putfield 36, 3) := by decide +kernel
theorem fl_Parser_36 : Cond.fieldLink R_Parser 36 "PointerHouse$Parser" "stopped" "Z" ∈ lw_good := lg_right (i := 421) (by decide +kernel) rfl
theorem d_Parser_parse_25 : decode b_Parser_parse 25 = .ok (.aload_n 0, 1) := by decide +kernel
theorem d_Parser_parse_26 : decode b_Parser_parse 26 = .ok (.getfield 15, 3) := by decide +kernel
theorem fl_Parser_15 : Cond.fieldLink R_Parser 15 "PointerHouse$Parser" "items" "LPointerHouse$Items;" ∈ lw_good := lg_right (i := 417) (by decide +kernel) rfl
theorem d_Parser_parse_29 : decode b_Parser_parse 29 = .ok (.iconst 0, 1) := by decide +kernel
theorem d_Parser_parse_30 : decode b_Parser_parse 30 = .ok (.putfield 40, 3) := by decide +kernel
theorem fl_Parser_40 : Cond.fieldLink R_Parser 40 "PointerHouse$Items" "count" "I" ∈ lw_good := lg_right (i := 271) (by decide +kernel) rfl
theorem d_Parser_parse_33 : decode b_Parser_parse 33 = .ok (.iconst 0, 1) := by decide +kernel
theorem d_Parser_parse_34 : decode b_Parser_parse 34 = .ok (.istore_n 1, 1) := by decide +kernel
theorem d_Parser_parse_35 : decode b_Parser_parse 35 = .ok (.iload_n 1, 1) := by decide +kernel
theorem d_Parser_parse_36 : decode b_Parser_parse 36 = .ok (.bipush 24, 2) := by decide +kernel
theorem d_Parser_parse_38 : decode b_Parser_parse 38 = .ok (.if_icmp .gt 73, 3) := by decide +kernel
theorem d_Parser_parse_41 : decode b_Parser_parse 41 = .ok (.aload_n 0, 1) := by decide +kernel
theorem d_Parser_parse_42 : decode b_Parser_parse 42 = .ok (.getfield 36, 3) := by decide +kernel
theorem d_Parser_parse_45 : decode b_Parser_parse 45 = .ok (.ifCond .ne 66, 3) := by decide +kernel
theorem d_Parser_parse_48 : decode b_Parser_parse 48 = .ok (.iload_n 1, 1) := by decide +kernel
theorem d_Parser_parse_49 : decode b_Parser_parse 49 = .ok (.ifCond .eq 10, 3) := by decide +kernel
theorem d_Parser_parse_52 : decode b_Parser_parse 52 = .ok (.aload_n 0, 1) := by decide +kernel
theorem d_Parser_parse_53 : decode b_Parser_parse 53 = .ok (.getfield 33, 3) := by decide +kernel
theorem d_Parser_parse_56 : decode b_Parser_parse 56 = .ok (.ifCond .eq 55, 3) := by decide +kernel
theorem d_Parser_parse_59 : decode b_Parser_parse 59 = .ok (.aload_n 0, 1) := by decide +kernel
theorem d_Parser_parse_60 : decode b_Parser_parse 60 = .ok (.iload_n 1, 1) := by decide +kernel
theorem d_Parser_parse_61 : decode b_Parser_parse 61 = .ok (.invokevirtual 45, 3) := by decide +kernel
theorem ml_Parser_45 : Cond.methodLink R_Parser 45 ⟨"PointerHouse$Parser", "parseHead", "(I)V"⟩ ∈ lw_good := lg_right (i := 870) (by decide +kernel) rfl
theorem d_Parser_parse_64 : decode b_Parser_parse 64 = .ok (.aload_n 0, 1) := by decide +kernel
theorem d_Parser_parse_65 : decode b_Parser_parse 65 = .ok (.getfield 36, 3) := by decide +kernel
theorem d_Parser_parse_68 : decode b_Parser_parse 68 = .ok (.ifCond .ne 25, 3) := by decide +kernel
theorem d_Parser_parse_71 : decode b_Parser_parse 71 = .ok (.aload_n 0, 1) := by decide +kernel
theorem d_Parser_parse_72 : decode b_Parser_parse 72 = .ok (.getfield 15, 3) := by decide +kernel
theorem d_Parser_parse_75 : decode b_Parser_parse 75 = .ok (.getfield 49, 3) := by decide +kernel
theorem fl_Parser_49 : Cond.fieldLink R_Parser 49 "PointerHouse$Items" "kind" "[I" ∈ lw_good := lg_right (i := 278) (by decide +kernel) rfl
theorem d_Parser_parse_78 : decode b_Parser_parse 78 = .ok (.iload_n 1, 1) := by decide +kernel
theorem d_Parser_parse_79 : decode b_Parser_parse 79 = .ok (.iaload, 1) := by decide +kernel
theorem d_Parser_parse_80 : decode b_Parser_parse 80 = .ok (.bipush 12, 2) := by decide +kernel
theorem d_Parser_parse_82 : decode b_Parser_parse 82 = .ok (.if_icmp .ne 11, 3) := by decide +kernel
theorem d_Parser_parse_85 : decode b_Parser_parse 85 = .ok (.aload_n 0, 1) := by decide +kernel
theorem d_Parser_parse_86 : decode b_Parser_parse 86 = .ok (.iload_n 1, 1) := by decide +kernel
theorem d_Parser_parse_87 : decode b_Parser_parse 87 = .ok (.invokevirtual 53, 3) := by decide +kernel
theorem ml_Parser_53 : Cond.methodLink R_Parser 53 ⟨"PointerHouse$Parser", "parseFun", "(I)V"⟩ ∈ lw_good := lg_right (i := 902) (by decide +kernel) rfl
theorem d_Parser_parse_90 : decode b_Parser_parse 90 = .ok (.goto 15, 3) := by decide +kernel
theorem d_Parser_parse_93 : decode b_Parser_parse 93 = .ok (.aload_n 0, 1) := by decide +kernel
theorem d_Parser_parse_94 : decode b_Parser_parse 94 = .ok (.getfield 36, 3) := by decide +kernel
theorem d_Parser_parse_97 : decode b_Parser_parse 97 = .ok (.ifCond .ne 8, 3) := by decide +kernel
theorem d_Parser_parse_100 : decode b_Parser_parse 100 = .ok (.aload_n 0, 1) := by decide +kernel
theorem d_Parser_parse_101 : decode b_Parser_parse 101 = .ok (.iload_n 1, 1) := by decide +kernel
theorem d_Parser_parse_102 : decode b_Parser_parse 102 = .ok (.invokevirtual 56, 3) := by decide +kernel
theorem ml_Parser_56 : Cond.methodLink R_Parser 56 ⟨"PointerHouse$Parser", "parseFields", "(I)V"⟩ ∈ lw_good := lg_right (i := 995) (by decide +kernel) rfl
theorem d_Parser_parse_105 : decode b_Parser_parse 105 = .ok (.iinc 1 1, 3) := by decide +kernel
theorem d_Parser_parse_108 : decode b_Parser_parse 108 = .ok (.goto (-73), 3) := by decide +kernel
theorem d_Parser_parse_111 : decode b_Parser_parse 111 = .ok (.return_, 1) := by decide +kernel
abbrev b_Code_isSound : ByteArray := prog_2_method_4_code
abbrev y_Code_isSound : MethodName := ⟨R_Code, "isSound", "()Z"⟩
theorem co_Code_isSound : Cond.code y_Code_isSound b_Code_isSound 1 (some .boolean) ∈ lw_good := lg_in (tin_5 _ (List.mem_of_getElem? (i := 42) rfl)) rfl
abbrev w_Code_isSound : List Cond := Cond.code y_Code_isSound b_Code_isSound 1 (some .boolean) :: lw_good
theorem im_Code_isSound : Cond.instanceMethod y_Code_isSound ∈ lw_good := lg_right (i := 1000) (by decide +kernel) rfl
theorem se_Code_isSound : Cond.selects R_Code y_Code_isSound y_Code_isSound ∈ lw_good := lg_right (i := 1001) (by decide +kernel) rfl
theorem d_Code_isSound_0 : decode b_Code_isSound 0 = .ok (.aload_n 0, 1) := by decide +kernel
theorem d_Code_isSound_1 : decode b_Code_isSound 1 = .ok (.getfield 37, 3) := by decide +kernel
theorem d_Code_isSound_4 : decode b_Code_isSound 4 = .ok (.ifCond .ne 7, 3) := by decide +kernel
theorem d_Code_isSound_7 : decode b_Code_isSound 7 = .ok (.iconst 1, 1) := by decide +kernel
theorem d_Code_isSound_8 : decode b_Code_isSound 8 = .ok (.goto 4, 3) := by decide +kernel
theorem d_Code_isSound_11 : decode b_Code_isSound 11 = .ok (.iconst 0, 1) := by decide +kernel
theorem d_Code_isSound_12 : decode b_Code_isSound 12 = .ok (.ireturn, 1) := by decide +kernel
abbrev b_Steps_check : ByteArray := prog_11_method_2_code
abbrev y_Steps_check : MethodName := ⟨R_Steps, "check", "()V"⟩
theorem co_Steps_check : Cond.code y_Steps_check b_Steps_check 2 none ∈ lw_good := lg_in (tin_5 _ (List.mem_of_getElem? (i := 170) rfl)) rfl
abbrev w_Steps_check : List Cond := Cond.code y_Steps_check b_Steps_check 2 none :: lw_good
theorem im_Steps_check : Cond.instanceMethod y_Steps_check ∈ lw_good := lg_right (i := 1128) (by decide +kernel) rfl
theorem se_Steps_check : Cond.selects R_Steps y_Steps_check y_Steps_check ∈ lw_good := lg_right (i := 1129) (by decide +kernel) rfl
theorem d_Steps_check_0 : decode b_Steps_check 0 = .ok (.iconst 0, 1) := by decide +kernel
theorem d_Steps_check_1 : decode b_Steps_check 1 = .ok (.istore_n 1, 1) := by decide +kernel
theorem d_Steps_check_2 : decode b_Steps_check 2 = .ok (.iload_n 1, 1) := by decide +kernel
theorem d_Steps_check_3 : decode b_Steps_check 3 = .ok (.aload_n 0, 1) := by decide +kernel
theorem d_Steps_check_4 : decode b_Steps_check 4 = .ok (.getfield 15, 3) := by decide +kernel
theorem fl_Steps_15 : Cond.fieldLink R_Steps 15 "PointerHouse$Steps" "items" "LPointerHouse$Items;" ∈ lw_good := lg_right (i := 566) (by decide +kernel) rfl
theorem d_Steps_check_7 : decode b_Steps_check 7 = .ok (.getfield 43, 3) := by decide +kernel
theorem fl_Steps_43 : Cond.fieldLink R_Steps 43 "PointerHouse$Items" "count" "I" ∈ lw_good := lg_right (i := 269) (by decide +kernel) rfl
theorem d_Steps_check_10 : decode b_Steps_check 10 = .ok (.if_icmp .ge 28, 3) := by decide +kernel
theorem d_Steps_check_13 : decode b_Steps_check 13 = .ok (.aload_n 0, 1) := by decide +kernel
theorem d_Steps_check_14 : decode b_Steps_check 14 = .ok (.getfield 15, 3) := by decide +kernel
theorem d_Steps_check_17 : decode b_Steps_check 17 = .ok (.getfield 49, 3) := by decide +kernel
theorem fl_Steps_49 : Cond.fieldLink R_Steps 49 "PointerHouse$Items" "kind" "[I" ∈ lw_good := lg_right (i := 276) (by decide +kernel) rfl
theorem d_Steps_check_20 : decode b_Steps_check 20 = .ok (.iload_n 1, 1) := by decide +kernel
theorem d_Steps_check_21 : decode b_Steps_check 21 = .ok (.iaload, 1) := by decide +kernel
theorem d_Steps_check_22 : decode b_Steps_check 22 = .ok (.bipush 12, 2) := by decide +kernel
theorem d_Steps_check_24 : decode b_Steps_check 24 = .ok (.if_icmp .ne 8, 3) := by decide +kernel
theorem d_Steps_check_27 : decode b_Steps_check 27 = .ok (.aload_n 0, 1) := by decide +kernel
theorem d_Steps_check_28 : decode b_Steps_check 28 = .ok (.iload_n 1, 1) := by decide +kernel
theorem d_Steps_check_29 : decode b_Steps_check 29 = .ok (.invokevirtual 53, 3) := by decide +kernel
theorem ml_Steps_53 : Cond.methodLink R_Steps 53 ⟨"PointerHouse$Steps", "checkFun", "(I)V"⟩ ∈ lw_good := lg_right (i := 1131) (by decide +kernel) rfl
theorem d_Steps_check_32 : decode b_Steps_check 32 = .ok (.iinc 1 1, 3) := by decide +kernel
theorem d_Steps_check_35 : decode b_Steps_check 35 = .ok (.goto (-33), 3) := by decide +kernel
theorem d_Steps_check_38 : decode b_Steps_check 38 = .ok (.return_, 1) := by decide +kernel
abbrev b_Heads_check : ByteArray := prog_4_method_2_code
abbrev y_Heads_check : MethodName := ⟨R_Heads, "check", "()V"⟩
theorem co_Heads_check : Cond.code y_Heads_check b_Heads_check 2 none ∈ lw_good := lg_in (tin_5 _ (List.mem_of_getElem? (i := 46) rfl)) rfl
abbrev w_Heads_check : List Cond := Cond.code y_Heads_check b_Heads_check 2 none :: lw_good
theorem im_Heads_check : Cond.instanceMethod y_Heads_check ∈ lw_good := lg_right (i := 1004) (by decide +kernel) rfl
theorem se_Heads_check : Cond.selects R_Heads y_Heads_check y_Heads_check ∈ lw_good := lg_right (i := 1005) (by decide +kernel) rfl
theorem d_Heads_check_0 : decode b_Heads_check 0 = .ok (.aload_n 0, 1) := by decide +kernel
theorem d_Heads_check_1 : decode b_Heads_check 1 = .ok (.getfield 19, 3) := by decide +kernel
theorem fl_Heads_19 : Cond.fieldLink R_Heads 19 "PointerHouse$Heads" "types" "LPointerHouse$Types;" ∈ lw_good := lg_right (i := 516) (by decide +kernel) rfl
theorem d_Heads_check_4 : decode b_Heads_check 4 = .ok (.invokevirtual 31, 3) := by decide +kernel
theorem ml_Heads_31 : Cond.methodLink R_Heads 31 ⟨"PointerHouse$Types", "clear", "()V"⟩ ∈ lw_good := lg_right (i := 1007) (by decide +kernel) rfl
theorem d_Heads_check_7 : decode b_Heads_check 7 = .ok (.iconst 0, 1) := by decide +kernel
theorem d_Heads_check_8 : decode b_Heads_check 8 = .ok (.istore_n 1, 1) := by decide +kernel
theorem d_Heads_check_9 : decode b_Heads_check 9 = .ok (.iload_n 1, 1) := by decide +kernel
theorem d_Heads_check_10 : decode b_Heads_check 10 = .ok (.aload_n 0, 1) := by decide +kernel
theorem d_Heads_check_11 : decode b_Heads_check 11 = .ok (.getfield 15, 3) := by decide +kernel
theorem fl_Heads_15 : Cond.fieldLink R_Heads 15 "PointerHouse$Heads" "items" "LPointerHouse$Items;" ∈ lw_good := lg_right (i := 515) (by decide +kernel) rfl
theorem d_Heads_check_14 : decode b_Heads_check 14 = .ok (.getfield 36, 3) := by decide +kernel
theorem fl_Heads_36 : Cond.fieldLink R_Heads 36 "PointerHouse$Items" "count" "I" ∈ lw_good := lg_right (i := 270) (by decide +kernel) rfl
theorem d_Heads_check_17 : decode b_Heads_check 17 = .ok (.if_icmp .ge 40, 3) := by decide +kernel
theorem d_Heads_check_20 : decode b_Heads_check 20 = .ok (.aload_n 0, 1) := by decide +kernel
theorem d_Heads_check_21 : decode b_Heads_check 21 = .ok (.iload_n 1, 1) := by decide +kernel
theorem d_Heads_check_22 : decode b_Heads_check 22 = .ok (.invokevirtual 42, 3) := by decide +kernel
theorem ml_Heads_42 : Cond.methodLink R_Heads 42 ⟨"PointerHouse$Heads", "checkHead", "(I)V"⟩ ∈ lw_good := lg_right (i := 1011) (by decide +kernel) rfl
theorem d_Heads_check_25 : decode b_Heads_check 25 = .ok (.aload_n 0, 1) := by decide +kernel
theorem d_Heads_check_26 : decode b_Heads_check 26 = .ok (.getfield 27, 3) := by decide +kernel
theorem fl_Heads_27 : Cond.fieldLink R_Heads 27 "PointerHouse$Heads" "code" "LPointerHouse$Code;" ∈ lw_good := lg_right (i := 522) (by decide +kernel) rfl
theorem d_Heads_check_29 : decode b_Heads_check 29 = .ok (.aload_n 0, 1) := by decide +kernel
theorem d_Heads_check_30 : decode b_Heads_check 30 = .ok (.getfield 15, 3) := by decide +kernel
theorem d_Heads_check_33 : decode b_Heads_check 33 = .ok (.getfield 46, 3) := by decide +kernel
theorem fl_Heads_46 : Cond.fieldLink R_Heads 46 "PointerHouse$Items" "kind" "[I" ∈ lw_good := lg_right (i := 277) (by decide +kernel) rfl
theorem d_Heads_check_36 : decode b_Heads_check 36 = .ok (.iload_n 1, 1) := by decide +kernel
theorem d_Heads_check_37 : decode b_Heads_check 37 = .ok (.iaload, 1) := by decide +kernel
theorem d_Heads_check_38 : decode b_Heads_check 38 = .ok (.bipush 12, 2) := by decide +kernel
theorem d_Heads_check_40 : decode b_Heads_check 40 = .ok (.if_icmp .ne 7, 3) := by decide +kernel
theorem d_Heads_check_43 : decode b_Heads_check 43 = .ok (.iconst 1, 1) := by decide +kernel
theorem d_Heads_check_44 : decode b_Heads_check 44 = .ok (.goto 4, 3) := by decide +kernel
theorem d_Heads_check_47 : decode b_Heads_check 47 = .ok (.iconst 0, 1) := by decide +kernel
theorem d_Heads_check_48 : decode b_Heads_check 48 = .ok (.invokevirtual 50, 3) := by decide +kernel
theorem ml_Heads_50 : Cond.methodLink R_Heads 50 ⟨"PointerHouse$Code", "tally", "(I)V"⟩ ∈ lw_good := lg_right (i := 1119) (by decide +kernel) rfl
theorem d_Heads_check_51 : decode b_Heads_check 51 = .ok (.iinc 1 1, 3) := by decide +kernel
theorem d_Heads_check_54 : decode b_Heads_check 54 = .ok (.goto (-45), 3) := by decide +kernel
theorem d_Heads_check_57 : decode b_Heads_check 57 = .ok (.aload_n 0, 1) := by decide +kernel
theorem d_Heads_check_58 : decode b_Heads_check 58 = .ok (.getfield 15, 3) := by decide +kernel
theorem d_Heads_check_61 : decode b_Heads_check 61 = .ok (.invokestatic 55, 3) := by decide +kernel
theorem ml_Heads_55 : Cond.methodLink R_Heads 55 ⟨"PointerHouse$Heads", "mainName", "()J"⟩ ∈ lw_good := lg_right (i := 1123) (by decide +kernel) rfl
theorem d_Heads_check_64 : decode b_Heads_check 64 = .ok (.iconst 1, 1) := by decide +kernel
theorem d_Heads_check_65 : decode b_Heads_check 65 = .ok (.invokevirtual 59, 3) := by decide +kernel
theorem ml_Heads_59 : Cond.methodLink R_Heads 59 ⟨"PointerHouse$Items", "find", "(JZ)I"⟩ ∈ lw_good := lg_right (i := 1015) (by decide +kernel) rfl
theorem d_Heads_check_68 : decode b_Heads_check 68 = .ok (.istore_n 1, 1) := by decide +kernel
theorem d_Heads_check_69 : decode b_Heads_check 69 = .ok (.iload_n 1, 1) := by decide +kernel
theorem d_Heads_check_70 : decode b_Heads_check 70 = .ok (.iconst (-1), 1) := by decide +kernel
theorem d_Heads_check_71 : decode b_Heads_check 71 = .ok (.if_icmp .eq 37, 3) := by decide +kernel
theorem d_Heads_check_74 : decode b_Heads_check 74 = .ok (.aload_n 0, 1) := by decide +kernel
theorem d_Heads_check_75 : decode b_Heads_check 75 = .ok (.getfield 15, 3) := by decide +kernel
theorem d_Heads_check_78 : decode b_Heads_check 78 = .ok (.getfield 63, 3) := by decide +kernel
theorem fl_Heads_63 : Cond.fieldLink R_Heads 63 "PointerHouse$Items" "rsCount" "[I" ∈ lw_good := lg_right (i := 289) (by decide +kernel) rfl
theorem d_Heads_check_81 : decode b_Heads_check 81 = .ok (.iload_n 1, 1) := by decide +kernel
theorem d_Heads_check_82 : decode b_Heads_check 82 = .ok (.iaload, 1) := by decide +kernel
theorem d_Heads_check_83 : decode b_Heads_check 83 = .ok (.aload_n 0, 1) := by decide +kernel
theorem d_Heads_check_84 : decode b_Heads_check 84 = .ok (.getfield 15, 3) := by decide +kernel
theorem d_Heads_check_87 : decode b_Heads_check 87 = .ok (.getfield 66, 3) := by decide +kernel
theorem fl_Heads_66 : Cond.fieldLink R_Heads 66 "PointerHouse$Items" "partCount" "[I" ∈ lw_good := lg_right (i := 293) (by decide +kernel) rfl
theorem d_Heads_check_90 : decode b_Heads_check 90 = .ok (.iload_n 1, 1) := by decide +kernel
theorem d_Heads_check_91 : decode b_Heads_check 91 = .ok (.iaload, 1) := by decide +kernel
theorem d_Heads_check_92 : decode b_Heads_check 92 = .ok (.iadd, 1) := by decide +kernel
theorem d_Heads_check_93 : decode b_Heads_check 93 = .ok (.ifCond .gt 15, 3) := by decide +kernel
theorem d_Heads_check_96 : decode b_Heads_check 96 = .ok (.aload_n 0, 1) := by decide +kernel
theorem d_Heads_check_97 : decode b_Heads_check 97 = .ok (.getfield 15, 3) := by decide +kernel
theorem d_Heads_check_100 : decode b_Heads_check 100 = .ok (.getfield 69, 3) := by decide +kernel
theorem fl_Heads_69 : Cond.fieldLink R_Heads 69 "PointerHouse$Items" "typeTok" "[I" ∈ lw_good := lg_right (i := 298) (by decide +kernel) rfl
theorem d_Heads_check_103 : decode b_Heads_check 103 = .ok (.iload_n 1, 1) := by decide +kernel
theorem d_Heads_check_104 : decode b_Heads_check 104 = .ok (.iaload, 1) := by decide +kernel
theorem d_Heads_check_105 : decode b_Heads_check 105 = .ok (.ifCond .eq 19, 3) := by decide +kernel
theorem d_Heads_check_108 : decode b_Heads_check 108 = .ok (.aload_n 0, 1) := by decide +kernel
theorem d_Heads_check_109 : decode b_Heads_check 109 = .ok (.getfield 27, 3) := by decide +kernel
theorem d_Heads_check_112 : decode b_Heads_check 112 = .ok (.bipush 8, 2) := by decide +kernel
theorem d_Heads_check_114 : decode b_Heads_check 114 = .ok (.aload_n 0, 1) := by decide +kernel
theorem d_Heads_check_115 : decode b_Heads_check 115 = .ok (.getfield 9, 3) := by decide +kernel
theorem fl_Heads_9 : Cond.fieldLink R_Heads 9 "PointerHouse$Heads" "source" "LPointerHouse$Source;" ∈ lw_good := lg_right (i := 514) (by decide +kernel) rfl
theorem d_Heads_check_118 : decode b_Heads_check 118 = .ok (.getfield 72, 3) := by decide +kernel
theorem d_Heads_check_121 : decode b_Heads_check 121 = .ok (.invokevirtual 77, 3) := by decide +kernel
theorem ml_Heads_77 : Cond.methodLink R_Heads 77 ⟨"PointerHouse$Code", "note", "(II)V"⟩ ∈ lw_good := lg_right (i := 1020) (by decide +kernel) rfl
theorem d_Heads_check_124 : decode b_Heads_check 124 = .ok (.return_, 1) := by decide +kernel
abbrev b_House_fault : ByteArray := prog_1_method_6_code
abbrev y_House_fault : MethodName := ⟨R_House, "fault", "(I)I"⟩
theorem co_House_fault : Cond.code y_House_fault b_House_fault 2 (some .int) ∈ lw_good := lg_in (tin_7 _ (List.mem_of_getElem? (i := 141) rfl)) rfl
abbrev w_House_fault : List Cond := Cond.code y_House_fault b_House_fault 2 (some .int) :: lw_good
theorem im_House_fault : Cond.instanceMethod y_House_fault ∈ lw_good := lg_right (i := 1579) (by decide +kernel) rfl
theorem se_House_fault : Cond.selects R_House y_House_fault y_House_fault ∈ lw_good := lg_right (i := 1580) (by decide +kernel) rfl
theorem d_House_fault_0 : decode b_House_fault 0 = .ok (.aload_n 0, 1) := by decide +kernel
theorem d_House_fault_1 : decode b_House_fault 1 = .ok (.getfield 91, 3) := by decide +kernel
theorem d_House_fault_4 : decode b_House_fault 4 = .ok (.ifCond .eq 12, 3) := by decide +kernel
theorem d_House_fault_7 : decode b_House_fault 7 = .ok (.iload_n 1, 1) := by decide +kernel
theorem d_House_fault_8 : decode b_House_fault 8 = .ok (.ifCond .lt 8, 3) := by decide +kernel
theorem d_House_fault_11 : decode b_House_fault 11 = .ok (.iload_n 1, 1) := by decide +kernel
theorem d_House_fault_12 : decode b_House_fault 12 = .ok (.iconst 1, 1) := by decide +kernel
theorem d_House_fault_13 : decode b_House_fault 13 = .ok (.if_icmp .le 5, 3) := by decide +kernel
theorem d_House_fault_16 : decode b_House_fault 16 = .ok (.iconst (-1), 1) := by decide +kernel
theorem d_House_fault_17 : decode b_House_fault 17 = .ok (.ireturn, 1) := by decide +kernel
theorem d_House_fault_18 : decode b_House_fault 18 = .ok (.iload_n 1, 1) := by decide +kernel
theorem d_House_fault_19 : decode b_House_fault 19 = .ok (.ifCond .ne 13, 3) := by decide +kernel
theorem d_House_fault_22 : decode b_House_fault 22 = .ok (.aload_n 0, 1) := by decide +kernel
theorem d_House_fault_23 : decode b_House_fault 23 = .ok (.getfield 30, 3) := by decide +kernel
theorem d_House_fault_26 : decode b_House_fault 26 = .ok (.getfield 122, 3) := by decide +kernel
theorem fl_House_122 : Cond.fieldLink R_House 122 "PointerHouse$Code" "faultKind" "I" ∈ lw_good := lg_right (i := 392) (by decide +kernel) rfl
theorem d_House_fault_29 : decode b_House_fault 29 = .ok (.goto 10, 3) := by decide +kernel
theorem d_House_fault_32 : decode b_House_fault 32 = .ok (.aload_n 0, 1) := by decide +kernel
theorem d_House_fault_33 : decode b_House_fault 33 = .ok (.getfield 30, 3) := by decide +kernel
theorem d_House_fault_36 : decode b_House_fault 36 = .ok (.getfield 125, 3) := by decide +kernel
theorem fl_House_125 : Cond.fieldLink R_House 125 "PointerHouse$Code" "faultPlace" "I" ∈ lw_good := lg_right (i := 394) (by decide +kernel) rfl
theorem d_House_fault_39 : decode b_House_fault 39 = .ok (.ireturn, 1) := by decide +kernel
abbrev b_House_program : ByteArray := prog_1_method_7_code
abbrev y_House_program : MethodName := ⟨R_House, "program", "(I)I"⟩
theorem co_House_program : Cond.code y_House_program b_House_program 2 (some .int) ∈ lw_good := lg_in (tin_7 _ (List.mem_of_getElem? (i := 145) rfl)) rfl
abbrev w_House_program : List Cond := Cond.code y_House_program b_House_program 2 (some .int) :: lw_good
theorem im_House_program : Cond.instanceMethod y_House_program ∈ lw_good := lg_right (i := 1583) (by decide +kernel) rfl
theorem se_House_program : Cond.selects R_House y_House_program y_House_program ∈ lw_good := lg_right (i := 1584) (by decide +kernel) rfl
theorem d_House_program_0 : decode b_House_program 0 = .ok (.aload_n 0, 1) := by decide +kernel
theorem d_House_program_1 : decode b_House_program 1 = .ok (.getfield 116, 3) := by decide +kernel
theorem d_House_program_4 : decode b_House_program 4 = .ok (.ifCond .eq 13, 3) := by decide +kernel
theorem d_House_program_7 : decode b_House_program 7 = .ok (.iload_n 1, 1) := by decide +kernel
theorem d_House_program_8 : decode b_House_program 8 = .ok (.ifCond .lt 9, 3) := by decide +kernel
theorem d_House_program_11 : decode b_House_program 11 = .ok (.iload_n 1, 1) := by decide +kernel
theorem d_House_program_12 : decode b_House_program 12 = .ok (.bipush 7, 2) := by decide +kernel
theorem d_House_program_14 : decode b_House_program 14 = .ok (.if_icmp .lt 5, 3) := by decide +kernel
theorem d_House_program_17 : decode b_House_program 17 = .ok (.iconst (-1), 1) := by decide +kernel
theorem d_House_program_18 : decode b_House_program 18 = .ok (.ireturn, 1) := by decide +kernel
theorem d_House_program_19 : decode b_House_program 19 = .ok (.aload_n 0, 1) := by decide +kernel
theorem d_House_program_20 : decode b_House_program 20 = .ok (.getfield 30, 3) := by decide +kernel
theorem d_House_program_23 : decode b_House_program 23 = .ok (.getfield 128, 3) := by decide +kernel
theorem fl_House_128 : Cond.fieldLink R_House 128 "PointerHouse$Code" "counts" "[I" ∈ lw_good := lg_right (i := 390) (by decide +kernel) rfl
theorem d_House_program_26 : decode b_House_program 26 = .ok (.iload_n 1, 1) := by decide +kernel
theorem d_House_program_27 : decode b_House_program 27 = .ok (.iaload, 1) := by decide +kernel
theorem d_House_program_28 : decode b_House_program 28 = .ok (.ireturn, 1) := by decide +kernel
abbrev b_House_start : ByteArray := prog_1_method_8_code
abbrev y_House_start : MethodName := ⟨R_House, "start", "(II)Z"⟩
theorem co_House_start : Cond.code y_House_start b_House_start 3 (some .boolean) ∈ lw_good := lg_in (tin_7 _ (List.mem_of_getElem? (i := 149) rfl)) rfl
abbrev w_House_start : List Cond := Cond.code y_House_start b_House_start 3 (some .boolean) :: lw_good
theorem im_House_start : Cond.instanceMethod y_House_start ∈ lw_good := lg_right (i := 1587) (by decide +kernel) rfl
theorem se_House_start : Cond.selects R_House y_House_start y_House_start ∈ lw_good := lg_right (i := 1588) (by decide +kernel) rfl
theorem d_House_start_0 : decode b_House_start 0 = .ok (.aload_n 0, 1) := by decide +kernel
theorem d_House_start_1 : decode b_House_start 1 = .ok (.getfield 116, 3) := by decide +kernel
theorem d_House_start_4 : decode b_House_start 4 = .ok (.ifCond .eq 25, 3) := by decide +kernel
theorem d_House_start_7 : decode b_House_start 7 = .ok (.iload_n 1, 1) := by decide +kernel
theorem d_House_start_8 : decode b_House_start 8 = .ok (.iconst 1, 1) := by decide +kernel
theorem d_House_start_9 : decode b_House_start 9 = .ok (.if_icmp .lt 20, 3) := by decide +kernel
theorem d_House_start_12 : decode b_House_start 12 = .ok (.iload_n 1, 1) := by decide +kernel
theorem d_House_start_13 : decode b_House_start 13 = .ok (.bipush 64, 2) := by decide +kernel
theorem d_House_start_15 : decode b_House_start 15 = .ok (.if_icmp .gt 14, 3) := by decide +kernel
theorem d_House_start_18 : decode b_House_start 18 = .ok (.iload_n 2, 1) := by decide +kernel
theorem d_House_start_19 : decode b_House_start 19 = .ok (.iconst 4, 1) := by decide +kernel
theorem d_House_start_20 : decode b_House_start 20 = .ok (.if_icmp .lt 9, 3) := by decide +kernel
theorem d_House_start_23 : decode b_House_start 23 = .ok (.iload_n 2, 1) := by decide +kernel
theorem d_House_start_24 : decode b_House_start 24 = .ok (.bipush 64, 2) := by decide +kernel
theorem d_House_start_26 : decode b_House_start 26 = .ok (.if_icmp .le 5, 3) := by decide +kernel
theorem d_House_start_29 : decode b_House_start 29 = .ok (.iconst 0, 1) := by decide +kernel
theorem d_House_start_30 : decode b_House_start 30 = .ok (.ireturn, 1) := by decide +kernel
theorem d_House_start_31 : decode b_House_start 31 = .ok (.aload_n 0, 1) := by decide +kernel
theorem d_House_start_32 : decode b_House_start 32 = .ok (.getfield 79, 3) := by decide +kernel
theorem d_House_start_35 : decode b_House_start 35 = .ok (.iload_n 1, 1) := by decide +kernel
theorem d_House_start_36 : decode b_House_start 36 = .ok (.iload_n 2, 1) := by decide +kernel
theorem d_House_start_37 : decode b_House_start 37 = .ok (.invokevirtual 134, 3) := by decide +kernel
theorem ml_House_134 : Cond.methodLink R_House 134 ⟨"PointerHouse$Machine", "begin", "(II)V"⟩ ∈ lw_good := lg_right (i := 1590) (by decide +kernel) rfl
theorem d_House_start_40 : decode b_House_start 40 = .ok (.iconst 1, 1) := by decide +kernel
theorem d_House_start_41 : decode b_House_start 41 = .ok (.ireturn, 1) := by decide +kernel
abbrev b_Machine_begin : ByteArray := prog_6_method_3_code
abbrev y_Machine_begin : MethodName := ⟨R_Machine, "begin", "(II)V"⟩
theorem co_Machine_begin : Cond.code y_Machine_begin b_Machine_begin 3 none ∈ lw_good := lg_in (tin_7 _ (List.mem_of_getElem? (i := 153) rfl)) rfl
abbrev w_Machine_begin : List Cond := Cond.code y_Machine_begin b_Machine_begin 3 none :: lw_good
theorem im_Machine_begin : Cond.instanceMethod y_Machine_begin ∈ lw_good := lg_right (i := 1591) (by decide +kernel) rfl
theorem se_Machine_begin : Cond.selects R_Machine y_Machine_begin y_Machine_begin ∈ lw_good := lg_right (i := 1592) (by decide +kernel) rfl
theorem d_Machine_begin_0 : decode b_Machine_begin 0 = .ok (.aload_n 0, 1) := by decide +kernel
theorem d_Machine_begin_1 : decode b_Machine_begin 1 = .ok (.getfield 16, 3) := by decide +kernel
theorem fl_Machine_16 : Cond.fieldLink R_Machine 16 "PointerHouse$Machine" "memory" "LPointerHouse$Memory;" ∈ lw_good := lg_right (i := 645) (by decide +kernel) rfl
theorem d_Machine_begin_4 : decode b_Machine_begin 4 = .ok (.iload_n 1, 1) := by decide +kernel
theorem d_Machine_begin_5 : decode b_Machine_begin 5 = .ok (.iload_n 2, 1) := by decide +kernel
theorem d_Machine_begin_6 : decode b_Machine_begin 6 = .ok (.invokevirtual 48, 3) := by decide +kernel
theorem ml_Machine_48 : Cond.methodLink R_Machine 48 ⟨"PointerHouse$Memory", "begin", "(II)V"⟩ ∈ lw_good := lg_right (i := 1594) (by decide +kernel) rfl
theorem d_Machine_begin_9 : decode b_Machine_begin 9 = .ok (.aload_n 0, 1) := by decide +kernel
theorem d_Machine_begin_10 : decode b_Machine_begin 10 = .ok (.iconst 0, 1) := by decide +kernel
theorem d_Machine_begin_11 : decode b_Machine_begin 11 = .ok (.putfield 52, 3) := by decide +kernel
theorem fl_Machine_52 : Cond.fieldLink R_Machine 52 "PointerHouse$Machine" "top" "I" ∈ lw_good := lg_right (i := 648) (by decide +kernel) rfl
theorem d_Machine_begin_14 : decode b_Machine_begin 14 = .ok (.aload_n 0, 1) := by decide +kernel
theorem d_Machine_begin_15 : decode b_Machine_begin 15 = .ok (.iconst 0, 1) := by decide +kernel
theorem d_Machine_begin_16 : decode b_Machine_begin 16 = .ok (.putfield 55, 3) := by decide +kernel
theorem fl_Machine_55 : Cond.fieldLink R_Machine 55 "PointerHouse$Machine" "calls" "I" ∈ lw_good := lg_right (i := 650) (by decide +kernel) rfl
theorem d_Machine_begin_19 : decode b_Machine_begin 19 = .ok (.aload_n 0, 1) := by decide +kernel
theorem d_Machine_begin_20 : decode b_Machine_begin 20 = .ok (.iconst 0, 1) := by decide +kernel
theorem d_Machine_begin_21 : decode b_Machine_begin 21 = .ok (.putfield 58, 3) := by decide +kernel
theorem fl_Machine_58 : Cond.fieldLink R_Machine 58 "PointerHouse$Machine" "tryCount" "I" ∈ lw_good := lg_right (i := 652) (by decide +kernel) rfl
theorem d_Machine_begin_24 : decode b_Machine_begin 24 = .ok (.aload_n 0, 1) := by decide +kernel
theorem d_Machine_begin_25 : decode b_Machine_begin 25 = .ok (.iconst 0, 1) := by decide +kernel
theorem d_Machine_begin_26 : decode b_Machine_begin 26 = .ok (.putfield 61, 3) := by decide +kernel
theorem fl_Machine_61 : Cond.fieldLink R_Machine 61 "PointerHouse$Machine" "pc" "I" ∈ lw_good := lg_right (i := 653) (by decide +kernel) rfl
theorem d_Machine_begin_29 : decode b_Machine_begin 29 = .ok (.aload_n 0, 1) := by decide +kernel
theorem d_Machine_begin_30 : decode b_Machine_begin 30 = .ok (.iconst 0, 1) := by decide +kernel
theorem d_Machine_begin_31 : decode b_Machine_begin 31 = .ok (.putfield 64, 3) := by decide +kernel
theorem fl_Machine_64 : Cond.fieldLink R_Machine 64 "PointerHouse$Machine" "error" "I" ∈ lw_good := lg_right (i := 656) (by decide +kernel) rfl
theorem d_Machine_begin_34 : decode b_Machine_begin 34 = .ok (.aload_n 0, 1) := by decide +kernel
theorem d_Machine_begin_35 : decode b_Machine_begin 35 = .ok (.iconst 0, 1) := by decide +kernel
theorem d_Machine_begin_36 : decode b_Machine_begin 36 = .ok (.putfield 67, 3) := by decide +kernel
theorem fl_Machine_67 : Cond.fieldLink R_Machine 67 "PointerHouse$Machine" "stepsDone" "I" ∈ lw_good := lg_right (i := 658) (by decide +kernel) rfl
theorem d_Machine_begin_39 : decode b_Machine_begin 39 = .ok (.aload_n 0, 1) := by decide +kernel
theorem d_Machine_begin_40 : decode b_Machine_begin 40 = .ok (.iconst 0, 1) := by decide +kernel
theorem d_Machine_begin_41 : decode b_Machine_begin 41 = .ok (.putfield 70, 3) := by decide +kernel
theorem fl_Machine_70 : Cond.fieldLink R_Machine 70 "PointerHouse$Machine" "errorsCame" "I" ∈ lw_good := lg_right (i := 659) (by decide +kernel) rfl
theorem d_Machine_begin_44 : decode b_Machine_begin 44 = .ok (.aload_n 0, 1) := by decide +kernel
theorem d_Machine_begin_45 : decode b_Machine_begin 45 = .ok (.iconst 0, 1) := by decide +kernel
theorem d_Machine_begin_46 : decode b_Machine_begin 46 = .ok (.putfield 73, 3) := by decide +kernel
theorem fl_Machine_73 : Cond.fieldLink R_Machine 73 "PointerHouse$Machine" "inputCount" "I" ∈ lw_good := lg_right (i := 661) (by decide +kernel) rfl
theorem d_Machine_begin_49 : decode b_Machine_begin 49 = .ok (.aload_n 0, 1) := by decide +kernel
theorem d_Machine_begin_50 : decode b_Machine_begin 50 = .ok (.iconst 0, 1) := by decide +kernel
theorem d_Machine_begin_51 : decode b_Machine_begin 51 = .ok (.putfield 76, 3) := by decide +kernel
theorem fl_Machine_76 : Cond.fieldLink R_Machine 76 "PointerHouse$Machine" "printedCount" "I" ∈ lw_good := lg_right (i := 663) (by decide +kernel) rfl
theorem d_Machine_begin_54 : decode b_Machine_begin 54 = .ok (.aload_n 0, 1) := by decide +kernel
theorem d_Machine_begin_55 : decode b_Machine_begin 55 = .ok (.iconst 1, 1) := by decide +kernel
theorem d_Machine_begin_56 : decode b_Machine_begin 56 = .ok (.putfield 44, 3) := by decide +kernel
theorem d_Machine_begin_59 : decode b_Machine_begin 59 = .ok (.aload_n 0, 1) := by decide +kernel
theorem d_Machine_begin_60 : decode b_Machine_begin 60 = .ok (.aload_n 0, 1) := by decide +kernel
theorem d_Machine_begin_61 : decode b_Machine_begin 61 = .ok (.getfield 40, 3) := by decide +kernel
theorem fl_Machine_40 : Cond.fieldLink R_Machine 40 "PointerHouse$Machine" "items" "LPointerHouse$Items;" ∈ lw_good := lg_right (i := 644) (by decide +kernel) rfl
theorem d_Machine_begin_64 : decode b_Machine_begin 64 = .ok (.invokestatic 79, 3) := by decide +kernel
theorem ml_Machine_79 : Cond.methodLink R_Machine 79 ⟨"PointerHouse$Heads", "mainName", "()J"⟩ ∈ lw_good := lg_right (i := 1605) (by decide +kernel) rfl
theorem d_Machine_begin_67 : decode b_Machine_begin 67 = .ok (.iconst 1, 1) := by decide +kernel
theorem d_Machine_begin_68 : decode b_Machine_begin 68 = .ok (.invokevirtual 85, 3) := by decide +kernel
theorem ml_Machine_85 : Cond.methodLink R_Machine 85 ⟨"PointerHouse$Items", "find", "(JZ)I"⟩ ∈ lw_good := lg_right (i := 1606) (by decide +kernel) rfl
theorem d_Machine_begin_71 : decode b_Machine_begin 71 = .ok (.iconst 0, 1) := by decide +kernel
theorem d_Machine_begin_72 : decode b_Machine_begin 72 = .ok (.invokevirtual 91, 3) := by decide +kernel
theorem ml_Machine_91 : Cond.methodLink R_Machine 91 ⟨"PointerHouse$Machine", "enter", "(II)V"⟩ ∈ lw_good := lg_right (i := 1607) (by decide +kernel) rfl
theorem d_Machine_begin_75 : decode b_Machine_begin 75 = .ok (.aload_n 0, 1) := by decide +kernel
theorem d_Machine_begin_76 : decode b_Machine_begin 76 = .ok (.invokevirtual 94, 3) := by decide +kernel
theorem ml_Machine_94 : Cond.methodLink R_Machine 94 ⟨"PointerHouse$Machine", "goOn", "()V"⟩ ∈ lw_good := lg_right (i := 1622) (by decide +kernel) rfl
theorem d_Machine_begin_79 : decode b_Machine_begin 79 = .ok (.return_, 1) := by decide +kernel
abbrev b_House_input : ByteArray := prog_1_method_9_code
abbrev y_House_input : MethodName := ⟨R_House, "input", "(I)I"⟩
theorem co_House_input : Cond.code y_House_input b_House_input 2 (some .int) ∈ lw_good := lg_in (tin_8 _ (List.mem_of_getElem? (i := 76) rfl)) rfl
abbrev w_House_input : List Cond := Cond.code y_House_input b_House_input 2 (some .int) :: lw_good
theorem im_House_input : Cond.instanceMethod y_House_input ∈ lw_good := lg_right (i := 1754) (by decide +kernel) rfl
theorem se_House_input : Cond.selects R_House y_House_input y_House_input ∈ lw_good := lg_right (i := 1755) (by decide +kernel) rfl
theorem d_House_input_0 : decode b_House_input 0 = .ok (.aload_n 0, 1) := by decide +kernel
theorem d_House_input_1 : decode b_House_input 1 = .ok (.getfield 79, 3) := by decide +kernel
theorem d_House_input_4 : decode b_House_input 4 = .ok (.iload_n 1, 1) := by decide +kernel
theorem d_House_input_5 : decode b_House_input 5 = .ok (.invokevirtual 138, 3) := by decide +kernel
theorem ml_House_138 : Cond.methodLink R_House 138 ⟨"PointerHouse$Machine", "takeInput", "(I)I"⟩ ∈ lw_good := lg_right (i := 1757) (by decide +kernel) rfl
theorem d_House_input_8 : decode b_House_input 8 = .ok (.ireturn, 1) := by decide +kernel
abbrev b_Machine_takeInput : ByteArray := prog_6_method_4_code
abbrev y_Machine_takeInput : MethodName := ⟨R_Machine, "takeInput", "(I)I"⟩
theorem co_Machine_takeInput : Cond.code y_Machine_takeInput b_Machine_takeInput 2 (some .int) ∈ lw_good := lg_in (tin_8 _ (List.mem_of_getElem? (i := 80) rfl)) rfl
abbrev w_Machine_takeInput : List Cond := Cond.code y_Machine_takeInput b_Machine_takeInput 2 (some .int) :: lw_good
theorem im_Machine_takeInput : Cond.instanceMethod y_Machine_takeInput ∈ lw_good := lg_right (i := 1758) (by decide +kernel) rfl
theorem se_Machine_takeInput : Cond.selects R_Machine y_Machine_takeInput y_Machine_takeInput ∈ lw_good := lg_right (i := 1759) (by decide +kernel) rfl
theorem d_Machine_takeInput_0 : decode b_Machine_takeInput 0 = .ok (.aload_n 0, 1) := by decide +kernel
theorem d_Machine_takeInput_1 : decode b_Machine_takeInput 1 = .ok (.getfield 44, 3) := by decide +kernel
theorem d_Machine_takeInput_4 : decode b_Machine_takeInput 4 = .ok (.iconst 1, 1) := by decide +kernel
theorem d_Machine_takeInput_5 : decode b_Machine_takeInput 5 = .ok (.if_icmp .ne 15, 3) := by decide +kernel
theorem d_Machine_takeInput_8 : decode b_Machine_takeInput 8 = .ok (.aload_n 0, 1) := by decide +kernel
theorem d_Machine_takeInput_9 : decode b_Machine_takeInput 9 = .ok (.getfield 73, 3) := by decide +kernel
theorem d_Machine_takeInput_12 : decode b_Machine_takeInput 12 = .ok (.aload_n 0, 1) := by decide +kernel
theorem d_Machine_takeInput_13 : decode b_Machine_takeInput 13 = .ok (.getfield 30, 3) := by decide +kernel
theorem fl_Machine_30 : Cond.fieldLink R_Machine 30 "PointerHouse$Machine" "inputs" "[I" ∈ lw_good := lg_right (i := 660) (by decide +kernel) rfl
theorem d_Machine_takeInput_16 : decode b_Machine_takeInput 16 = .ok (.arraylength, 1) := by decide +kernel
theorem d_Machine_takeInput_17 : decode b_Machine_takeInput 17 = .ok (.if_icmp .lt 5, 3) := by decide +kernel
theorem d_Machine_takeInput_20 : decode b_Machine_takeInput 20 = .ok (.iconst (-1), 1) := by decide +kernel
theorem d_Machine_takeInput_21 : decode b_Machine_takeInput 21 = .ok (.ireturn, 1) := by decide +kernel
theorem d_Machine_takeInput_22 : decode b_Machine_takeInput 22 = .ok (.aload_n 0, 1) := by decide +kernel
theorem d_Machine_takeInput_23 : decode b_Machine_takeInput 23 = .ok (.getfield 30, 3) := by decide +kernel
theorem d_Machine_takeInput_26 : decode b_Machine_takeInput 26 = .ok (.aload_n 0, 1) := by decide +kernel
theorem d_Machine_takeInput_27 : decode b_Machine_takeInput 27 = .ok (.getfield 73, 3) := by decide +kernel
theorem d_Machine_takeInput_30 : decode b_Machine_takeInput 30 = .ok (.iload_n 1, 1) := by decide +kernel
theorem d_Machine_takeInput_31 : decode b_Machine_takeInput 31 = .ok (.iastore, 1) := by decide +kernel
theorem d_Machine_takeInput_32 : decode b_Machine_takeInput 32 = .ok (.aload_n 0, 1) := by decide +kernel
theorem d_Machine_takeInput_33 : decode b_Machine_takeInput 33 = .ok (.dup, 1) := by decide +kernel
theorem d_Machine_takeInput_34 : decode b_Machine_takeInput 34 = .ok (.getfield 73, 3) := by decide +kernel
theorem d_Machine_takeInput_37 : decode b_Machine_takeInput 37 = .ok (.iconst 1, 1) := by decide +kernel
theorem d_Machine_takeInput_38 : decode b_Machine_takeInput 38 = .ok (.iadd, 1) := by decide +kernel
theorem d_Machine_takeInput_39 : decode b_Machine_takeInput 39 = .ok (.putfield 73, 3) := by decide +kernel
theorem d_Machine_takeInput_42 : decode b_Machine_takeInput 42 = .ok (.aload_n 0, 1) := by decide +kernel
theorem d_Machine_takeInput_43 : decode b_Machine_takeInput 43 = .ok (.getfield 73, 3) := by decide +kernel
theorem d_Machine_takeInput_46 : decode b_Machine_takeInput 46 = .ok (.ireturn, 1) := by decide +kernel
abbrev b_House_run : ByteArray := prog_1_method_10_code
abbrev y_House_run : MethodName := ⟨R_House, "run", "(I)I"⟩
theorem co_House_run : Cond.code y_House_run b_House_run 2 (some .int) ∈ lw_good := lg_in (tin_8 _ (List.mem_of_getElem? (i := 84) rfl)) rfl
abbrev w_House_run : List Cond := Cond.code y_House_run b_House_run 2 (some .int) :: lw_good
theorem im_House_run : Cond.instanceMethod y_House_run ∈ lw_good := lg_right (i := 1762) (by decide +kernel) rfl
theorem se_House_run : Cond.selects R_House y_House_run y_House_run ∈ lw_good := lg_right (i := 1763) (by decide +kernel) rfl
theorem d_House_run_0 : decode b_House_run 0 = .ok (.iload_n 1, 1) := by decide +kernel
theorem d_House_run_1 : decode b_House_run 1 = .ok (.iconst 1, 1) := by decide +kernel
theorem d_House_run_2 : decode b_House_run 2 = .ok (.if_icmp .lt 21, 3) := by decide +kernel
theorem d_House_run_5 : decode b_House_run 5 = .ok (.iload_n 1, 1) := by decide +kernel
theorem d_House_run_6 : decode b_House_run 6 = .ok (.sipush 500, 3) := by decide +kernel
theorem d_House_run_9 : decode b_House_run 9 = .ok (.if_icmp .gt 14, 3) := by decide +kernel
theorem d_House_run_12 : decode b_House_run 12 = .ok (.aload_n 0, 1) := by decide +kernel
theorem d_House_run_13 : decode b_House_run 13 = .ok (.getfield 79, 3) := by decide +kernel
theorem d_House_run_16 : decode b_House_run 16 = .ok (.getfield 142, 3) := by decide +kernel
theorem fl_House_142 : Cond.fieldLink R_House 142 "PointerHouse$Machine" "state" "I" ∈ lw_good := lg_right (i := 655) (by decide +kernel) rfl
theorem d_House_run_19 : decode b_House_run 19 = .ok (.iconst 1, 1) := by decide +kernel
theorem d_House_run_20 : decode b_House_run 20 = .ok (.if_icmp .eq 5, 3) := by decide +kernel
theorem d_House_run_23 : decode b_House_run 23 = .ok (.iconst (-1), 1) := by decide +kernel
theorem d_House_run_24 : decode b_House_run 24 = .ok (.ireturn, 1) := by decide +kernel
theorem d_House_run_25 : decode b_House_run 25 = .ok (.aload_n 0, 1) := by decide +kernel
theorem d_House_run_26 : decode b_House_run 26 = .ok (.getfield 79, 3) := by decide +kernel
theorem d_House_run_29 : decode b_House_run 29 = .ok (.iload_n 1, 1) := by decide +kernel
theorem d_House_run_30 : decode b_House_run 30 = .ok (.invokevirtual 145, 3) := by decide +kernel
theorem ml_House_145 : Cond.methodLink R_House 145 ⟨"PointerHouse$Machine", "doSteps", "(I)I"⟩ ∈ lw_good := lg_right (i := 1765) (by decide +kernel) rfl
theorem d_House_run_33 : decode b_House_run 33 = .ok (.ireturn, 1) := by decide +kernel
abbrev b_Machine_doSteps : ByteArray := prog_6_method_5_code
abbrev y_Machine_doSteps : MethodName := ⟨R_Machine, "doSteps", "(I)I"⟩
theorem co_Machine_doSteps : Cond.code y_Machine_doSteps b_Machine_doSteps 3 (some .int) ∈ lw_good := lg_in (tin_8 _ (List.mem_of_getElem? (i := 88) rfl)) rfl
abbrev w_Machine_doSteps : List Cond := Cond.code y_Machine_doSteps b_Machine_doSteps 3 (some .int) :: lw_good
theorem im_Machine_doSteps : Cond.instanceMethod y_Machine_doSteps ∈ lw_good := lg_right (i := 1766) (by decide +kernel) rfl
theorem se_Machine_doSteps : Cond.selects R_Machine y_Machine_doSteps y_Machine_doSteps ∈ lw_good := lg_right (i := 1767) (by decide +kernel) rfl
theorem d_Machine_doSteps_0 : decode b_Machine_doSteps 0 = .ok (.iconst 0, 1) := by decide +kernel
theorem d_Machine_doSteps_1 : decode b_Machine_doSteps 1 = .ok (.istore_n 2, 1) := by decide +kernel
theorem d_Machine_doSteps_2 : decode b_Machine_doSteps 2 = .ok (.iload_n 2, 1) := by decide +kernel
theorem d_Machine_doSteps_3 : decode b_Machine_doSteps 3 = .ok (.iload_n 1, 1) := by decide +kernel
theorem d_Machine_doSteps_4 : decode b_Machine_doSteps 4 = .ok (.if_icmp .ge 57, 3) := by decide +kernel
theorem d_Machine_doSteps_7 : decode b_Machine_doSteps 7 = .ok (.aload_n 0, 1) := by decide +kernel
theorem d_Machine_doSteps_8 : decode b_Machine_doSteps 8 = .ok (.getfield 44, 3) := by decide +kernel
theorem d_Machine_doSteps_11 : decode b_Machine_doSteps 11 = .ok (.iconst 1, 1) := by decide +kernel
theorem d_Machine_doSteps_12 : decode b_Machine_doSteps 12 = .ok (.if_icmp .ne 49, 3) := by decide +kernel
theorem d_Machine_doSteps_15 : decode b_Machine_doSteps 15 = .ok (.aload_n 0, 1) := by decide +kernel
theorem d_Machine_doSteps_16 : decode b_Machine_doSteps 16 = .ok (.iconst 2, 1) := by decide +kernel
theorem d_Machine_doSteps_17 : decode b_Machine_doSteps 17 = .ok (.aload_n 0, 1) := by decide +kernel
theorem d_Machine_doSteps_18 : decode b_Machine_doSteps 18 = .ok (.getfield 36, 3) := by decide +kernel
theorem fl_Machine_36 : Cond.fieldLink R_Machine 36 "PointerHouse$Machine" "code" "LPointerHouse$Code;" ∈ lw_good := lg_right (i := 643) (by decide +kernel) rfl
theorem d_Machine_doSteps_21 : decode b_Machine_doSteps 21 = .ok (.aload_n 0, 1) := by decide +kernel
theorem d_Machine_doSteps_22 : decode b_Machine_doSteps 22 = .ok (.getfield 61, 3) := by decide +kernel
theorem d_Machine_doSteps_25 : decode b_Machine_doSteps 25 = .ok (.invokevirtual 97, 3) := by decide +kernel
theorem ml_Machine_97 : Cond.methodLink R_Machine 97 ⟨"PointerHouse$Code", "firstAt", "(I)I"⟩ ∈ lw_good := lg_right (i := 1631) (by decide +kernel) rfl
theorem d_Machine_doSteps_28 : decode b_Machine_doSteps 28 = .ok (.invokevirtual 103, 3) := by decide +kernel
theorem ml_Machine_103 : Cond.methodLink R_Machine 103 ⟨"PointerHouse$Machine", "setFrame", "(II)V"⟩ ∈ lw_good := lg_right (i := 1612) (by decide +kernel) rfl
theorem d_Machine_doSteps_31 : decode b_Machine_doSteps 31 = .ok (.aload_n 0, 1) := by decide +kernel
theorem d_Machine_doSteps_32 : decode b_Machine_doSteps 32 = .ok (.dup, 1) := by decide +kernel
theorem d_Machine_doSteps_33 : decode b_Machine_doSteps 33 = .ok (.getfield 61, 3) := by decide +kernel
theorem d_Machine_doSteps_36 : decode b_Machine_doSteps 36 = .ok (.iconst 1, 1) := by decide +kernel
theorem d_Machine_doSteps_37 : decode b_Machine_doSteps 37 = .ok (.iadd, 1) := by decide +kernel
theorem d_Machine_doSteps_38 : decode b_Machine_doSteps 38 = .ok (.putfield 61, 3) := by decide +kernel
theorem d_Machine_doSteps_41 : decode b_Machine_doSteps 41 = .ok (.aload_n 0, 1) := by decide +kernel
theorem d_Machine_doSteps_42 : decode b_Machine_doSteps 42 = .ok (.dup, 1) := by decide +kernel
theorem d_Machine_doSteps_43 : decode b_Machine_doSteps 43 = .ok (.getfield 67, 3) := by decide +kernel
theorem d_Machine_doSteps_46 : decode b_Machine_doSteps 46 = .ok (.iconst 1, 1) := by decide +kernel
theorem d_Machine_doSteps_47 : decode b_Machine_doSteps 47 = .ok (.iadd, 1) := by decide +kernel
theorem d_Machine_doSteps_48 : decode b_Machine_doSteps 48 = .ok (.putfield 67, 3) := by decide +kernel
theorem d_Machine_doSteps_51 : decode b_Machine_doSteps 51 = .ok (.iinc 2 1, 3) := by decide +kernel
theorem d_Machine_doSteps_54 : decode b_Machine_doSteps 54 = .ok (.aload_n 0, 1) := by decide +kernel
theorem d_Machine_doSteps_55 : decode b_Machine_doSteps 55 = .ok (.invokevirtual 94, 3) := by decide +kernel
theorem d_Machine_doSteps_58 : decode b_Machine_doSteps 58 = .ok (.goto (-56), 3) := by decide +kernel
theorem d_Machine_doSteps_61 : decode b_Machine_doSteps 61 = .ok (.iload_n 2, 1) := by decide +kernel
theorem d_Machine_doSteps_62 : decode b_Machine_doSteps 62 = .ok (.ireturn, 1) := by decide +kernel
abbrev b_House_state : ByteArray := prog_1_method_11_code
abbrev y_House_state : MethodName := ⟨R_House, "state", "(I)I"⟩
theorem co_House_state : Cond.code y_House_state b_House_state 2 (some .int) ∈ lw_good := lg_in (tin_8 _ (List.mem_of_getElem? (i := 92) rfl)) rfl
abbrev w_House_state : List Cond := Cond.code y_House_state b_House_state 2 (some .int) :: lw_good
theorem im_House_state : Cond.instanceMethod y_House_state ∈ lw_good := lg_right (i := 1770) (by decide +kernel) rfl
theorem se_House_state : Cond.selects R_House y_House_state y_House_state ∈ lw_good := lg_right (i := 1771) (by decide +kernel) rfl
theorem d_House_state_0 : decode b_House_state 0 = .ok (.iload_n 1, 1) := by decide +kernel
theorem d_House_state_1 : decode b_House_state 1 = .ok (.tableswitch 66 0 2 #[27, 35, 58], 27) := by decide +kernel
theorem d_House_state_28 : decode b_House_state 28 = .ok (.aload_n 0, 1) := by decide +kernel
theorem d_House_state_29 : decode b_House_state 29 = .ok (.getfield 79, 3) := by decide +kernel
theorem d_House_state_32 : decode b_House_state 32 = .ok (.getfield 142, 3) := by decide +kernel
theorem d_House_state_35 : decode b_House_state 35 = .ok (.ireturn, 1) := by decide +kernel
theorem d_House_state_36 : decode b_House_state 36 = .ok (.aload_n 0, 1) := by decide +kernel
theorem d_House_state_37 : decode b_House_state 37 = .ok (.getfield 79, 3) := by decide +kernel
theorem d_House_state_40 : decode b_House_state 40 = .ok (.getfield 142, 3) := by decide +kernel
theorem d_House_state_43 : decode b_House_state 43 = .ok (.iconst 3, 1) := by decide +kernel
theorem d_House_state_44 : decode b_House_state 44 = .ok (.if_icmp .ne 13, 3) := by decide +kernel
theorem d_House_state_47 : decode b_House_state 47 = .ok (.aload_n 0, 1) := by decide +kernel
theorem d_House_state_48 : decode b_House_state 48 = .ok (.getfield 79, 3) := by decide +kernel
theorem d_House_state_51 : decode b_House_state 51 = .ok (.getfield 148, 3) := by decide +kernel
theorem fl_House_148 : Cond.fieldLink R_House 148 "PointerHouse$Machine" "error" "I" ∈ lw_good := lg_right (i := 657) (by decide +kernel) rfl
theorem d_House_state_54 : decode b_House_state 54 = .ok (.goto 4, 3) := by decide +kernel
theorem d_House_state_57 : decode b_House_state 57 = .ok (.iconst 0, 1) := by decide +kernel
theorem d_House_state_58 : decode b_House_state 58 = .ok (.ireturn, 1) := by decide +kernel
theorem d_House_state_59 : decode b_House_state 59 = .ok (.aload_n 0, 1) := by decide +kernel
theorem d_House_state_60 : decode b_House_state 60 = .ok (.getfield 79, 3) := by decide +kernel
theorem d_House_state_63 : decode b_House_state 63 = .ok (.invokevirtual 151, 3) := by decide +kernel
theorem ml_House_151 : Cond.methodLink R_House 151 ⟨"PointerHouse$Machine", "placeOfStep", "()I"⟩ ∈ lw_good := lg_right (i := 1773) (by decide +kernel) rfl
theorem d_House_state_66 : decode b_House_state 66 = .ok (.ireturn, 1) := by decide +kernel
theorem d_House_state_67 : decode b_House_state 67 = .ok (.iconst (-1), 1) := by decide +kernel
theorem d_House_state_68 : decode b_House_state 68 = .ok (.ireturn, 1) := by decide +kernel
abbrev b_Machine_placeOfStep : ByteArray := prog_6_method_29_code
abbrev y_Machine_placeOfStep : MethodName := ⟨R_Machine, "placeOfStep", "()I"⟩
theorem co_Machine_placeOfStep : Cond.code y_Machine_placeOfStep b_Machine_placeOfStep 1 (some .int) ∈ lw_good := lg_in (tin_8 _ (List.mem_of_getElem? (i := 96) rfl)) rfl
abbrev w_Machine_placeOfStep : List Cond := Cond.code y_Machine_placeOfStep b_Machine_placeOfStep 1 (some .int) :: lw_good
theorem im_Machine_placeOfStep : Cond.instanceMethod y_Machine_placeOfStep ∈ lw_good := lg_right (i := 1774) (by decide +kernel) rfl
theorem se_Machine_placeOfStep : Cond.selects R_Machine y_Machine_placeOfStep y_Machine_placeOfStep ∈ lw_good := lg_right (i := 1775) (by decide +kernel) rfl
theorem d_Machine_placeOfStep_0 : decode b_Machine_placeOfStep 0 = .ok (.aload_n 0, 1) := by decide +kernel
theorem d_Machine_placeOfStep_1 : decode b_Machine_placeOfStep 1 = .ok (.getfield 44, 3) := by decide +kernel
theorem d_Machine_placeOfStep_4 : decode b_Machine_placeOfStep 4 = .ok (.iconst 1, 1) := by decide +kernel
theorem d_Machine_placeOfStep_5 : decode b_Machine_placeOfStep 5 = .ok (.if_icmp .ne 15, 3) := by decide +kernel
theorem d_Machine_placeOfStep_8 : decode b_Machine_placeOfStep 8 = .ok (.aload_n 0, 1) := by decide +kernel
theorem d_Machine_placeOfStep_9 : decode b_Machine_placeOfStep 9 = .ok (.getfield 36, 3) := by decide +kernel
theorem d_Machine_placeOfStep_12 : decode b_Machine_placeOfStep 12 = .ok (.aload_n 0, 1) := by decide +kernel
theorem d_Machine_placeOfStep_13 : decode b_Machine_placeOfStep 13 = .ok (.getfield 61, 3) := by decide +kernel
theorem d_Machine_placeOfStep_16 : decode b_Machine_placeOfStep 16 = .ok (.invokevirtual 97, 3) := by decide +kernel
theorem d_Machine_placeOfStep_19 : decode b_Machine_placeOfStep 19 = .ok (.ireturn, 1) := by decide +kernel
theorem d_Machine_placeOfStep_20 : decode b_Machine_placeOfStep 20 = .ok (.aload_n 0, 1) := by decide +kernel
theorem d_Machine_placeOfStep_21 : decode b_Machine_placeOfStep 21 = .ok (.getfield 44, 3) := by decide +kernel
theorem d_Machine_placeOfStep_24 : decode b_Machine_placeOfStep 24 = .ok (.ifCond .eq 11, 3) := by decide +kernel
theorem d_Machine_placeOfStep_27 : decode b_Machine_placeOfStep 27 = .ok (.aload_n 0, 1) := by decide +kernel
theorem d_Machine_placeOfStep_28 : decode b_Machine_placeOfStep 28 = .ok (.getfield 44, 3) := by decide +kernel
theorem d_Machine_placeOfStep_31 : decode b_Machine_placeOfStep 31 = .ok (.iconst 2, 1) := by decide +kernel
theorem d_Machine_placeOfStep_32 : decode b_Machine_placeOfStep 32 = .ok (.if_icmp .ne 7, 3) := by decide +kernel
theorem d_Machine_placeOfStep_35 : decode b_Machine_placeOfStep 35 = .ok (.iconst (-1), 1) := by decide +kernel
theorem d_Machine_placeOfStep_36 : decode b_Machine_placeOfStep 36 = .ok (.goto 8, 3) := by decide +kernel
theorem d_Machine_placeOfStep_39 : decode b_Machine_placeOfStep 39 = .ok (.aload_n 0, 1) := by decide +kernel
theorem d_Machine_placeOfStep_40 : decode b_Machine_placeOfStep 40 = .ok (.iconst 2, 1) := by decide +kernel
theorem d_Machine_placeOfStep_41 : decode b_Machine_placeOfStep 41 = .ok (.invokevirtual 136, 3) := by decide +kernel
theorem ml_Machine_136 : Cond.methodLink R_Machine 136 ⟨"PointerHouse$Machine", "frame", "(I)I"⟩ ∈ lw_good := lg_right (i := 1647) (by decide +kernel) rfl
theorem d_Machine_placeOfStep_44 : decode b_Machine_placeOfStep 44 = .ok (.ireturn, 1) := by decide +kernel
abbrev b_House_world : ByteArray := prog_1_method_12_code
abbrev y_House_world : MethodName := ⟨R_House, "world", "(I)I"⟩
theorem co_House_world : Cond.code y_House_world b_House_world 2 (some .int) ∈ lw_good := lg_in (tin_8 _ (List.mem_of_getElem? (i := 100) rfl)) rfl
abbrev w_House_world : List Cond := Cond.code y_House_world b_House_world 2 (some .int) :: lw_good
theorem im_House_world : Cond.instanceMethod y_House_world ∈ lw_good := lg_right (i := 1778) (by decide +kernel) rfl
theorem se_House_world : Cond.selects R_House y_House_world y_House_world ∈ lw_good := lg_right (i := 1779) (by decide +kernel) rfl
theorem d_House_world_0 : decode b_House_world 0 = .ok (.iload_n 1, 1) := by decide +kernel
theorem d_House_world_1 : decode b_House_world 1 = .ok (.ifCond .lt 9, 3) := by decide +kernel
theorem d_House_world_4 : decode b_House_world 4 = .ok (.iload_n 1, 1) := by decide +kernel
theorem d_House_world_5 : decode b_House_world 5 = .ok (.bipush 8, 2) := by decide +kernel
theorem d_House_world_7 : decode b_House_world 7 = .ok (.if_icmp .le 5, 3) := by decide +kernel
theorem d_House_world_10 : decode b_House_world 10 = .ok (.iconst (-1), 1) := by decide +kernel
theorem d_House_world_11 : decode b_House_world 11 = .ok (.ireturn, 1) := by decide +kernel
theorem d_House_world_12 : decode b_House_world 12 = .ok (.aload_n 0, 1) := by decide +kernel
theorem d_House_world_13 : decode b_House_world 13 = .ok (.getfield 79, 3) := by decide +kernel
theorem d_House_world_16 : decode b_House_world 16 = .ok (.getfield 142, 3) := by decide +kernel
theorem d_House_world_19 : decode b_House_world 19 = .ok (.ifCond .ne 7, 3) := by decide +kernel
theorem d_House_world_22 : decode b_House_world 22 = .ok (.iconst 0, 1) := by decide +kernel
theorem d_House_world_23 : decode b_House_world 23 = .ok (.goto 11, 3) := by decide +kernel
theorem d_House_world_26 : decode b_House_world 26 = .ok (.aload_n 0, 1) := by decide +kernel
theorem d_House_world_27 : decode b_House_world 27 = .ok (.getfield 79, 3) := by decide +kernel
theorem d_House_world_30 : decode b_House_world 30 = .ok (.iload_n 1, 1) := by decide +kernel
theorem d_House_world_31 : decode b_House_world 31 = .ok (.invokevirtual 155, 3) := by decide +kernel
theorem ml_House_155 : Cond.methodLink R_House 155 ⟨"PointerHouse$Machine", "tell", "(I)I"⟩ ∈ lw_good := lg_right (i := 1781) (by decide +kernel) rfl
theorem d_House_world_34 : decode b_House_world 34 = .ok (.ireturn, 1) := by decide +kernel
abbrev b_Machine_tell : ByteArray := prog_6_method_30_code
abbrev y_Machine_tell : MethodName := ⟨R_Machine, "tell", "(I)I"⟩
theorem co_Machine_tell : Cond.code y_Machine_tell b_Machine_tell 2 (some .int) ∈ lw_good := lg_in (tin_8 _ (List.mem_of_getElem? (i := 104) rfl)) rfl
abbrev w_Machine_tell : List Cond := Cond.code y_Machine_tell b_Machine_tell 2 (some .int) :: lw_good
theorem im_Machine_tell : Cond.instanceMethod y_Machine_tell ∈ lw_good := lg_right (i := 1782) (by decide +kernel) rfl
theorem se_Machine_tell : Cond.selects R_Machine y_Machine_tell y_Machine_tell ∈ lw_good := lg_right (i := 1783) (by decide +kernel) rfl
theorem d_Machine_tell_0 : decode b_Machine_tell 0 = .ok (.iload_n 1, 1) := by decide +kernel
theorem d_Machine_tell_1 : decode b_Machine_tell 1 = .ok (.tableswitch 96 0 7 #[47, 52, 60, 68, 73, 78, 86, 91], 47) := by decide +kernel
theorem d_Machine_tell_48 : decode b_Machine_tell 48 = .ok (.aload_n 0, 1) := by decide +kernel
theorem d_Machine_tell_49 : decode b_Machine_tell 49 = .ok (.getfield 67, 3) := by decide +kernel
theorem d_Machine_tell_52 : decode b_Machine_tell 52 = .ok (.ireturn, 1) := by decide +kernel
theorem d_Machine_tell_53 : decode b_Machine_tell 53 = .ok (.aload_n 0, 1) := by decide +kernel
theorem d_Machine_tell_54 : decode b_Machine_tell 54 = .ok (.getfield 16, 3) := by decide +kernel
theorem d_Machine_tell_57 : decode b_Machine_tell 57 = .ok (.invokevirtual 227, 3) := by decide +kernel
theorem ml_Machine_227 : Cond.methodLink R_Machine 227 ⟨"PointerHouse$Memory", "pagesInUse", "()I"⟩ ∈ lw_good := lg_right (i := 1785) (by decide +kernel) rfl
theorem d_Machine_tell_60 : decode b_Machine_tell 60 = .ok (.ireturn, 1) := by decide +kernel
theorem d_Machine_tell_61 : decode b_Machine_tell 61 = .ok (.aload_n 0, 1) := by decide +kernel
theorem d_Machine_tell_62 : decode b_Machine_tell 62 = .ok (.getfield 16, 3) := by decide +kernel
theorem d_Machine_tell_65 : decode b_Machine_tell 65 = .ok (.invokevirtual 207, 3) := by decide +kernel
theorem ml_Machine_207 : Cond.methodLink R_Machine 207 ⟨"PointerHouse$Memory", "regionCount", "()I"⟩ ∈ lw_good := lg_right (i := 1616) (by decide +kernel) rfl
theorem d_Machine_tell_68 : decode b_Machine_tell 68 = .ok (.ireturn, 1) := by decide +kernel
theorem d_Machine_tell_69 : decode b_Machine_tell 69 = .ok (.aload_n 0, 1) := by decide +kernel
theorem d_Machine_tell_70 : decode b_Machine_tell 70 = .ok (.getfield 55, 3) := by decide +kernel
theorem d_Machine_tell_73 : decode b_Machine_tell 73 = .ok (.ireturn, 1) := by decide +kernel
theorem d_Machine_tell_74 : decode b_Machine_tell 74 = .ok (.aload_n 0, 1) := by decide +kernel
theorem d_Machine_tell_75 : decode b_Machine_tell 75 = .ok (.getfield 76, 3) := by decide +kernel
theorem d_Machine_tell_78 : decode b_Machine_tell 78 = .ok (.ireturn, 1) := by decide +kernel
theorem d_Machine_tell_79 : decode b_Machine_tell 79 = .ok (.aload_n 0, 1) := by decide +kernel
theorem d_Machine_tell_80 : decode b_Machine_tell 80 = .ok (.getfield 16, 3) := by decide +kernel
theorem d_Machine_tell_83 : decode b_Machine_tell 83 = .ok (.invokevirtual 230, 3) := by decide +kernel
theorem ml_Machine_230 : Cond.methodLink R_Machine 230 ⟨"PointerHouse$Memory", "objectsMade", "()I"⟩ ∈ lw_good := lg_right (i := 1789) (by decide +kernel) rfl
theorem d_Machine_tell_86 : decode b_Machine_tell 86 = .ok (.ireturn, 1) := by decide +kernel
theorem d_Machine_tell_87 : decode b_Machine_tell 87 = .ok (.aload_n 0, 1) := by decide +kernel
theorem d_Machine_tell_88 : decode b_Machine_tell 88 = .ok (.getfield 73, 3) := by decide +kernel
theorem d_Machine_tell_91 : decode b_Machine_tell 91 = .ok (.ireturn, 1) := by decide +kernel
theorem d_Machine_tell_92 : decode b_Machine_tell 92 = .ok (.aload_n 0, 1) := by decide +kernel
theorem d_Machine_tell_93 : decode b_Machine_tell 93 = .ok (.getfield 70, 3) := by decide +kernel
theorem d_Machine_tell_96 : decode b_Machine_tell 96 = .ok (.ireturn, 1) := by decide +kernel
theorem d_Machine_tell_97 : decode b_Machine_tell 97 = .ok (.aload_n 0, 1) := by decide +kernel
theorem d_Machine_tell_98 : decode b_Machine_tell 98 = .ok (.getfield 16, 3) := by decide +kernel
theorem d_Machine_tell_101 : decode b_Machine_tell 101 = .ok (.invokevirtual 233, 3) := by decide +kernel
theorem ml_Machine_233 : Cond.methodLink R_Machine 233 ⟨"PointerHouse$Memory", "strayTouches", "()I"⟩ ∈ lw_good := lg_right (i := 1793) (by decide +kernel) rfl
theorem d_Machine_tell_104 : decode b_Machine_tell 104 = .ok (.ireturn, 1) := by decide +kernel
abbrev b_House_region : ByteArray := prog_1_method_13_code
abbrev y_House_region : MethodName := ⟨R_House, "region", "(II)I"⟩
theorem co_House_region : Cond.code y_House_region b_House_region 3 (some .int) ∈ lw_good := lg_in (tin_8 _ (List.mem_of_getElem? (i := 120) rfl)) rfl
abbrev w_House_region : List Cond := Cond.code y_House_region b_House_region 3 (some .int) :: lw_good
theorem im_House_region : Cond.instanceMethod y_House_region ∈ lw_good := lg_right (i := 1798) (by decide +kernel) rfl
theorem se_House_region : Cond.selects R_House y_House_region y_House_region ∈ lw_good := lg_right (i := 1799) (by decide +kernel) rfl
theorem d_House_region_0 : decode b_House_region 0 = .ok (.aload_n 0, 1) := by decide +kernel
theorem d_House_region_1 : decode b_House_region 1 = .ok (.getfield 79, 3) := by decide +kernel
theorem d_House_region_4 : decode b_House_region 4 = .ok (.getfield 142, 3) := by decide +kernel
theorem d_House_region_7 : decode b_House_region 7 = .ok (.ifCond .ne 5, 3) := by decide +kernel
theorem d_House_region_10 : decode b_House_region 10 = .ok (.iconst (-1), 1) := by decide +kernel
theorem d_House_region_11 : decode b_House_region 11 = .ok (.ireturn, 1) := by decide +kernel
theorem d_House_region_12 : decode b_House_region 12 = .ok (.aload_n 0, 1) := by decide +kernel
theorem d_House_region_13 : decode b_House_region 13 = .ok (.getfield 79, 3) := by decide +kernel
theorem d_House_region_16 : decode b_House_region 16 = .ok (.getfield 158, 3) := by decide +kernel
theorem fl_House_158 : Cond.fieldLink R_House 158 "PointerHouse$Machine" "memory" "LPointerHouse$Memory;" ∈ lw_good := lg_right (i := 646) (by decide +kernel) rfl
theorem d_House_region_19 : decode b_House_region 19 = .ok (.iload_n 1, 1) := by decide +kernel
theorem d_House_region_20 : decode b_House_region 20 = .ok (.iload_n 2, 1) := by decide +kernel
theorem d_House_region_21 : decode b_House_region 21 = .ok (.invokevirtual 162, 3) := by decide +kernel
theorem ml_House_162 : Cond.methodLink R_House 162 ⟨"PointerHouse$Memory", "tellRegion", "(II)I"⟩ ∈ lw_good := lg_right (i := 1801) (by decide +kernel) rfl
theorem d_House_region_24 : decode b_House_region 24 = .ok (.ireturn, 1) := by decide +kernel
abbrev b_Memory_tellRegion : ByteArray := prog_7_method_16_code
abbrev y_Memory_tellRegion : MethodName := ⟨R_Memory, "tellRegion", "(II)I"⟩
theorem co_Memory_tellRegion : Cond.code y_Memory_tellRegion b_Memory_tellRegion 3 (some .int) ∈ lw_good := lg_in (tin_8 _ (List.mem_of_getElem? (i := 124) rfl)) rfl
abbrev w_Memory_tellRegion : List Cond := Cond.code y_Memory_tellRegion b_Memory_tellRegion 3 (some .int) :: lw_good
theorem im_Memory_tellRegion : Cond.instanceMethod y_Memory_tellRegion ∈ lw_good := lg_right (i := 1802) (by decide +kernel) rfl
theorem se_Memory_tellRegion : Cond.selects R_Memory y_Memory_tellRegion y_Memory_tellRegion ∈ lw_good := lg_right (i := 1803) (by decide +kernel) rfl
theorem d_Memory_tellRegion_0 : decode b_Memory_tellRegion 0 = .ok (.iload_n 1, 1) := by decide +kernel
theorem d_Memory_tellRegion_1 : decode b_Memory_tellRegion 1 = .ok (.ifCond .lt 11, 3) := by decide +kernel
theorem d_Memory_tellRegion_4 : decode b_Memory_tellRegion 4 = .ok (.iload_n 1, 1) := by decide +kernel
theorem d_Memory_tellRegion_5 : decode b_Memory_tellRegion 5 = .ok (.aload_n 0, 1) := by decide +kernel
theorem d_Memory_tellRegion_6 : decode b_Memory_tellRegion 6 = .ok (.getfield 64, 3) := by decide +kernel
theorem fl_Memory_64 : Cond.fieldLink R_Memory 64 "PointerHouse$Memory" "regions" "I" ∈ lw_good := lg_right (i := 607) (by decide +kernel) rfl
theorem d_Memory_tellRegion_9 : decode b_Memory_tellRegion 9 = .ok (.if_icmp .lt 5, 3) := by decide +kernel
theorem d_Memory_tellRegion_12 : decode b_Memory_tellRegion 12 = .ok (.iconst (-1), 1) := by decide +kernel
theorem d_Memory_tellRegion_13 : decode b_Memory_tellRegion 13 = .ok (.ireturn, 1) := by decide +kernel
theorem d_Memory_tellRegion_14 : decode b_Memory_tellRegion 14 = .ok (.iload_n 2, 1) := by decide +kernel
theorem d_Memory_tellRegion_15 : decode b_Memory_tellRegion 15 = .ok (.tableswitch 46 0 2 #[25, 32, 39], 25) := by decide +kernel
theorem d_Memory_tellRegion_40 : decode b_Memory_tellRegion 40 = .ok (.aload_n 0, 1) := by decide +kernel
theorem d_Memory_tellRegion_41 : decode b_Memory_tellRegion 41 = .ok (.getfield 24, 3) := by decide +kernel
theorem fl_Memory_24 : Cond.fieldLink R_Memory 24 "PointerHouse$Memory" "pagesOf" "[I" ∈ lw_good := lg_right (i := 608) (by decide +kernel) rfl
theorem d_Memory_tellRegion_44 : decode b_Memory_tellRegion 44 = .ok (.iload_n 1, 1) := by decide +kernel
theorem d_Memory_tellRegion_45 : decode b_Memory_tellRegion 45 = .ok (.iaload, 1) := by decide +kernel
theorem d_Memory_tellRegion_46 : decode b_Memory_tellRegion 46 = .ok (.ireturn, 1) := by decide +kernel
theorem d_Memory_tellRegion_47 : decode b_Memory_tellRegion 47 = .ok (.aload_n 0, 1) := by decide +kernel
theorem d_Memory_tellRegion_48 : decode b_Memory_tellRegion 48 = .ok (.getfield 27, 3) := by decide +kernel
theorem fl_Memory_27 : Cond.fieldLink R_Memory 27 "PointerHouse$Memory" "wordsOf" "[I" ∈ lw_good := lg_right (i := 609) (by decide +kernel) rfl
theorem d_Memory_tellRegion_51 : decode b_Memory_tellRegion 51 = .ok (.iload_n 1, 1) := by decide +kernel
theorem d_Memory_tellRegion_52 : decode b_Memory_tellRegion 52 = .ok (.iaload, 1) := by decide +kernel
theorem d_Memory_tellRegion_53 : decode b_Memory_tellRegion 53 = .ok (.ireturn, 1) := by decide +kernel
theorem d_Memory_tellRegion_54 : decode b_Memory_tellRegion 54 = .ok (.aload_n 0, 1) := by decide +kernel
theorem d_Memory_tellRegion_55 : decode b_Memory_tellRegion 55 = .ok (.getfield 30, 3) := by decide +kernel
theorem fl_Memory_30 : Cond.fieldLink R_Memory 30 "PointerHouse$Memory" "objectsOf" "[I" ∈ lw_good := lg_right (i := 610) (by decide +kernel) rfl
theorem d_Memory_tellRegion_58 : decode b_Memory_tellRegion 58 = .ok (.iload_n 1, 1) := by decide +kernel
theorem d_Memory_tellRegion_59 : decode b_Memory_tellRegion 59 = .ok (.iaload, 1) := by decide +kernel
theorem d_Memory_tellRegion_60 : decode b_Memory_tellRegion 60 = .ok (.ireturn, 1) := by decide +kernel
theorem d_Memory_tellRegion_61 : decode b_Memory_tellRegion 61 = .ok (.iconst (-1), 1) := by decide +kernel
theorem d_Memory_tellRegion_62 : decode b_Memory_tellRegion 62 = .ok (.ireturn, 1) := by decide +kernel
abbrev b_House_printed : ByteArray := prog_1_method_14_code
abbrev y_House_printed : MethodName := ⟨R_House, "printed", "(I)I"⟩
theorem co_House_printed : Cond.code y_House_printed b_House_printed 2 (some .int) ∈ lw_good := lg_in (tin_8 _ (List.mem_of_getElem? (i := 128) rfl)) rfl
abbrev w_House_printed : List Cond := Cond.code y_House_printed b_House_printed 2 (some .int) :: lw_good
theorem im_House_printed : Cond.instanceMethod y_House_printed ∈ lw_good := lg_right (i := 1806) (by decide +kernel) rfl
theorem se_House_printed : Cond.selects R_House y_House_printed y_House_printed ∈ lw_good := lg_right (i := 1807) (by decide +kernel) rfl
theorem d_House_printed_0 : decode b_House_printed 0 = .ok (.aload_n 0, 1) := by decide +kernel
theorem d_House_printed_1 : decode b_House_printed 1 = .ok (.getfield 79, 3) := by decide +kernel
theorem d_House_printed_4 : decode b_House_printed 4 = .ok (.getfield 142, 3) := by decide +kernel
theorem d_House_printed_7 : decode b_House_printed 7 = .ok (.ifCond .ne 5, 3) := by decide +kernel
theorem d_House_printed_10 : decode b_House_printed 10 = .ok (.iconst 0, 1) := by decide +kernel
theorem d_House_printed_11 : decode b_House_printed 11 = .ok (.ireturn, 1) := by decide +kernel
theorem d_House_printed_12 : decode b_House_printed 12 = .ok (.aload_n 0, 1) := by decide +kernel
theorem d_House_printed_13 : decode b_House_printed 13 = .ok (.getfield 79, 3) := by decide +kernel
theorem d_House_printed_16 : decode b_House_printed 16 = .ok (.iload_n 1, 1) := by decide +kernel
theorem d_House_printed_17 : decode b_House_printed 17 = .ok (.invokevirtual 166, 3) := by decide +kernel
theorem ml_House_166 : Cond.methodLink R_House 166 ⟨"PointerHouse$Machine", "printedAt", "(I)I"⟩ ∈ lw_good := lg_right (i := 1809) (by decide +kernel) rfl
theorem d_House_printed_20 : decode b_House_printed 20 = .ok (.ireturn, 1) := by decide +kernel
abbrev b_Machine_printedAt : ByteArray := prog_6_method_31_code
abbrev y_Machine_printedAt : MethodName := ⟨R_Machine, "printedAt", "(I)I"⟩
theorem co_Machine_printedAt : Cond.code y_Machine_printedAt b_Machine_printedAt 2 (some .int) ∈ lw_good := lg_in (tin_8 _ (List.mem_of_getElem? (i := 132) rfl)) rfl
abbrev w_Machine_printedAt : List Cond := Cond.code y_Machine_printedAt b_Machine_printedAt 2 (some .int) :: lw_good
theorem im_Machine_printedAt : Cond.instanceMethod y_Machine_printedAt ∈ lw_good := lg_right (i := 1810) (by decide +kernel) rfl
theorem se_Machine_printedAt : Cond.selects R_Machine y_Machine_printedAt y_Machine_printedAt ∈ lw_good := lg_right (i := 1811) (by decide +kernel) rfl
theorem d_Machine_printedAt_0 : decode b_Machine_printedAt 0 = .ok (.iload_n 1, 1) := by decide +kernel
theorem d_Machine_printedAt_1 : decode b_Machine_printedAt 1 = .ok (.ifCond .lt 20, 3) := by decide +kernel
theorem d_Machine_printedAt_4 : decode b_Machine_printedAt 4 = .ok (.iload_n 1, 1) := by decide +kernel
theorem d_Machine_printedAt_5 : decode b_Machine_printedAt 5 = .ok (.aload_n 0, 1) := by decide +kernel
theorem d_Machine_printedAt_6 : decode b_Machine_printedAt 6 = .ok (.getfield 76, 3) := by decide +kernel
theorem d_Machine_printedAt_9 : decode b_Machine_printedAt 9 = .ok (.if_icmp .ge 12, 3) := by decide +kernel
theorem d_Machine_printedAt_12 : decode b_Machine_printedAt 12 = .ok (.iload_n 1, 1) := by decide +kernel
theorem d_Machine_printedAt_13 : decode b_Machine_printedAt 13 = .ok (.aload_n 0, 1) := by decide +kernel
theorem d_Machine_printedAt_14 : decode b_Machine_printedAt 14 = .ok (.getfield 33, 3) := by decide +kernel
theorem fl_Machine_33 : Cond.fieldLink R_Machine 33 "PointerHouse$Machine" "printed" "[I" ∈ lw_good := lg_right (i := 662) (by decide +kernel) rfl
theorem d_Machine_printedAt_17 : decode b_Machine_printedAt 17 = .ok (.arraylength, 1) := by decide +kernel
theorem d_Machine_printedAt_18 : decode b_Machine_printedAt 18 = .ok (.if_icmp .lt 7, 3) := by decide +kernel
theorem d_Machine_printedAt_21 : decode b_Machine_printedAt 21 = .ok (.iconst 0, 1) := by decide +kernel
theorem d_Machine_printedAt_22 : decode b_Machine_printedAt 22 = .ok (.goto 9, 3) := by decide +kernel
theorem d_Machine_printedAt_25 : decode b_Machine_printedAt 25 = .ok (.aload_n 0, 1) := by decide +kernel
theorem d_Machine_printedAt_26 : decode b_Machine_printedAt 26 = .ok (.getfield 33, 3) := by decide +kernel
theorem d_Machine_printedAt_29 : decode b_Machine_printedAt 29 = .ok (.iload_n 1, 1) := by decide +kernel
theorem d_Machine_printedAt_30 : decode b_Machine_printedAt 30 = .ok (.iaload, 1) := by decide +kernel
theorem d_Machine_printedAt_31 : decode b_Machine_printedAt 31 = .ok (.ireturn, 1) := by decide +kernel
abbrev b_Source_kindAt : ByteArray := prog_10_method_14_code
abbrev y_Source_kindAt : MethodName := ⟨R_Source, "kindAt", "(I)I"⟩
theorem co_Source_kindAt : Cond.code y_Source_kindAt b_Source_kindAt 2 (some .int) ∈ lw_good := lg_in (tin_4 _ (List.mem_of_getElem? (i := 149) rfl)) rfl
abbrev w_Source_kindAt : List Cond := Cond.code y_Source_kindAt b_Source_kindAt 2 (some .int) :: lw_good
theorem im_Source_kindAt : Cond.instanceMethod y_Source_kindAt ∈ lw_good := lg_right (i := 867) (by decide +kernel) rfl
theorem se_Source_kindAt : Cond.selects R_Source y_Source_kindAt y_Source_kindAt ∈ lw_good := lg_right (i := 868) (by decide +kernel) rfl
theorem d_Source_kindAt_0 : decode b_Source_kindAt 0 = .ok (.iload_n 1, 1) := by decide +kernel
theorem d_Source_kindAt_1 : decode b_Source_kindAt 1 = .ok (.ifCond .lt 11, 3) := by decide +kernel
theorem d_Source_kindAt_4 : decode b_Source_kindAt 4 = .ok (.iload_n 1, 1) := by decide +kernel
theorem d_Source_kindAt_5 : decode b_Source_kindAt 5 = .ok (.aload_n 0, 1) := by decide +kernel
theorem d_Source_kindAt_6 : decode b_Source_kindAt 6 = .ok (.getfield 86, 3) := by decide +kernel
theorem d_Source_kindAt_9 : decode b_Source_kindAt 9 = .ok (.if_icmp .lt 7, 3) := by decide +kernel
theorem d_Source_kindAt_12 : decode b_Source_kindAt 12 = .ok (.iconst 0, 1) := by decide +kernel
theorem d_Source_kindAt_13 : decode b_Source_kindAt 13 = .ok (.goto 9, 3) := by decide +kernel
theorem d_Source_kindAt_16 : decode b_Source_kindAt 16 = .ok (.aload_n 0, 1) := by decide +kernel
theorem d_Source_kindAt_17 : decode b_Source_kindAt 17 = .ok (.getfield 36, 3) := by decide +kernel
theorem d_Source_kindAt_20 : decode b_Source_kindAt 20 = .ok (.iload_n 1, 1) := by decide +kernel
theorem d_Source_kindAt_21 : decode b_Source_kindAt 21 = .ok (.iaload, 1) := by decide +kernel
theorem d_Source_kindAt_22 : decode b_Source_kindAt 22 = .ok (.ireturn, 1) := by decide +kernel
abbrev b_Source_startOf : ByteArray := prog_10_method_15_code
abbrev y_Source_startOf : MethodName := ⟨R_Source, "startOf", "(I)I"⟩
theorem co_Source_startOf : Cond.code y_Source_startOf b_Source_startOf 2 (some .int) ∈ lw_good := lg_in (tin_4 _ (List.mem_of_getElem? (i := 161) rfl)) rfl
abbrev w_Source_startOf : List Cond := Cond.code y_Source_startOf b_Source_startOf 2 (some .int) :: lw_good
theorem im_Source_startOf : Cond.instanceMethod y_Source_startOf ∈ lw_good := lg_right (i := 879) (by decide +kernel) rfl
theorem se_Source_startOf : Cond.selects R_Source y_Source_startOf y_Source_startOf ∈ lw_good := lg_right (i := 880) (by decide +kernel) rfl
theorem d_Source_startOf_0 : decode b_Source_startOf 0 = .ok (.iload_n 1, 1) := by decide +kernel
theorem d_Source_startOf_1 : decode b_Source_startOf 1 = .ok (.ifCond .lt 11, 3) := by decide +kernel
theorem d_Source_startOf_4 : decode b_Source_startOf 4 = .ok (.iload_n 1, 1) := by decide +kernel
theorem d_Source_startOf_5 : decode b_Source_startOf 5 = .ok (.aload_n 0, 1) := by decide +kernel
theorem d_Source_startOf_6 : decode b_Source_startOf 6 = .ok (.getfield 86, 3) := by decide +kernel
theorem d_Source_startOf_9 : decode b_Source_startOf 9 = .ok (.if_icmp .lt 10, 3) := by decide +kernel
theorem d_Source_startOf_12 : decode b_Source_startOf 12 = .ok (.aload_n 0, 1) := by decide +kernel
theorem d_Source_startOf_13 : decode b_Source_startOf 13 = .ok (.getfield 83, 3) := by decide +kernel
theorem d_Source_startOf_16 : decode b_Source_startOf 16 = .ok (.goto 9, 3) := by decide +kernel
theorem d_Source_startOf_19 : decode b_Source_startOf 19 = .ok (.aload_n 0, 1) := by decide +kernel
theorem d_Source_startOf_20 : decode b_Source_startOf 20 = .ok (.getfield 39, 3) := by decide +kernel
theorem d_Source_startOf_23 : decode b_Source_startOf 23 = .ok (.iload_n 1, 1) := by decide +kernel
theorem d_Source_startOf_24 : decode b_Source_startOf 24 = .ok (.iaload, 1) := by decide +kernel
theorem d_Source_startOf_25 : decode b_Source_startOf 25 = .ok (.ireturn, 1) := by decide +kernel
abbrev b_Source_nameAt : ByteArray := prog_10_method_16_code
abbrev y_Source_nameAt : MethodName := ⟨R_Source, "nameAt", "(I)J"⟩
theorem co_Source_nameAt : Cond.code y_Source_nameAt b_Source_nameAt 2 (some .long) ∈ lw_good := lg_in (tin_4 _ (List.mem_of_getElem? (i := 173) rfl)) rfl
abbrev w_Source_nameAt : List Cond := Cond.code y_Source_nameAt b_Source_nameAt 2 (some .long) :: lw_good
theorem im_Source_nameAt : Cond.instanceMethod y_Source_nameAt ∈ lw_good := lg_right (i := 891) (by decide +kernel) rfl
theorem se_Source_nameAt : Cond.selects R_Source y_Source_nameAt y_Source_nameAt ∈ lw_good := lg_right (i := 892) (by decide +kernel) rfl
theorem d_Source_nameAt_0 : decode b_Source_nameAt 0 = .ok (.iload_n 1, 1) := by decide +kernel
theorem d_Source_nameAt_1 : decode b_Source_nameAt 1 = .ok (.ifCond .lt 11, 3) := by decide +kernel
theorem d_Source_nameAt_4 : decode b_Source_nameAt 4 = .ok (.iload_n 1, 1) := by decide +kernel
theorem d_Source_nameAt_5 : decode b_Source_nameAt 5 = .ok (.aload_n 0, 1) := by decide +kernel
theorem d_Source_nameAt_6 : decode b_Source_nameAt 6 = .ok (.getfield 86, 3) := by decide +kernel
theorem d_Source_nameAt_9 : decode b_Source_nameAt 9 = .ok (.if_icmp .lt 7, 3) := by decide +kernel
theorem d_Source_nameAt_12 : decode b_Source_nameAt 12 = .ok (.lconst 0, 1) := by decide +kernel
theorem d_Source_nameAt_13 : decode b_Source_nameAt 13 = .ok (.goto 9, 3) := by decide +kernel
theorem d_Source_nameAt_16 : decode b_Source_nameAt 16 = .ok (.aload_n 0, 1) := by decide +kernel
theorem d_Source_nameAt_17 : decode b_Source_nameAt 17 = .ok (.getfield 42, 3) := by decide +kernel
theorem fl_Source_42 : Cond.fieldLink R_Source 42 "PointerHouse$Source" "tokenName" "[J" ∈ lw_good := lg_right (i := 227) (by decide +kernel) rfl
theorem d_Source_nameAt_20 : decode b_Source_nameAt 20 = .ok (.iload_n 1, 1) := by decide +kernel
theorem d_Source_nameAt_21 : decode b_Source_nameAt 21 = .ok (.laload, 1) := by decide +kernel
theorem d_Source_nameAt_22 : decode b_Source_nameAt 22 = .ok (.lreturn, 1) := by decide +kernel
abbrev b_Source_addNode : ByteArray := prog_10_method_17_code
abbrev y_Source_addNode : MethodName := ⟨R_Source, "addNode", "(II)I"⟩
theorem co_Source_addNode : Cond.code y_Source_addNode b_Source_addNode 3 (some .int) ∈ lw_good := lg_in (tin_4 _ (List.mem_of_getElem? (i := 141) rfl)) rfl
abbrev w_Source_addNode : List Cond := Cond.code y_Source_addNode b_Source_addNode 3 (some .int) :: lw_good
theorem im_Source_addNode : Cond.instanceMethod y_Source_addNode ∈ lw_good := lg_right (i := 859) (by decide +kernel) rfl
theorem se_Source_addNode : Cond.selects R_Source y_Source_addNode y_Source_addNode ∈ lw_good := lg_right (i := 860) (by decide +kernel) rfl
theorem d_Source_addNode_0 : decode b_Source_addNode 0 = .ok (.aload_n 0, 1) := by decide +kernel
theorem d_Source_addNode_1 : decode b_Source_addNode 1 = .ok (.getfield 96, 3) := by decide +kernel
theorem d_Source_addNode_4 : decode b_Source_addNode 4 = .ok (.sipush 4008, 3) := by decide +kernel
theorem d_Source_addNode_7 : decode b_Source_addNode 7 = .ok (.if_icmp .lt 5, 3) := by decide +kernel
theorem d_Source_addNode_10 : decode b_Source_addNode 10 = .ok (.iconst 0, 1) := by decide +kernel
theorem d_Source_addNode_11 : decode b_Source_addNode 11 = .ok (.ireturn, 1) := by decide +kernel
theorem d_Source_addNode_12 : decode b_Source_addNode 12 = .ok (.aload_n 0, 1) := by decide +kernel
theorem d_Source_addNode_13 : decode b_Source_addNode 13 = .ok (.getfield 11, 3) := by decide +kernel
theorem fl_Source_11 : Cond.fieldLink R_Source 11 "PointerHouse$Source" "kind" "[I" ∈ lw_good := lg_right (i := 192) (by decide +kernel) rfl
theorem d_Source_addNode_16 : decode b_Source_addNode 16 = .ok (.aload_n 0, 1) := by decide +kernel
theorem d_Source_addNode_17 : decode b_Source_addNode 17 = .ok (.getfield 96, 3) := by decide +kernel
theorem d_Source_addNode_20 : decode b_Source_addNode 20 = .ok (.iload_n 1, 1) := by decide +kernel
theorem d_Source_addNode_21 : decode b_Source_addNode 21 = .ok (.iastore, 1) := by decide +kernel
theorem d_Source_addNode_22 : decode b_Source_addNode 22 = .ok (.aload_n 0, 1) := by decide +kernel
theorem d_Source_addNode_23 : decode b_Source_addNode 23 = .ok (.getfield 15, 3) := by decide +kernel
theorem fl_Source_15 : Cond.fieldLink R_Source 15 "PointerHouse$Source" "tok" "[I" ∈ lw_good := lg_right (i := 196) (by decide +kernel) rfl
theorem d_Source_addNode_26 : decode b_Source_addNode 26 = .ok (.aload_n 0, 1) := by decide +kernel
theorem d_Source_addNode_27 : decode b_Source_addNode 27 = .ok (.getfield 96, 3) := by decide +kernel
theorem d_Source_addNode_30 : decode b_Source_addNode 30 = .ok (.iload_n 2, 1) := by decide +kernel
theorem d_Source_addNode_31 : decode b_Source_addNode 31 = .ok (.iastore, 1) := by decide +kernel
theorem d_Source_addNode_32 : decode b_Source_addNode 32 = .ok (.aload_n 0, 1) := by decide +kernel
theorem d_Source_addNode_33 : decode b_Source_addNode 33 = .ok (.getfield 18, 3) := by decide +kernel
theorem fl_Source_18 : Cond.fieldLink R_Source 18 "PointerHouse$Source" "next" "[I" ∈ lw_good := lg_right (i := 199) (by decide +kernel) rfl
theorem d_Source_addNode_36 : decode b_Source_addNode 36 = .ok (.aload_n 0, 1) := by decide +kernel
theorem d_Source_addNode_37 : decode b_Source_addNode 37 = .ok (.getfield 96, 3) := by decide +kernel
theorem d_Source_addNode_40 : decode b_Source_addNode 40 = .ok (.iconst 0, 1) := by decide +kernel
theorem d_Source_addNode_41 : decode b_Source_addNode 41 = .ok (.iastore, 1) := by decide +kernel
theorem d_Source_addNode_42 : decode b_Source_addNode 42 = .ok (.aload_n 0, 1) := by decide +kernel
theorem d_Source_addNode_43 : decode b_Source_addNode 43 = .ok (.getfield 21, 3) := by decide +kernel
theorem fl_Source_21 : Cond.fieldLink R_Source 21 "PointerHouse$Source" "peer" "[I" ∈ lw_good := lg_right (i := 203) (by decide +kernel) rfl
theorem d_Source_addNode_46 : decode b_Source_addNode 46 = .ok (.aload_n 0, 1) := by decide +kernel
theorem d_Source_addNode_47 : decode b_Source_addNode 47 = .ok (.getfield 96, 3) := by decide +kernel
theorem d_Source_addNode_50 : decode b_Source_addNode 50 = .ok (.iconst 0, 1) := by decide +kernel
theorem d_Source_addNode_51 : decode b_Source_addNode 51 = .ok (.iastore, 1) := by decide +kernel
theorem d_Source_addNode_52 : decode b_Source_addNode 52 = .ok (.aload_n 0, 1) := by decide +kernel
theorem d_Source_addNode_53 : decode b_Source_addNode 53 = .ok (.getfield 24, 3) := by decide +kernel
theorem fl_Source_24 : Cond.fieldLink R_Source 24 "PointerHouse$Source" "op" "[I" ∈ lw_good := lg_right (i := 206) (by decide +kernel) rfl
theorem d_Source_addNode_56 : decode b_Source_addNode 56 = .ok (.aload_n 0, 1) := by decide +kernel
theorem d_Source_addNode_57 : decode b_Source_addNode 57 = .ok (.getfield 96, 3) := by decide +kernel
theorem d_Source_addNode_60 : decode b_Source_addNode 60 = .ok (.iconst 0, 1) := by decide +kernel
theorem d_Source_addNode_61 : decode b_Source_addNode 61 = .ok (.iastore, 1) := by decide +kernel
theorem d_Source_addNode_62 : decode b_Source_addNode 62 = .ok (.aload_n 0, 1) := by decide +kernel
theorem d_Source_addNode_63 : decode b_Source_addNode 63 = .ok (.getfield 27, 3) := by decide +kernel
theorem fl_Source_27 : Cond.fieldLink R_Source 27 "PointerHouse$Source" "left" "[I" ∈ lw_good := lg_right (i := 209) (by decide +kernel) rfl
theorem d_Source_addNode_66 : decode b_Source_addNode 66 = .ok (.aload_n 0, 1) := by decide +kernel
theorem d_Source_addNode_67 : decode b_Source_addNode 67 = .ok (.getfield 96, 3) := by decide +kernel
theorem d_Source_addNode_70 : decode b_Source_addNode 70 = .ok (.iconst 0, 1) := by decide +kernel
theorem d_Source_addNode_71 : decode b_Source_addNode 71 = .ok (.iastore, 1) := by decide +kernel
theorem d_Source_addNode_72 : decode b_Source_addNode 72 = .ok (.aload_n 0, 1) := by decide +kernel
theorem d_Source_addNode_73 : decode b_Source_addNode 73 = .ok (.getfield 30, 3) := by decide +kernel
theorem fl_Source_30 : Cond.fieldLink R_Source 30 "PointerHouse$Source" "right" "[I" ∈ lw_good := lg_right (i := 213) (by decide +kernel) rfl
theorem d_Source_addNode_76 : decode b_Source_addNode 76 = .ok (.aload_n 0, 1) := by decide +kernel
theorem d_Source_addNode_77 : decode b_Source_addNode 77 = .ok (.getfield 96, 3) := by decide +kernel
theorem d_Source_addNode_80 : decode b_Source_addNode 80 = .ok (.iconst 0, 1) := by decide +kernel
theorem d_Source_addNode_81 : decode b_Source_addNode 81 = .ok (.iastore, 1) := by decide +kernel
theorem d_Source_addNode_82 : decode b_Source_addNode 82 = .ok (.aload_n 0, 1) := by decide +kernel
theorem d_Source_addNode_83 : decode b_Source_addNode 83 = .ok (.getfield 33, 3) := by decide +kernel
theorem fl_Source_33 : Cond.fieldLink R_Source 33 "PointerHouse$Source" "tail" "[I" ∈ lw_good := lg_right (i := 217) (by decide +kernel) rfl
theorem d_Source_addNode_86 : decode b_Source_addNode 86 = .ok (.aload_n 0, 1) := by decide +kernel
theorem d_Source_addNode_87 : decode b_Source_addNode 87 = .ok (.getfield 96, 3) := by decide +kernel
theorem d_Source_addNode_90 : decode b_Source_addNode 90 = .ok (.iconst 0, 1) := by decide +kernel
theorem d_Source_addNode_91 : decode b_Source_addNode 91 = .ok (.iastore, 1) := by decide +kernel
theorem d_Source_addNode_92 : decode b_Source_addNode 92 = .ok (.aload_n 0, 1) := by decide +kernel
theorem d_Source_addNode_93 : decode b_Source_addNode 93 = .ok (.dup, 1) := by decide +kernel
theorem d_Source_addNode_94 : decode b_Source_addNode 94 = .ok (.getfield 96, 3) := by decide +kernel
theorem d_Source_addNode_97 : decode b_Source_addNode 97 = .ok (.iconst 1, 1) := by decide +kernel
theorem d_Source_addNode_98 : decode b_Source_addNode 98 = .ok (.iadd, 1) := by decide +kernel
theorem d_Source_addNode_99 : decode b_Source_addNode 99 = .ok (.putfield 96, 3) := by decide +kernel
theorem d_Source_addNode_102 : decode b_Source_addNode 102 = .ok (.aload_n 0, 1) := by decide +kernel
theorem d_Source_addNode_103 : decode b_Source_addNode 103 = .ok (.getfield 96, 3) := by decide +kernel
theorem d_Source_addNode_106 : decode b_Source_addNode 106 = .ok (.iconst 1, 1) := by decide +kernel
theorem d_Source_addNode_107 : decode b_Source_addNode 107 = .ok (.isub, 1) := by decide +kernel
theorem d_Source_addNode_108 : decode b_Source_addNode 108 = .ok (.ireturn, 1) := by decide +kernel
abbrev b_Source_bare : ByteArray := prog_10_method_18_code
abbrev y_Source_bare : MethodName := ⟨R_Source, "bare", "(I)I"⟩
theorem co_Source_bare : Cond.code y_Source_bare b_Source_bare 4 (some .int) ∈ lw_good := lg_in (tin_6 _ (List.mem_of_getElem? (i := 186) rfl)) rfl
abbrev w_Source_bare : List Cond := Cond.code y_Source_bare b_Source_bare 4 (some .int) :: lw_good
theorem im_Source_bare : Cond.instanceMethod y_Source_bare ∈ lw_good := lg_right (i := 1384) (by decide +kernel) rfl
theorem se_Source_bare : Cond.selects R_Source y_Source_bare y_Source_bare ∈ lw_good := lg_right (i := 1385) (by decide +kernel) rfl
theorem d_Source_bare_0 : decode b_Source_bare 0 = .ok (.iload_n 1, 1) := by decide +kernel
theorem d_Source_bare_1 : decode b_Source_bare 1 = .ok (.istore_n 2, 1) := by decide +kernel
theorem d_Source_bare_2 : decode b_Source_bare 2 = .ok (.iconst 0, 1) := by decide +kernel
theorem d_Source_bare_3 : decode b_Source_bare 3 = .ok (.istore_n 3, 1) := by decide +kernel
theorem d_Source_bare_4 : decode b_Source_bare 4 = .ok (.iload_n 3, 1) := by decide +kernel
theorem d_Source_bare_5 : decode b_Source_bare 5 = .ok (.bipush 20, 2) := by decide +kernel
theorem d_Source_bare_7 : decode b_Source_bare 7 = .ok (.if_icmp .ge 33, 3) := by decide +kernel
theorem d_Source_bare_10 : decode b_Source_bare 10 = .ok (.aload_n 0, 1) := by decide +kernel
theorem d_Source_bare_11 : decode b_Source_bare 11 = .ok (.iload_n 2, 1) := by decide +kernel
theorem d_Source_bare_12 : decode b_Source_bare 12 = .ok (.invokevirtual 141, 3) := by decide +kernel
theorem ml_Source_141 : Cond.methodLink R_Source 141 ⟨"PointerHouse$Source", "isBareParen", "(I)Z"⟩ ∈ lw_good := lg_right (i := 1387) (by decide +kernel) rfl
theorem d_Source_bare_15 : decode b_Source_bare 15 = .ok (.ifCond .eq 25, 3) := by decide +kernel
theorem d_Source_bare_18 : decode b_Source_bare 18 = .ok (.aload_n 0, 1) := by decide +kernel
theorem d_Source_bare_19 : decode b_Source_bare 19 = .ok (.getfield 18, 3) := by decide +kernel
theorem d_Source_bare_22 : decode b_Source_bare 22 = .ok (.iload_n 2, 1) := by decide +kernel
theorem d_Source_bare_23 : decode b_Source_bare 23 = .ok (.iaload, 1) := by decide +kernel
theorem d_Source_bare_24 : decode b_Source_bare 24 = .ok (.ifCond .ne 16, 3) := by decide +kernel
theorem d_Source_bare_27 : decode b_Source_bare 27 = .ok (.aload_n 0, 1) := by decide +kernel
theorem d_Source_bare_28 : decode b_Source_bare 28 = .ok (.getfield 30, 3) := by decide +kernel
theorem d_Source_bare_31 : decode b_Source_bare 31 = .ok (.iload_n 2, 1) := by decide +kernel
theorem d_Source_bare_32 : decode b_Source_bare 32 = .ok (.iaload, 1) := by decide +kernel
theorem d_Source_bare_33 : decode b_Source_bare 33 = .ok (.istore_n 2, 1) := by decide +kernel
theorem d_Source_bare_34 : decode b_Source_bare 34 = .ok (.iinc 3 1, 3) := by decide +kernel
theorem d_Source_bare_37 : decode b_Source_bare 37 = .ok (.goto (-33), 3) := by decide +kernel
theorem d_Source_bare_40 : decode b_Source_bare 40 = .ok (.iload_n 2, 1) := by decide +kernel
theorem d_Source_bare_41 : decode b_Source_bare 41 = .ok (.ireturn, 1) := by decide +kernel
abbrev b_Source_isBareParen : ByteArray := prog_10_method_20_code
abbrev y_Source_isBareParen : MethodName := ⟨R_Source, "isBareParen", "(I)Z"⟩
theorem co_Source_isBareParen : Cond.code y_Source_isBareParen b_Source_isBareParen 2 (some .boolean) ∈ lw_good := lg_in (tin_6 _ (List.mem_of_getElem? (i := 190) rfl)) rfl
abbrev w_Source_isBareParen : List Cond := Cond.code y_Source_isBareParen b_Source_isBareParen 2 (some .boolean) :: lw_good
theorem im_Source_isBareParen : Cond.instanceMethod y_Source_isBareParen ∈ lw_good := lg_right (i := 1389) (by decide +kernel) rfl
theorem se_Source_isBareParen : Cond.selects R_Source y_Source_isBareParen y_Source_isBareParen ∈ lw_good := lg_left (i := 64) (by decide +kernel) rfl
theorem d_Source_isBareParen_0 : decode b_Source_isBareParen 0 = .ok (.aload_n 0, 1) := by decide +kernel
theorem d_Source_isBareParen_1 : decode b_Source_isBareParen 1 = .ok (.getfield 11, 3) := by decide +kernel
theorem d_Source_isBareParen_4 : decode b_Source_isBareParen 4 = .ok (.iload_n 1, 1) := by decide +kernel
theorem d_Source_isBareParen_5 : decode b_Source_isBareParen 5 = .ok (.iaload, 1) := by decide +kernel
theorem d_Source_isBareParen_6 : decode b_Source_isBareParen 6 = .ok (.bipush 42, 2) := by decide +kernel
theorem d_Source_isBareParen_8 : decode b_Source_isBareParen 8 = .ok (.if_icmp .ne 16, 3) := by decide +kernel
theorem d_Source_isBareParen_11 : decode b_Source_isBareParen 11 = .ok (.aload_n 0, 1) := by decide +kernel
theorem d_Source_isBareParen_12 : decode b_Source_isBareParen 12 = .ok (.getfield 33, 3) := by decide +kernel
theorem d_Source_isBareParen_15 : decode b_Source_isBareParen 15 = .ok (.iload_n 1, 1) := by decide +kernel
theorem d_Source_isBareParen_16 : decode b_Source_isBareParen 16 = .ok (.iaload, 1) := by decide +kernel
theorem d_Source_isBareParen_17 : decode b_Source_isBareParen 17 = .ok (.ifCond .ne 7, 3) := by decide +kernel
theorem d_Source_isBareParen_20 : decode b_Source_isBareParen 20 = .ok (.iconst 1, 1) := by decide +kernel
theorem d_Source_isBareParen_21 : decode b_Source_isBareParen 21 = .ok (.goto 4, 3) := by decide +kernel
theorem d_Source_isBareParen_24 : decode b_Source_isBareParen 24 = .ok (.iconst 0, 1) := by decide +kernel
theorem d_Source_isBareParen_25 : decode b_Source_isBareParen 25 = .ok (.ireturn, 1) := by decide +kernel
abbrev b_Source_bareTerm : ByteArray := prog_10_method_19_code
abbrev y_Source_bareTerm : MethodName := ⟨R_Source, "bareTerm", "(I)I"⟩
theorem co_Source_bareTerm : Cond.code y_Source_bareTerm b_Source_bareTerm 3 (some .int) ∈ lw_good := lg_in (tin_7 _ (List.mem_of_getElem? (i := 47) rfl)) rfl
abbrev w_Source_bareTerm : List Cond := Cond.code y_Source_bareTerm b_Source_bareTerm 3 (some .int) :: lw_good
theorem im_Source_bareTerm : Cond.instanceMethod y_Source_bareTerm ∈ lw_good := lg_right (i := 1485) (by decide +kernel) rfl
theorem se_Source_bareTerm : Cond.selects R_Source y_Source_bareTerm y_Source_bareTerm ∈ lw_good := lg_right (i := 1486) (by decide +kernel) rfl
theorem d_Source_bareTerm_0 : decode b_Source_bareTerm 0 = .ok (.aload_n 0, 1) := by decide +kernel
theorem d_Source_bareTerm_1 : decode b_Source_bareTerm 1 = .ok (.iload_n 1, 1) := by decide +kernel
theorem d_Source_bareTerm_2 : decode b_Source_bareTerm 2 = .ok (.invokevirtual 141, 3) := by decide +kernel
theorem d_Source_bareTerm_5 : decode b_Source_bareTerm 5 = .ok (.ifCond .ne 5, 3) := by decide +kernel
theorem d_Source_bareTerm_8 : decode b_Source_bareTerm 8 = .ok (.iload_n 1, 1) := by decide +kernel
theorem d_Source_bareTerm_9 : decode b_Source_bareTerm 9 = .ok (.ireturn, 1) := by decide +kernel
theorem d_Source_bareTerm_10 : decode b_Source_bareTerm 10 = .ok (.aload_n 0, 1) := by decide +kernel
theorem d_Source_bareTerm_11 : decode b_Source_bareTerm 11 = .ok (.aload_n 0, 1) := by decide +kernel
theorem d_Source_bareTerm_12 : decode b_Source_bareTerm 12 = .ok (.getfield 30, 3) := by decide +kernel
theorem d_Source_bareTerm_15 : decode b_Source_bareTerm 15 = .ok (.iload_n 1, 1) := by decide +kernel
theorem d_Source_bareTerm_16 : decode b_Source_bareTerm 16 = .ok (.iaload, 1) := by decide +kernel
theorem d_Source_bareTerm_17 : decode b_Source_bareTerm 17 = .ok (.invokevirtual 145, 3) := by decide +kernel
theorem ml_Source_145 : Cond.methodLink R_Source 145 ⟨"PointerHouse$Source", "bare", "(I)I"⟩ ∈ lw_good := lg_right (i := 1488) (by decide +kernel) rfl
theorem d_Source_bareTerm_20 : decode b_Source_bareTerm 20 = .ok (.istore_n 2, 1) := by decide +kernel
theorem d_Source_bareTerm_21 : decode b_Source_bareTerm 21 = .ok (.aload_n 0, 1) := by decide +kernel
theorem d_Source_bareTerm_22 : decode b_Source_bareTerm 22 = .ok (.getfield 18, 3) := by decide +kernel
theorem d_Source_bareTerm_25 : decode b_Source_bareTerm 25 = .ok (.iload_n 2, 1) := by decide +kernel
theorem d_Source_bareTerm_26 : decode b_Source_bareTerm 26 = .ok (.iaload, 1) := by decide +kernel
theorem d_Source_bareTerm_27 : decode b_Source_bareTerm 27 = .ok (.ifCond .ne 7, 3) := by decide +kernel
theorem d_Source_bareTerm_30 : decode b_Source_bareTerm 30 = .ok (.iload_n 2, 1) := by decide +kernel
theorem d_Source_bareTerm_31 : decode b_Source_bareTerm 31 = .ok (.goto 4, 3) := by decide +kernel
theorem d_Source_bareTerm_34 : decode b_Source_bareTerm 34 = .ok (.iconst 0, 1) := by decide +kernel
theorem d_Source_bareTerm_35 : decode b_Source_bareTerm 35 = .ok (.ireturn, 1) := by decide +kernel
abbrev b_Source_lastTail : ByteArray := prog_10_method_21_code
abbrev y_Source_lastTail : MethodName := ⟨R_Source, "lastTail", "(I)I"⟩
theorem co_Source_lastTail : Cond.code y_Source_lastTail b_Source_lastTail 5 (some .int) ∈ lw_good := lg_in (tin_6 _ (List.mem_of_getElem? (i := 194) rfl)) rfl
abbrev w_Source_lastTail : List Cond := Cond.code y_Source_lastTail b_Source_lastTail 5 (some .int) :: lw_good
theorem im_Source_lastTail : Cond.instanceMethod y_Source_lastTail ∈ lw_good := lg_right (i := 1392) (by decide +kernel) rfl
theorem se_Source_lastTail : Cond.selects R_Source y_Source_lastTail y_Source_lastTail ∈ lw_good := lg_right (i := 1393) (by decide +kernel) rfl
theorem d_Source_lastTail_0 : decode b_Source_lastTail 0 = .ok (.iconst 0, 1) := by decide +kernel
theorem d_Source_lastTail_1 : decode b_Source_lastTail 1 = .ok (.istore_n 2, 1) := by decide +kernel
theorem d_Source_lastTail_2 : decode b_Source_lastTail 2 = .ok (.aload_n 0, 1) := by decide +kernel
theorem d_Source_lastTail_3 : decode b_Source_lastTail 3 = .ok (.getfield 33, 3) := by decide +kernel
theorem d_Source_lastTail_6 : decode b_Source_lastTail 6 = .ok (.iload_n 1, 1) := by decide +kernel
theorem d_Source_lastTail_7 : decode b_Source_lastTail 7 = .ok (.iaload, 1) := by decide +kernel
theorem d_Source_lastTail_8 : decode b_Source_lastTail 8 = .ok (.istore_n 3, 1) := by decide +kernel
theorem d_Source_lastTail_9 : decode b_Source_lastTail 9 = .ok (.iconst 0, 1) := by decide +kernel
theorem d_Source_lastTail_10 : decode b_Source_lastTail 10 = .ok (.istore 4, 2) := by decide +kernel
theorem d_Source_lastTail_12 : decode b_Source_lastTail 12 = .ok (.iload_n 3, 1) := by decide +kernel
theorem d_Source_lastTail_13 : decode b_Source_lastTail 13 = .ok (.ifCond .eq 26, 3) := by decide +kernel
theorem d_Source_lastTail_16 : decode b_Source_lastTail 16 = .ok (.iload 4, 2) := by decide +kernel
theorem d_Source_lastTail_18 : decode b_Source_lastTail 18 = .ok (.sipush 4008, 3) := by decide +kernel
theorem d_Source_lastTail_21 : decode b_Source_lastTail 21 = .ok (.if_icmp .ge 18, 3) := by decide +kernel
theorem d_Source_lastTail_24 : decode b_Source_lastTail 24 = .ok (.iload_n 3, 1) := by decide +kernel
theorem d_Source_lastTail_25 : decode b_Source_lastTail 25 = .ok (.istore_n 2, 1) := by decide +kernel
theorem d_Source_lastTail_26 : decode b_Source_lastTail 26 = .ok (.aload_n 0, 1) := by decide +kernel
theorem d_Source_lastTail_27 : decode b_Source_lastTail 27 = .ok (.getfield 18, 3) := by decide +kernel
theorem d_Source_lastTail_30 : decode b_Source_lastTail 30 = .ok (.iload_n 3, 1) := by decide +kernel
theorem d_Source_lastTail_31 : decode b_Source_lastTail 31 = .ok (.iaload, 1) := by decide +kernel
theorem d_Source_lastTail_32 : decode b_Source_lastTail 32 = .ok (.istore_n 3, 1) := by decide +kernel
theorem d_Source_lastTail_33 : decode b_Source_lastTail 33 = .ok (.iinc 4 1, 3) := by decide +kernel
theorem d_Source_lastTail_36 : decode b_Source_lastTail 36 = .ok (.goto (-24), 3) := by decide +kernel
theorem d_Source_lastTail_39 : decode b_Source_lastTail 39 = .ok (.iload_n 2, 1) := by decide +kernel
theorem d_Source_lastTail_40 : decode b_Source_lastTail 40 = .ok (.ireturn, 1) := by decide +kernel
abbrev b_Source_beginOf : ByteArray := prog_10_method_22_code
abbrev y_Source_beginOf : MethodName := ⟨R_Source, "beginOf", "(I)I"⟩
theorem co_Source_beginOf : Cond.code y_Source_beginOf b_Source_beginOf 4 (some .int) ∈ lw_good := lg_in (tin_6 _ (List.mem_of_getElem? (i := 118) rfl)) rfl
abbrev w_Source_beginOf : List Cond := Cond.code y_Source_beginOf b_Source_beginOf 4 (some .int) :: lw_good
theorem im_Source_beginOf : Cond.instanceMethod y_Source_beginOf ∈ lw_good := lg_right (i := 1316) (by decide +kernel) rfl
theorem se_Source_beginOf : Cond.selects R_Source y_Source_beginOf y_Source_beginOf ∈ lw_good := lg_right (i := 1317) (by decide +kernel) rfl
theorem d_Source_beginOf_0 : decode b_Source_beginOf 0 = .ok (.iload_n 1, 1) := by decide +kernel
theorem d_Source_beginOf_1 : decode b_Source_beginOf 1 = .ok (.istore_n 2, 1) := by decide +kernel
theorem d_Source_beginOf_2 : decode b_Source_beginOf 2 = .ok (.iconst 0, 1) := by decide +kernel
theorem d_Source_beginOf_3 : decode b_Source_beginOf 3 = .ok (.istore_n 3, 1) := by decide +kernel
theorem d_Source_beginOf_4 : decode b_Source_beginOf 4 = .ok (.iload_n 3, 1) := by decide +kernel
theorem d_Source_beginOf_5 : decode b_Source_beginOf 5 = .ok (.bipush 20, 2) := by decide +kernel
theorem d_Source_beginOf_7 : decode b_Source_beginOf 7 = .ok (.if_icmp .ge 27, 3) := by decide +kernel
theorem d_Source_beginOf_10 : decode b_Source_beginOf 10 = .ok (.aload_n 0, 1) := by decide +kernel
theorem d_Source_beginOf_11 : decode b_Source_beginOf 11 = .ok (.getfield 11, 3) := by decide +kernel
theorem d_Source_beginOf_14 : decode b_Source_beginOf 14 = .ok (.iload_n 2, 1) := by decide +kernel
theorem d_Source_beginOf_15 : decode b_Source_beginOf 15 = .ok (.iaload, 1) := by decide +kernel
theorem d_Source_beginOf_16 : decode b_Source_beginOf 16 = .ok (.bipush 42, 2) := by decide +kernel
theorem d_Source_beginOf_18 : decode b_Source_beginOf 18 = .ok (.if_icmp .ne 16, 3) := by decide +kernel
theorem d_Source_beginOf_21 : decode b_Source_beginOf 21 = .ok (.aload_n 0, 1) := by decide +kernel
theorem d_Source_beginOf_22 : decode b_Source_beginOf 22 = .ok (.getfield 30, 3) := by decide +kernel
theorem d_Source_beginOf_25 : decode b_Source_beginOf 25 = .ok (.iload_n 2, 1) := by decide +kernel
theorem d_Source_beginOf_26 : decode b_Source_beginOf 26 = .ok (.iaload, 1) := by decide +kernel
theorem d_Source_beginOf_27 : decode b_Source_beginOf 27 = .ok (.istore_n 2, 1) := by decide +kernel
theorem d_Source_beginOf_28 : decode b_Source_beginOf 28 = .ok (.iinc 3 1, 3) := by decide +kernel
theorem d_Source_beginOf_31 : decode b_Source_beginOf 31 = .ok (.goto (-27), 3) := by decide +kernel
theorem d_Source_beginOf_34 : decode b_Source_beginOf 34 = .ok (.aload_n 0, 1) := by decide +kernel
theorem d_Source_beginOf_35 : decode b_Source_beginOf 35 = .ok (.aload_n 0, 1) := by decide +kernel
theorem d_Source_beginOf_36 : decode b_Source_beginOf 36 = .ok (.getfield 15, 3) := by decide +kernel
theorem d_Source_beginOf_39 : decode b_Source_beginOf 39 = .ok (.iload_n 2, 1) := by decide +kernel
theorem d_Source_beginOf_40 : decode b_Source_beginOf 40 = .ok (.iaload, 1) := by decide +kernel
theorem d_Source_beginOf_41 : decode b_Source_beginOf 41 = .ok (.invokevirtual 148, 3) := by decide +kernel
theorem ml_Source_148 : Cond.methodLink R_Source 148 ⟨"PointerHouse$Source", "startOf", "(I)I"⟩ ∈ lw_good := lg_right (i := 1319) (by decide +kernel) rfl
theorem d_Source_beginOf_44 : decode b_Source_beginOf 44 = .ok (.ireturn, 1) := by decide +kernel
abbrev b_Source_countPeers : ByteArray := prog_10_method_23_code
abbrev y_Source_countPeers : MethodName := ⟨R_Source, "countPeers", "(I)I"⟩
theorem co_Source_countPeers : Cond.code y_Source_countPeers b_Source_countPeers 5 (some .int) ∈ lw_good := lg_in (tin_6 _ (List.mem_of_getElem? (i := 71) rfl)) rfl
abbrev w_Source_countPeers : List Cond := Cond.code y_Source_countPeers b_Source_countPeers 5 (some .int) :: lw_good
theorem im_Source_countPeers : Cond.instanceMethod y_Source_countPeers ∈ lw_good := lg_right (i := 1269) (by decide +kernel) rfl
theorem se_Source_countPeers : Cond.selects R_Source y_Source_countPeers y_Source_countPeers ∈ lw_good := lg_right (i := 1270) (by decide +kernel) rfl
theorem d_Source_countPeers_0 : decode b_Source_countPeers 0 = .ok (.iconst 0, 1) := by decide +kernel
theorem d_Source_countPeers_1 : decode b_Source_countPeers 1 = .ok (.istore_n 2, 1) := by decide +kernel
theorem d_Source_countPeers_2 : decode b_Source_countPeers 2 = .ok (.iload_n 1, 1) := by decide +kernel
theorem d_Source_countPeers_3 : decode b_Source_countPeers 3 = .ok (.istore_n 3, 1) := by decide +kernel
theorem d_Source_countPeers_4 : decode b_Source_countPeers 4 = .ok (.iconst 0, 1) := by decide +kernel
theorem d_Source_countPeers_5 : decode b_Source_countPeers 5 = .ok (.istore 4, 2) := by decide +kernel
theorem d_Source_countPeers_7 : decode b_Source_countPeers 7 = .ok (.iload_n 3, 1) := by decide +kernel
theorem d_Source_countPeers_8 : decode b_Source_countPeers 8 = .ok (.ifCond .eq 27, 3) := by decide +kernel
theorem d_Source_countPeers_11 : decode b_Source_countPeers 11 = .ok (.iload 4, 2) := by decide +kernel
theorem d_Source_countPeers_13 : decode b_Source_countPeers 13 = .ok (.sipush 4008, 3) := by decide +kernel
theorem d_Source_countPeers_16 : decode b_Source_countPeers 16 = .ok (.if_icmp .ge 19, 3) := by decide +kernel
theorem d_Source_countPeers_19 : decode b_Source_countPeers 19 = .ok (.iinc 2 1, 3) := by decide +kernel
theorem d_Source_countPeers_22 : decode b_Source_countPeers 22 = .ok (.aload_n 0, 1) := by decide +kernel
theorem d_Source_countPeers_23 : decode b_Source_countPeers 23 = .ok (.getfield 21, 3) := by decide +kernel
theorem d_Source_countPeers_26 : decode b_Source_countPeers 26 = .ok (.iload_n 3, 1) := by decide +kernel
theorem d_Source_countPeers_27 : decode b_Source_countPeers 27 = .ok (.iaload, 1) := by decide +kernel
theorem d_Source_countPeers_28 : decode b_Source_countPeers 28 = .ok (.istore_n 3, 1) := by decide +kernel
theorem d_Source_countPeers_29 : decode b_Source_countPeers 29 = .ok (.iinc 4 1, 3) := by decide +kernel
theorem d_Source_countPeers_32 : decode b_Source_countPeers 32 = .ok (.goto (-25), 3) := by decide +kernel
theorem d_Source_countPeers_35 : decode b_Source_countPeers 35 = .ok (.iload_n 2, 1) := by decide +kernel
theorem d_Source_countPeers_36 : decode b_Source_countPeers 36 = .ok (.ireturn, 1) := by decide +kernel
abbrev b_Source_countRegions : ByteArray := prog_10_method_24_code
abbrev y_Source_countRegions : MethodName := ⟨R_Source, "countRegions", "(I)I"⟩
theorem co_Source_countRegions : Cond.code y_Source_countRegions b_Source_countRegions 3 (some .int) ∈ lw_good := lg_in (tin_5 _ (List.mem_of_getElem? (i := 100) rfl)) rfl
abbrev w_Source_countRegions : List Cond := Cond.code y_Source_countRegions b_Source_countRegions 3 (some .int) :: lw_good
theorem im_Source_countRegions : Cond.instanceMethod y_Source_countRegions ∈ lw_good := lg_right (i := 1058) (by decide +kernel) rfl
theorem se_Source_countRegions : Cond.selects R_Source y_Source_countRegions y_Source_countRegions ∈ lw_good := lg_right (i := 1059) (by decide +kernel) rfl
theorem d_Source_countRegions_0 : decode b_Source_countRegions 0 = .ok (.iconst 0, 1) := by decide +kernel
theorem d_Source_countRegions_1 : decode b_Source_countRegions 1 = .ok (.istore_n 2, 1) := by decide +kernel
theorem d_Source_countRegions_2 : decode b_Source_countRegions 2 = .ok (.iload_n 2, 1) := by decide +kernel
theorem d_Source_countRegions_3 : decode b_Source_countRegions 3 = .ok (.iconst 3, 1) := by decide +kernel
theorem d_Source_countRegions_4 : decode b_Source_countRegions 4 = .ok (.if_icmp .ge 20, 3) := by decide +kernel
theorem d_Source_countRegions_7 : decode b_Source_countRegions 7 = .ok (.aload_n 0, 1) := by decide +kernel
theorem d_Source_countRegions_8 : decode b_Source_countRegions 8 = .ok (.iload_n 1, 1) := by decide +kernel
theorem d_Source_countRegions_9 : decode b_Source_countRegions 9 = .ok (.iload_n 2, 1) := by decide +kernel
theorem d_Source_countRegions_10 : decode b_Source_countRegions 10 = .ok (.iadd, 1) := by decide +kernel
theorem d_Source_countRegions_11 : decode b_Source_countRegions 11 = .ok (.invokevirtual 151, 3) := by decide +kernel
theorem ml_Source_151 : Cond.methodLink R_Source 151 ⟨"PointerHouse$Source", "kindAt", "(I)I"⟩ ∈ lw_good := lg_right (i := 1061) (by decide +kernel) rfl
theorem d_Source_countRegions_14 : decode b_Source_countRegions 14 = .ok (.iconst 4, 1) := by decide +kernel
theorem d_Source_countRegions_15 : decode b_Source_countRegions 15 = .ok (.if_icmp .ne 9, 3) := by decide +kernel
theorem d_Source_countRegions_18 : decode b_Source_countRegions 18 = .ok (.iinc 2 1, 3) := by decide +kernel
theorem d_Source_countRegions_21 : decode b_Source_countRegions 21 = .ok (.goto (-19), 3) := by decide +kernel
theorem d_Source_countRegions_24 : decode b_Source_countRegions 24 = .ok (.iload_n 2, 1) := by decide +kernel
theorem d_Source_countRegions_25 : decode b_Source_countRegions 25 = .ok (.ireturn, 1) := by decide +kernel
abbrev b_Items_tokOfPart : ByteArray := prog_5_method_2_code
abbrev y_Items_tokOfPart : MethodName := ⟨R_Items, "tokOfPart", "(II)I"⟩
theorem co_Items_tokOfPart : Cond.code y_Items_tokOfPart b_Items_tokOfPart 3 (some .int) ∈ lw_good := lg_in (tin_5 _ (List.mem_of_getElem? (i := 79) rfl)) rfl
abbrev w_Items_tokOfPart : List Cond := Cond.code y_Items_tokOfPart b_Items_tokOfPart 3 (some .int) :: lw_good
theorem im_Items_tokOfPart : Cond.instanceMethod y_Items_tokOfPart ∈ lw_good := lg_right (i := 1037) (by decide +kernel) rfl
theorem se_Items_tokOfPart : Cond.selects R_Items y_Items_tokOfPart y_Items_tokOfPart ∈ lw_good := lg_right (i := 1038) (by decide +kernel) rfl
theorem d_Items_tokOfPart_0 : decode b_Items_tokOfPart 0 = .ok (.aload_n 0, 1) := by decide +kernel
theorem d_Items_tokOfPart_1 : decode b_Items_tokOfPart 1 = .ok (.iload_n 1, 1) := by decide +kernel
theorem d_Items_tokOfPart_2 : decode b_Items_tokOfPart 2 = .ok (.iload_n 2, 1) := by decide +kernel
theorem d_Items_tokOfPart_3 : decode b_Items_tokOfPart 3 = .ok (.invokevirtual 73, 3) := by decide +kernel
theorem ml_Items_73 : Cond.methodLink R_Items 73 ⟨"PointerHouse$Items", "isPart", "(II)Z"⟩ ∈ lw_good := lg_right (i := 1040) (by decide +kernel) rfl
theorem d_Items_tokOfPart_6 : decode b_Items_tokOfPart 6 = .ok (.ifCond .eq 17, 3) := by decide +kernel
theorem d_Items_tokOfPart_9 : decode b_Items_tokOfPart 9 = .ok (.aload_n 0, 1) := by decide +kernel
theorem d_Items_tokOfPart_10 : decode b_Items_tokOfPart 10 = .ok (.getfield 58, 3) := by decide +kernel
theorem fl_Items_58 : Cond.fieldLink R_Items 58 "PointerHouse$Items" "partTok" "[I" ∈ lw_good := lg_right (i := 330) (by decide +kernel) rfl
theorem d_Items_tokOfPart_13 : decode b_Items_tokOfPart 13 = .ok (.iload_n 1, 1) := by decide +kernel
theorem d_Items_tokOfPart_14 : decode b_Items_tokOfPart 14 = .ok (.bipush 8, 2) := by decide +kernel
theorem d_Items_tokOfPart_16 : decode b_Items_tokOfPart 16 = .ok (.imul, 1) := by decide +kernel
theorem d_Items_tokOfPart_17 : decode b_Items_tokOfPart 17 = .ok (.iload_n 2, 1) := by decide +kernel
theorem d_Items_tokOfPart_18 : decode b_Items_tokOfPart 18 = .ok (.iadd, 1) := by decide +kernel
theorem d_Items_tokOfPart_19 : decode b_Items_tokOfPart 19 = .ok (.iaload, 1) := by decide +kernel
theorem d_Items_tokOfPart_20 : decode b_Items_tokOfPart 20 = .ok (.goto 4, 3) := by decide +kernel
theorem d_Items_tokOfPart_23 : decode b_Items_tokOfPart 23 = .ok (.iconst 0, 1) := by decide +kernel
theorem d_Items_tokOfPart_24 : decode b_Items_tokOfPart 24 = .ok (.ireturn, 1) := by decide +kernel
abbrev b_Items_isPart : ByteArray := prog_5_method_10_code
abbrev y_Items_isPart : MethodName := ⟨R_Items, "isPart", "(II)Z"⟩
theorem co_Items_isPart : Cond.code y_Items_isPart b_Items_isPart 3 (some .boolean) ∈ lw_good := lg_in (tin_5 _ (List.mem_of_getElem? (i := 83) rfl)) rfl
abbrev w_Items_isPart : List Cond := Cond.code y_Items_isPart b_Items_isPart 3 (some .boolean) :: lw_good
theorem im_Items_isPart : Cond.instanceMethod y_Items_isPart ∈ lw_good := lg_right (i := 1042) (by decide +kernel) rfl
theorem se_Items_isPart : Cond.selects R_Items y_Items_isPart y_Items_isPart ∈ lw_good := lg_left (i := 38) (by decide +kernel) rfl
theorem d_Items_isPart_0 : decode b_Items_isPart 0 = .ok (.iload_n 1, 1) := by decide +kernel
theorem d_Items_isPart_1 : decode b_Items_isPart 1 = .ok (.ifCond .lt 23, 3) := by decide +kernel
theorem d_Items_isPart_4 : decode b_Items_isPart 4 = .ok (.iload_n 1, 1) := by decide +kernel
theorem d_Items_isPart_5 : decode b_Items_isPart 5 = .ok (.bipush 24, 2) := by decide +kernel
theorem d_Items_isPart_7 : decode b_Items_isPart 7 = .ok (.if_icmp .ge 17, 3) := by decide +kernel
theorem d_Items_isPart_10 : decode b_Items_isPart 10 = .ok (.iload_n 2, 1) := by decide +kernel
theorem d_Items_isPart_11 : decode b_Items_isPart 11 = .ok (.ifCond .lt 13, 3) := by decide +kernel
theorem d_Items_isPart_14 : decode b_Items_isPart 14 = .ok (.iload_n 2, 1) := by decide +kernel
theorem d_Items_isPart_15 : decode b_Items_isPart 15 = .ok (.bipush 8, 2) := by decide +kernel
theorem d_Items_isPart_17 : decode b_Items_isPart 17 = .ok (.if_icmp .ge 7, 3) := by decide +kernel
theorem d_Items_isPart_20 : decode b_Items_isPart 20 = .ok (.iconst 1, 1) := by decide +kernel
theorem d_Items_isPart_21 : decode b_Items_isPart 21 = .ok (.goto 4, 3) := by decide +kernel
theorem d_Items_isPart_24 : decode b_Items_isPart 24 = .ok (.iconst 0, 1) := by decide +kernel
theorem d_Items_isPart_25 : decode b_Items_isPart 25 = .ok (.ireturn, 1) := by decide +kernel
abbrev b_Items_typeOfPart : ByteArray := prog_5_method_3_code
abbrev y_Items_typeOfPart : MethodName := ⟨R_Items, "typeOfPart", "(II)I"⟩
theorem co_Items_typeOfPart : Cond.code y_Items_typeOfPart b_Items_typeOfPart 3 (some .int) ∈ lw_good := lg_in (tin_5 _ (List.mem_of_getElem? (i := 190) rfl)) rfl
abbrev w_Items_typeOfPart : List Cond := Cond.code y_Items_typeOfPart b_Items_typeOfPart 3 (some .int) :: lw_good
theorem im_Items_typeOfPart : Cond.instanceMethod y_Items_typeOfPart ∈ lw_good := lg_right (i := 1148) (by decide +kernel) rfl
theorem se_Items_typeOfPart : Cond.selects R_Items y_Items_typeOfPart y_Items_typeOfPart ∈ lw_good := lg_right (i := 1149) (by decide +kernel) rfl
theorem d_Items_typeOfPart_0 : decode b_Items_typeOfPart 0 = .ok (.aload_n 0, 1) := by decide +kernel
theorem d_Items_typeOfPart_1 : decode b_Items_typeOfPart 1 = .ok (.iload_n 1, 1) := by decide +kernel
theorem d_Items_typeOfPart_2 : decode b_Items_typeOfPart 2 = .ok (.iload_n 2, 1) := by decide +kernel
theorem d_Items_typeOfPart_3 : decode b_Items_typeOfPart 3 = .ok (.invokevirtual 73, 3) := by decide +kernel
theorem d_Items_typeOfPart_6 : decode b_Items_typeOfPart 6 = .ok (.ifCond .eq 17, 3) := by decide +kernel
theorem d_Items_typeOfPart_9 : decode b_Items_typeOfPart 9 = .ok (.aload_n 0, 1) := by decide +kernel
theorem d_Items_typeOfPart_10 : decode b_Items_typeOfPart 10 = .ok (.getfield 61, 3) := by decide +kernel
theorem fl_Items_61 : Cond.fieldLink R_Items 61 "PointerHouse$Items" "partType" "[I" ∈ lw_good := lg_right (i := 331) (by decide +kernel) rfl
theorem d_Items_typeOfPart_13 : decode b_Items_typeOfPart 13 = .ok (.iload_n 1, 1) := by decide +kernel
theorem d_Items_typeOfPart_14 : decode b_Items_typeOfPart 14 = .ok (.bipush 8, 2) := by decide +kernel
theorem d_Items_typeOfPart_16 : decode b_Items_typeOfPart 16 = .ok (.imul, 1) := by decide +kernel
theorem d_Items_typeOfPart_17 : decode b_Items_typeOfPart 17 = .ok (.iload_n 2, 1) := by decide +kernel
theorem d_Items_typeOfPart_18 : decode b_Items_typeOfPart 18 = .ok (.iadd, 1) := by decide +kernel
theorem d_Items_typeOfPart_19 : decode b_Items_typeOfPart 19 = .ok (.iaload, 1) := by decide +kernel
theorem d_Items_typeOfPart_20 : decode b_Items_typeOfPart 20 = .ok (.goto 4, 3) := by decide +kernel
theorem d_Items_typeOfPart_23 : decode b_Items_typeOfPart 23 = .ok (.iconst 1, 1) := by decide +kernel
theorem d_Items_typeOfPart_24 : decode b_Items_typeOfPart 24 = .ok (.ireturn, 1) := by decide +kernel
abbrev b_Items_placeOfPart : ByteArray := prog_5_method_4_code
abbrev y_Items_placeOfPart : MethodName := ⟨R_Items, "placeOfPart", "(II)I"⟩
theorem co_Items_placeOfPart : Cond.code y_Items_placeOfPart b_Items_placeOfPart 3 (some .int) ∈ lw_good := lg_in (tin_6 _ (List.mem_of_getElem? (i := 210) rfl)) rfl
abbrev w_Items_placeOfPart : List Cond := Cond.code y_Items_placeOfPart b_Items_placeOfPart 3 (some .int) :: lw_good
theorem im_Items_placeOfPart : Cond.instanceMethod y_Items_placeOfPart ∈ lw_good := lg_right (i := 1408) (by decide +kernel) rfl
theorem se_Items_placeOfPart : Cond.selects R_Items y_Items_placeOfPart y_Items_placeOfPart ∈ lw_good := lg_right (i := 1409) (by decide +kernel) rfl
theorem d_Items_placeOfPart_0 : decode b_Items_placeOfPart 0 = .ok (.aload_n 0, 1) := by decide +kernel
theorem d_Items_placeOfPart_1 : decode b_Items_placeOfPart 1 = .ok (.iload_n 1, 1) := by decide +kernel
theorem d_Items_placeOfPart_2 : decode b_Items_placeOfPart 2 = .ok (.iload_n 2, 1) := by decide +kernel
theorem d_Items_placeOfPart_3 : decode b_Items_placeOfPart 3 = .ok (.invokevirtual 73, 3) := by decide +kernel
theorem d_Items_placeOfPart_6 : decode b_Items_placeOfPart 6 = .ok (.ifCond .eq 17, 3) := by decide +kernel
theorem d_Items_placeOfPart_9 : decode b_Items_placeOfPart 9 = .ok (.aload_n 0, 1) := by decide +kernel
theorem d_Items_placeOfPart_10 : decode b_Items_placeOfPart 10 = .ok (.getfield 64, 3) := by decide +kernel
theorem fl_Items_64 : Cond.fieldLink R_Items 64 "PointerHouse$Items" "partPlace" "[I" ∈ lw_good := lg_right (i := 332) (by decide +kernel) rfl
theorem d_Items_placeOfPart_13 : decode b_Items_placeOfPart 13 = .ok (.iload_n 1, 1) := by decide +kernel
theorem d_Items_placeOfPart_14 : decode b_Items_placeOfPart 14 = .ok (.bipush 8, 2) := by decide +kernel
theorem d_Items_placeOfPart_16 : decode b_Items_placeOfPart 16 = .ok (.imul, 1) := by decide +kernel
theorem d_Items_placeOfPart_17 : decode b_Items_placeOfPart 17 = .ok (.iload_n 2, 1) := by decide +kernel
theorem d_Items_placeOfPart_18 : decode b_Items_placeOfPart 18 = .ok (.iadd, 1) := by decide +kernel
theorem d_Items_placeOfPart_19 : decode b_Items_placeOfPart 19 = .ok (.iaload, 1) := by decide +kernel
theorem d_Items_placeOfPart_20 : decode b_Items_placeOfPart 20 = .ok (.goto 4, 3) := by decide +kernel
theorem d_Items_placeOfPart_23 : decode b_Items_placeOfPart 23 = .ok (.iconst 0, 1) := by decide +kernel
theorem d_Items_placeOfPart_24 : decode b_Items_placeOfPart 24 = .ok (.ireturn, 1) := by decide +kernel
abbrev b_Items_addPart : ByteArray := prog_5_method_5_code
abbrev y_Items_addPart : MethodName := ⟨R_Items, "addPart", "(II)V"⟩
theorem co_Items_addPart : Cond.code y_Items_addPart b_Items_addPart 3 none ∈ lw_good := lg_in (tin_4 _ (List.mem_of_getElem? (i := 197) rfl)) rfl
abbrev w_Items_addPart : List Cond := Cond.code y_Items_addPart b_Items_addPart 3 none :: lw_good
theorem im_Items_addPart : Cond.instanceMethod y_Items_addPart ∈ lw_good := lg_right (i := 915) (by decide +kernel) rfl
theorem se_Items_addPart : Cond.selects R_Items y_Items_addPart y_Items_addPart ∈ lw_good := lg_right (i := 916) (by decide +kernel) rfl
theorem d_Items_addPart_0 : decode b_Items_addPart 0 = .ok (.aload_n 0, 1) := by decide +kernel
theorem d_Items_addPart_1 : decode b_Items_addPart 1 = .ok (.getfield 25, 3) := by decide +kernel
theorem fl_Items_25 : Cond.fieldLink R_Items 25 "PointerHouse$Items" "partCount" "[I" ∈ lw_good := lg_right (i := 292) (by decide +kernel) rfl
theorem d_Items_addPart_4 : decode b_Items_addPart 4 = .ok (.iload_n 1, 1) := by decide +kernel
theorem d_Items_addPart_5 : decode b_Items_addPart 5 = .ok (.iaload, 1) := by decide +kernel
theorem d_Items_addPart_6 : decode b_Items_addPart 6 = .ok (.bipush 8, 2) := by decide +kernel
theorem d_Items_addPart_8 : decode b_Items_addPart 8 = .ok (.if_icmp .ge 30, 3) := by decide +kernel
theorem d_Items_addPart_11 : decode b_Items_addPart 11 = .ok (.aload_n 0, 1) := by decide +kernel
theorem d_Items_addPart_12 : decode b_Items_addPart 12 = .ok (.getfield 58, 3) := by decide +kernel
theorem d_Items_addPart_15 : decode b_Items_addPart 15 = .ok (.iload_n 1, 1) := by decide +kernel
theorem d_Items_addPart_16 : decode b_Items_addPart 16 = .ok (.bipush 8, 2) := by decide +kernel
theorem d_Items_addPart_18 : decode b_Items_addPart 18 = .ok (.imul, 1) := by decide +kernel
theorem d_Items_addPart_19 : decode b_Items_addPart 19 = .ok (.aload_n 0, 1) := by decide +kernel
theorem d_Items_addPart_20 : decode b_Items_addPart 20 = .ok (.getfield 25, 3) := by decide +kernel
theorem d_Items_addPart_23 : decode b_Items_addPart 23 = .ok (.iload_n 1, 1) := by decide +kernel
theorem d_Items_addPart_24 : decode b_Items_addPart 24 = .ok (.iaload, 1) := by decide +kernel
theorem d_Items_addPart_25 : decode b_Items_addPart 25 = .ok (.iadd, 1) := by decide +kernel
theorem d_Items_addPart_26 : decode b_Items_addPart 26 = .ok (.iload_n 2, 1) := by decide +kernel
theorem d_Items_addPart_27 : decode b_Items_addPart 27 = .ok (.iastore, 1) := by decide +kernel
theorem d_Items_addPart_28 : decode b_Items_addPart 28 = .ok (.aload_n 0, 1) := by decide +kernel
theorem d_Items_addPart_29 : decode b_Items_addPart 29 = .ok (.getfield 25, 3) := by decide +kernel
theorem d_Items_addPart_32 : decode b_Items_addPart 32 = .ok (.iload_n 1, 1) := by decide +kernel
theorem d_Items_addPart_33 : decode b_Items_addPart 33 = .ok (.dup2, 1) := by decide +kernel
theorem d_Items_addPart_34 : decode b_Items_addPart 34 = .ok (.iaload, 1) := by decide +kernel
theorem d_Items_addPart_35 : decode b_Items_addPart 35 = .ok (.iconst 1, 1) := by decide +kernel
theorem d_Items_addPart_36 : decode b_Items_addPart 36 = .ok (.iadd, 1) := by decide +kernel
theorem d_Items_addPart_37 : decode b_Items_addPart 37 = .ok (.iastore, 1) := by decide +kernel
theorem d_Items_addPart_38 : decode b_Items_addPart 38 = .ok (.return_, 1) := by decide +kernel
abbrev b_Items_setPart : ByteArray := prog_5_method_6_code
abbrev y_Items_setPart : MethodName := ⟨R_Items, "setPart", "(IIII)V"⟩
theorem co_Items_setPart : Cond.code y_Items_setPart b_Items_setPart 5 none ∈ lw_good := lg_in (tin_5 _ (List.mem_of_getElem? (i := 126) rfl)) rfl
abbrev w_Items_setPart : List Cond := Cond.code y_Items_setPart b_Items_setPart 5 none :: lw_good
theorem im_Items_setPart : Cond.instanceMethod y_Items_setPart ∈ lw_good := lg_right (i := 1084) (by decide +kernel) rfl
theorem se_Items_setPart : Cond.selects R_Items y_Items_setPart y_Items_setPart ∈ lw_good := lg_right (i := 1085) (by decide +kernel) rfl
theorem d_Items_setPart_0 : decode b_Items_setPart 0 = .ok (.aload_n 0, 1) := by decide +kernel
theorem d_Items_setPart_1 : decode b_Items_setPart 1 = .ok (.iload_n 1, 1) := by decide +kernel
theorem d_Items_setPart_2 : decode b_Items_setPart 2 = .ok (.iload_n 2, 1) := by decide +kernel
theorem d_Items_setPart_3 : decode b_Items_setPart 3 = .ok (.invokevirtual 73, 3) := by decide +kernel
theorem d_Items_setPart_6 : decode b_Items_setPart 6 = .ok (.ifCond .eq 28, 3) := by decide +kernel
theorem d_Items_setPart_9 : decode b_Items_setPart 9 = .ok (.aload_n 0, 1) := by decide +kernel
theorem d_Items_setPart_10 : decode b_Items_setPart 10 = .ok (.getfield 61, 3) := by decide +kernel
theorem d_Items_setPart_13 : decode b_Items_setPart 13 = .ok (.iload_n 1, 1) := by decide +kernel
theorem d_Items_setPart_14 : decode b_Items_setPart 14 = .ok (.bipush 8, 2) := by decide +kernel
theorem d_Items_setPart_16 : decode b_Items_setPart 16 = .ok (.imul, 1) := by decide +kernel
theorem d_Items_setPart_17 : decode b_Items_setPart 17 = .ok (.iload_n 2, 1) := by decide +kernel
theorem d_Items_setPart_18 : decode b_Items_setPart 18 = .ok (.iadd, 1) := by decide +kernel
theorem d_Items_setPart_19 : decode b_Items_setPart 19 = .ok (.iload_n 3, 1) := by decide +kernel
theorem d_Items_setPart_20 : decode b_Items_setPart 20 = .ok (.iastore, 1) := by decide +kernel
theorem d_Items_setPart_21 : decode b_Items_setPart 21 = .ok (.aload_n 0, 1) := by decide +kernel
theorem d_Items_setPart_22 : decode b_Items_setPart 22 = .ok (.getfield 64, 3) := by decide +kernel
theorem d_Items_setPart_25 : decode b_Items_setPart 25 = .ok (.iload_n 1, 1) := by decide +kernel
theorem d_Items_setPart_26 : decode b_Items_setPart 26 = .ok (.bipush 8, 2) := by decide +kernel
theorem d_Items_setPart_28 : decode b_Items_setPart 28 = .ok (.imul, 1) := by decide +kernel
theorem d_Items_setPart_29 : decode b_Items_setPart 29 = .ok (.iload_n 2, 1) := by decide +kernel
theorem d_Items_setPart_30 : decode b_Items_setPart 30 = .ok (.iadd, 1) := by decide +kernel
theorem d_Items_setPart_31 : decode b_Items_setPart 31 = .ok (.iload 4, 2) := by decide +kernel
theorem d_Items_setPart_33 : decode b_Items_setPart 33 = .ok (.iastore, 1) := by decide +kernel
theorem d_Items_setPart_34 : decode b_Items_setPart 34 = .ok (.return_, 1) := by decide +kernel
abbrev b_Items_addPair : ByteArray := prog_5_method_7_code
abbrev y_Items_addPair : MethodName := ⟨R_Items, "addPair", "(III)V"⟩
theorem co_Items_addPair : Cond.code y_Items_addPair b_Items_addPair 4 none ∈ lw_good := lg_in (tin_5 _ (List.mem_of_getElem? (i := 155) rfl)) rfl
abbrev w_Items_addPair : List Cond := Cond.code y_Items_addPair b_Items_addPair 4 none :: lw_good
theorem im_Items_addPair : Cond.instanceMethod y_Items_addPair ∈ lw_good := lg_right (i := 1113) (by decide +kernel) rfl
theorem se_Items_addPair : Cond.selects R_Items y_Items_addPair y_Items_addPair ∈ lw_good := lg_right (i := 1114) (by decide +kernel) rfl
theorem d_Items_addPair_0 : decode b_Items_addPair 0 = .ok (.aload_n 0, 1) := by decide +kernel
theorem d_Items_addPair_1 : decode b_Items_addPair 1 = .ok (.getfield 67, 3) := by decide +kernel
theorem fl_Items_67 : Cond.fieldLink R_Items 67 "PointerHouse$Items" "pairCount" "[I" ∈ lw_good := lg_right (i := 333) (by decide +kernel) rfl
theorem d_Items_addPair_4 : decode b_Items_addPair 4 = .ok (.iload_n 1, 1) := by decide +kernel
theorem d_Items_addPair_5 : decode b_Items_addPair 5 = .ok (.iaload, 1) := by decide +kernel
theorem d_Items_addPair_6 : decode b_Items_addPair 6 = .ok (.iconst 3, 1) := by decide +kernel
theorem d_Items_addPair_7 : decode b_Items_addPair 7 = .ok (.if_icmp .ge 33, 3) := by decide +kernel
theorem d_Items_addPair_10 : decode b_Items_addPair 10 = .ok (.aload_n 0, 1) := by decide +kernel
theorem d_Items_addPair_11 : decode b_Items_addPair 11 = .ok (.getfield 70, 3) := by decide +kernel
theorem fl_Items_70 : Cond.fieldLink R_Items 70 "PointerHouse$Items" "pairs" "[I" ∈ lw_good := lg_right (i := 335) (by decide +kernel) rfl
theorem d_Items_addPair_14 : decode b_Items_addPair 14 = .ok (.iload_n 1, 1) := by decide +kernel
theorem d_Items_addPair_15 : decode b_Items_addPair 15 = .ok (.iconst 3, 1) := by decide +kernel
theorem d_Items_addPair_16 : decode b_Items_addPair 16 = .ok (.imul, 1) := by decide +kernel
theorem d_Items_addPair_17 : decode b_Items_addPair 17 = .ok (.aload_n 0, 1) := by decide +kernel
theorem d_Items_addPair_18 : decode b_Items_addPair 18 = .ok (.getfield 67, 3) := by decide +kernel
theorem d_Items_addPair_21 : decode b_Items_addPair 21 = .ok (.iload_n 1, 1) := by decide +kernel
theorem d_Items_addPair_22 : decode b_Items_addPair 22 = .ok (.iaload, 1) := by decide +kernel
theorem d_Items_addPair_23 : decode b_Items_addPair 23 = .ok (.iadd, 1) := by decide +kernel
theorem d_Items_addPair_24 : decode b_Items_addPair 24 = .ok (.iload_n 2, 1) := by decide +kernel
theorem d_Items_addPair_25 : decode b_Items_addPair 25 = .ok (.iconst 2, 1) := by decide +kernel
theorem d_Items_addPair_26 : decode b_Items_addPair 26 = .ok (.ishl, 1) := by decide +kernel
theorem d_Items_addPair_27 : decode b_Items_addPair 27 = .ok (.iload_n 3, 1) := by decide +kernel
theorem d_Items_addPair_28 : decode b_Items_addPair 28 = .ok (.ior, 1) := by decide +kernel
theorem d_Items_addPair_29 : decode b_Items_addPair 29 = .ok (.iastore, 1) := by decide +kernel
theorem d_Items_addPair_30 : decode b_Items_addPair 30 = .ok (.aload_n 0, 1) := by decide +kernel
theorem d_Items_addPair_31 : decode b_Items_addPair 31 = .ok (.getfield 67, 3) := by decide +kernel
theorem d_Items_addPair_34 : decode b_Items_addPair 34 = .ok (.iload_n 1, 1) := by decide +kernel
theorem d_Items_addPair_35 : decode b_Items_addPair 35 = .ok (.dup2, 1) := by decide +kernel
theorem d_Items_addPair_36 : decode b_Items_addPair 36 = .ok (.iaload, 1) := by decide +kernel
theorem d_Items_addPair_37 : decode b_Items_addPair 37 = .ok (.iconst 1, 1) := by decide +kernel
theorem d_Items_addPair_38 : decode b_Items_addPair 38 = .ok (.iadd, 1) := by decide +kernel
theorem d_Items_addPair_39 : decode b_Items_addPair 39 = .ok (.iastore, 1) := by decide +kernel
theorem d_Items_addPair_40 : decode b_Items_addPair 40 = .ok (.return_, 1) := by decide +kernel
abbrev b_Items_upperOf : ByteArray := prog_5_method_8_code
abbrev y_Items_upperOf : MethodName := ⟨R_Items, "upperOf", "(II)I"⟩
theorem co_Items_upperOf : Cond.code y_Items_upperOf b_Items_upperOf 3 (some .int) ∈ lw_good := lg_in (tin_6 _ (List.mem_of_getElem? (i := 129) rfl)) rfl
abbrev w_Items_upperOf : List Cond := Cond.code y_Items_upperOf b_Items_upperOf 3 (some .int) :: lw_good
theorem im_Items_upperOf : Cond.instanceMethod y_Items_upperOf ∈ lw_good := lg_right (i := 1327) (by decide +kernel) rfl
theorem se_Items_upperOf : Cond.selects R_Items y_Items_upperOf y_Items_upperOf ∈ lw_good := lg_right (i := 1328) (by decide +kernel) rfl
theorem d_Items_upperOf_0 : decode b_Items_upperOf 0 = .ok (.iload_n 2, 1) := by decide +kernel
theorem d_Items_upperOf_1 : decode b_Items_upperOf 1 = .ok (.aload_n 0, 1) := by decide +kernel
theorem d_Items_upperOf_2 : decode b_Items_upperOf 2 = .ok (.getfield 67, 3) := by decide +kernel
theorem d_Items_upperOf_5 : decode b_Items_upperOf 5 = .ok (.iload_n 1, 1) := by decide +kernel
theorem d_Items_upperOf_6 : decode b_Items_upperOf 6 = .ok (.iaload, 1) := by decide +kernel
theorem d_Items_upperOf_7 : decode b_Items_upperOf 7 = .ok (.if_icmp .ge 18, 3) := by decide +kernel
theorem d_Items_upperOf_10 : decode b_Items_upperOf 10 = .ok (.aload_n 0, 1) := by decide +kernel
theorem d_Items_upperOf_11 : decode b_Items_upperOf 11 = .ok (.getfield 70, 3) := by decide +kernel
theorem d_Items_upperOf_14 : decode b_Items_upperOf 14 = .ok (.iload_n 1, 1) := by decide +kernel
theorem d_Items_upperOf_15 : decode b_Items_upperOf 15 = .ok (.iconst 3, 1) := by decide +kernel
theorem d_Items_upperOf_16 : decode b_Items_upperOf 16 = .ok (.imul, 1) := by decide +kernel
theorem d_Items_upperOf_17 : decode b_Items_upperOf 17 = .ok (.iload_n 2, 1) := by decide +kernel
theorem d_Items_upperOf_18 : decode b_Items_upperOf 18 = .ok (.iadd, 1) := by decide +kernel
theorem d_Items_upperOf_19 : decode b_Items_upperOf 19 = .ok (.iaload, 1) := by decide +kernel
theorem d_Items_upperOf_20 : decode b_Items_upperOf 20 = .ok (.iconst 2, 1) := by decide +kernel
theorem d_Items_upperOf_21 : decode b_Items_upperOf 21 = .ok (.ishr, 1) := by decide +kernel
theorem d_Items_upperOf_22 : decode b_Items_upperOf 22 = .ok (.goto 4, 3) := by decide +kernel
theorem d_Items_upperOf_25 : decode b_Items_upperOf 25 = .ok (.iconst 0, 1) := by decide +kernel
theorem d_Items_upperOf_26 : decode b_Items_upperOf 26 = .ok (.ireturn, 1) := by decide +kernel
abbrev b_Items_lowerOf : ByteArray := prog_5_method_9_code
abbrev y_Items_lowerOf : MethodName := ⟨R_Items, "lowerOf", "(II)I"⟩
theorem co_Items_lowerOf : Cond.code y_Items_lowerOf b_Items_lowerOf 3 (some .int) ∈ lw_good := lg_in (tin_6 _ (List.mem_of_getElem? (i := 133) rfl)) rfl
abbrev w_Items_lowerOf : List Cond := Cond.code y_Items_lowerOf b_Items_lowerOf 3 (some .int) :: lw_good
theorem im_Items_lowerOf : Cond.instanceMethod y_Items_lowerOf ∈ lw_good := lg_right (i := 1331) (by decide +kernel) rfl
theorem se_Items_lowerOf : Cond.selects R_Items y_Items_lowerOf y_Items_lowerOf ∈ lw_good := lg_right (i := 1332) (by decide +kernel) rfl
theorem d_Items_lowerOf_0 : decode b_Items_lowerOf 0 = .ok (.iload_n 2, 1) := by decide +kernel
theorem d_Items_lowerOf_1 : decode b_Items_lowerOf 1 = .ok (.aload_n 0, 1) := by decide +kernel
theorem d_Items_lowerOf_2 : decode b_Items_lowerOf 2 = .ok (.getfield 67, 3) := by decide +kernel
theorem d_Items_lowerOf_5 : decode b_Items_lowerOf 5 = .ok (.iload_n 1, 1) := by decide +kernel
theorem d_Items_lowerOf_6 : decode b_Items_lowerOf 6 = .ok (.iaload, 1) := by decide +kernel
theorem d_Items_lowerOf_7 : decode b_Items_lowerOf 7 = .ok (.if_icmp .ge 18, 3) := by decide +kernel
theorem d_Items_lowerOf_10 : decode b_Items_lowerOf 10 = .ok (.aload_n 0, 1) := by decide +kernel
theorem d_Items_lowerOf_11 : decode b_Items_lowerOf 11 = .ok (.getfield 70, 3) := by decide +kernel
theorem d_Items_lowerOf_14 : decode b_Items_lowerOf 14 = .ok (.iload_n 1, 1) := by decide +kernel
theorem d_Items_lowerOf_15 : decode b_Items_lowerOf 15 = .ok (.iconst 3, 1) := by decide +kernel
theorem d_Items_lowerOf_16 : decode b_Items_lowerOf 16 = .ok (.imul, 1) := by decide +kernel
theorem d_Items_lowerOf_17 : decode b_Items_lowerOf 17 = .ok (.iload_n 2, 1) := by decide +kernel
theorem d_Items_lowerOf_18 : decode b_Items_lowerOf 18 = .ok (.iadd, 1) := by decide +kernel
theorem d_Items_lowerOf_19 : decode b_Items_lowerOf 19 = .ok (.iaload, 1) := by decide +kernel
theorem d_Items_lowerOf_20 : decode b_Items_lowerOf 20 = .ok (.iconst 3, 1) := by decide +kernel
theorem d_Items_lowerOf_21 : decode b_Items_lowerOf 21 = .ok (.iand, 1) := by decide +kernel
theorem d_Items_lowerOf_22 : decode b_Items_lowerOf 22 = .ok (.goto 4, 3) := by decide +kernel
theorem d_Items_lowerOf_25 : decode b_Items_lowerOf 25 = .ok (.iconst 0, 1) := by decide +kernel
theorem d_Items_lowerOf_26 : decode b_Items_lowerOf 26 = .ok (.ireturn, 1) := by decide +kernel
abbrev b_Items_find : ByteArray := prog_5_method_11_code
abbrev y_Items_find : MethodName := ⟨R_Items, "find", "(JZ)I"⟩
theorem co_Items_find : Cond.code y_Items_find b_Items_find 6 (some .int) ∈ lw_good := lg_in (tin_5 _ (List.mem_of_getElem? (i := 58) rfl)) rfl
abbrev w_Items_find : List Cond := Cond.code y_Items_find b_Items_find 6 (some .int) :: lw_good
theorem im_Items_find : Cond.instanceMethod y_Items_find ∈ lw_good := lg_right (i := 1016) (by decide +kernel) rfl
theorem se_Items_find : Cond.selects R_Items y_Items_find y_Items_find ∈ lw_good := lg_right (i := 1017) (by decide +kernel) rfl
theorem d_Items_find_0 : decode b_Items_find 0 = .ok (.iconst 0, 1) := by decide +kernel
theorem d_Items_find_1 : decode b_Items_find 1 = .ok (.istore 4, 2) := by decide +kernel
theorem d_Items_find_3 : decode b_Items_find 3 = .ok (.iload 4, 2) := by decide +kernel
theorem d_Items_find_5 : decode b_Items_find 5 = .ok (.aload_n 0, 1) := by decide +kernel
theorem d_Items_find_6 : decode b_Items_find 6 = .ok (.getfield 79, 3) := by decide +kernel
theorem fl_Items_79 : Cond.fieldLink R_Items 79 "PointerHouse$Items" "count" "I" ∈ lw_good := lg_right (i := 273) (by decide +kernel) rfl
theorem d_Items_find_9 : decode b_Items_find 9 = .ok (.if_icmp .ge 72, 3) := by decide +kernel
theorem d_Items_find_12 : decode b_Items_find 12 = .ok (.iload_n 3, 1) := by decide +kernel
theorem d_Items_find_13 : decode b_Items_find 13 = .ok (.ifCond .eq 23, 3) := by decide +kernel
theorem d_Items_find_16 : decode b_Items_find 16 = .ok (.aload_n 0, 1) := by decide +kernel
theorem d_Items_find_17 : decode b_Items_find 17 = .ok (.getfield 9, 3) := by decide +kernel
theorem fl_Items_9 : Cond.fieldLink R_Items 9 "PointerHouse$Items" "kind" "[I" ∈ lw_good := lg_right (i := 275) (by decide +kernel) rfl
theorem d_Items_find_20 : decode b_Items_find 20 = .ok (.iload 4, 2) := by decide +kernel
theorem d_Items_find_22 : decode b_Items_find 22 = .ok (.iaload, 1) := by decide +kernel
theorem d_Items_find_23 : decode b_Items_find 23 = .ok (.bipush 12, 2) := by decide +kernel
theorem d_Items_find_25 : decode b_Items_find 25 = .ok (.if_icmp .ne 7, 3) := by decide +kernel
theorem d_Items_find_28 : decode b_Items_find 28 = .ok (.iconst 1, 1) := by decide +kernel
theorem d_Items_find_29 : decode b_Items_find 29 = .ok (.goto 24, 3) := by decide +kernel
theorem d_Items_find_32 : decode b_Items_find 32 = .ok (.iconst 0, 1) := by decide +kernel
theorem d_Items_find_33 : decode b_Items_find 33 = .ok (.goto 20, 3) := by decide +kernel
theorem d_Items_find_36 : decode b_Items_find 36 = .ok (.aload_n 0, 1) := by decide +kernel
theorem d_Items_find_37 : decode b_Items_find 37 = .ok (.getfield 9, 3) := by decide +kernel
theorem d_Items_find_40 : decode b_Items_find 40 = .ok (.iload 4, 2) := by decide +kernel
theorem d_Items_find_42 : decode b_Items_find 42 = .ok (.iaload, 1) := by decide +kernel
theorem d_Items_find_43 : decode b_Items_find 43 = .ok (.bipush 12, 2) := by decide +kernel
theorem d_Items_find_45 : decode b_Items_find 45 = .ok (.if_icmp .eq 7, 3) := by decide +kernel
theorem d_Items_find_48 : decode b_Items_find 48 = .ok (.iconst 1, 1) := by decide +kernel
theorem d_Items_find_49 : decode b_Items_find 49 = .ok (.goto 4, 3) := by decide +kernel
theorem d_Items_find_52 : decode b_Items_find 52 = .ok (.iconst 0, 1) := by decide +kernel
theorem d_Items_find_53 : decode b_Items_find 53 = .ok (.istore 5, 2) := by decide +kernel
theorem d_Items_find_55 : decode b_Items_find 55 = .ok (.iload 5, 2) := by decide +kernel
theorem d_Items_find_57 : decode b_Items_find 57 = .ok (.ifCond .eq 18, 3) := by decide +kernel
theorem d_Items_find_60 : decode b_Items_find 60 = .ok (.aload_n 0, 1) := by decide +kernel
theorem d_Items_find_61 : decode b_Items_find 61 = .ok (.getfield 18, 3) := by decide +kernel
theorem fl_Items_18 : Cond.fieldLink R_Items 18 "PointerHouse$Items" "name" "[J" ∈ lw_good := lg_right (i := 284) (by decide +kernel) rfl
theorem d_Items_find_64 : decode b_Items_find 64 = .ok (.iload 4, 2) := by decide +kernel
theorem d_Items_find_66 : decode b_Items_find 66 = .ok (.laload, 1) := by decide +kernel
theorem d_Items_find_67 : decode b_Items_find 67 = .ok (.lload_n 1, 1) := by decide +kernel
theorem d_Items_find_68 : decode b_Items_find 68 = .ok (.lcmp, 1) := by decide +kernel
theorem d_Items_find_69 : decode b_Items_find 69 = .ok (.ifCond .ne 6, 3) := by decide +kernel
theorem d_Items_find_72 : decode b_Items_find 72 = .ok (.iload 4, 2) := by decide +kernel
theorem d_Items_find_74 : decode b_Items_find 74 = .ok (.ireturn, 1) := by decide +kernel
theorem d_Items_find_75 : decode b_Items_find 75 = .ok (.iinc 4 1, 3) := by decide +kernel
theorem d_Items_find_78 : decode b_Items_find 78 = .ok (.goto (-75), 3) := by decide +kernel
theorem d_Items_find_81 : decode b_Items_find 81 = .ok (.iconst (-1), 1) := by decide +kernel
theorem d_Items_find_82 : decode b_Items_find 82 = .ok (.ireturn, 1) := by decide +kernel
abbrev b_Code_note : ByteArray := prog_2_method_3_code
abbrev y_Code_note : MethodName := ⟨R_Code, "note", "(II)V"⟩
theorem co_Code_note : Cond.code y_Code_note b_Code_note 3 none ∈ lw_good := lg_in (tin_4 _ (List.mem_of_getElem? (i := 165) rfl)) rfl
abbrev w_Code_note : List Cond := Cond.code y_Code_note b_Code_note 3 none :: lw_good
theorem im_Code_note : Cond.instanceMethod y_Code_note ∈ lw_good := lg_right (i := 883) (by decide +kernel) rfl
theorem se_Code_note : Cond.selects R_Code y_Code_note y_Code_note ∈ lw_good := lg_right (i := 884) (by decide +kernel) rfl
theorem d_Code_note_0 : decode b_Code_note 0 = .ok (.aload_n 0, 1) := by decide +kernel
theorem d_Code_note_1 : decode b_Code_note 1 = .ok (.getfield 37, 3) := by decide +kernel
theorem d_Code_note_4 : decode b_Code_note 4 = .ok (.ifCond .ne 13, 3) := by decide +kernel
theorem d_Code_note_7 : decode b_Code_note 7 = .ok (.aload_n 0, 1) := by decide +kernel
theorem d_Code_note_8 : decode b_Code_note 8 = .ok (.iload_n 1, 1) := by decide +kernel
theorem d_Code_note_9 : decode b_Code_note 9 = .ok (.putfield 37, 3) := by decide +kernel
theorem d_Code_note_12 : decode b_Code_note 12 = .ok (.aload_n 0, 1) := by decide +kernel
theorem d_Code_note_13 : decode b_Code_note 13 = .ok (.iload_n 2, 1) := by decide +kernel
theorem d_Code_note_14 : decode b_Code_note 14 = .ok (.putfield 24, 3) := by decide +kernel
theorem d_Code_note_17 : decode b_Code_note 17 = .ok (.return_, 1) := by decide +kernel
abbrev b_Code_tally : ByteArray := prog_2_method_5_code
abbrev y_Code_tally : MethodName := ⟨R_Code, "tally", "(I)V"⟩
theorem co_Code_tally : Cond.code y_Code_tally b_Code_tally 2 none ∈ lw_good := lg_in (tin_5 _ (List.mem_of_getElem? (i := 162) rfl)) rfl
abbrev w_Code_tally : List Cond := Cond.code y_Code_tally b_Code_tally 2 none :: lw_good
theorem im_Code_tally : Cond.instanceMethod y_Code_tally ∈ lw_good := lg_right (i := 1120) (by decide +kernel) rfl
theorem se_Code_tally : Cond.selects R_Code y_Code_tally y_Code_tally ∈ lw_good := lg_right (i := 1121) (by decide +kernel) rfl
theorem d_Code_tally_0 : decode b_Code_tally 0 = .ok (.iload_n 1, 1) := by decide +kernel
theorem d_Code_tally_1 : decode b_Code_tally 1 = .ok (.ifCond .lt 22, 3) := by decide +kernel
theorem d_Code_tally_4 : decode b_Code_tally 4 = .ok (.iload_n 1, 1) := by decide +kernel
theorem d_Code_tally_5 : decode b_Code_tally 5 = .ok (.aload_n 0, 1) := by decide +kernel
theorem d_Code_tally_6 : decode b_Code_tally 6 = .ok (.getfield 21, 3) := by decide +kernel
theorem d_Code_tally_9 : decode b_Code_tally 9 = .ok (.arraylength, 1) := by decide +kernel
theorem d_Code_tally_10 : decode b_Code_tally 10 = .ok (.if_icmp .ge 13, 3) := by decide +kernel
theorem d_Code_tally_13 : decode b_Code_tally 13 = .ok (.aload_n 0, 1) := by decide +kernel
theorem d_Code_tally_14 : decode b_Code_tally 14 = .ok (.getfield 21, 3) := by decide +kernel
theorem d_Code_tally_17 : decode b_Code_tally 17 = .ok (.iload_n 1, 1) := by decide +kernel
theorem d_Code_tally_18 : decode b_Code_tally 18 = .ok (.dup2, 1) := by decide +kernel
theorem d_Code_tally_19 : decode b_Code_tally 19 = .ok (.iaload, 1) := by decide +kernel
theorem d_Code_tally_20 : decode b_Code_tally 20 = .ok (.iconst 1, 1) := by decide +kernel
theorem d_Code_tally_21 : decode b_Code_tally 21 = .ok (.iadd, 1) := by decide +kernel
theorem d_Code_tally_22 : decode b_Code_tally 22 = .ok (.iastore, 1) := by decide +kernel
theorem d_Code_tally_23 : decode b_Code_tally 23 = .ok (.return_, 1) := by decide +kernel
abbrev b_Code_count : ByteArray := prog_2_method_6_code
abbrev y_Code_count : MethodName := ⟨R_Code, "count", "()I"⟩
theorem co_Code_count : Cond.code y_Code_count b_Code_count 1 (some .int) ∈ lw_good := lg_in (tin_5 _ (List.mem_of_getElem? (i := 211) rfl)) rfl
abbrev w_Code_count : List Cond := Cond.code y_Code_count b_Code_count 1 (some .int) :: lw_good
theorem im_Code_count : Cond.instanceMethod y_Code_count ∈ lw_good := lg_right (i := 1169) (by decide +kernel) rfl
theorem se_Code_count : Cond.selects R_Code y_Code_count y_Code_count ∈ lw_good := lg_right (i := 1170) (by decide +kernel) rfl
theorem d_Code_count_0 : decode b_Code_count 0 = .ok (.aload_n 0, 1) := by decide +kernel
theorem d_Code_count_1 : decode b_Code_count 1 = .ok (.getfield 28, 3) := by decide +kernel
theorem d_Code_count_4 : decode b_Code_count 4 = .ok (.ireturn, 1) := by decide +kernel
abbrev b_Code_emit : ByteArray := prog_2_method_7_code
abbrev y_Code_emit : MethodName := ⟨R_Code, "emit", "(III)I"⟩
theorem co_Code_emit : Cond.code y_Code_emit b_Code_emit 4 (some .int) ∈ lw_good := lg_in (tin_5 _ (List.mem_of_getElem? (i := 224) rfl)) rfl
abbrev w_Code_emit : List Cond := Cond.code y_Code_emit b_Code_emit 4 (some .int) :: lw_good
theorem im_Code_emit : Cond.instanceMethod y_Code_emit ∈ lw_good := lg_right (i := 1182) (by decide +kernel) rfl
theorem se_Code_emit : Cond.selects R_Code y_Code_emit y_Code_emit ∈ lw_good := lg_right (i := 1183) (by decide +kernel) rfl
theorem d_Code_emit_0 : decode b_Code_emit 0 = .ok (.aload_n 0, 1) := by decide +kernel
theorem d_Code_emit_1 : decode b_Code_emit 1 = .ok (.getfield 28, 3) := by decide +kernel
theorem d_Code_emit_4 : decode b_Code_emit 4 = .ok (.sipush 6032, 3) := by decide +kernel
theorem d_Code_emit_7 : decode b_Code_emit 7 = .ok (.if_icmp .lt 5, 3) := by decide +kernel
theorem d_Code_emit_10 : decode b_Code_emit 10 = .ok (.iconst (-1), 1) := by decide +kernel
theorem d_Code_emit_11 : decode b_Code_emit 11 = .ok (.ireturn, 1) := by decide +kernel
theorem d_Code_emit_12 : decode b_Code_emit 12 = .ok (.aload_n 0, 1) := by decide +kernel
theorem d_Code_emit_13 : decode b_Code_emit 13 = .ok (.getfield 11, 3) := by decide +kernel
theorem fl_Code_11 : Cond.fieldLink R_Code 11 "PointerHouse$Code" "op" "[I" ∈ lw_good := lg_right (i := 385) (by decide +kernel) rfl
theorem d_Code_emit_16 : decode b_Code_emit 16 = .ok (.aload_n 0, 1) := by decide +kernel
theorem d_Code_emit_17 : decode b_Code_emit 17 = .ok (.getfield 28, 3) := by decide +kernel
theorem d_Code_emit_20 : decode b_Code_emit 20 = .ok (.iload_n 1, 1) := by decide +kernel
theorem d_Code_emit_21 : decode b_Code_emit 21 = .ok (.iastore, 1) := by decide +kernel
theorem d_Code_emit_22 : decode b_Code_emit 22 = .ok (.aload_n 0, 1) := by decide +kernel
theorem d_Code_emit_23 : decode b_Code_emit 23 = .ok (.getfield 15, 3) := by decide +kernel
theorem fl_Code_15 : Cond.fieldLink R_Code 15 "PointerHouse$Code" "first" "[I" ∈ lw_good := lg_right (i := 386) (by decide +kernel) rfl
theorem d_Code_emit_26 : decode b_Code_emit 26 = .ok (.aload_n 0, 1) := by decide +kernel
theorem d_Code_emit_27 : decode b_Code_emit 27 = .ok (.getfield 28, 3) := by decide +kernel
theorem d_Code_emit_30 : decode b_Code_emit 30 = .ok (.iload_n 2, 1) := by decide +kernel
theorem d_Code_emit_31 : decode b_Code_emit 31 = .ok (.iastore, 1) := by decide +kernel
theorem d_Code_emit_32 : decode b_Code_emit 32 = .ok (.aload_n 0, 1) := by decide +kernel
theorem d_Code_emit_33 : decode b_Code_emit 33 = .ok (.getfield 18, 3) := by decide +kernel
theorem fl_Code_18 : Cond.fieldLink R_Code 18 "PointerHouse$Code" "second" "[I" ∈ lw_good := lg_right (i := 387) (by decide +kernel) rfl
theorem d_Code_emit_36 : decode b_Code_emit 36 = .ok (.aload_n 0, 1) := by decide +kernel
theorem d_Code_emit_37 : decode b_Code_emit 37 = .ok (.getfield 28, 3) := by decide +kernel
theorem d_Code_emit_40 : decode b_Code_emit 40 = .ok (.iload_n 3, 1) := by decide +kernel
theorem d_Code_emit_41 : decode b_Code_emit 41 = .ok (.iastore, 1) := by decide +kernel
theorem d_Code_emit_42 : decode b_Code_emit 42 = .ok (.aload_n 0, 1) := by decide +kernel
theorem d_Code_emit_43 : decode b_Code_emit 43 = .ok (.dup, 1) := by decide +kernel
theorem d_Code_emit_44 : decode b_Code_emit 44 = .ok (.getfield 28, 3) := by decide +kernel
theorem d_Code_emit_47 : decode b_Code_emit 47 = .ok (.iconst 1, 1) := by decide +kernel
theorem d_Code_emit_48 : decode b_Code_emit 48 = .ok (.iadd, 1) := by decide +kernel
theorem d_Code_emit_49 : decode b_Code_emit 49 = .ok (.putfield 28, 3) := by decide +kernel
theorem d_Code_emit_52 : decode b_Code_emit 52 = .ok (.aload_n 0, 1) := by decide +kernel
theorem d_Code_emit_53 : decode b_Code_emit 53 = .ok (.getfield 28, 3) := by decide +kernel
theorem d_Code_emit_56 : decode b_Code_emit 56 = .ok (.iconst 1, 1) := by decide +kernel
theorem d_Code_emit_57 : decode b_Code_emit 57 = .ok (.isub, 1) := by decide +kernel
theorem d_Code_emit_58 : decode b_Code_emit 58 = .ok (.ireturn, 1) := by decide +kernel
abbrev b_Code_aim : ByteArray := prog_2_method_8_code
abbrev y_Code_aim : MethodName := ⟨R_Code, "aim", "(I)V"⟩
theorem co_Code_aim : Cond.code y_Code_aim b_Code_aim 2 none ∈ lw_good := lg_in (tin_7 _ (List.mem_of_getElem? (i := 56) rfl)) rfl
abbrev w_Code_aim : List Cond := Cond.code y_Code_aim b_Code_aim 2 none :: lw_good
theorem im_Code_aim : Cond.instanceMethod y_Code_aim ∈ lw_good := lg_right (i := 1494) (by decide +kernel) rfl
theorem se_Code_aim : Cond.selects R_Code y_Code_aim y_Code_aim ∈ lw_good := lg_right (i := 1495) (by decide +kernel) rfl
theorem d_Code_aim_0 : decode b_Code_aim 0 = .ok (.aload_n 0, 1) := by decide +kernel
theorem d_Code_aim_1 : decode b_Code_aim 1 = .ok (.iload_n 1, 1) := by decide +kernel
theorem d_Code_aim_2 : decode b_Code_aim 2 = .ok (.invokevirtual 40, 3) := by decide +kernel
theorem ml_Code_40 : Cond.methodLink R_Code 40 ⟨"PointerHouse$Code", "has", "(I)Z"⟩ ∈ lw_good := lg_right (i := 1497) (by decide +kernel) rfl
theorem d_Code_aim_5 : decode b_Code_aim 5 = .ok (.ifCond .eq 13, 3) := by decide +kernel
theorem d_Code_aim_8 : decode b_Code_aim 8 = .ok (.aload_n 0, 1) := by decide +kernel
theorem d_Code_aim_9 : decode b_Code_aim 9 = .ok (.getfield 15, 3) := by decide +kernel
theorem d_Code_aim_12 : decode b_Code_aim 12 = .ok (.iload_n 1, 1) := by decide +kernel
theorem d_Code_aim_13 : decode b_Code_aim 13 = .ok (.aload_n 0, 1) := by decide +kernel
theorem d_Code_aim_14 : decode b_Code_aim 14 = .ok (.getfield 28, 3) := by decide +kernel
theorem d_Code_aim_17 : decode b_Code_aim 17 = .ok (.iastore, 1) := by decide +kernel
theorem d_Code_aim_18 : decode b_Code_aim 18 = .ok (.return_, 1) := by decide +kernel
abbrev b_Code_has : ByteArray := prog_2_method_9_code
abbrev y_Code_has : MethodName := ⟨R_Code, "has", "(I)Z"⟩
theorem co_Code_has : Cond.code y_Code_has b_Code_has 2 (some .boolean) ∈ lw_good := lg_in (tin_7 _ (List.mem_of_getElem? (i := 60) rfl)) rfl
abbrev w_Code_has : List Cond := Cond.code y_Code_has b_Code_has 2 (some .boolean) :: lw_good
theorem im_Code_has : Cond.instanceMethod y_Code_has ∈ lw_good := lg_right (i := 1499) (by decide +kernel) rfl
theorem se_Code_has : Cond.selects R_Code y_Code_has y_Code_has ∈ lw_good := lg_left (i := 80) (by decide +kernel) rfl
theorem d_Code_has_0 : decode b_Code_has 0 = .ok (.iload_n 1, 1) := by decide +kernel
theorem d_Code_has_1 : decode b_Code_has 1 = .ok (.ifCond .lt 15, 3) := by decide +kernel
theorem d_Code_has_4 : decode b_Code_has 4 = .ok (.iload_n 1, 1) := by decide +kernel
theorem d_Code_has_5 : decode b_Code_has 5 = .ok (.aload_n 0, 1) := by decide +kernel
theorem d_Code_has_6 : decode b_Code_has 6 = .ok (.getfield 28, 3) := by decide +kernel
theorem d_Code_has_9 : decode b_Code_has 9 = .ok (.if_icmp .ge 7, 3) := by decide +kernel
theorem d_Code_has_12 : decode b_Code_has 12 = .ok (.iconst 1, 1) := by decide +kernel
theorem d_Code_has_13 : decode b_Code_has 13 = .ok (.goto 4, 3) := by decide +kernel
theorem d_Code_has_16 : decode b_Code_has 16 = .ok (.iconst 0, 1) := by decide +kernel
theorem d_Code_has_17 : decode b_Code_has 17 = .ok (.ireturn, 1) := by decide +kernel
abbrev b_Code_opAt : ByteArray := prog_2_method_10_code
abbrev y_Code_opAt : MethodName := ⟨R_Code, "opAt", "(I)I"⟩
theorem co_Code_opAt : Cond.code y_Code_opAt b_Code_opAt 2 (some .int) ∈ lw_good := lg_in (tin_7 _ (List.mem_of_getElem? (i := 190) rfl)) rfl
abbrev w_Code_opAt : List Cond := Cond.code y_Code_opAt b_Code_opAt 2 (some .int) :: lw_good
theorem im_Code_opAt : Cond.instanceMethod y_Code_opAt ∈ lw_good := lg_right (i := 1628) (by decide +kernel) rfl
theorem se_Code_opAt : Cond.selects R_Code y_Code_opAt y_Code_opAt ∈ lw_good := lg_right (i := 1629) (by decide +kernel) rfl
theorem d_Code_opAt_0 : decode b_Code_opAt 0 = .ok (.aload_n 0, 1) := by decide +kernel
theorem d_Code_opAt_1 : decode b_Code_opAt 1 = .ok (.iload_n 1, 1) := by decide +kernel
theorem d_Code_opAt_2 : decode b_Code_opAt 2 = .ok (.invokevirtual 40, 3) := by decide +kernel
theorem d_Code_opAt_5 : decode b_Code_opAt 5 = .ok (.ifCond .eq 12, 3) := by decide +kernel
theorem d_Code_opAt_8 : decode b_Code_opAt 8 = .ok (.aload_n 0, 1) := by decide +kernel
theorem d_Code_opAt_9 : decode b_Code_opAt 9 = .ok (.getfield 11, 3) := by decide +kernel
theorem d_Code_opAt_12 : decode b_Code_opAt 12 = .ok (.iload_n 1, 1) := by decide +kernel
theorem d_Code_opAt_13 : decode b_Code_opAt 13 = .ok (.iaload, 1) := by decide +kernel
theorem d_Code_opAt_14 : decode b_Code_opAt 14 = .ok (.goto 5, 3) := by decide +kernel
theorem d_Code_opAt_17 : decode b_Code_opAt 17 = .ok (.bipush 58, 2) := by decide +kernel
theorem d_Code_opAt_19 : decode b_Code_opAt 19 = .ok (.ireturn, 1) := by decide +kernel
abbrev b_Code_firstAt : ByteArray := prog_2_method_11_code
abbrev y_Code_firstAt : MethodName := ⟨R_Code, "firstAt", "(I)I"⟩
theorem co_Code_firstAt : Cond.code y_Code_firstAt b_Code_firstAt 2 (some .int) ∈ lw_good := lg_in (tin_7 _ (List.mem_of_getElem? (i := 194) rfl)) rfl
abbrev w_Code_firstAt : List Cond := Cond.code y_Code_firstAt b_Code_firstAt 2 (some .int) :: lw_good
theorem im_Code_firstAt : Cond.instanceMethod y_Code_firstAt ∈ lw_good := lg_right (i := 1632) (by decide +kernel) rfl
theorem se_Code_firstAt : Cond.selects R_Code y_Code_firstAt y_Code_firstAt ∈ lw_good := lg_right (i := 1633) (by decide +kernel) rfl
theorem d_Code_firstAt_0 : decode b_Code_firstAt 0 = .ok (.aload_n 0, 1) := by decide +kernel
theorem d_Code_firstAt_1 : decode b_Code_firstAt 1 = .ok (.iload_n 1, 1) := by decide +kernel
theorem d_Code_firstAt_2 : decode b_Code_firstAt 2 = .ok (.invokevirtual 40, 3) := by decide +kernel
theorem d_Code_firstAt_5 : decode b_Code_firstAt 5 = .ok (.ifCond .eq 12, 3) := by decide +kernel
theorem d_Code_firstAt_8 : decode b_Code_firstAt 8 = .ok (.aload_n 0, 1) := by decide +kernel
theorem d_Code_firstAt_9 : decode b_Code_firstAt 9 = .ok (.getfield 15, 3) := by decide +kernel
theorem d_Code_firstAt_12 : decode b_Code_firstAt 12 = .ok (.iload_n 1, 1) := by decide +kernel
theorem d_Code_firstAt_13 : decode b_Code_firstAt 13 = .ok (.iaload, 1) := by decide +kernel
theorem d_Code_firstAt_14 : decode b_Code_firstAt 14 = .ok (.goto 4, 3) := by decide +kernel
theorem d_Code_firstAt_17 : decode b_Code_firstAt 17 = .ok (.iconst 0, 1) := by decide +kernel
theorem d_Code_firstAt_18 : decode b_Code_firstAt 18 = .ok (.ireturn, 1) := by decide +kernel
abbrev b_Code_secondAt : ByteArray := prog_2_method_12_code
abbrev y_Code_secondAt : MethodName := ⟨R_Code, "secondAt", "(I)I"⟩
theorem co_Code_secondAt : Cond.code y_Code_secondAt b_Code_secondAt 2 (some .int) ∈ lw_good := lg_in (tin_7 _ (List.mem_of_getElem? (i := 198) rfl)) rfl
abbrev w_Code_secondAt : List Cond := Cond.code y_Code_secondAt b_Code_secondAt 2 (some .int) :: lw_good
theorem im_Code_secondAt : Cond.instanceMethod y_Code_secondAt ∈ lw_good := lg_right (i := 1636) (by decide +kernel) rfl
theorem se_Code_secondAt : Cond.selects R_Code y_Code_secondAt y_Code_secondAt ∈ lw_good := lg_right (i := 1637) (by decide +kernel) rfl
theorem d_Code_secondAt_0 : decode b_Code_secondAt 0 = .ok (.aload_n 0, 1) := by decide +kernel
theorem d_Code_secondAt_1 : decode b_Code_secondAt 1 = .ok (.iload_n 1, 1) := by decide +kernel
theorem d_Code_secondAt_2 : decode b_Code_secondAt 2 = .ok (.invokevirtual 40, 3) := by decide +kernel
theorem d_Code_secondAt_5 : decode b_Code_secondAt 5 = .ok (.ifCond .eq 12, 3) := by decide +kernel
theorem d_Code_secondAt_8 : decode b_Code_secondAt 8 = .ok (.aload_n 0, 1) := by decide +kernel
theorem d_Code_secondAt_9 : decode b_Code_secondAt 9 = .ok (.getfield 18, 3) := by decide +kernel
theorem d_Code_secondAt_12 : decode b_Code_secondAt 12 = .ok (.iload_n 1, 1) := by decide +kernel
theorem d_Code_secondAt_13 : decode b_Code_secondAt 13 = .ok (.iaload, 1) := by decide +kernel
theorem d_Code_secondAt_14 : decode b_Code_secondAt 14 = .ok (.goto 4, 3) := by decide +kernel
theorem d_Code_secondAt_17 : decode b_Code_secondAt 17 = .ok (.iconst 0, 1) := by decide +kernel
theorem d_Code_secondAt_18 : decode b_Code_secondAt 18 = .ok (.ireturn, 1) := by decide +kernel
abbrev b_Parser_parseHead : ByteArray := prog_8_method_7_code
abbrev y_Parser_parseHead : MethodName := ⟨R_Parser, "parseHead", "(I)V"⟩
theorem co_Parser_parseHead : Cond.code y_Parser_parseHead b_Parser_parseHead 3 none ∈ lw_good := lg_in (tin_4 _ (List.mem_of_getElem? (i := 153) rfl)) rfl
abbrev w_Parser_parseHead : List Cond := Cond.code y_Parser_parseHead b_Parser_parseHead 3 none :: lw_good
theorem im_Parser_parseHead : Cond.instanceMethod y_Parser_parseHead ∈ lw_good := lg_right (i := 872) (by decide +kernel) rfl
theorem se_Parser_parseHead : Cond.selects R_Parser y_Parser_parseHead y_Parser_parseHead ∈ lw_good := lg_left (i := 8) (by decide +kernel) rfl
theorem d_Parser_parseHead_0 : decode b_Parser_parseHead 0 = .ok (.aload_n 0, 1) := by decide +kernel
theorem d_Parser_parseHead_1 : decode b_Parser_parseHead 1 = .ok (.getfield 33, 3) := by decide +kernel
theorem d_Parser_parseHead_4 : decode b_Parser_parseHead 4 = .ok (.bipush 12, 2) := by decide +kernel
theorem d_Parser_parseHead_6 : decode b_Parser_parseHead 6 = .ok (.if_icmp .ne 7, 3) := by decide +kernel
theorem d_Parser_parseHead_9 : decode b_Parser_parseHead 9 = .ok (.iconst 1, 1) := by decide +kernel
theorem d_Parser_parseHead_10 : decode b_Parser_parseHead 10 = .ok (.goto 4, 3) := by decide +kernel
theorem d_Parser_parseHead_13 : decode b_Parser_parseHead 13 = .ok (.iconst 0, 1) := by decide +kernel
theorem d_Parser_parseHead_14 : decode b_Parser_parseHead 14 = .ok (.istore_n 2, 1) := by decide +kernel
theorem d_Parser_parseHead_15 : decode b_Parser_parseHead 15 = .ok (.iload_n 1, 1) := by decide +kernel
theorem d_Parser_parseHead_16 : decode b_Parser_parseHead 16 = .ok (.bipush 24, 2) := by decide +kernel
theorem d_Parser_parseHead_18 : decode b_Parser_parseHead 18 = .ok (.if_icmp .ge 25, 3) := by decide +kernel
theorem d_Parser_parseHead_21 : decode b_Parser_parseHead 21 = .ok (.iload_n 2, 1) := by decide +kernel
theorem d_Parser_parseHead_22 : decode b_Parser_parseHead 22 = .ok (.ifCond .ne 26, 3) := by decide +kernel
theorem d_Parser_parseHead_25 : decode b_Parser_parseHead 25 = .ok (.aload_n 0, 1) := by decide +kernel
theorem d_Parser_parseHead_26 : decode b_Parser_parseHead 26 = .ok (.getfield 33, 3) := by decide +kernel
theorem d_Parser_parseHead_29 : decode b_Parser_parseHead 29 = .ok (.bipush 10, 2) := by decide +kernel
theorem d_Parser_parseHead_31 : decode b_Parser_parseHead 31 = .ok (.if_icmp .eq 17, 3) := by decide +kernel
theorem d_Parser_parseHead_34 : decode b_Parser_parseHead 34 = .ok (.aload_n 0, 1) := by decide +kernel
theorem d_Parser_parseHead_35 : decode b_Parser_parseHead 35 = .ok (.getfield 33, 3) := by decide +kernel
theorem d_Parser_parseHead_38 : decode b_Parser_parseHead 38 = .ok (.bipush 11, 2) := by decide +kernel
theorem d_Parser_parseHead_40 : decode b_Parser_parseHead 40 = .ok (.if_icmp .eq 8, 3) := by decide +kernel
theorem d_Parser_parseHead_43 : decode b_Parser_parseHead 43 = .ok (.aload_n 0, 1) := by decide +kernel
theorem d_Parser_parseHead_44 : decode b_Parser_parseHead 44 = .ok (.invokevirtual 62, 3) := by decide +kernel
theorem ml_Parser_62 : Cond.methodLink R_Parser 62 ⟨"PointerHouse$Parser", "stop", "()V"⟩ ∈ lw_good := lg_right (i := 874) (by decide +kernel) rfl
theorem d_Parser_parseHead_47 : decode b_Parser_parseHead 47 = .ok (.return_, 1) := by decide +kernel
theorem d_Parser_parseHead_48 : decode b_Parser_parseHead 48 = .ok (.aload_n 0, 1) := by decide +kernel
theorem d_Parser_parseHead_49 : decode b_Parser_parseHead 49 = .ok (.getfield 15, 3) := by decide +kernel
theorem d_Parser_parseHead_52 : decode b_Parser_parseHead 52 = .ok (.getfield 49, 3) := by decide +kernel
theorem d_Parser_parseHead_55 : decode b_Parser_parseHead 55 = .ok (.iload_n 1, 1) := by decide +kernel
theorem d_Parser_parseHead_56 : decode b_Parser_parseHead 56 = .ok (.aload_n 0, 1) := by decide +kernel
theorem d_Parser_parseHead_57 : decode b_Parser_parseHead 57 = .ok (.getfield 33, 3) := by decide +kernel
theorem d_Parser_parseHead_60 : decode b_Parser_parseHead 60 = .ok (.iastore, 1) := by decide +kernel
theorem d_Parser_parseHead_61 : decode b_Parser_parseHead 61 = .ok (.aload_n 0, 1) := by decide +kernel
theorem d_Parser_parseHead_62 : decode b_Parser_parseHead 62 = .ok (.invokevirtual 59, 3) := by decide +kernel
theorem ml_Parser_59 : Cond.methodLink R_Parser 59 ⟨"PointerHouse$Parser", "advance", "()V"⟩ ∈ lw_good := lg_right (i := 886) (by decide +kernel) rfl
theorem d_Parser_parseHead_65 : decode b_Parser_parseHead 65 = .ok (.aload_n 0, 1) := by decide +kernel
theorem d_Parser_parseHead_66 : decode b_Parser_parseHead 66 = .ok (.getfield 15, 3) := by decide +kernel
theorem d_Parser_parseHead_69 : decode b_Parser_parseHead 69 = .ok (.getfield 74, 3) := by decide +kernel
theorem fl_Parser_74 : Cond.fieldLink R_Parser 74 "PointerHouse$Items" "nameTok" "[I" ∈ lw_good := lg_right (i := 283) (by decide +kernel) rfl
theorem d_Parser_parseHead_72 : decode b_Parser_parseHead 72 = .ok (.iload_n 1, 1) := by decide +kernel
theorem d_Parser_parseHead_73 : decode b_Parser_parseHead 73 = .ok (.aload_n 0, 1) := by decide +kernel
theorem d_Parser_parseHead_74 : decode b_Parser_parseHead 74 = .ok (.getfield 23, 3) := by decide +kernel
theorem d_Parser_parseHead_77 : decode b_Parser_parseHead 77 = .ok (.iastore, 1) := by decide +kernel
theorem d_Parser_parseHead_78 : decode b_Parser_parseHead 78 = .ok (.aload_n 0, 1) := by decide +kernel
theorem d_Parser_parseHead_79 : decode b_Parser_parseHead 79 = .ok (.getfield 15, 3) := by decide +kernel
theorem d_Parser_parseHead_82 : decode b_Parser_parseHead 82 = .ok (.getfield 77, 3) := by decide +kernel
theorem fl_Parser_77 : Cond.fieldLink R_Parser 77 "PointerHouse$Items" "name" "[J" ∈ lw_good := lg_right (i := 286) (by decide +kernel) rfl
theorem d_Parser_parseHead_85 : decode b_Parser_parseHead 85 = .ok (.iload_n 1, 1) := by decide +kernel
theorem d_Parser_parseHead_86 : decode b_Parser_parseHead 86 = .ok (.aload_n 0, 1) := by decide +kernel
theorem d_Parser_parseHead_87 : decode b_Parser_parseHead 87 = .ok (.getfield 9, 3) := by decide +kernel
theorem d_Parser_parseHead_90 : decode b_Parser_parseHead 90 = .ok (.aload_n 0, 1) := by decide +kernel
theorem d_Parser_parseHead_91 : decode b_Parser_parseHead 91 = .ok (.getfield 23, 3) := by decide +kernel
theorem d_Parser_parseHead_94 : decode b_Parser_parseHead 94 = .ok (.invokevirtual 81, 3) := by decide +kernel
theorem ml_Parser_81 : Cond.methodLink R_Parser 81 ⟨"PointerHouse$Source", "nameAt", "(I)J"⟩ ∈ lw_good := lg_right (i := 890) (by decide +kernel) rfl
theorem d_Parser_parseHead_97 : decode b_Parser_parseHead 97 = .ok (.lastore, 1) := by decide +kernel
theorem d_Parser_parseHead_98 : decode b_Parser_parseHead 98 = .ok (.aload_n 0, 1) := by decide +kernel
theorem d_Parser_parseHead_99 : decode b_Parser_parseHead 99 = .ok (.iload_n 2, 1) := by decide +kernel
theorem d_Parser_parseHead_100 : decode b_Parser_parseHead 100 = .ok (.ifCond .eq 7, 3) := by decide +kernel
theorem d_Parser_parseHead_103 : decode b_Parser_parseHead 103 = .ok (.iconst 2, 1) := by decide +kernel
theorem d_Parser_parseHead_104 : decode b_Parser_parseHead 104 = .ok (.goto 4, 3) := by decide +kernel
theorem d_Parser_parseHead_107 : decode b_Parser_parseHead 107 = .ok (.iconst 3, 1) := by decide +kernel
theorem d_Parser_parseHead_108 : decode b_Parser_parseHead 108 = .ok (.invokevirtual 85, 3) := by decide +kernel
theorem ml_Parser_85 : Cond.methodLink R_Parser 85 ⟨"PointerHouse$Parser", "need", "(I)V"⟩ ∈ lw_good := lg_right (i := 894) (by decide +kernel) rfl
theorem d_Parser_parseHead_111 : decode b_Parser_parseHead 111 = .ok (.aload_n 0, 1) := by decide +kernel
theorem d_Parser_parseHead_112 : decode b_Parser_parseHead 112 = .ok (.getfield 15, 3) := by decide +kernel
theorem d_Parser_parseHead_115 : decode b_Parser_parseHead 115 = .ok (.getfield 88, 3) := by decide +kernel
theorem fl_Parser_88 : Cond.fieldLink R_Parser 88 "PointerHouse$Items" "rsCount" "[I" ∈ lw_good := lg_right (i := 290) (by decide +kernel) rfl
theorem d_Parser_parseHead_118 : decode b_Parser_parseHead 118 = .ok (.iload_n 1, 1) := by decide +kernel
theorem d_Parser_parseHead_119 : decode b_Parser_parseHead 119 = .ok (.aload_n 0, 1) := by decide +kernel
theorem d_Parser_parseHead_120 : decode b_Parser_parseHead 120 = .ok (.iconst 3, 1) := by decide +kernel
theorem d_Parser_parseHead_121 : decode b_Parser_parseHead 121 = .ok (.invokevirtual 91, 3) := by decide +kernel
theorem ml_Parser_91 : Cond.methodLink R_Parser 91 ⟨"PointerHouse$Parser", "parseRegions", "(I)I"⟩ ∈ lw_good := lg_right (i := 898) (by decide +kernel) rfl
theorem d_Parser_parseHead_124 : decode b_Parser_parseHead 124 = .ok (.iastore, 1) := by decide +kernel
theorem d_Parser_parseHead_125 : decode b_Parser_parseHead 125 = .ok (.aload_n 0, 1) := by decide +kernel
theorem d_Parser_parseHead_126 : decode b_Parser_parseHead 126 = .ok (.getfield 15, 3) := by decide +kernel
theorem d_Parser_parseHead_129 : decode b_Parser_parseHead 129 = .ok (.getfield 94, 3) := by decide +kernel
theorem fl_Parser_94 : Cond.fieldLink R_Parser 94 "PointerHouse$Items" "partCount" "[I" ∈ lw_good := lg_right (i := 295) (by decide +kernel) rfl
theorem d_Parser_parseHead_132 : decode b_Parser_parseHead 132 = .ok (.iload_n 1, 1) := by decide +kernel
theorem d_Parser_parseHead_133 : decode b_Parser_parseHead 133 = .ok (.iconst 0, 1) := by decide +kernel
theorem d_Parser_parseHead_134 : decode b_Parser_parseHead 134 = .ok (.iastore, 1) := by decide +kernel
theorem d_Parser_parseHead_135 : decode b_Parser_parseHead 135 = .ok (.aload_n 0, 1) := by decide +kernel
theorem d_Parser_parseHead_136 : decode b_Parser_parseHead 136 = .ok (.getfield 15, 3) := by decide +kernel
theorem d_Parser_parseHead_139 : decode b_Parser_parseHead 139 = .ok (.getfield 97, 3) := by decide +kernel
theorem fl_Parser_97 : Cond.fieldLink R_Parser 97 "PointerHouse$Items" "typeTok" "[I" ∈ lw_good := lg_right (i := 299) (by decide +kernel) rfl
theorem d_Parser_parseHead_142 : decode b_Parser_parseHead 142 = .ok (.iload_n 1, 1) := by decide +kernel
theorem d_Parser_parseHead_143 : decode b_Parser_parseHead 143 = .ok (.iconst 0, 1) := by decide +kernel
theorem d_Parser_parseHead_144 : decode b_Parser_parseHead 144 = .ok (.iastore, 1) := by decide +kernel
theorem d_Parser_parseHead_145 : decode b_Parser_parseHead 145 = .ok (.aload_n 0, 1) := by decide +kernel
theorem d_Parser_parseHead_146 : decode b_Parser_parseHead 146 = .ok (.getfield 15, 3) := by decide +kernel
theorem d_Parser_parseHead_149 : decode b_Parser_parseHead 149 = .ok (.getfield 100, 3) := by decide +kernel
theorem fl_Parser_100 : Cond.fieldLink R_Parser 100 "PointerHouse$Items" "deadTok" "[I" ∈ lw_good := lg_right (i := 302) (by decide +kernel) rfl
theorem d_Parser_parseHead_152 : decode b_Parser_parseHead 152 = .ok (.iload_n 1, 1) := by decide +kernel
theorem d_Parser_parseHead_153 : decode b_Parser_parseHead 153 = .ok (.iconst 0, 1) := by decide +kernel
theorem d_Parser_parseHead_154 : decode b_Parser_parseHead 154 = .ok (.iastore, 1) := by decide +kernel
theorem d_Parser_parseHead_155 : decode b_Parser_parseHead 155 = .ok (.aload_n 0, 1) := by decide +kernel
theorem d_Parser_parseHead_156 : decode b_Parser_parseHead 156 = .ok (.getfield 15, 3) := by decide +kernel
theorem d_Parser_parseHead_159 : decode b_Parser_parseHead 159 = .ok (.getfield 103, 3) := by decide +kernel
theorem fl_Parser_103 : Cond.fieldLink R_Parser 103 "PointerHouse$Items" "whereTok" "[I" ∈ lw_good := lg_right (i := 304) (by decide +kernel) rfl
theorem d_Parser_parseHead_162 : decode b_Parser_parseHead 162 = .ok (.iload_n 1, 1) := by decide +kernel
theorem d_Parser_parseHead_163 : decode b_Parser_parseHead 163 = .ok (.iconst 0, 1) := by decide +kernel
theorem d_Parser_parseHead_164 : decode b_Parser_parseHead 164 = .ok (.iastore, 1) := by decide +kernel
theorem d_Parser_parseHead_165 : decode b_Parser_parseHead 165 = .ok (.aload_n 0, 1) := by decide +kernel
theorem d_Parser_parseHead_166 : decode b_Parser_parseHead 166 = .ok (.getfield 15, 3) := by decide +kernel
theorem d_Parser_parseHead_169 : decode b_Parser_parseHead 169 = .ok (.iload_n 1, 1) := by decide +kernel
theorem d_Parser_parseHead_170 : decode b_Parser_parseHead 170 = .ok (.iconst 1, 1) := by decide +kernel
theorem d_Parser_parseHead_171 : decode b_Parser_parseHead 171 = .ok (.iadd, 1) := by decide +kernel
theorem d_Parser_parseHead_172 : decode b_Parser_parseHead 172 = .ok (.putfield 40, 3) := by decide +kernel
theorem d_Parser_parseHead_175 : decode b_Parser_parseHead 175 = .ok (.return_, 1) := by decide +kernel
abbrev b_Parser_parseFields : ByteArray := prog_8_method_9_code
abbrev y_Parser_parseFields : MethodName := ⟨R_Parser, "parseFields", "(I)V"⟩
theorem co_Parser_parseFields : Cond.code y_Parser_parseFields b_Parser_parseFields 3 none ∈ lw_good := lg_in (tin_5 _ (List.mem_of_getElem? (i := 38) rfl)) rfl
abbrev w_Parser_parseFields : List Cond := Cond.code y_Parser_parseFields b_Parser_parseFields 3 none :: lw_good
theorem im_Parser_parseFields : Cond.instanceMethod y_Parser_parseFields ∈ lw_good := lg_right (i := 997) (by decide +kernel) rfl
theorem se_Parser_parseFields : Cond.selects R_Parser y_Parser_parseFields y_Parser_parseFields ∈ lw_good := lg_left (i := 35) (by decide +kernel) rfl
theorem d_Parser_parseFields_0 : decode b_Parser_parseFields 0 = .ok (.aload_n 0, 1) := by decide +kernel
theorem d_Parser_parseFields_1 : decode b_Parser_parseFields 1 = .ok (.bipush 40, 2) := by decide +kernel
theorem d_Parser_parseFields_3 : decode b_Parser_parseFields 3 = .ok (.invokevirtual 85, 3) := by decide +kernel
theorem d_Parser_parseFields_6 : decode b_Parser_parseFields 6 = .ok (.iconst 0, 1) := by decide +kernel
theorem d_Parser_parseFields_7 : decode b_Parser_parseFields 7 = .ok (.istore_n 2, 1) := by decide +kernel
theorem d_Parser_parseFields_8 : decode b_Parser_parseFields 8 = .ok (.iload_n 2, 1) := by decide +kernel
theorem d_Parser_parseFields_9 : decode b_Parser_parseFields 9 = .ok (.bipush 8, 2) := by decide +kernel
theorem d_Parser_parseFields_11 : decode b_Parser_parseFields 11 = .ok (.if_icmp .gt 50, 3) := by decide +kernel
theorem d_Parser_parseFields_14 : decode b_Parser_parseFields 14 = .ok (.aload_n 0, 1) := by decide +kernel
theorem d_Parser_parseFields_15 : decode b_Parser_parseFields 15 = .ok (.getfield 36, 3) := by decide +kernel
theorem d_Parser_parseFields_18 : decode b_Parser_parseFields 18 = .ok (.ifCond .ne 43, 3) := by decide +kernel
theorem d_Parser_parseFields_21 : decode b_Parser_parseFields 21 = .ok (.iload_n 2, 1) := by decide +kernel
theorem d_Parser_parseFields_22 : decode b_Parser_parseFields 22 = .ok (.ifCond .eq 12, 3) := by decide +kernel
theorem d_Parser_parseFields_25 : decode b_Parser_parseFields 25 = .ok (.aload_n 0, 1) := by decide +kernel
theorem d_Parser_parseFields_26 : decode b_Parser_parseFields 26 = .ok (.getfield 33, 3) := by decide +kernel
theorem d_Parser_parseFields_29 : decode b_Parser_parseFields 29 = .ok (.bipush 41, 2) := by decide +kernel
theorem d_Parser_parseFields_31 : decode b_Parser_parseFields 31 = .ok (.if_icmp .eq 30, 3) := by decide +kernel
theorem d_Parser_parseFields_34 : decode b_Parser_parseFields 34 = .ok (.iload_n 2, 1) := by decide +kernel
theorem d_Parser_parseFields_35 : decode b_Parser_parseFields 35 = .ok (.bipush 8, 2) := by decide +kernel
theorem d_Parser_parseFields_37 : decode b_Parser_parseFields 37 = .ok (.if_icmp .ne 7, 3) := by decide +kernel
theorem d_Parser_parseFields_40 : decode b_Parser_parseFields 40 = .ok (.aload_n 0, 1) := by decide +kernel
theorem d_Parser_parseFields_41 : decode b_Parser_parseFields 41 = .ok (.invokevirtual 62, 3) := by decide +kernel
theorem d_Parser_parseFields_44 : decode b_Parser_parseFields 44 = .ok (.aload_n 0, 1) := by decide +kernel
theorem d_Parser_parseFields_45 : decode b_Parser_parseFields 45 = .ok (.iload_n 1, 1) := by decide +kernel
theorem d_Parser_parseFields_46 : decode b_Parser_parseFields 46 = .ok (.invokevirtual 106, 3) := by decide +kernel
theorem ml_Parser_106 : Cond.methodLink R_Parser 106 ⟨"PointerHouse$Parser", "parsePart", "(I)V"⟩ ∈ lw_good := lg_right (i := 910) (by decide +kernel) rfl
theorem d_Parser_parseFields_49 : decode b_Parser_parseFields 49 = .ok (.aload_n 0, 1) := by decide +kernel
theorem d_Parser_parseFields_50 : decode b_Parser_parseFields 50 = .ok (.bipush 46, 2) := by decide +kernel
theorem d_Parser_parseFields_52 : decode b_Parser_parseFields 52 = .ok (.invokevirtual 85, 3) := by decide +kernel
theorem d_Parser_parseFields_55 : decode b_Parser_parseFields 55 = .ok (.iinc 2 1, 3) := by decide +kernel
theorem d_Parser_parseFields_58 : decode b_Parser_parseFields 58 = .ok (.goto (-50), 3) := by decide +kernel
theorem d_Parser_parseFields_61 : decode b_Parser_parseFields 61 = .ok (.aload_n 0, 1) := by decide +kernel
theorem d_Parser_parseFields_62 : decode b_Parser_parseFields 62 = .ok (.bipush 41, 2) := by decide +kernel
theorem d_Parser_parseFields_64 : decode b_Parser_parseFields 64 = .ok (.invokevirtual 85, 3) := by decide +kernel
theorem d_Parser_parseFields_67 : decode b_Parser_parseFields 67 = .ok (.aload_n 0, 1) := by decide +kernel
theorem d_Parser_parseFields_68 : decode b_Parser_parseFields 68 = .ok (.bipush 46, 2) := by decide +kernel
theorem d_Parser_parseFields_70 : decode b_Parser_parseFields 70 = .ok (.invokevirtual 85, 3) := by decide +kernel
theorem d_Parser_parseFields_73 : decode b_Parser_parseFields 73 = .ok (.return_, 1) := by decide +kernel
abbrev b_Parser_parseFun : ByteArray := prog_8_method_11_code
abbrev y_Parser_parseFun : MethodName := ⟨R_Parser, "parseFun", "(I)V"⟩
theorem co_Parser_parseFun : Cond.code y_Parser_parseFun b_Parser_parseFun 2 none ∈ lw_good := lg_in (tin_4 _ (List.mem_of_getElem? (i := 185) rfl)) rfl
abbrev w_Parser_parseFun : List Cond := Cond.code y_Parser_parseFun b_Parser_parseFun 2 none :: lw_good
theorem im_Parser_parseFun : Cond.instanceMethod y_Parser_parseFun ∈ lw_good := lg_right (i := 904) (by decide +kernel) rfl
theorem se_Parser_parseFun : Cond.selects R_Parser y_Parser_parseFun y_Parser_parseFun ∈ lw_good := lg_left (i := 13) (by decide +kernel) rfl
theorem d_Parser_parseFun_0 : decode b_Parser_parseFun 0 = .ok (.aload_n 0, 1) := by decide +kernel
theorem d_Parser_parseFun_1 : decode b_Parser_parseFun 1 = .ok (.iconst 0, 1) := by decide +kernel
theorem d_Parser_parseFun_2 : decode b_Parser_parseFun 2 = .ok (.putfield 116, 3) := by decide +kernel
theorem fl_Parser_116 : Cond.fieldLink R_Parser 116 "PointerHouse$Parser" "vars" "I" ∈ lw_good := lg_right (i := 422) (by decide +kernel) rfl
theorem d_Parser_parseFun_5 : decode b_Parser_parseFun 5 = .ok (.aload_n 0, 1) := by decide +kernel
theorem d_Parser_parseFun_6 : decode b_Parser_parseFun 6 = .ok (.iconst 0, 1) := by decide +kernel
theorem d_Parser_parseFun_7 : decode b_Parser_parseFun 7 = .ok (.putfield 119, 3) := by decide +kernel
theorem fl_Parser_119 : Cond.fieldLink R_Parser 119 "PointerHouse$Parser" "regionSteps" "I" ∈ lw_good := lg_right (i := 423) (by decide +kernel) rfl
theorem d_Parser_parseFun_10 : decode b_Parser_parseFun 10 = .ok (.aload_n 0, 1) := by decide +kernel
theorem d_Parser_parseFun_11 : decode b_Parser_parseFun 11 = .ok (.bipush 42, 2) := by decide +kernel
theorem d_Parser_parseFun_13 : decode b_Parser_parseFun 13 = .ok (.invokevirtual 85, 3) := by decide +kernel
theorem d_Parser_parseFun_16 : decode b_Parser_parseFun 16 = .ok (.aload_n 0, 1) := by decide +kernel
theorem d_Parser_parseFun_17 : decode b_Parser_parseFun 17 = .ok (.iload_n 1, 1) := by decide +kernel
theorem d_Parser_parseFun_18 : decode b_Parser_parseFun 18 = .ok (.invokevirtual 122, 3) := by decide +kernel
theorem ml_Parser_122 : Cond.methodLink R_Parser 122 ⟨"PointerHouse$Parser", "parseParameters", "(I)V"⟩ ∈ lw_good := lg_right (i := 906) (by decide +kernel) rfl
theorem d_Parser_parseFun_21 : decode b_Parser_parseFun 21 = .ok (.aload_n 0, 1) := by decide +kernel
theorem d_Parser_parseFun_22 : decode b_Parser_parseFun 22 = .ok (.bipush 48, 2) := by decide +kernel
theorem d_Parser_parseFun_24 : decode b_Parser_parseFun 24 = .ok (.invokevirtual 125, 3) := by decide +kernel
theorem ml_Parser_125 : Cond.methodLink R_Parser 125 ⟨"PointerHouse$Parser", "accept", "(I)Z"⟩ ∈ lw_good := lg_right (i := 922) (by decide +kernel) rfl
theorem d_Parser_parseFun_27 : decode b_Parser_parseFun 27 = .ok (.ifCond .eq 22, 3) := by decide +kernel
theorem d_Parser_parseFun_30 : decode b_Parser_parseFun 30 = .ok (.aload_n 0, 1) := by decide +kernel
theorem d_Parser_parseFun_31 : decode b_Parser_parseFun 31 = .ok (.getfield 15, 3) := by decide +kernel
theorem d_Parser_parseFun_34 : decode b_Parser_parseFun 34 = .ok (.getfield 97, 3) := by decide +kernel
theorem d_Parser_parseFun_37 : decode b_Parser_parseFun 37 = .ok (.iload_n 1, 1) := by decide +kernel
theorem d_Parser_parseFun_38 : decode b_Parser_parseFun 38 = .ok (.aload_n 0, 1) := by decide +kernel
theorem d_Parser_parseFun_39 : decode b_Parser_parseFun 39 = .ok (.getfield 23, 3) := by decide +kernel
theorem d_Parser_parseFun_42 : decode b_Parser_parseFun 42 = .ok (.iastore, 1) := by decide +kernel
theorem d_Parser_parseFun_43 : decode b_Parser_parseFun 43 = .ok (.aload_n 0, 1) := by decide +kernel
theorem d_Parser_parseFun_44 : decode b_Parser_parseFun 44 = .ok (.iconst 1, 1) := by decide +kernel
theorem d_Parser_parseFun_45 : decode b_Parser_parseFun 45 = .ok (.iconst 0, 1) := by decide +kernel
theorem d_Parser_parseFun_46 : decode b_Parser_parseFun 46 = .ok (.invokevirtual 112, 3) := by decide +kernel
theorem ml_Parser_112 : Cond.methodLink R_Parser 112 ⟨"PointerHouse$Parser", "parseType", "(IZ)V"⟩ ∈ lw_good := lg_right (i := 918) (by decide +kernel) rfl
theorem d_Parser_parseFun_49 : decode b_Parser_parseFun 49 = .ok (.aload_n 0, 1) := by decide +kernel
theorem d_Parser_parseFun_50 : decode b_Parser_parseFun 50 = .ok (.bipush 13, 2) := by decide +kernel
theorem d_Parser_parseFun_52 : decode b_Parser_parseFun 52 = .ok (.invokevirtual 125, 3) := by decide +kernel
theorem d_Parser_parseFun_55 : decode b_Parser_parseFun 55 = .ok (.ifCond .eq 29, 3) := by decide +kernel
theorem d_Parser_parseFun_58 : decode b_Parser_parseFun 58 = .ok (.aload_n 0, 1) := by decide +kernel
theorem d_Parser_parseFun_59 : decode b_Parser_parseFun 59 = .ok (.getfield 15, 3) := by decide +kernel
theorem d_Parser_parseFun_62 : decode b_Parser_parseFun 62 = .ok (.getfield 100, 3) := by decide +kernel
theorem d_Parser_parseFun_65 : decode b_Parser_parseFun 65 = .ok (.iload_n 1, 1) := by decide +kernel
theorem d_Parser_parseFun_66 : decode b_Parser_parseFun 66 = .ok (.aload_n 0, 1) := by decide +kernel
theorem d_Parser_parseFun_67 : decode b_Parser_parseFun 67 = .ok (.getfield 23, 3) := by decide +kernel
theorem d_Parser_parseFun_70 : decode b_Parser_parseFun 70 = .ok (.iconst 1, 1) := by decide +kernel
theorem d_Parser_parseFun_71 : decode b_Parser_parseFun 71 = .ok (.isub, 1) := by decide +kernel
theorem d_Parser_parseFun_72 : decode b_Parser_parseFun 72 = .ok (.iastore, 1) := by decide +kernel
theorem d_Parser_parseFun_73 : decode b_Parser_parseFun 73 = .ok (.aload_n 0, 1) := by decide +kernel
theorem d_Parser_parseFun_74 : decode b_Parser_parseFun 74 = .ok (.iconst 4, 1) := by decide +kernel
theorem d_Parser_parseFun_75 : decode b_Parser_parseFun 75 = .ok (.invokevirtual 85, 3) := by decide +kernel
theorem d_Parser_parseFun_78 : decode b_Parser_parseFun 78 = .ok (.aload_n 0, 1) := by decide +kernel
theorem d_Parser_parseFun_79 : decode b_Parser_parseFun 79 = .ok (.iconst 2, 1) := by decide +kernel
theorem d_Parser_parseFun_80 : decode b_Parser_parseFun 80 = .ok (.invokevirtual 91, 3) := by decide +kernel
theorem d_Parser_parseFun_83 : decode b_Parser_parseFun 83 = .ok (.pop, 1) := by decide +kernel
theorem d_Parser_parseFun_84 : decode b_Parser_parseFun 84 = .ok (.aload_n 0, 1) := by decide +kernel
theorem d_Parser_parseFun_85 : decode b_Parser_parseFun 85 = .ok (.bipush 14, 2) := by decide +kernel
theorem d_Parser_parseFun_87 : decode b_Parser_parseFun 87 = .ok (.invokevirtual 125, 3) := by decide +kernel
theorem d_Parser_parseFun_90 : decode b_Parser_parseFun 90 = .ok (.ifCond .eq 22, 3) := by decide +kernel
theorem d_Parser_parseFun_93 : decode b_Parser_parseFun 93 = .ok (.aload_n 0, 1) := by decide +kernel
theorem d_Parser_parseFun_94 : decode b_Parser_parseFun 94 = .ok (.getfield 15, 3) := by decide +kernel
theorem d_Parser_parseFun_97 : decode b_Parser_parseFun 97 = .ok (.getfield 103, 3) := by decide +kernel
theorem d_Parser_parseFun_100 : decode b_Parser_parseFun 100 = .ok (.iload_n 1, 1) := by decide +kernel
theorem d_Parser_parseFun_101 : decode b_Parser_parseFun 101 = .ok (.aload_n 0, 1) := by decide +kernel
theorem d_Parser_parseFun_102 : decode b_Parser_parseFun 102 = .ok (.getfield 23, 3) := by decide +kernel
theorem d_Parser_parseFun_105 : decode b_Parser_parseFun 105 = .ok (.iconst 1, 1) := by decide +kernel
theorem d_Parser_parseFun_106 : decode b_Parser_parseFun 106 = .ok (.isub, 1) := by decide +kernel
theorem d_Parser_parseFun_107 : decode b_Parser_parseFun 107 = .ok (.iastore, 1) := by decide +kernel
theorem d_Parser_parseFun_108 : decode b_Parser_parseFun 108 = .ok (.aload_n 0, 1) := by decide +kernel
theorem d_Parser_parseFun_109 : decode b_Parser_parseFun 109 = .ok (.invokevirtual 129, 3) := by decide +kernel
theorem ml_Parser_129 : Cond.methodLink R_Parser 129 ⟨"PointerHouse$Parser", "parseWhere", "()V"⟩ ∈ lw_good := lg_right (i := 926) (by decide +kernel) rfl
theorem d_Parser_parseFun_112 : decode b_Parser_parseFun 112 = .ok (.aload_n 0, 1) := by decide +kernel
theorem d_Parser_parseFun_113 : decode b_Parser_parseFun 113 = .ok (.getfield 15, 3) := by decide +kernel
theorem d_Parser_parseFun_116 : decode b_Parser_parseFun 116 = .ok (.getfield 132, 3) := by decide +kernel
theorem fl_Parser_132 : Cond.fieldLink R_Parser 132 "PointerHouse$Items" "body" "[I" ∈ lw_good := lg_right (i := 308) (by decide +kernel) rfl
theorem d_Parser_parseFun_119 : decode b_Parser_parseFun 119 = .ok (.iload_n 1, 1) := by decide +kernel
theorem d_Parser_parseFun_120 : decode b_Parser_parseFun 120 = .ok (.aload_n 0, 1) := by decide +kernel
theorem d_Parser_parseFun_121 : decode b_Parser_parseFun 121 = .ok (.iconst 1, 1) := by decide +kernel
theorem d_Parser_parseFun_122 : decode b_Parser_parseFun 122 = .ok (.invokevirtual 135, 3) := by decide +kernel
theorem ml_Parser_135 : Cond.methodLink R_Parser 135 ⟨"PointerHouse$Parser", "parseBlock", "(I)I"⟩ ∈ lw_good := lg_right (i := 930) (by decide +kernel) rfl
theorem d_Parser_parseFun_125 : decode b_Parser_parseFun 125 = .ok (.iastore, 1) := by decide +kernel
theorem d_Parser_parseFun_126 : decode b_Parser_parseFun 126 = .ok (.aload_n 0, 1) := by decide +kernel
theorem d_Parser_parseFun_127 : decode b_Parser_parseFun 127 = .ok (.getfield 15, 3) := by decide +kernel
theorem d_Parser_parseFun_130 : decode b_Parser_parseFun 130 = .ok (.getfield 138, 3) := by decide +kernel
theorem fl_Parser_138 : Cond.fieldLink R_Parser 138 "PointerHouse$Items" "endTok" "[I" ∈ lw_good := lg_right (i := 311) (by decide +kernel) rfl
theorem d_Parser_parseFun_133 : decode b_Parser_parseFun 133 = .ok (.iload_n 1, 1) := by decide +kernel
theorem d_Parser_parseFun_134 : decode b_Parser_parseFun 134 = .ok (.aload_n 0, 1) := by decide +kernel
theorem d_Parser_parseFun_135 : decode b_Parser_parseFun 135 = .ok (.getfield 23, 3) := by decide +kernel
theorem d_Parser_parseFun_138 : decode b_Parser_parseFun 138 = .ok (.iconst 1, 1) := by decide +kernel
theorem d_Parser_parseFun_139 : decode b_Parser_parseFun 139 = .ok (.isub, 1) := by decide +kernel
theorem d_Parser_parseFun_140 : decode b_Parser_parseFun 140 = .ok (.iastore, 1) := by decide +kernel
theorem d_Parser_parseFun_141 : decode b_Parser_parseFun 141 = .ok (.return_, 1) := by decide +kernel
abbrev b_Parser_advance : ByteArray := prog_8_method_3_code
abbrev y_Parser_advance : MethodName := ⟨R_Parser, "advance", "()V"⟩
theorem co_Parser_advance : Cond.code y_Parser_advance b_Parser_advance 1 none ∈ lw_good := lg_in (tin_4 _ (List.mem_of_getElem? (i := 169) rfl)) rfl
abbrev w_Parser_advance : List Cond := Cond.code y_Parser_advance b_Parser_advance 1 none :: lw_good
theorem im_Parser_advance : Cond.instanceMethod y_Parser_advance ∈ lw_good := lg_right (i := 888) (by decide +kernel) rfl
theorem se_Parser_advance : Cond.selects R_Parser y_Parser_advance y_Parser_advance ∈ lw_good := lg_left (i := 10) (by decide +kernel) rfl
theorem d_Parser_advance_0 : decode b_Parser_advance 0 = .ok (.aload_n 0, 1) := by decide +kernel
theorem d_Parser_advance_1 : decode b_Parser_advance 1 = .ok (.dup, 1) := by decide +kernel
theorem d_Parser_advance_2 : decode b_Parser_advance 2 = .ok (.getfield 23, 3) := by decide +kernel
theorem d_Parser_advance_5 : decode b_Parser_advance 5 = .ok (.iconst 1, 1) := by decide +kernel
theorem d_Parser_advance_6 : decode b_Parser_advance 6 = .ok (.iadd, 1) := by decide +kernel
theorem d_Parser_advance_7 : decode b_Parser_advance 7 = .ok (.putfield 23, 3) := by decide +kernel
theorem d_Parser_advance_10 : decode b_Parser_advance 10 = .ok (.aload_n 0, 1) := by decide +kernel
theorem d_Parser_advance_11 : decode b_Parser_advance 11 = .ok (.aload_n 0, 1) := by decide +kernel
theorem d_Parser_advance_12 : decode b_Parser_advance 12 = .ok (.getfield 36, 3) := by decide +kernel
theorem d_Parser_advance_15 : decode b_Parser_advance 15 = .ok (.ifCond .eq 7, 3) := by decide +kernel
theorem d_Parser_advance_18 : decode b_Parser_advance 18 = .ok (.iconst 0, 1) := by decide +kernel
theorem d_Parser_advance_19 : decode b_Parser_advance 19 = .ok (.goto 14, 3) := by decide +kernel
theorem d_Parser_advance_22 : decode b_Parser_advance 22 = .ok (.aload_n 0, 1) := by decide +kernel
theorem d_Parser_advance_23 : decode b_Parser_advance 23 = .ok (.getfield 9, 3) := by decide +kernel
theorem d_Parser_advance_26 : decode b_Parser_advance 26 = .ok (.aload_n 0, 1) := by decide +kernel
theorem d_Parser_advance_27 : decode b_Parser_advance 27 = .ok (.getfield 23, 3) := by decide +kernel
theorem d_Parser_advance_30 : decode b_Parser_advance 30 = .ok (.invokevirtual 27, 3) := by decide +kernel
theorem d_Parser_advance_33 : decode b_Parser_advance 33 = .ok (.putfield 33, 3) := by decide +kernel
theorem d_Parser_advance_36 : decode b_Parser_advance 36 = .ok (.return_, 1) := by decide +kernel
abbrev b_Parser_accept : ByteArray := prog_8_method_4_code
abbrev y_Parser_accept : MethodName := ⟨R_Parser, "accept", "(I)Z"⟩
theorem co_Parser_accept : Cond.code y_Parser_accept b_Parser_accept 2 (some .boolean) ∈ lw_good := lg_in (tin_4 _ (List.mem_of_getElem? (i := 205) rfl)) rfl
abbrev w_Parser_accept : List Cond := Cond.code y_Parser_accept b_Parser_accept 2 (some .boolean) :: lw_good
theorem im_Parser_accept : Cond.instanceMethod y_Parser_accept ∈ lw_good := lg_right (i := 924) (by decide +kernel) rfl
theorem se_Parser_accept : Cond.selects R_Parser y_Parser_accept y_Parser_accept ∈ lw_good := lg_left (i := 17) (by decide +kernel) rfl
theorem d_Parser_accept_0 : decode b_Parser_accept 0 = .ok (.aload_n 0, 1) := by decide +kernel
theorem d_Parser_accept_1 : decode b_Parser_accept 1 = .ok (.getfield 33, 3) := by decide +kernel
theorem d_Parser_accept_4 : decode b_Parser_accept 4 = .ok (.iload_n 1, 1) := by decide +kernel
theorem d_Parser_accept_5 : decode b_Parser_accept 5 = .ok (.if_icmp .eq 5, 3) := by decide +kernel
theorem d_Parser_accept_8 : decode b_Parser_accept 8 = .ok (.iconst 0, 1) := by decide +kernel
theorem d_Parser_accept_9 : decode b_Parser_accept 9 = .ok (.ireturn, 1) := by decide +kernel
theorem d_Parser_accept_10 : decode b_Parser_accept 10 = .ok (.aload_n 0, 1) := by decide +kernel
theorem d_Parser_accept_11 : decode b_Parser_accept 11 = .ok (.invokevirtual 59, 3) := by decide +kernel
theorem d_Parser_accept_14 : decode b_Parser_accept 14 = .ok (.iconst 1, 1) := by decide +kernel
theorem d_Parser_accept_15 : decode b_Parser_accept 15 = .ok (.ireturn, 1) := by decide +kernel
abbrev b_Parser_need : ByteArray := prog_8_method_5_code
abbrev y_Parser_need : MethodName := ⟨R_Parser, "need", "(I)V"⟩
theorem co_Parser_need : Cond.code y_Parser_need b_Parser_need 2 none ∈ lw_good := lg_in (tin_4 _ (List.mem_of_getElem? (i := 177) rfl)) rfl
abbrev w_Parser_need : List Cond := Cond.code y_Parser_need b_Parser_need 2 none :: lw_good
theorem im_Parser_need : Cond.instanceMethod y_Parser_need ∈ lw_good := lg_right (i := 896) (by decide +kernel) rfl
theorem se_Parser_need : Cond.selects R_Parser y_Parser_need y_Parser_need ∈ lw_good := lg_left (i := 11) (by decide +kernel) rfl
theorem d_Parser_need_0 : decode b_Parser_need 0 = .ok (.aload_n 0, 1) := by decide +kernel
theorem d_Parser_need_1 : decode b_Parser_need 1 = .ok (.getfield 33, 3) := by decide +kernel
theorem d_Parser_need_4 : decode b_Parser_need 4 = .ok (.iload_n 1, 1) := by decide +kernel
theorem d_Parser_need_5 : decode b_Parser_need 5 = .ok (.if_icmp .ne 10, 3) := by decide +kernel
theorem d_Parser_need_8 : decode b_Parser_need 8 = .ok (.aload_n 0, 1) := by decide +kernel
theorem d_Parser_need_9 : decode b_Parser_need 9 = .ok (.invokevirtual 59, 3) := by decide +kernel
theorem d_Parser_need_12 : decode b_Parser_need 12 = .ok (.goto 7, 3) := by decide +kernel
theorem d_Parser_need_15 : decode b_Parser_need 15 = .ok (.aload_n 0, 1) := by decide +kernel
theorem d_Parser_need_16 : decode b_Parser_need 16 = .ok (.invokevirtual 62, 3) := by decide +kernel
theorem d_Parser_need_19 : decode b_Parser_need 19 = .ok (.return_, 1) := by decide +kernel
abbrev b_Parser_stop : ByteArray := prog_8_method_6_code
abbrev y_Parser_stop : MethodName := ⟨R_Parser, "stop", "()V"⟩
theorem co_Parser_stop : Cond.code y_Parser_stop b_Parser_stop 1 none ∈ lw_good := lg_in (tin_4 _ (List.mem_of_getElem? (i := 157) rfl)) rfl
abbrev w_Parser_stop : List Cond := Cond.code y_Parser_stop b_Parser_stop 1 none :: lw_good
theorem im_Parser_stop : Cond.instanceMethod y_Parser_stop ∈ lw_good := lg_right (i := 876) (by decide +kernel) rfl
theorem se_Parser_stop : Cond.selects R_Parser y_Parser_stop y_Parser_stop ∈ lw_good := lg_left (i := 9) (by decide +kernel) rfl
theorem d_Parser_stop_0 : decode b_Parser_stop 0 = .ok (.aload_n 0, 1) := by decide +kernel
theorem d_Parser_stop_1 : decode b_Parser_stop 1 = .ok (.iconst 1, 1) := by decide +kernel
theorem d_Parser_stop_2 : decode b_Parser_stop 2 = .ok (.putfield 36, 3) := by decide +kernel
theorem d_Parser_stop_5 : decode b_Parser_stop 5 = .ok (.aload_n 0, 1) := by decide +kernel
theorem d_Parser_stop_6 : decode b_Parser_stop 6 = .ok (.iconst 0, 1) := by decide +kernel
theorem d_Parser_stop_7 : decode b_Parser_stop 7 = .ok (.putfield 33, 3) := by decide +kernel
theorem d_Parser_stop_10 : decode b_Parser_stop 10 = .ok (.aload_n 0, 1) := by decide +kernel
theorem d_Parser_stop_11 : decode b_Parser_stop 11 = .ok (.getfield 19, 3) := by decide +kernel
theorem fl_Parser_19 : Cond.fieldLink R_Parser 19 "PointerHouse$Parser" "code" "LPointerHouse$Code;" ∈ lw_good := lg_right (i := 418) (by decide +kernel) rfl
theorem d_Parser_stop_14 : decode b_Parser_stop 14 = .ok (.iconst 1, 1) := by decide +kernel
theorem d_Parser_stop_15 : decode b_Parser_stop 15 = .ok (.aload_n 0, 1) := by decide +kernel
theorem d_Parser_stop_16 : decode b_Parser_stop 16 = .ok (.getfield 9, 3) := by decide +kernel
theorem d_Parser_stop_19 : decode b_Parser_stop 19 = .ok (.aload_n 0, 1) := by decide +kernel
theorem d_Parser_stop_20 : decode b_Parser_stop 20 = .ok (.getfield 23, 3) := by decide +kernel
theorem d_Parser_stop_23 : decode b_Parser_stop 23 = .ok (.invokevirtual 65, 3) := by decide +kernel
theorem ml_Parser_65 : Cond.methodLink R_Parser 65 ⟨"PointerHouse$Source", "startOf", "(I)I"⟩ ∈ lw_good := lg_right (i := 878) (by decide +kernel) rfl
theorem d_Parser_stop_26 : decode b_Parser_stop 26 = .ok (.invokevirtual 68, 3) := by decide +kernel
theorem ml_Parser_68 : Cond.methodLink R_Parser 68 ⟨"PointerHouse$Code", "note", "(II)V"⟩ ∈ lw_good := lg_right (i := 882) (by decide +kernel) rfl
theorem d_Parser_stop_29 : decode b_Parser_stop 29 = .ok (.return_, 1) := by decide +kernel
abbrev b_Parser_parseRegions : ByteArray := prog_8_method_8_code
abbrev y_Parser_parseRegions : MethodName := ⟨R_Parser, "parseRegions", "(I)I"⟩
theorem co_Parser_parseRegions : Cond.code y_Parser_parseRegions b_Parser_parseRegions 3 (some .int) ∈ lw_good := lg_in (tin_4 _ (List.mem_of_getElem? (i := 181) rfl)) rfl
abbrev w_Parser_parseRegions : List Cond := Cond.code y_Parser_parseRegions b_Parser_parseRegions 3 (some .int) :: lw_good
theorem im_Parser_parseRegions : Cond.instanceMethod y_Parser_parseRegions ∈ lw_good := lg_right (i := 900) (by decide +kernel) rfl
theorem se_Parser_parseRegions : Cond.selects R_Parser y_Parser_parseRegions y_Parser_parseRegions ∈ lw_good := lg_left (i := 12) (by decide +kernel) rfl
theorem d_Parser_parseRegions_0 : decode b_Parser_parseRegions 0 = .ok (.iconst 0, 1) := by decide +kernel
theorem d_Parser_parseRegions_1 : decode b_Parser_parseRegions 1 = .ok (.istore_n 2, 1) := by decide +kernel
theorem d_Parser_parseRegions_2 : decode b_Parser_parseRegions 2 = .ok (.iload_n 2, 1) := by decide +kernel
theorem d_Parser_parseRegions_3 : decode b_Parser_parseRegions 3 = .ok (.iload_n 1, 1) := by decide +kernel
theorem d_Parser_parseRegions_4 : decode b_Parser_parseRegions 4 = .ok (.if_icmp .ge 21, 3) := by decide +kernel
theorem d_Parser_parseRegions_7 : decode b_Parser_parseRegions 7 = .ok (.aload_n 0, 1) := by decide +kernel
theorem d_Parser_parseRegions_8 : decode b_Parser_parseRegions 8 = .ok (.getfield 33, 3) := by decide +kernel
theorem d_Parser_parseRegions_11 : decode b_Parser_parseRegions 11 = .ok (.iconst 4, 1) := by decide +kernel
theorem d_Parser_parseRegions_12 : decode b_Parser_parseRegions 12 = .ok (.if_icmp .ne 13, 3) := by decide +kernel
theorem d_Parser_parseRegions_15 : decode b_Parser_parseRegions 15 = .ok (.aload_n 0, 1) := by decide +kernel
theorem d_Parser_parseRegions_16 : decode b_Parser_parseRegions 16 = .ok (.invokevirtual 59, 3) := by decide +kernel
theorem d_Parser_parseRegions_19 : decode b_Parser_parseRegions 19 = .ok (.iinc 2 1, 3) := by decide +kernel
theorem d_Parser_parseRegions_22 : decode b_Parser_parseRegions 22 = .ok (.goto (-20), 3) := by decide +kernel
theorem d_Parser_parseRegions_25 : decode b_Parser_parseRegions 25 = .ok (.iload_n 2, 1) := by decide +kernel
theorem d_Parser_parseRegions_26 : decode b_Parser_parseRegions 26 = .ok (.ireturn, 1) := by decide +kernel
abbrev b_Parser_parsePart : ByteArray := prog_8_method_10_code
abbrev y_Parser_parsePart : MethodName := ⟨R_Parser, "parsePart", "(I)V"⟩
theorem co_Parser_parsePart : Cond.code y_Parser_parsePart b_Parser_parsePart 2 none ∈ lw_good := lg_in (tin_4 _ (List.mem_of_getElem? (i := 193) rfl)) rfl
abbrev w_Parser_parsePart : List Cond := Cond.code y_Parser_parsePart b_Parser_parsePart 2 none :: lw_good
theorem im_Parser_parsePart : Cond.instanceMethod y_Parser_parsePart ∈ lw_good := lg_right (i := 912) (by decide +kernel) rfl
theorem se_Parser_parsePart : Cond.selects R_Parser y_Parser_parsePart y_Parser_parsePart ∈ lw_good := lg_left (i := 15) (by decide +kernel) rfl
theorem d_Parser_parsePart_0 : decode b_Parser_parsePart 0 = .ok (.aload_n 0, 1) := by decide +kernel
theorem d_Parser_parsePart_1 : decode b_Parser_parsePart 1 = .ok (.getfield 15, 3) := by decide +kernel
theorem d_Parser_parsePart_4 : decode b_Parser_parsePart 4 = .ok (.iload_n 1, 1) := by decide +kernel
theorem d_Parser_parsePart_5 : decode b_Parser_parsePart 5 = .ok (.aload_n 0, 1) := by decide +kernel
theorem d_Parser_parsePart_6 : decode b_Parser_parsePart 6 = .ok (.getfield 23, 3) := by decide +kernel
theorem d_Parser_parsePart_9 : decode b_Parser_parsePart 9 = .ok (.invokevirtual 109, 3) := by decide +kernel
theorem ml_Parser_109 : Cond.methodLink R_Parser 109 ⟨"PointerHouse$Items", "addPart", "(II)V"⟩ ∈ lw_good := lg_right (i := 914) (by decide +kernel) rfl
theorem d_Parser_parsePart_12 : decode b_Parser_parsePart 12 = .ok (.aload_n 0, 1) := by decide +kernel
theorem d_Parser_parsePart_13 : decode b_Parser_parsePart 13 = .ok (.iconst 2, 1) := by decide +kernel
theorem d_Parser_parsePart_14 : decode b_Parser_parsePart 14 = .ok (.invokevirtual 85, 3) := by decide +kernel
theorem d_Parser_parsePart_17 : decode b_Parser_parsePart 17 = .ok (.aload_n 0, 1) := by decide +kernel
theorem d_Parser_parsePart_18 : decode b_Parser_parsePart 18 = .ok (.bipush 48, 2) := by decide +kernel
theorem d_Parser_parsePart_20 : decode b_Parser_parsePart 20 = .ok (.invokevirtual 85, 3) := by decide +kernel
theorem d_Parser_parsePart_23 : decode b_Parser_parsePart 23 = .ok (.aload_n 0, 1) := by decide +kernel
theorem d_Parser_parsePart_24 : decode b_Parser_parsePart 24 = .ok (.iconst 1, 1) := by decide +kernel
theorem d_Parser_parsePart_25 : decode b_Parser_parsePart 25 = .ok (.iconst 0, 1) := by decide +kernel
theorem d_Parser_parsePart_26 : decode b_Parser_parsePart 26 = .ok (.invokevirtual 112, 3) := by decide +kernel
theorem d_Parser_parsePart_29 : decode b_Parser_parsePart 29 = .ok (.return_, 1) := by decide +kernel
abbrev b_Parser_parseType : ByteArray := prog_8_method_14_code
abbrev y_Parser_parseType : MethodName := ⟨R_Parser, "parseType", "(IZ)V"⟩
theorem co_Parser_parseType : Cond.code y_Parser_parseType b_Parser_parseType 3 none ∈ lw_good := lg_in (tin_4 _ (List.mem_of_getElem? (i := 201) rfl)) rfl
abbrev w_Parser_parseType : List Cond := Cond.code y_Parser_parseType b_Parser_parseType 3 none :: lw_good
theorem im_Parser_parseType : Cond.instanceMethod y_Parser_parseType ∈ lw_good := lg_right (i := 920) (by decide +kernel) rfl
theorem se_Parser_parseType : Cond.selects R_Parser y_Parser_parseType y_Parser_parseType ∈ lw_good := lg_left (i := 16) (by decide +kernel) rfl
theorem d_Parser_parseType_0 : decode b_Parser_parseType 0 = .ok (.iload_n 1, 1) := by decide +kernel
theorem d_Parser_parseType_1 : decode b_Parser_parseType 1 = .ok (.bipush 6, 2) := by decide +kernel
theorem d_Parser_parseType_3 : decode b_Parser_parseType 3 = .ok (.if_icmp .le 10, 3) := by decide +kernel
theorem d_Parser_parseType_6 : decode b_Parser_parseType 6 = .ok (.aload_n 0, 1) := by decide +kernel
theorem d_Parser_parseType_7 : decode b_Parser_parseType 7 = .ok (.invokevirtual 62, 3) := by decide +kernel
theorem d_Parser_parseType_10 : decode b_Parser_parseType 10 = .ok (.goto 89, 3) := by decide +kernel
theorem d_Parser_parseType_13 : decode b_Parser_parseType 13 = .ok (.iload_n 2, 1) := by decide +kernel
theorem d_Parser_parseType_14 : decode b_Parser_parseType 14 = .ok (.ifCond .eq 20, 3) := by decide +kernel
theorem d_Parser_parseType_17 : decode b_Parser_parseType 17 = .ok (.aload_n 0, 1) := by decide +kernel
theorem d_Parser_parseType_18 : decode b_Parser_parseType 18 = .ok (.iconst 3, 1) := by decide +kernel
theorem d_Parser_parseType_19 : decode b_Parser_parseType 19 = .ok (.invokevirtual 125, 3) := by decide +kernel
theorem d_Parser_parseType_22 : decode b_Parser_parseType 22 = .ok (.ifCond .eq 12, 3) := by decide +kernel
theorem d_Parser_parseType_25 : decode b_Parser_parseType 25 = .ok (.aload_n 0, 1) := by decide +kernel
theorem d_Parser_parseType_26 : decode b_Parser_parseType 26 = .ok (.iconst 3, 1) := by decide +kernel
theorem d_Parser_parseType_27 : decode b_Parser_parseType 27 = .ok (.invokevirtual 91, 3) := by decide +kernel
theorem d_Parser_parseType_30 : decode b_Parser_parseType 30 = .ok (.pop, 1) := by decide +kernel
theorem d_Parser_parseType_31 : decode b_Parser_parseType 31 = .ok (.goto 68, 3) := by decide +kernel
theorem d_Parser_parseType_34 : decode b_Parser_parseType 34 = .ok (.aload_n 0, 1) := by decide +kernel
theorem d_Parser_parseType_35 : decode b_Parser_parseType 35 = .ok (.bipush 59, 2) := by decide +kernel
theorem d_Parser_parseType_37 : decode b_Parser_parseType 37 = .ok (.invokevirtual 125, 3) := by decide +kernel
theorem d_Parser_parseType_40 : decode b_Parser_parseType 40 = .ok (.ifCond .ne 12, 3) := by decide +kernel
theorem d_Parser_parseType_43 : decode b_Parser_parseType 43 = .ok (.aload_n 0, 1) := by decide +kernel
theorem d_Parser_parseType_44 : decode b_Parser_parseType 44 = .ok (.bipush 55, 2) := by decide +kernel
theorem d_Parser_parseType_46 : decode b_Parser_parseType 46 = .ok (.invokevirtual 125, 3) := by decide +kernel
theorem d_Parser_parseType_49 : decode b_Parser_parseType 49 = .ok (.ifCond .eq 19, 3) := by decide +kernel
theorem d_Parser_parseType_52 : decode b_Parser_parseType 52 = .ok (.aload_n 0, 1) := by decide +kernel
theorem d_Parser_parseType_53 : decode b_Parser_parseType 53 = .ok (.iconst 4, 1) := by decide +kernel
theorem d_Parser_parseType_54 : decode b_Parser_parseType 54 = .ok (.invokevirtual 85, 3) := by decide +kernel
theorem d_Parser_parseType_57 : decode b_Parser_parseType 57 = .ok (.aload_n 0, 1) := by decide +kernel
theorem d_Parser_parseType_58 : decode b_Parser_parseType 58 = .ok (.iload_n 1, 1) := by decide +kernel
theorem d_Parser_parseType_59 : decode b_Parser_parseType 59 = .ok (.iconst 1, 1) := by decide +kernel
theorem d_Parser_parseType_60 : decode b_Parser_parseType 60 = .ok (.iadd, 1) := by decide +kernel
theorem d_Parser_parseType_61 : decode b_Parser_parseType 61 = .ok (.iconst 1, 1) := by decide +kernel
theorem d_Parser_parseType_62 : decode b_Parser_parseType 62 = .ok (.invokevirtual 112, 3) := by decide +kernel
theorem d_Parser_parseType_65 : decode b_Parser_parseType 65 = .ok (.goto 34, 3) := by decide +kernel
theorem d_Parser_parseType_68 : decode b_Parser_parseType 68 = .ok (.aload_n 0, 1) := by decide +kernel
theorem d_Parser_parseType_69 : decode b_Parser_parseType 69 = .ok (.bipush 60, 2) := by decide +kernel
theorem d_Parser_parseType_71 : decode b_Parser_parseType 71 = .ok (.invokevirtual 125, 3) := by decide +kernel
theorem d_Parser_parseType_74 : decode b_Parser_parseType 74 = .ok (.ifCond .eq 19, 3) := by decide +kernel
theorem d_Parser_parseType_77 : decode b_Parser_parseType 77 = .ok (.aload_n 0, 1) := by decide +kernel
theorem d_Parser_parseType_78 : decode b_Parser_parseType 78 = .ok (.iconst 4, 1) := by decide +kernel
theorem d_Parser_parseType_79 : decode b_Parser_parseType 79 = .ok (.invokevirtual 85, 3) := by decide +kernel
theorem d_Parser_parseType_82 : decode b_Parser_parseType 82 = .ok (.aload_n 0, 1) := by decide +kernel
theorem d_Parser_parseType_83 : decode b_Parser_parseType 83 = .ok (.iload_n 1, 1) := by decide +kernel
theorem d_Parser_parseType_84 : decode b_Parser_parseType 84 = .ok (.iconst 1, 1) := by decide +kernel
theorem d_Parser_parseType_85 : decode b_Parser_parseType 85 = .ok (.iadd, 1) := by decide +kernel
theorem d_Parser_parseType_86 : decode b_Parser_parseType 86 = .ok (.iconst 0, 1) := by decide +kernel
theorem d_Parser_parseType_87 : decode b_Parser_parseType 87 = .ok (.invokevirtual 112, 3) := by decide +kernel
theorem d_Parser_parseType_90 : decode b_Parser_parseType 90 = .ok (.goto 9, 3) := by decide +kernel
theorem d_Parser_parseType_93 : decode b_Parser_parseType 93 = .ok (.aload_n 0, 1) := by decide +kernel
theorem d_Parser_parseType_94 : decode b_Parser_parseType 94 = .ok (.bipush 26, 2) := by decide +kernel
theorem d_Parser_parseType_96 : decode b_Parser_parseType 96 = .ok (.invokevirtual 85, 3) := by decide +kernel
theorem d_Parser_parseType_99 : decode b_Parser_parseType 99 = .ok (.return_, 1) := by decide +kernel
section GV
variable {p : Program} {l : Launch} {e : Env} {R : Room} {s : State} {m : MethodId} {args : Array Value} {below : List Frame} {meth : Method} {c : Code} {H : Heap} {locs : List Loc} {cells slots : Nat} {Q : State → Prop}
variable {cc : ByteArray} {pc : Nat} {ls : Array Slot} {rest st0 : List Value} {dC : Nat → ClassId} {dI : Nat → Nat → Nat} {A : Nat → Prop} {ad ea ev : Nat → Nat} {km : Nat → ClassId} {T T' : gSt} {H0 : Heap}
theorem rd_House_83 (hx : p.tables.exec = Jvm.exec) (hb : c.code = cc) (hT : ∀ w ∈ lw_good, w.before args s = true) (hown : s.vm.findClass R_House = some m.cls) (hK : va_K (dC, dI) cls_all (gT LH km) s) (hP : va_P (dC, dI) cls_all (gW LH ad km T) H) (hdg : decode cc pc = .ok (.getfield 83, 3)) (kk : W p l e R s m args below meth c H locs cells slots Q (F0 m (pc + 3) ls (.int (T.1 1 0) :: rest))) : W p l e R s m args below meth c H locs cells slots Q (F0 m pc ls (.ref (ad 0) :: rest)) := gw_get hx hb hT i_House hown hK hP 0 1 1 (Nat.le_of_ble_eq_true rfl) rfl rfl (Nat.le_of_ble_eq_true rfl) rfl (gv_i rfl) (hT _ fl_House_83) (fun _ h9 => h9) hdg kk
theorem wr_House_83 (hx : p.tables.exec = Jvm.exec) (hb : c.code = cc) (hT : ∀ w ∈ lw_good, w.before args s = true) (hown : s.vm.findClass R_House = some m.cls) (hK : va_K (dC, dI) cls_all (gT LH km) s) (hP : va_P (dC, dI) cls_all (gW LH ad km T) H) (hD : va_D A (gW LH ad km T)) (hS : va_S A H0 H locs) {v : Int32} (hdg : decode cc pc = .ok (.putfield 83, 3)) (kk : ∀ (T1 : gSt), T1 = sI T 1 0 v → ∀ (H1 : Heap) (locs1 : List Loc), va_P (dC, dI) cls_all (gW LH ad km T1) H1 → va_D A (gW LH ad km T1) → va_S A H0 H1 locs1 → W p l e R s m args below meth c H1 locs1 cells slots Q (F0 m (pc + 3) ls rest)) : W p l e R s m args below meth c H locs cells slots Q (F0 m pc ls (.int v :: .ref (ad 0) :: rest)) := gw_puti okH hx hb hT i_House t_House t_House_ok n_House hown hK hP hD hS 0 1 1 (Nat.le_of_ble_eq_true rfl) rfl rfl (Nat.le_of_ble_eq_true rfl) rfl rfl (hT _ fl_House_83) (fun _ h9 => h9) rfl (ty := .int) (by decide +kernel) rfl rfl hdg kk
theorem wr_House_91 (hx : p.tables.exec = Jvm.exec) (hb : c.code = cc) (hT : ∀ w ∈ lw_good, w.before args s = true) (hown : s.vm.findClass R_House = some m.cls) (hK : va_K (dC, dI) cls_all (gT LH km) s) (hP : va_P (dC, dI) cls_all (gW LH ad km T) H) (hD : va_D A (gW LH ad km T)) (hS : va_S A H0 H locs) {v : Int32} (hz : v = 0 ∨ v = 1) (hdg : decode cc pc = .ok (.putfield 91, 3)) (kk : ∀ (T1 : gSt), T1 = sI T 2 0 v → ∀ (H1 : Heap) (locs1 : List Loc), va_P (dC, dI) cls_all (gW LH ad km T1) H1 → va_D A (gW LH ad km T1) → va_S A H0 H1 locs1 → W p l e R s m args below meth c H1 locs1 cells slots Q (F0 m (pc + 3) ls rest)) : W p l e R s m args below meth c H locs cells slots Q (F0 m pc ls (.int v :: .ref (ad 0) :: rest)) := gw_puti okH hx hb hT i_House t_House t_House_ok n_House hown hK hP hD hS 0 2 2 (Nat.le_of_ble_eq_true rfl) rfl rfl (Nat.le_of_ble_eq_true rfl) rfl rfl (hT _ fl_House_91) (fun _ h9 => h9) rfl (ty := .boolean) (by decide +kernel) (by rcases hz with h | h <;> rw [h] <;> rfl) (by rcases hz with h | h <;> rw [h] <;> rfl) hdg kk
theorem rd_House_79 (hx : p.tables.exec = Jvm.exec) (hb : c.code = cc) (hT : ∀ w ∈ lw_good, w.before args s = true) (hown : s.vm.findClass R_House = some m.cls) (hK : va_K (dC, dI) cls_all (gT LH km) s) (hP : va_P (dC, dI) cls_all (gW LH ad km T) H) (hdg : decode cc pc = .ok (.getfield 79, 3)) (kk : W p l e R s m args below meth c H locs cells slots Q (F0 m (pc + 3) ls (.ref (ad 10) :: rest))) : W p l e R s m args below meth c H locs cells slots Q (F0 m pc ls (.ref (ad 0) :: rest)) := gw_get hx hb hT i_House hown hK hP 0 10 10 (Nat.le_of_ble_eq_true rfl) rfl rfl (Nat.le_of_ble_eq_true rfl) rfl (gv_o rfl) (hT _ fl_House_79) (fun _ h9 => h9) hdg kk
theorem rd_House_30 (hx : p.tables.exec = Jvm.exec) (hb : c.code = cc) (hT : ∀ w ∈ lw_good, w.before args s = true) (hown : s.vm.findClass R_House = some m.cls) (hK : va_K (dC, dI) cls_all (gT LH km) s) (hP : va_P (dC, dI) cls_all (gW LH ad km T) H) (hdg : decode cc pc = .ok (.getfield 30, 3)) (kk : W p l e R s m args below meth c H locs cells slots Q (F0 m (pc + 3) ls (.ref (ad 3) :: rest))) : W p l e R s m args below meth c H locs cells slots Q (F0 m pc ls (.ref (ad 0) :: rest)) := gw_get hx hb hT i_House hown hK hP 0 6 6 (Nat.le_of_ble_eq_true rfl) rfl rfl (Nat.le_of_ble_eq_true rfl) rfl (gv_o rfl) (hT _ fl_House_30) (fun _ h9 => h9) hdg kk
theorem rd_House_16 (hx : p.tables.exec = Jvm.exec) (hb : c.code = cc) (hT : ∀ w ∈ lw_good, w.before args s = true) (hown : s.vm.findClass R_House = some m.cls) (hK : va_K (dC, dI) cls_all (gT LH km) s) (hP : va_P (dC, dI) cls_all (gW LH ad km T) H) (hdg : decode cc pc = .ok (.getfield 16, 3)) (kk : W p l e R s m args below meth c H locs cells slots Q (F0 m (pc + 3) ls (.ref (ad 1) :: rest))) : W p l e R s m args below meth c H locs cells slots Q (F0 m pc ls (.ref (ad 0) :: rest)) := gw_get hx hb hT i_House hown hK hP 0 4 4 (Nat.le_of_ble_eq_true rfl) rfl rfl (Nat.le_of_ble_eq_true rfl) rfl (gv_o rfl) (hT _ fl_House_16) (fun _ h9 => h9) hdg kk
theorem rd_House_9 (hx : p.tables.exec = Jvm.exec) (hb : c.code = cc) (hT : ∀ w ∈ lw_good, w.before args s = true) (hown : s.vm.findClass R_House = some m.cls) (hK : va_K (dC, dI) cls_all (gT LH km) s) (hP : va_P (dC, dI) cls_all (gW LH ad km T) H) (hdg : decode cc pc = .ok (.getfield 9, 3)) (kk : W p l e R s m args below meth c H locs cells slots Q (F0 m (pc + 3) ls (.ref (ad 12) :: rest))) : W p l e R s m args below meth c H locs cells slots Q (F0 m pc ls (.ref (ad 0) :: rest)) := gw_get hx hb hT i_House hown hK hP 0 0 0 (Nat.le_of_ble_eq_true rfl) rfl rfl (Nat.le_of_ble_eq_true rfl) rfl (gv_a rfl) (hT _ fl_House_9) (fun _ h9 => h9) hdg kk
theorem rd_House_39 (hx : p.tables.exec = Jvm.exec) (hb : c.code = cc) (hT : ∀ w ∈ lw_good, w.before args s = true) (hown : s.vm.findClass R_House = some m.cls) (hK : va_K (dC, dI) cls_all (gT LH km) s) (hP : va_P (dC, dI) cls_all (gW LH ad km T) H) (hdg : decode cc pc = .ok (.getfield 39, 3)) (kk : W p l e R s m args below meth c H locs cells slots Q (F0 m (pc + 3) ls (.ref (ad 4) :: rest))) : W p l e R s m args below meth c H locs cells slots Q (F0 m pc ls (.ref (ad 0) :: rest)) := gw_get hx hb hT i_House hown hK hP 0 7 7 (Nat.le_of_ble_eq_true rfl) rfl rfl (Nat.le_of_ble_eq_true rfl) rfl (gv_o rfl) (hT _ fl_House_39) (fun _ h9 => h9) hdg kk
theorem rd_House_70 (hx : p.tables.exec = Jvm.exec) (hb : c.code = cc) (hT : ∀ w ∈ lw_good, w.before args s = true) (hown : s.vm.findClass R_House = some m.cls) (hK : va_K (dC, dI) cls_all (gT LH km) s) (hP : va_P (dC, dI) cls_all (gW LH ad km T) H) (hdg : decode cc pc = .ok (.getfield 70, 3)) (kk : W p l e R s m args below meth c H locs cells slots Q (F0 m (pc + 3) ls (.ref (ad 9) :: rest))) : W p l e R s m args below meth c H locs cells slots Q (F0 m pc ls (.ref (ad 0) :: rest)) := gw_get hx hb hT i_House hown hK hP 0 9 9 (Nat.le_of_ble_eq_true rfl) rfl rfl (Nat.le_of_ble_eq_true rfl) rfl (gv_o rfl) (hT _ fl_House_70) (fun _ h9 => h9) hdg kk
theorem rd_House_56 (hx : p.tables.exec = Jvm.exec) (hb : c.code = cc) (hT : ∀ w ∈ lw_good, w.before args s = true) (hown : s.vm.findClass R_House = some m.cls) (hK : va_K (dC, dI) cls_all (gT LH km) s) (hP : va_P (dC, dI) cls_all (gW LH ad km T) H) (hdg : decode cc pc = .ok (.getfield 56, 3)) (kk : W p l e R s m args below meth c H locs cells slots Q (F0 m (pc + 3) ls (.ref (ad 7) :: rest))) : W p l e R s m args below meth c H locs cells slots Q (F0 m pc ls (.ref (ad 0) :: rest)) := gw_get hx hb hT i_House hown hK hP 0 8 8 (Nat.le_of_ble_eq_true rfl) rfl rfl (Nat.le_of_ble_eq_true rfl) rfl (gv_o rfl) (hT _ fl_House_56) (fun _ h9 => h9) hdg kk
theorem wr_House_116 (hx : p.tables.exec = Jvm.exec) (hb : c.code = cc) (hT : ∀ w ∈ lw_good, w.before args s = true) (hown : s.vm.findClass R_House = some m.cls) (hK : va_K (dC, dI) cls_all (gT LH km) s) (hP : va_P (dC, dI) cls_all (gW LH ad km T) H) (hD : va_D A (gW LH ad km T)) (hS : va_S A H0 H locs) {v : Int32} (hz : v = 0 ∨ v = 1) (hdg : decode cc pc = .ok (.putfield 116, 3)) (kk : ∀ (T1 : gSt), T1 = sI T 3 0 v → ∀ (H1 : Heap) (locs1 : List Loc), va_P (dC, dI) cls_all (gW LH ad km T1) H1 → va_D A (gW LH ad km T1) → va_S A H0 H1 locs1 → W p l e R s m args below meth c H1 locs1 cells slots Q (F0 m (pc + 3) ls rest)) : W p l e R s m args below meth c H locs cells slots Q (F0 m pc ls (.int v :: .ref (ad 0) :: rest)) := gw_puti okH hx hb hT i_House t_House t_House_ok n_House hown hK hP hD hS 0 3 3 (Nat.le_of_ble_eq_true rfl) rfl rfl (Nat.le_of_ble_eq_true rfl) rfl rfl (hT _ fl_House_116) (fun _ h9 => h9) rfl (ty := .boolean) (by decide +kernel) (by rcases hz with h | h <;> rw [h] <;> rfl) (by rcases hz with h | h <;> rw [h] <;> rfl) hdg kk
theorem rd_House_116 (hx : p.tables.exec = Jvm.exec) (hb : c.code = cc) (hT : ∀ w ∈ lw_good, w.before args s = true) (hown : s.vm.findClass R_House = some m.cls) (hK : va_K (dC, dI) cls_all (gT LH km) s) (hP : va_P (dC, dI) cls_all (gW LH ad km T) H) (hdg : decode cc pc = .ok (.getfield 116, 3)) (kk : W p l e R s m args below meth c H locs cells slots Q (F0 m (pc + 3) ls (.int (T.1 3 0) :: rest))) : W p l e R s m args below meth c H locs cells slots Q (F0 m pc ls (.ref (ad 0) :: rest)) := gw_get hx hb hT i_House hown hK hP 0 3 3 (Nat.le_of_ble_eq_true rfl) rfl rfl (Nat.le_of_ble_eq_true rfl) rfl (gv_i rfl) (hT _ fl_House_116) (fun _ h9 => h9) hdg kk
theorem rd_House_23 (hx : p.tables.exec = Jvm.exec) (hb : c.code = cc) (hT : ∀ w ∈ lw_good, w.before args s = true) (hown : s.vm.findClass R_House = some m.cls) (hK : va_K (dC, dI) cls_all (gT LH km) s) (hP : va_P (dC, dI) cls_all (gW LH ad km T) H) (hdg : decode cc pc = .ok (.getfield 23, 3)) (kk : W p l e R s m args below meth c H locs cells slots Q (F0 m (pc + 3) ls (.ref (ad 2) :: rest))) : W p l e R s m args below meth c H locs cells slots Q (F0 m pc ls (.ref (ad 0) :: rest)) := gw_get hx hb hT i_House hown hK hP 0 5 5 (Nat.le_of_ble_eq_true rfl) rfl rfl (Nat.le_of_ble_eq_true rfl) rfl (gv_o rfl) (hT _ fl_House_23) (fun _ h9 => h9) hdg kk
theorem rd_House_119 (hx : p.tables.exec = Jvm.exec) (hb : c.code = cc) (hT : ∀ w ∈ lw_good, w.before args s = true) (hown : s.vm.findClass R_House = some m.cls) (hK : va_K (dC, dI) cls_all (gT LH km) s) (hP : va_P (dC, dI) cls_all (gW LH ad km T) H) (hdg : decode cc pc = .ok (.getfield 119, 3)) (kk : W p l e R s m args below meth c H locs cells slots Q (F0 m (pc + 3) ls (.int (T.1 27 0) :: rest))) : W p l e R s m args below meth c H locs cells slots Q (F0 m pc ls (.ref (ad 2) :: rest)) := gw_get hx hb hT i_Items hown hK hP 2 0 27 (Nat.le_of_ble_eq_true rfl) rfl rfl (Nat.le_of_ble_eq_true rfl) rfl (gv_i rfl) (hT _ fl_House_119) (fun _ h9 => h9) hdg kk
theorem rd_House_91 (hx : p.tables.exec = Jvm.exec) (hb : c.code = cc) (hT : ∀ w ∈ lw_good, w.before args s = true) (hown : s.vm.findClass R_House = some m.cls) (hK : va_K (dC, dI) cls_all (gT LH km) s) (hP : va_P (dC, dI) cls_all (gW LH ad km T) H) (hdg : decode cc pc = .ok (.getfield 91, 3)) (kk : W p l e R s m args below meth c H locs cells slots Q (F0 m (pc + 3) ls (.int (T.1 2 0) :: rest))) : W p l e R s m args below meth c H locs cells slots Q (F0 m pc ls (.ref (ad 0) :: rest)) := gw_get hx hb hT i_House hown hK hP 0 2 2 (Nat.le_of_ble_eq_true rfl) rfl rfl (Nat.le_of_ble_eq_true rfl) rfl (gv_i rfl) (hT _ fl_House_91) (fun _ h9 => h9) hdg kk
theorem rd_House_125 (hx : p.tables.exec = Jvm.exec) (hb : c.code = cc) (hT : ∀ w ∈ lw_good, w.before args s = true) (hown : s.vm.findClass R_House = some m.cls) (hK : va_K (dC, dI) cls_all (gT LH km) s) (hP : va_P (dC, dI) cls_all (gW LH ad km T) H) (hdg : decode cc pc = .ok (.getfield 125, 3)) (kk : W p l e R s m args below meth c H locs cells slots Q (F0 m (pc + 3) ls (.int (T.1 54 0) :: rest))) : W p l e R s m args below meth c H locs cells slots Q (F0 m pc ls (.ref (ad 3) :: rest)) := gw_get hx hb hT i_Code hown hK hP 3 6 54 (Nat.le_of_ble_eq_true rfl) rfl rfl (Nat.le_of_ble_eq_true rfl) rfl (gv_i rfl) (hT _ fl_House_125) (fun _ h9 => h9) hdg kk
theorem rd_House_122 (hx : p.tables.exec = Jvm.exec) (hb : c.code = cc) (hT : ∀ w ∈ lw_good, w.before args s = true) (hown : s.vm.findClass R_House = some m.cls) (hK : va_K (dC, dI) cls_all (gT LH km) s) (hP : va_P (dC, dI) cls_all (gW LH ad km T) H) (hdg : decode cc pc = .ok (.getfield 122, 3)) (kk : W p l e R s m args below meth c H locs cells slots Q (F0 m (pc + 3) ls (.int (T.1 53 0) :: rest))) : W p l e R s m args below meth c H locs cells slots Q (F0 m pc ls (.ref (ad 3) :: rest)) := gw_get hx hb hT i_Code hown hK hP 3 5 53 (Nat.le_of_ble_eq_true rfl) rfl rfl (Nat.le_of_ble_eq_true rfl) rfl (gv_i rfl) (hT _ fl_House_122) (fun _ h9 => h9) hdg kk
theorem rd_House_128 (hx : p.tables.exec = Jvm.exec) (hb : c.code = cc) (hT : ∀ w ∈ lw_good, w.before args s = true) (hown : s.vm.findClass R_House = some m.cls) (hK : va_K (dC, dI) cls_all (gT LH km) s) (hP : va_P (dC, dI) cls_all (gW LH ad km T) H) (hdg : decode cc pc = .ok (.getfield 128, 3)) (kk : W p l e R s m args below meth c H locs cells slots Q (F0 m (pc + 3) ls (.ref (ad 48) :: rest))) : W p l e R s m args below meth c H locs cells slots Q (F0 m pc ls (.ref (ad 3) :: rest)) := gw_get hx hb hT i_Code hown hK hP 3 4 52 (Nat.le_of_ble_eq_true rfl) rfl rfl (Nat.le_of_ble_eq_true rfl) rfl (gv_a rfl) (hT _ fl_House_128) (fun _ h9 => h9) hdg kk
theorem laH_36 (hx : p.tables.exec = Jvm.exec) (hb : c.code = cc) (hK : va_K (dC, dI) cls_all (gT LH km) s) (hP : va_P (dC, dI) cls_all (gW LH ad km T) H) {x : Int32} (hin : inb x 7) (hdg : decode cc pc = .ok (.iaload, 1)) (kk : W p l e R s m args below meth c H locs cells slots Q (F0 m (pc + 1) ls (.int (T.1 52 x.toNatClampNeg) :: rest))) : W p l e R s m args below meth c H locs cells slots Q (F0 m pc ls (.int x :: .ref (ad 48) :: rest)) := gw_iald hx hb hK hP 36 52 7 48 (Nat.le_of_ble_eq_true rfl) rfl rfl rfl rfl rfl hin hdg kk
theorem saH_36 (hx : p.tables.exec = Jvm.exec) (hb : c.code = cc) (hK : va_K (dC, dI) cls_all (gT LH km) s) (hP : va_P (dC, dI) cls_all (gW LH ad km T) H) (hD : va_D A (gW LH ad km T)) (hS : va_S A H0 H locs) {x : Int32} {v : Int32} (hin : inb x 7) (hdg : decode cc pc = .ok (.iastore, 1)) (kk : ∀ (T1 : gSt), T1 = sI T 52 x.toNatClampNeg v → ∀ (H1 : Heap) (locs1 : List Loc), va_P (dC, dI) cls_all (gW LH ad km T1) H1 → va_D A (gW LH ad km T1) → va_S A H0 H1 locs1 → W p l e R s m args below meth c H1 locs1 cells slots Q (F0 m (pc + 1) ls rest)) : W p l e R s m args below meth c H locs cells slots Q (F0 m pc ls (.int v :: .int x :: .ref (ad 48) :: rest)) := gw_iast okH hx hb hK hP hD hS 36 52 7 48 (Nat.le_of_ble_eq_true rfl) rfl rfl rfl rfl rfl hin hdg kk
theorem rd_House_142 (hx : p.tables.exec = Jvm.exec) (hb : c.code = cc) (hT : ∀ w ∈ lw_good, w.before args s = true) (hown : s.vm.findClass R_House = some m.cls) (hK : va_K (dC, dI) cls_all (gT LH km) s) (hP : va_P (dC, dI) cls_all (gW LH ad km T) H) (hdg : decode cc pc = .ok (.getfield 142, 3)) (kk : W p l e R s m args below meth c H locs cells slots Q (F0 m (pc + 3) ls (.int (T.1 106 0) :: rest))) : W p l e R s m args below meth c H locs cells slots Q (F0 m pc ls (.ref (ad 10) :: rest)) := gw_get hx hb hT i_Machine hown hK hP 10 10 106 (Nat.le_of_ble_eq_true rfl) rfl rfl (Nat.le_of_ble_eq_true rfl) rfl (gv_i rfl) (hT _ fl_House_142) (fun _ h9 => h9) hdg kk
theorem rd_House_148 (hx : p.tables.exec = Jvm.exec) (hb : c.code = cc) (hT : ∀ w ∈ lw_good, w.before args s = true) (hown : s.vm.findClass R_House = some m.cls) (hK : va_K (dC, dI) cls_all (gT LH km) s) (hP : va_P (dC, dI) cls_all (gW LH ad km T) H) (hdg : decode cc pc = .ok (.getfield 148, 3)) (kk : W p l e R s m args below meth c H locs cells slots Q (F0 m (pc + 3) ls (.int (T.1 107 0) :: rest))) : W p l e R s m args below meth c H locs cells slots Q (F0 m pc ls (.ref (ad 10) :: rest)) := gw_get hx hb hT i_Machine hown hK hP 10 11 107 (Nat.le_of_ble_eq_true rfl) rfl rfl (Nat.le_of_ble_eq_true rfl) rfl (gv_i rfl) (hT _ fl_House_148) (fun _ h9 => h9) hdg kk
theorem rd_House_158 (hx : p.tables.exec = Jvm.exec) (hb : c.code = cc) (hT : ∀ w ∈ lw_good, w.before args s = true) (hown : s.vm.findClass R_House = some m.cls) (hK : va_K (dC, dI) cls_all (gT LH km) s) (hP : va_P (dC, dI) cls_all (gW LH ad km T) H) (hdg : decode cc pc = .ok (.getfield 158, 3)) (kk : W p l e R s m args below meth c H locs cells slots Q (F0 m (pc + 3) ls (.ref (ad 11) :: rest))) : W p l e R s m args below meth c H locs cells slots Q (F0 m pc ls (.ref (ad 10) :: rest)) := gw_get hx hb hT i_Machine hown hK hP 10 2 98 (Nat.le_of_ble_eq_true rfl) rfl rfl (Nat.le_of_ble_eq_true rfl) rfl (gv_o rfl) (hT _ fl_House_158) (fun _ h9 => h9) hdg kk
theorem rd_Source_86 (hx : p.tables.exec = Jvm.exec) (hb : c.code = cc) (hT : ∀ w ∈ lw_good, w.before args s = true) (hown : s.vm.findClass R_Source = some m.cls) (hK : va_K (dC, dI) cls_all (gT LH km) s) (hP : va_P (dC, dI) cls_all (gW LH ad km T) H) (hdg : decode cc pc = .ok (.getfield 86, 3)) (kk : W p l e R s m args below meth c H locs cells slots Q (F0 m (pc + 3) ls (.int (T.1 25 0) :: rest))) : W p l e R s m args below meth c H locs cells slots Q (F0 m pc ls (.ref (ad 1) :: rest)) := gw_get hx hb hT i_Source hown hK hP 1 14 25 (Nat.le_of_ble_eq_true rfl) rfl rfl (Nat.le_of_ble_eq_true rfl) rfl (gv_i rfl) (hT _ fl_Source_86) (fun _ h9 => h9) hdg kk
theorem rd_Source_36 (hx : p.tables.exec = Jvm.exec) (hb : c.code = cc) (hT : ∀ w ∈ lw_good, w.before args s = true) (hown : s.vm.findClass R_Source = some m.cls) (hK : va_K (dC, dI) cls_all (gT LH km) s) (hP : va_P (dC, dI) cls_all (gW LH ad km T) H) (hdg : decode cc pc = .ok (.getfield 36, 3)) (kk : W p l e R s m args below meth c H locs cells slots Q (F0 m (pc + 3) ls (.ref (ad 21) :: rest))) : W p l e R s m args below meth c H locs cells slots Q (F0 m pc ls (.ref (ad 1) :: rest)) := gw_get hx hb hT i_Source hown hK hP 1 11 22 (Nat.le_of_ble_eq_true rfl) rfl rfl (Nat.le_of_ble_eq_true rfl) rfl (gv_a rfl) (hT _ fl_Source_36) (fun _ h9 => h9) hdg kk
theorem laH_9 (hx : p.tables.exec = Jvm.exec) (hb : c.code = cc) (hK : va_K (dC, dI) cls_all (gT LH km) s) (hP : va_P (dC, dI) cls_all (gW LH ad km T) H) {x : Int32} (hin : inb x 4001) (hdg : decode cc pc = .ok (.iaload, 1)) (kk : W p l e R s m args below meth c H locs cells slots Q (F0 m (pc + 1) ls (.int (T.1 22 x.toNatClampNeg) :: rest))) : W p l e R s m args below meth c H locs cells slots Q (F0 m pc ls (.int x :: .ref (ad 21) :: rest)) := gw_iald hx hb hK hP 9 22 4001 21 (Nat.le_of_ble_eq_true rfl) rfl rfl rfl rfl rfl hin hdg kk
theorem saH_9 (hx : p.tables.exec = Jvm.exec) (hb : c.code = cc) (hK : va_K (dC, dI) cls_all (gT LH km) s) (hP : va_P (dC, dI) cls_all (gW LH ad km T) H) (hD : va_D A (gW LH ad km T)) (hS : va_S A H0 H locs) {x : Int32} {v : Int32} (hin : inb x 4001) (hdg : decode cc pc = .ok (.iastore, 1)) (kk : ∀ (T1 : gSt), T1 = sI T 22 x.toNatClampNeg v → ∀ (H1 : Heap) (locs1 : List Loc), va_P (dC, dI) cls_all (gW LH ad km T1) H1 → va_D A (gW LH ad km T1) → va_S A H0 H1 locs1 → W p l e R s m args below meth c H1 locs1 cells slots Q (F0 m (pc + 1) ls rest)) : W p l e R s m args below meth c H locs cells slots Q (F0 m pc ls (.int v :: .int x :: .ref (ad 21) :: rest)) := gw_iast okH hx hb hK hP hD hS 9 22 4001 21 (Nat.le_of_ble_eq_true rfl) rfl rfl rfl rfl rfl hin hdg kk
theorem rd_Source_83 (hx : p.tables.exec = Jvm.exec) (hb : c.code = cc) (hT : ∀ w ∈ lw_good, w.before args s = true) (hown : s.vm.findClass R_Source = some m.cls) (hK : va_K (dC, dI) cls_all (gT LH km) s) (hP : va_P (dC, dI) cls_all (gW LH ad km T) H) (hdg : decode cc pc = .ok (.getfield 83, 3)) (kk : W p l e R s m args below meth c H locs cells slots Q (F0 m (pc + 3) ls (.int (T.1 21 0) :: rest))) : W p l e R s m args below meth c H locs cells slots Q (F0 m pc ls (.ref (ad 1) :: rest)) := gw_get hx hb hT i_Source hown hK hP 1 10 21 (Nat.le_of_ble_eq_true rfl) rfl rfl (Nat.le_of_ble_eq_true rfl) rfl (gv_i rfl) (hT _ fl_Source_83) (fun _ h9 => h9) hdg kk
theorem rd_Source_39 (hx : p.tables.exec = Jvm.exec) (hb : c.code = cc) (hT : ∀ w ∈ lw_good, w.before args s = true) (hown : s.vm.findClass R_Source = some m.cls) (hK : va_K (dC, dI) cls_all (gT LH km) s) (hP : va_P (dC, dI) cls_all (gW LH ad km T) H) (hdg : decode cc pc = .ok (.getfield 39, 3)) (kk : W p l e R s m args below meth c H locs cells slots Q (F0 m (pc + 3) ls (.ref (ad 22) :: rest))) : W p l e R s m args below meth c H locs cells slots Q (F0 m pc ls (.ref (ad 1) :: rest)) := gw_get hx hb hT i_Source hown hK hP 1 12 23 (Nat.le_of_ble_eq_true rfl) rfl rfl (Nat.le_of_ble_eq_true rfl) rfl (gv_a rfl) (hT _ fl_Source_39) (fun _ h9 => h9) hdg kk
theorem laH_10 (hx : p.tables.exec = Jvm.exec) (hb : c.code = cc) (hK : va_K (dC, dI) cls_all (gT LH km) s) (hP : va_P (dC, dI) cls_all (gW LH ad km T) H) {x : Int32} (hin : inb x 4001) (hdg : decode cc pc = .ok (.iaload, 1)) (kk : W p l e R s m args below meth c H locs cells slots Q (F0 m (pc + 1) ls (.int (T.1 23 x.toNatClampNeg) :: rest))) : W p l e R s m args below meth c H locs cells slots Q (F0 m pc ls (.int x :: .ref (ad 22) :: rest)) := gw_iald hx hb hK hP 10 23 4001 22 (Nat.le_of_ble_eq_true rfl) rfl rfl rfl rfl rfl hin hdg kk
theorem saH_10 (hx : p.tables.exec = Jvm.exec) (hb : c.code = cc) (hK : va_K (dC, dI) cls_all (gT LH km) s) (hP : va_P (dC, dI) cls_all (gW LH ad km T) H) (hD : va_D A (gW LH ad km T)) (hS : va_S A H0 H locs) {x : Int32} {v : Int32} (hin : inb x 4001) (hdg : decode cc pc = .ok (.iastore, 1)) (kk : ∀ (T1 : gSt), T1 = sI T 23 x.toNatClampNeg v → ∀ (H1 : Heap) (locs1 : List Loc), va_P (dC, dI) cls_all (gW LH ad km T1) H1 → va_D A (gW LH ad km T1) → va_S A H0 H1 locs1 → W p l e R s m args below meth c H1 locs1 cells slots Q (F0 m (pc + 1) ls rest)) : W p l e R s m args below meth c H locs cells slots Q (F0 m pc ls (.int v :: .int x :: .ref (ad 22) :: rest)) := gw_iast okH hx hb hK hP hD hS 10 23 4001 22 (Nat.le_of_ble_eq_true rfl) rfl rfl rfl rfl rfl hin hdg kk
theorem rd_Source_42 (hx : p.tables.exec = Jvm.exec) (hb : c.code = cc) (hT : ∀ w ∈ lw_good, w.before args s = true) (hown : s.vm.findClass R_Source = some m.cls) (hK : va_K (dC, dI) cls_all (gT LH km) s) (hP : va_P (dC, dI) cls_all (gW LH ad km T) H) (hdg : decode cc pc = .ok (.getfield 42, 3)) (kk : W p l e R s m args below meth c H locs cells slots Q (F0 m (pc + 3) ls (.ref (ad 23) :: rest))) : W p l e R s m args below meth c H locs cells slots Q (F0 m pc ls (.ref (ad 1) :: rest)) := gw_get hx hb hT i_Source hown hK hP 1 13 24 (Nat.le_of_ble_eq_true rfl) rfl rfl (Nat.le_of_ble_eq_true rfl) rfl (gv_a rfl) (hT _ fl_Source_42) (fun _ h9 => h9) hdg kk
theorem laH_11 (hx : p.tables.exec = Jvm.exec) (hb : c.code = cc) (hK : va_K (dC, dI) cls_all (gT LH km) s) (hP : va_P (dC, dI) cls_all (gW LH ad km T) H) {x : Int32} (hin : inb x 4001) (hdg : decode cc pc = .ok (.laload, 1)) (kk : W p l e R s m args below meth c H locs cells slots Q (F0 m (pc + 1) ls (.long (T.2 24 x.toNatClampNeg) :: rest))) : W p l e R s m args below meth c H locs cells slots Q (F0 m pc ls (.int x :: .ref (ad 23) :: rest)) := gw_lald hx hb hK hP 11 24 4001 23 (Nat.le_of_ble_eq_true rfl) rfl rfl rfl rfl rfl hin hdg kk
theorem saH_11 (hx : p.tables.exec = Jvm.exec) (hb : c.code = cc) (hK : va_K (dC, dI) cls_all (gT LH km) s) (hP : va_P (dC, dI) cls_all (gW LH ad km T) H) (hD : va_D A (gW LH ad km T)) (hS : va_S A H0 H locs) {x : Int32} {v : Int64} (hin : inb x 4001) (hdg : decode cc pc = .ok (.lastore, 1)) (kk : ∀ (T1 : gSt), T1 = sJ T 24 x.toNatClampNeg v → ∀ (H1 : Heap) (locs1 : List Loc), va_P (dC, dI) cls_all (gW LH ad km T1) H1 → va_D A (gW LH ad km T1) → va_S A H0 H1 locs1 → W p l e R s m args below meth c H1 locs1 cells slots Q (F0 m (pc + 1) ls rest)) : W p l e R s m args below meth c H locs cells slots Q (F0 m pc ls (.long v :: .int x :: .ref (ad 23) :: rest)) := gw_last okH hx hb hK hP hD hS 11 24 4001 23 (Nat.le_of_ble_eq_true rfl) rfl rfl rfl rfl rfl hin hdg kk
theorem rd_Source_96 (hx : p.tables.exec = Jvm.exec) (hb : c.code = cc) (hT : ∀ w ∈ lw_good, w.before args s = true) (hown : s.vm.findClass R_Source = some m.cls) (hK : va_K (dC, dI) cls_all (gT LH km) s) (hP : va_P (dC, dI) cls_all (gW LH ad km T) H) (hdg : decode cc pc = .ok (.getfield 96, 3)) (kk : W p l e R s m args below meth c H locs cells slots Q (F0 m (pc + 3) ls (.int (T.1 19 0) :: rest))) : W p l e R s m args below meth c H locs cells slots Q (F0 m pc ls (.ref (ad 1) :: rest)) := gw_get hx hb hT i_Source hown hK hP 1 8 19 (Nat.le_of_ble_eq_true rfl) rfl rfl (Nat.le_of_ble_eq_true rfl) rfl (gv_i rfl) (hT _ fl_Source_96) (fun _ h9 => h9) hdg kk
theorem rd_Source_11 (hx : p.tables.exec = Jvm.exec) (hb : c.code = cc) (hT : ∀ w ∈ lw_good, w.before args s = true) (hown : s.vm.findClass R_Source = some m.cls) (hK : va_K (dC, dI) cls_all (gT LH km) s) (hP : va_P (dC, dI) cls_all (gW LH ad km T) H) (hdg : decode cc pc = .ok (.getfield 11, 3)) (kk : W p l e R s m args below meth c H locs cells slots Q (F0 m (pc + 3) ls (.ref (ad 13) :: rest))) : W p l e R s m args below meth c H locs cells slots Q (F0 m pc ls (.ref (ad 1) :: rest)) := gw_get hx hb hT i_Source hown hK hP 1 0 11 (Nat.le_of_ble_eq_true rfl) rfl rfl (Nat.le_of_ble_eq_true rfl) rfl (gv_a rfl) (hT _ fl_Source_11) (fun _ h9 => h9) hdg kk
theorem laH_1 (hx : p.tables.exec = Jvm.exec) (hb : c.code = cc) (hK : va_K (dC, dI) cls_all (gT LH km) s) (hP : va_P (dC, dI) cls_all (gW LH ad km T) H) {x : Int32} (hin : inb x 4008) (hdg : decode cc pc = .ok (.iaload, 1)) (kk : W p l e R s m args below meth c H locs cells slots Q (F0 m (pc + 1) ls (.int (T.1 11 x.toNatClampNeg) :: rest))) : W p l e R s m args below meth c H locs cells slots Q (F0 m pc ls (.int x :: .ref (ad 13) :: rest)) := gw_iald hx hb hK hP 1 11 4008 13 (Nat.le_of_ble_eq_true rfl) rfl rfl rfl rfl rfl hin hdg kk
theorem saH_1 (hx : p.tables.exec = Jvm.exec) (hb : c.code = cc) (hK : va_K (dC, dI) cls_all (gT LH km) s) (hP : va_P (dC, dI) cls_all (gW LH ad km T) H) (hD : va_D A (gW LH ad km T)) (hS : va_S A H0 H locs) {x : Int32} {v : Int32} (hin : inb x 4008) (hdg : decode cc pc = .ok (.iastore, 1)) (kk : ∀ (T1 : gSt), T1 = sI T 11 x.toNatClampNeg v → ∀ (H1 : Heap) (locs1 : List Loc), va_P (dC, dI) cls_all (gW LH ad km T1) H1 → va_D A (gW LH ad km T1) → va_S A H0 H1 locs1 → W p l e R s m args below meth c H1 locs1 cells slots Q (F0 m (pc + 1) ls rest)) : W p l e R s m args below meth c H locs cells slots Q (F0 m pc ls (.int v :: .int x :: .ref (ad 13) :: rest)) := gw_iast okH hx hb hK hP hD hS 1 11 4008 13 (Nat.le_of_ble_eq_true rfl) rfl rfl rfl rfl rfl hin hdg kk
theorem rd_Source_15 (hx : p.tables.exec = Jvm.exec) (hb : c.code = cc) (hT : ∀ w ∈ lw_good, w.before args s = true) (hown : s.vm.findClass R_Source = some m.cls) (hK : va_K (dC, dI) cls_all (gT LH km) s) (hP : va_P (dC, dI) cls_all (gW LH ad km T) H) (hdg : decode cc pc = .ok (.getfield 15, 3)) (kk : W p l e R s m args below meth c H locs cells slots Q (F0 m (pc + 3) ls (.ref (ad 14) :: rest))) : W p l e R s m args below meth c H locs cells slots Q (F0 m pc ls (.ref (ad 1) :: rest)) := gw_get hx hb hT i_Source hown hK hP 1 1 12 (Nat.le_of_ble_eq_true rfl) rfl rfl (Nat.le_of_ble_eq_true rfl) rfl (gv_a rfl) (hT _ fl_Source_15) (fun _ h9 => h9) hdg kk
theorem laH_2 (hx : p.tables.exec = Jvm.exec) (hb : c.code = cc) (hK : va_K (dC, dI) cls_all (gT LH km) s) (hP : va_P (dC, dI) cls_all (gW LH ad km T) H) {x : Int32} (hin : inb x 4008) (hdg : decode cc pc = .ok (.iaload, 1)) (kk : W p l e R s m args below meth c H locs cells slots Q (F0 m (pc + 1) ls (.int (T.1 12 x.toNatClampNeg) :: rest))) : W p l e R s m args below meth c H locs cells slots Q (F0 m pc ls (.int x :: .ref (ad 14) :: rest)) := gw_iald hx hb hK hP 2 12 4008 14 (Nat.le_of_ble_eq_true rfl) rfl rfl rfl rfl rfl hin hdg kk
theorem saH_2 (hx : p.tables.exec = Jvm.exec) (hb : c.code = cc) (hK : va_K (dC, dI) cls_all (gT LH km) s) (hP : va_P (dC, dI) cls_all (gW LH ad km T) H) (hD : va_D A (gW LH ad km T)) (hS : va_S A H0 H locs) {x : Int32} {v : Int32} (hin : inb x 4008) (hdg : decode cc pc = .ok (.iastore, 1)) (kk : ∀ (T1 : gSt), T1 = sI T 12 x.toNatClampNeg v → ∀ (H1 : Heap) (locs1 : List Loc), va_P (dC, dI) cls_all (gW LH ad km T1) H1 → va_D A (gW LH ad km T1) → va_S A H0 H1 locs1 → W p l e R s m args below meth c H1 locs1 cells slots Q (F0 m (pc + 1) ls rest)) : W p l e R s m args below meth c H locs cells slots Q (F0 m pc ls (.int v :: .int x :: .ref (ad 14) :: rest)) := gw_iast okH hx hb hK hP hD hS 2 12 4008 14 (Nat.le_of_ble_eq_true rfl) rfl rfl rfl rfl rfl hin hdg kk
theorem rd_Source_18 (hx : p.tables.exec = Jvm.exec) (hb : c.code = cc) (hT : ∀ w ∈ lw_good, w.before args s = true) (hown : s.vm.findClass R_Source = some m.cls) (hK : va_K (dC, dI) cls_all (gT LH km) s) (hP : va_P (dC, dI) cls_all (gW LH ad km T) H) (hdg : decode cc pc = .ok (.getfield 18, 3)) (kk : W p l e R s m args below meth c H locs cells slots Q (F0 m (pc + 3) ls (.ref (ad 15) :: rest))) : W p l e R s m args below meth c H locs cells slots Q (F0 m pc ls (.ref (ad 1) :: rest)) := gw_get hx hb hT i_Source hown hK hP 1 2 13 (Nat.le_of_ble_eq_true rfl) rfl rfl (Nat.le_of_ble_eq_true rfl) rfl (gv_a rfl) (hT _ fl_Source_18) (fun _ h9 => h9) hdg kk
theorem laH_3 (hx : p.tables.exec = Jvm.exec) (hb : c.code = cc) (hK : va_K (dC, dI) cls_all (gT LH km) s) (hP : va_P (dC, dI) cls_all (gW LH ad km T) H) {x : Int32} (hin : inb x 4008) (hdg : decode cc pc = .ok (.iaload, 1)) (kk : W p l e R s m args below meth c H locs cells slots Q (F0 m (pc + 1) ls (.int (T.1 13 x.toNatClampNeg) :: rest))) : W p l e R s m args below meth c H locs cells slots Q (F0 m pc ls (.int x :: .ref (ad 15) :: rest)) := gw_iald hx hb hK hP 3 13 4008 15 (Nat.le_of_ble_eq_true rfl) rfl rfl rfl rfl rfl hin hdg kk
theorem saH_3 (hx : p.tables.exec = Jvm.exec) (hb : c.code = cc) (hK : va_K (dC, dI) cls_all (gT LH km) s) (hP : va_P (dC, dI) cls_all (gW LH ad km T) H) (hD : va_D A (gW LH ad km T)) (hS : va_S A H0 H locs) {x : Int32} {v : Int32} (hin : inb x 4008) (hdg : decode cc pc = .ok (.iastore, 1)) (kk : ∀ (T1 : gSt), T1 = sI T 13 x.toNatClampNeg v → ∀ (H1 : Heap) (locs1 : List Loc), va_P (dC, dI) cls_all (gW LH ad km T1) H1 → va_D A (gW LH ad km T1) → va_S A H0 H1 locs1 → W p l e R s m args below meth c H1 locs1 cells slots Q (F0 m (pc + 1) ls rest)) : W p l e R s m args below meth c H locs cells slots Q (F0 m pc ls (.int v :: .int x :: .ref (ad 15) :: rest)) := gw_iast okH hx hb hK hP hD hS 3 13 4008 15 (Nat.le_of_ble_eq_true rfl) rfl rfl rfl rfl rfl hin hdg kk
theorem rd_Source_21 (hx : p.tables.exec = Jvm.exec) (hb : c.code = cc) (hT : ∀ w ∈ lw_good, w.before args s = true) (hown : s.vm.findClass R_Source = some m.cls) (hK : va_K (dC, dI) cls_all (gT LH km) s) (hP : va_P (dC, dI) cls_all (gW LH ad km T) H) (hdg : decode cc pc = .ok (.getfield 21, 3)) (kk : W p l e R s m args below meth c H locs cells slots Q (F0 m (pc + 3) ls (.ref (ad 16) :: rest))) : W p l e R s m args below meth c H locs cells slots Q (F0 m pc ls (.ref (ad 1) :: rest)) := gw_get hx hb hT i_Source hown hK hP 1 3 14 (Nat.le_of_ble_eq_true rfl) rfl rfl (Nat.le_of_ble_eq_true rfl) rfl (gv_a rfl) (hT _ fl_Source_21) (fun _ h9 => h9) hdg kk
theorem laH_4 (hx : p.tables.exec = Jvm.exec) (hb : c.code = cc) (hK : va_K (dC, dI) cls_all (gT LH km) s) (hP : va_P (dC, dI) cls_all (gW LH ad km T) H) {x : Int32} (hin : inb x 4008) (hdg : decode cc pc = .ok (.iaload, 1)) (kk : W p l e R s m args below meth c H locs cells slots Q (F0 m (pc + 1) ls (.int (T.1 14 x.toNatClampNeg) :: rest))) : W p l e R s m args below meth c H locs cells slots Q (F0 m pc ls (.int x :: .ref (ad 16) :: rest)) := gw_iald hx hb hK hP 4 14 4008 16 (Nat.le_of_ble_eq_true rfl) rfl rfl rfl rfl rfl hin hdg kk
theorem saH_4 (hx : p.tables.exec = Jvm.exec) (hb : c.code = cc) (hK : va_K (dC, dI) cls_all (gT LH km) s) (hP : va_P (dC, dI) cls_all (gW LH ad km T) H) (hD : va_D A (gW LH ad km T)) (hS : va_S A H0 H locs) {x : Int32} {v : Int32} (hin : inb x 4008) (hdg : decode cc pc = .ok (.iastore, 1)) (kk : ∀ (T1 : gSt), T1 = sI T 14 x.toNatClampNeg v → ∀ (H1 : Heap) (locs1 : List Loc), va_P (dC, dI) cls_all (gW LH ad km T1) H1 → va_D A (gW LH ad km T1) → va_S A H0 H1 locs1 → W p l e R s m args below meth c H1 locs1 cells slots Q (F0 m (pc + 1) ls rest)) : W p l e R s m args below meth c H locs cells slots Q (F0 m pc ls (.int v :: .int x :: .ref (ad 16) :: rest)) := gw_iast okH hx hb hK hP hD hS 4 14 4008 16 (Nat.le_of_ble_eq_true rfl) rfl rfl rfl rfl rfl hin hdg kk
theorem rd_Source_24 (hx : p.tables.exec = Jvm.exec) (hb : c.code = cc) (hT : ∀ w ∈ lw_good, w.before args s = true) (hown : s.vm.findClass R_Source = some m.cls) (hK : va_K (dC, dI) cls_all (gT LH km) s) (hP : va_P (dC, dI) cls_all (gW LH ad km T) H) (hdg : decode cc pc = .ok (.getfield 24, 3)) (kk : W p l e R s m args below meth c H locs cells slots Q (F0 m (pc + 3) ls (.ref (ad 17) :: rest))) : W p l e R s m args below meth c H locs cells slots Q (F0 m pc ls (.ref (ad 1) :: rest)) := gw_get hx hb hT i_Source hown hK hP 1 4 15 (Nat.le_of_ble_eq_true rfl) rfl rfl (Nat.le_of_ble_eq_true rfl) rfl (gv_a rfl) (hT _ fl_Source_24) (fun _ h9 => h9) hdg kk
theorem laH_5 (hx : p.tables.exec = Jvm.exec) (hb : c.code = cc) (hK : va_K (dC, dI) cls_all (gT LH km) s) (hP : va_P (dC, dI) cls_all (gW LH ad km T) H) {x : Int32} (hin : inb x 4008) (hdg : decode cc pc = .ok (.iaload, 1)) (kk : W p l e R s m args below meth c H locs cells slots Q (F0 m (pc + 1) ls (.int (T.1 15 x.toNatClampNeg) :: rest))) : W p l e R s m args below meth c H locs cells slots Q (F0 m pc ls (.int x :: .ref (ad 17) :: rest)) := gw_iald hx hb hK hP 5 15 4008 17 (Nat.le_of_ble_eq_true rfl) rfl rfl rfl rfl rfl hin hdg kk
theorem saH_5 (hx : p.tables.exec = Jvm.exec) (hb : c.code = cc) (hK : va_K (dC, dI) cls_all (gT LH km) s) (hP : va_P (dC, dI) cls_all (gW LH ad km T) H) (hD : va_D A (gW LH ad km T)) (hS : va_S A H0 H locs) {x : Int32} {v : Int32} (hin : inb x 4008) (hdg : decode cc pc = .ok (.iastore, 1)) (kk : ∀ (T1 : gSt), T1 = sI T 15 x.toNatClampNeg v → ∀ (H1 : Heap) (locs1 : List Loc), va_P (dC, dI) cls_all (gW LH ad km T1) H1 → va_D A (gW LH ad km T1) → va_S A H0 H1 locs1 → W p l e R s m args below meth c H1 locs1 cells slots Q (F0 m (pc + 1) ls rest)) : W p l e R s m args below meth c H locs cells slots Q (F0 m pc ls (.int v :: .int x :: .ref (ad 17) :: rest)) := gw_iast okH hx hb hK hP hD hS 5 15 4008 17 (Nat.le_of_ble_eq_true rfl) rfl rfl rfl rfl rfl hin hdg kk
theorem rd_Source_27 (hx : p.tables.exec = Jvm.exec) (hb : c.code = cc) (hT : ∀ w ∈ lw_good, w.before args s = true) (hown : s.vm.findClass R_Source = some m.cls) (hK : va_K (dC, dI) cls_all (gT LH km) s) (hP : va_P (dC, dI) cls_all (gW LH ad km T) H) (hdg : decode cc pc = .ok (.getfield 27, 3)) (kk : W p l e R s m args below meth c H locs cells slots Q (F0 m (pc + 3) ls (.ref (ad 18) :: rest))) : W p l e R s m args below meth c H locs cells slots Q (F0 m pc ls (.ref (ad 1) :: rest)) := gw_get hx hb hT i_Source hown hK hP 1 5 16 (Nat.le_of_ble_eq_true rfl) rfl rfl (Nat.le_of_ble_eq_true rfl) rfl (gv_a rfl) (hT _ fl_Source_27) (fun _ h9 => h9) hdg kk
theorem laH_6 (hx : p.tables.exec = Jvm.exec) (hb : c.code = cc) (hK : va_K (dC, dI) cls_all (gT LH km) s) (hP : va_P (dC, dI) cls_all (gW LH ad km T) H) {x : Int32} (hin : inb x 4008) (hdg : decode cc pc = .ok (.iaload, 1)) (kk : W p l e R s m args below meth c H locs cells slots Q (F0 m (pc + 1) ls (.int (T.1 16 x.toNatClampNeg) :: rest))) : W p l e R s m args below meth c H locs cells slots Q (F0 m pc ls (.int x :: .ref (ad 18) :: rest)) := gw_iald hx hb hK hP 6 16 4008 18 (Nat.le_of_ble_eq_true rfl) rfl rfl rfl rfl rfl hin hdg kk
theorem saH_6 (hx : p.tables.exec = Jvm.exec) (hb : c.code = cc) (hK : va_K (dC, dI) cls_all (gT LH km) s) (hP : va_P (dC, dI) cls_all (gW LH ad km T) H) (hD : va_D A (gW LH ad km T)) (hS : va_S A H0 H locs) {x : Int32} {v : Int32} (hin : inb x 4008) (hdg : decode cc pc = .ok (.iastore, 1)) (kk : ∀ (T1 : gSt), T1 = sI T 16 x.toNatClampNeg v → ∀ (H1 : Heap) (locs1 : List Loc), va_P (dC, dI) cls_all (gW LH ad km T1) H1 → va_D A (gW LH ad km T1) → va_S A H0 H1 locs1 → W p l e R s m args below meth c H1 locs1 cells slots Q (F0 m (pc + 1) ls rest)) : W p l e R s m args below meth c H locs cells slots Q (F0 m pc ls (.int v :: .int x :: .ref (ad 18) :: rest)) := gw_iast okH hx hb hK hP hD hS 6 16 4008 18 (Nat.le_of_ble_eq_true rfl) rfl rfl rfl rfl rfl hin hdg kk
theorem rd_Source_30 (hx : p.tables.exec = Jvm.exec) (hb : c.code = cc) (hT : ∀ w ∈ lw_good, w.before args s = true) (hown : s.vm.findClass R_Source = some m.cls) (hK : va_K (dC, dI) cls_all (gT LH km) s) (hP : va_P (dC, dI) cls_all (gW LH ad km T) H) (hdg : decode cc pc = .ok (.getfield 30, 3)) (kk : W p l e R s m args below meth c H locs cells slots Q (F0 m (pc + 3) ls (.ref (ad 19) :: rest))) : W p l e R s m args below meth c H locs cells slots Q (F0 m pc ls (.ref (ad 1) :: rest)) := gw_get hx hb hT i_Source hown hK hP 1 6 17 (Nat.le_of_ble_eq_true rfl) rfl rfl (Nat.le_of_ble_eq_true rfl) rfl (gv_a rfl) (hT _ fl_Source_30) (fun _ h9 => h9) hdg kk
theorem laH_7 (hx : p.tables.exec = Jvm.exec) (hb : c.code = cc) (hK : va_K (dC, dI) cls_all (gT LH km) s) (hP : va_P (dC, dI) cls_all (gW LH ad km T) H) {x : Int32} (hin : inb x 4008) (hdg : decode cc pc = .ok (.iaload, 1)) (kk : W p l e R s m args below meth c H locs cells slots Q (F0 m (pc + 1) ls (.int (T.1 17 x.toNatClampNeg) :: rest))) : W p l e R s m args below meth c H locs cells slots Q (F0 m pc ls (.int x :: .ref (ad 19) :: rest)) := gw_iald hx hb hK hP 7 17 4008 19 (Nat.le_of_ble_eq_true rfl) rfl rfl rfl rfl rfl hin hdg kk
theorem saH_7 (hx : p.tables.exec = Jvm.exec) (hb : c.code = cc) (hK : va_K (dC, dI) cls_all (gT LH km) s) (hP : va_P (dC, dI) cls_all (gW LH ad km T) H) (hD : va_D A (gW LH ad km T)) (hS : va_S A H0 H locs) {x : Int32} {v : Int32} (hin : inb x 4008) (hdg : decode cc pc = .ok (.iastore, 1)) (kk : ∀ (T1 : gSt), T1 = sI T 17 x.toNatClampNeg v → ∀ (H1 : Heap) (locs1 : List Loc), va_P (dC, dI) cls_all (gW LH ad km T1) H1 → va_D A (gW LH ad km T1) → va_S A H0 H1 locs1 → W p l e R s m args below meth c H1 locs1 cells slots Q (F0 m (pc + 1) ls rest)) : W p l e R s m args below meth c H locs cells slots Q (F0 m pc ls (.int v :: .int x :: .ref (ad 19) :: rest)) := gw_iast okH hx hb hK hP hD hS 7 17 4008 19 (Nat.le_of_ble_eq_true rfl) rfl rfl rfl rfl rfl hin hdg kk
theorem rd_Source_33 (hx : p.tables.exec = Jvm.exec) (hb : c.code = cc) (hT : ∀ w ∈ lw_good, w.before args s = true) (hown : s.vm.findClass R_Source = some m.cls) (hK : va_K (dC, dI) cls_all (gT LH km) s) (hP : va_P (dC, dI) cls_all (gW LH ad km T) H) (hdg : decode cc pc = .ok (.getfield 33, 3)) (kk : W p l e R s m args below meth c H locs cells slots Q (F0 m (pc + 3) ls (.ref (ad 20) :: rest))) : W p l e R s m args below meth c H locs cells slots Q (F0 m pc ls (.ref (ad 1) :: rest)) := gw_get hx hb hT i_Source hown hK hP 1 7 18 (Nat.le_of_ble_eq_true rfl) rfl rfl (Nat.le_of_ble_eq_true rfl) rfl (gv_a rfl) (hT _ fl_Source_33) (fun _ h9 => h9) hdg kk
theorem laH_8 (hx : p.tables.exec = Jvm.exec) (hb : c.code = cc) (hK : va_K (dC, dI) cls_all (gT LH km) s) (hP : va_P (dC, dI) cls_all (gW LH ad km T) H) {x : Int32} (hin : inb x 4008) (hdg : decode cc pc = .ok (.iaload, 1)) (kk : W p l e R s m args below meth c H locs cells slots Q (F0 m (pc + 1) ls (.int (T.1 18 x.toNatClampNeg) :: rest))) : W p l e R s m args below meth c H locs cells slots Q (F0 m pc ls (.int x :: .ref (ad 20) :: rest)) := gw_iald hx hb hK hP 8 18 4008 20 (Nat.le_of_ble_eq_true rfl) rfl rfl rfl rfl rfl hin hdg kk
theorem saH_8 (hx : p.tables.exec = Jvm.exec) (hb : c.code = cc) (hK : va_K (dC, dI) cls_all (gT LH km) s) (hP : va_P (dC, dI) cls_all (gW LH ad km T) H) (hD : va_D A (gW LH ad km T)) (hS : va_S A H0 H locs) {x : Int32} {v : Int32} (hin : inb x 4008) (hdg : decode cc pc = .ok (.iastore, 1)) (kk : ∀ (T1 : gSt), T1 = sI T 18 x.toNatClampNeg v → ∀ (H1 : Heap) (locs1 : List Loc), va_P (dC, dI) cls_all (gW LH ad km T1) H1 → va_D A (gW LH ad km T1) → va_S A H0 H1 locs1 → W p l e R s m args below meth c H1 locs1 cells slots Q (F0 m (pc + 1) ls rest)) : W p l e R s m args below meth c H locs cells slots Q (F0 m pc ls (.int v :: .int x :: .ref (ad 20) :: rest)) := gw_iast okH hx hb hK hP hD hS 8 18 4008 20 (Nat.le_of_ble_eq_true rfl) rfl rfl rfl rfl rfl hin hdg kk
theorem wr_Source_96 (hx : p.tables.exec = Jvm.exec) (hb : c.code = cc) (hT : ∀ w ∈ lw_good, w.before args s = true) (hown : s.vm.findClass R_Source = some m.cls) (hK : va_K (dC, dI) cls_all (gT LH km) s) (hP : va_P (dC, dI) cls_all (gW LH ad km T) H) (hD : va_D A (gW LH ad km T)) (hS : va_S A H0 H locs) {v : Int32} (hdg : decode cc pc = .ok (.putfield 96, 3)) (kk : ∀ (T1 : gSt), T1 = sI T 19 0 v → ∀ (H1 : Heap) (locs1 : List Loc), va_P (dC, dI) cls_all (gW LH ad km T1) H1 → va_D A (gW LH ad km T1) → va_S A H0 H1 locs1 → W p l e R s m args below meth c H1 locs1 cells slots Q (F0 m (pc + 3) ls rest)) : W p l e R s m args below meth c H locs cells slots Q (F0 m pc ls (.int v :: .ref (ad 1) :: rest)) := gw_puti okH hx hb hT i_Source t_Source t_Source_ok n_Source hown hK hP hD hS 1 8 19 (Nat.le_of_ble_eq_true rfl) rfl rfl (Nat.le_of_ble_eq_true rfl) rfl rfl (hT _ fl_Source_96) (fun _ h9 => h9) rfl (ty := .int) (by decide +kernel) rfl rfl hdg kk
theorem rd_Items_58 (hx : p.tables.exec = Jvm.exec) (hb : c.code = cc) (hT : ∀ w ∈ lw_good, w.before args s = true) (hown : s.vm.findClass R_Items = some m.cls) (hK : va_K (dC, dI) cls_all (gT LH km) s) (hP : va_P (dC, dI) cls_all (gW LH ad km T) H) (hdg : decode cc pc = .ok (.getfield 58, 3)) (kk : W p l e R s m args below meth c H locs cells slots Q (F0 m (pc + 3) ls (.ref (ad 40) :: rest))) : W p l e R s m args below meth c H locs cells slots Q (F0 m pc ls (.ref (ad 2) :: rest)) := gw_get hx hb hT i_Items hown hK hP 2 16 43 (Nat.le_of_ble_eq_true rfl) rfl rfl (Nat.le_of_ble_eq_true rfl) rfl (gv_a rfl) (hT _ fl_Items_58) (fun _ h9 => h9) hdg kk
theorem laH_28 (hx : p.tables.exec = Jvm.exec) (hb : c.code = cc) (hK : va_K (dC, dI) cls_all (gT LH km) s) (hP : va_P (dC, dI) cls_all (gW LH ad km T) H) {x : Int32} (hin : inb x 192) (hdg : decode cc pc = .ok (.iaload, 1)) (kk : W p l e R s m args below meth c H locs cells slots Q (F0 m (pc + 1) ls (.int (T.1 43 x.toNatClampNeg) :: rest))) : W p l e R s m args below meth c H locs cells slots Q (F0 m pc ls (.int x :: .ref (ad 40) :: rest)) := gw_iald hx hb hK hP 28 43 192 40 (Nat.le_of_ble_eq_true rfl) rfl rfl rfl rfl rfl hin hdg kk
theorem saH_28 (hx : p.tables.exec = Jvm.exec) (hb : c.code = cc) (hK : va_K (dC, dI) cls_all (gT LH km) s) (hP : va_P (dC, dI) cls_all (gW LH ad km T) H) (hD : va_D A (gW LH ad km T)) (hS : va_S A H0 H locs) {x : Int32} {v : Int32} (hin : inb x 192) (hdg : decode cc pc = .ok (.iastore, 1)) (kk : ∀ (T1 : gSt), T1 = sI T 43 x.toNatClampNeg v → ∀ (H1 : Heap) (locs1 : List Loc), va_P (dC, dI) cls_all (gW LH ad km T1) H1 → va_D A (gW LH ad km T1) → va_S A H0 H1 locs1 → W p l e R s m args below meth c H1 locs1 cells slots Q (F0 m (pc + 1) ls rest)) : W p l e R s m args below meth c H locs cells slots Q (F0 m pc ls (.int v :: .int x :: .ref (ad 40) :: rest)) := gw_iast okH hx hb hK hP hD hS 28 43 192 40 (Nat.le_of_ble_eq_true rfl) rfl rfl rfl rfl rfl hin hdg kk
theorem rd_Items_61 (hx : p.tables.exec = Jvm.exec) (hb : c.code = cc) (hT : ∀ w ∈ lw_good, w.before args s = true) (hown : s.vm.findClass R_Items = some m.cls) (hK : va_K (dC, dI) cls_all (gT LH km) s) (hP : va_P (dC, dI) cls_all (gW LH ad km T) H) (hdg : decode cc pc = .ok (.getfield 61, 3)) (kk : W p l e R s m args below meth c H locs cells slots Q (F0 m (pc + 3) ls (.ref (ad 41) :: rest))) : W p l e R s m args below meth c H locs cells slots Q (F0 m pc ls (.ref (ad 2) :: rest)) := gw_get hx hb hT i_Items hown hK hP 2 17 44 (Nat.le_of_ble_eq_true rfl) rfl rfl (Nat.le_of_ble_eq_true rfl) rfl (gv_a rfl) (hT _ fl_Items_61) (fun _ h9 => h9) hdg kk
theorem laH_29 (hx : p.tables.exec = Jvm.exec) (hb : c.code = cc) (hK : va_K (dC, dI) cls_all (gT LH km) s) (hP : va_P (dC, dI) cls_all (gW LH ad km T) H) {x : Int32} (hin : inb x 192) (hdg : decode cc pc = .ok (.iaload, 1)) (kk : W p l e R s m args below meth c H locs cells slots Q (F0 m (pc + 1) ls (.int (T.1 44 x.toNatClampNeg) :: rest))) : W p l e R s m args below meth c H locs cells slots Q (F0 m pc ls (.int x :: .ref (ad 41) :: rest)) := gw_iald hx hb hK hP 29 44 192 41 (Nat.le_of_ble_eq_true rfl) rfl rfl rfl rfl rfl hin hdg kk
theorem saH_29 (hx : p.tables.exec = Jvm.exec) (hb : c.code = cc) (hK : va_K (dC, dI) cls_all (gT LH km) s) (hP : va_P (dC, dI) cls_all (gW LH ad km T) H) (hD : va_D A (gW LH ad km T)) (hS : va_S A H0 H locs) {x : Int32} {v : Int32} (hin : inb x 192) (hdg : decode cc pc = .ok (.iastore, 1)) (kk : ∀ (T1 : gSt), T1 = sI T 44 x.toNatClampNeg v → ∀ (H1 : Heap) (locs1 : List Loc), va_P (dC, dI) cls_all (gW LH ad km T1) H1 → va_D A (gW LH ad km T1) → va_S A H0 H1 locs1 → W p l e R s m args below meth c H1 locs1 cells slots Q (F0 m (pc + 1) ls rest)) : W p l e R s m args below meth c H locs cells slots Q (F0 m pc ls (.int v :: .int x :: .ref (ad 41) :: rest)) := gw_iast okH hx hb hK hP hD hS 29 44 192 41 (Nat.le_of_ble_eq_true rfl) rfl rfl rfl rfl rfl hin hdg kk
theorem rd_Items_64 (hx : p.tables.exec = Jvm.exec) (hb : c.code = cc) (hT : ∀ w ∈ lw_good, w.before args s = true) (hown : s.vm.findClass R_Items = some m.cls) (hK : va_K (dC, dI) cls_all (gT LH km) s) (hP : va_P (dC, dI) cls_all (gW LH ad km T) H) (hdg : decode cc pc = .ok (.getfield 64, 3)) (kk : W p l e R s m args below meth c H locs cells slots Q (F0 m (pc + 3) ls (.ref (ad 42) :: rest))) : W p l e R s m args below meth c H locs cells slots Q (F0 m pc ls (.ref (ad 2) :: rest)) := gw_get hx hb hT i_Items hown hK hP 2 18 45 (Nat.le_of_ble_eq_true rfl) rfl rfl (Nat.le_of_ble_eq_true rfl) rfl (gv_a rfl) (hT _ fl_Items_64) (fun _ h9 => h9) hdg kk
theorem laH_30 (hx : p.tables.exec = Jvm.exec) (hb : c.code = cc) (hK : va_K (dC, dI) cls_all (gT LH km) s) (hP : va_P (dC, dI) cls_all (gW LH ad km T) H) {x : Int32} (hin : inb x 192) (hdg : decode cc pc = .ok (.iaload, 1)) (kk : W p l e R s m args below meth c H locs cells slots Q (F0 m (pc + 1) ls (.int (T.1 45 x.toNatClampNeg) :: rest))) : W p l e R s m args below meth c H locs cells slots Q (F0 m pc ls (.int x :: .ref (ad 42) :: rest)) := gw_iald hx hb hK hP 30 45 192 42 (Nat.le_of_ble_eq_true rfl) rfl rfl rfl rfl rfl hin hdg kk
theorem saH_30 (hx : p.tables.exec = Jvm.exec) (hb : c.code = cc) (hK : va_K (dC, dI) cls_all (gT LH km) s) (hP : va_P (dC, dI) cls_all (gW LH ad km T) H) (hD : va_D A (gW LH ad km T)) (hS : va_S A H0 H locs) {x : Int32} {v : Int32} (hin : inb x 192) (hdg : decode cc pc = .ok (.iastore, 1)) (kk : ∀ (T1 : gSt), T1 = sI T 45 x.toNatClampNeg v → ∀ (H1 : Heap) (locs1 : List Loc), va_P (dC, dI) cls_all (gW LH ad km T1) H1 → va_D A (gW LH ad km T1) → va_S A H0 H1 locs1 → W p l e R s m args below meth c H1 locs1 cells slots Q (F0 m (pc + 1) ls rest)) : W p l e R s m args below meth c H locs cells slots Q (F0 m pc ls (.int v :: .int x :: .ref (ad 42) :: rest)) := gw_iast okH hx hb hK hP hD hS 30 45 192 42 (Nat.le_of_ble_eq_true rfl) rfl rfl rfl rfl rfl hin hdg kk
theorem rd_Items_25 (hx : p.tables.exec = Jvm.exec) (hb : c.code = cc) (hT : ∀ w ∈ lw_good, w.before args s = true) (hown : s.vm.findClass R_Items = some m.cls) (hK : va_K (dC, dI) cls_all (gT LH km) s) (hP : va_P (dC, dI) cls_all (gW LH ad km T) H) (hdg : decode cc pc = .ok (.getfield 25, 3)) (kk : W p l e R s m args below meth c H locs cells slots Q (F0 m (pc + 3) ls (.ref (ad 29) :: rest))) : W p l e R s m args below meth c H locs cells slots Q (F0 m pc ls (.ref (ad 2) :: rest)) := gw_get hx hb hT i_Items hown hK hP 2 5 32 (Nat.le_of_ble_eq_true rfl) rfl rfl (Nat.le_of_ble_eq_true rfl) rfl (gv_a rfl) (hT _ fl_Items_25) (fun _ h9 => h9) hdg kk
theorem laH_17 (hx : p.tables.exec = Jvm.exec) (hb : c.code = cc) (hK : va_K (dC, dI) cls_all (gT LH km) s) (hP : va_P (dC, dI) cls_all (gW LH ad km T) H) {x : Int32} (hin : inb x 24) (hdg : decode cc pc = .ok (.iaload, 1)) (kk : W p l e R s m args below meth c H locs cells slots Q (F0 m (pc + 1) ls (.int (T.1 32 x.toNatClampNeg) :: rest))) : W p l e R s m args below meth c H locs cells slots Q (F0 m pc ls (.int x :: .ref (ad 29) :: rest)) := gw_iald hx hb hK hP 17 32 24 29 (Nat.le_of_ble_eq_true rfl) rfl rfl rfl rfl rfl hin hdg kk
theorem saH_17 (hx : p.tables.exec = Jvm.exec) (hb : c.code = cc) (hK : va_K (dC, dI) cls_all (gT LH km) s) (hP : va_P (dC, dI) cls_all (gW LH ad km T) H) (hD : va_D A (gW LH ad km T)) (hS : va_S A H0 H locs) {x : Int32} {v : Int32} (hin : inb x 24) (hdg : decode cc pc = .ok (.iastore, 1)) (kk : ∀ (T1 : gSt), T1 = sI T 32 x.toNatClampNeg v → ∀ (H1 : Heap) (locs1 : List Loc), va_P (dC, dI) cls_all (gW LH ad km T1) H1 → va_D A (gW LH ad km T1) → va_S A H0 H1 locs1 → W p l e R s m args below meth c H1 locs1 cells slots Q (F0 m (pc + 1) ls rest)) : W p l e R s m args below meth c H locs cells slots Q (F0 m pc ls (.int v :: .int x :: .ref (ad 29) :: rest)) := gw_iast okH hx hb hK hP hD hS 17 32 24 29 (Nat.le_of_ble_eq_true rfl) rfl rfl rfl rfl rfl hin hdg kk
theorem rd_Items_67 (hx : p.tables.exec = Jvm.exec) (hb : c.code = cc) (hT : ∀ w ∈ lw_good, w.before args s = true) (hown : s.vm.findClass R_Items = some m.cls) (hK : va_K (dC, dI) cls_all (gT LH km) s) (hP : va_P (dC, dI) cls_all (gW LH ad km T) H) (hdg : decode cc pc = .ok (.getfield 67, 3)) (kk : W p l e R s m args below meth c H locs cells slots Q (F0 m (pc + 3) ls (.ref (ad 43) :: rest))) : W p l e R s m args below meth c H locs cells slots Q (F0 m pc ls (.ref (ad 2) :: rest)) := gw_get hx hb hT i_Items hown hK hP 2 19 46 (Nat.le_of_ble_eq_true rfl) rfl rfl (Nat.le_of_ble_eq_true rfl) rfl (gv_a rfl) (hT _ fl_Items_67) (fun _ h9 => h9) hdg kk
theorem laH_31 (hx : p.tables.exec = Jvm.exec) (hb : c.code = cc) (hK : va_K (dC, dI) cls_all (gT LH km) s) (hP : va_P (dC, dI) cls_all (gW LH ad km T) H) {x : Int32} (hin : inb x 24) (hdg : decode cc pc = .ok (.iaload, 1)) (kk : W p l e R s m args below meth c H locs cells slots Q (F0 m (pc + 1) ls (.int (T.1 46 x.toNatClampNeg) :: rest))) : W p l e R s m args below meth c H locs cells slots Q (F0 m pc ls (.int x :: .ref (ad 43) :: rest)) := gw_iald hx hb hK hP 31 46 24 43 (Nat.le_of_ble_eq_true rfl) rfl rfl rfl rfl rfl hin hdg kk
theorem saH_31 (hx : p.tables.exec = Jvm.exec) (hb : c.code = cc) (hK : va_K (dC, dI) cls_all (gT LH km) s) (hP : va_P (dC, dI) cls_all (gW LH ad km T) H) (hD : va_D A (gW LH ad km T)) (hS : va_S A H0 H locs) {x : Int32} {v : Int32} (hin : inb x 24) (hdg : decode cc pc = .ok (.iastore, 1)) (kk : ∀ (T1 : gSt), T1 = sI T 46 x.toNatClampNeg v → ∀ (H1 : Heap) (locs1 : List Loc), va_P (dC, dI) cls_all (gW LH ad km T1) H1 → va_D A (gW LH ad km T1) → va_S A H0 H1 locs1 → W p l e R s m args below meth c H1 locs1 cells slots Q (F0 m (pc + 1) ls rest)) : W p l e R s m args below meth c H locs cells slots Q (F0 m pc ls (.int v :: .int x :: .ref (ad 43) :: rest)) := gw_iast okH hx hb hK hP hD hS 31 46 24 43 (Nat.le_of_ble_eq_true rfl) rfl rfl rfl rfl rfl hin hdg kk
theorem rd_Items_70 (hx : p.tables.exec = Jvm.exec) (hb : c.code = cc) (hT : ∀ w ∈ lw_good, w.before args s = true) (hown : s.vm.findClass R_Items = some m.cls) (hK : va_K (dC, dI) cls_all (gT LH km) s) (hP : va_P (dC, dI) cls_all (gW LH ad km T) H) (hdg : decode cc pc = .ok (.getfield 70, 3)) (kk : W p l e R s m args below meth c H locs cells slots Q (F0 m (pc + 3) ls (.ref (ad 44) :: rest))) : W p l e R s m args below meth c H locs cells slots Q (F0 m pc ls (.ref (ad 2) :: rest)) := gw_get hx hb hT i_Items hown hK hP 2 20 47 (Nat.le_of_ble_eq_true rfl) rfl rfl (Nat.le_of_ble_eq_true rfl) rfl (gv_a rfl) (hT _ fl_Items_70) (fun _ h9 => h9) hdg kk
theorem laH_32 (hx : p.tables.exec = Jvm.exec) (hb : c.code = cc) (hK : va_K (dC, dI) cls_all (gT LH km) s) (hP : va_P (dC, dI) cls_all (gW LH ad km T) H) {x : Int32} (hin : inb x 72) (hdg : decode cc pc = .ok (.iaload, 1)) (kk : W p l e R s m args below meth c H locs cells slots Q (F0 m (pc + 1) ls (.int (T.1 47 x.toNatClampNeg) :: rest))) : W p l e R s m args below meth c H locs cells slots Q (F0 m pc ls (.int x :: .ref (ad 44) :: rest)) := gw_iald hx hb hK hP 32 47 72 44 (Nat.le_of_ble_eq_true rfl) rfl rfl rfl rfl rfl hin hdg kk
theorem saH_32 (hx : p.tables.exec = Jvm.exec) (hb : c.code = cc) (hK : va_K (dC, dI) cls_all (gT LH km) s) (hP : va_P (dC, dI) cls_all (gW LH ad km T) H) (hD : va_D A (gW LH ad km T)) (hS : va_S A H0 H locs) {x : Int32} {v : Int32} (hin : inb x 72) (hdg : decode cc pc = .ok (.iastore, 1)) (kk : ∀ (T1 : gSt), T1 = sI T 47 x.toNatClampNeg v → ∀ (H1 : Heap) (locs1 : List Loc), va_P (dC, dI) cls_all (gW LH ad km T1) H1 → va_D A (gW LH ad km T1) → va_S A H0 H1 locs1 → W p l e R s m args below meth c H1 locs1 cells slots Q (F0 m (pc + 1) ls rest)) : W p l e R s m args below meth c H locs cells slots Q (F0 m pc ls (.int v :: .int x :: .ref (ad 44) :: rest)) := gw_iast okH hx hb hK hP hD hS 32 47 72 44 (Nat.le_of_ble_eq_true rfl) rfl rfl rfl rfl rfl hin hdg kk
theorem rd_Items_79 (hx : p.tables.exec = Jvm.exec) (hb : c.code = cc) (hT : ∀ w ∈ lw_good, w.before args s = true) (hown : s.vm.findClass R_Items = some m.cls) (hK : va_K (dC, dI) cls_all (gT LH km) s) (hP : va_P (dC, dI) cls_all (gW LH ad km T) H) (hdg : decode cc pc = .ok (.getfield 79, 3)) (kk : W p l e R s m args below meth c H locs cells slots Q (F0 m (pc + 3) ls (.int (T.1 27 0) :: rest))) : W p l e R s m args below meth c H locs cells slots Q (F0 m pc ls (.ref (ad 2) :: rest)) := gw_get hx hb hT i_Items hown hK hP 2 0 27 (Nat.le_of_ble_eq_true rfl) rfl rfl (Nat.le_of_ble_eq_true rfl) rfl (gv_i rfl) (hT _ fl_Items_79) (fun _ h9 => h9) hdg kk
theorem rd_Items_9 (hx : p.tables.exec = Jvm.exec) (hb : c.code = cc) (hT : ∀ w ∈ lw_good, w.before args s = true) (hown : s.vm.findClass R_Items = some m.cls) (hK : va_K (dC, dI) cls_all (gT LH km) s) (hP : va_P (dC, dI) cls_all (gW LH ad km T) H) (hdg : decode cc pc = .ok (.getfield 9, 3)) (kk : W p l e R s m args below meth c H locs cells slots Q (F0 m (pc + 3) ls (.ref (ad 25) :: rest))) : W p l e R s m args below meth c H locs cells slots Q (F0 m pc ls (.ref (ad 2) :: rest)) := gw_get hx hb hT i_Items hown hK hP 2 1 28 (Nat.le_of_ble_eq_true rfl) rfl rfl (Nat.le_of_ble_eq_true rfl) rfl (gv_a rfl) (hT _ fl_Items_9) (fun _ h9 => h9) hdg kk
theorem laH_13 (hx : p.tables.exec = Jvm.exec) (hb : c.code = cc) (hK : va_K (dC, dI) cls_all (gT LH km) s) (hP : va_P (dC, dI) cls_all (gW LH ad km T) H) {x : Int32} (hin : inb x 24) (hdg : decode cc pc = .ok (.iaload, 1)) (kk : W p l e R s m args below meth c H locs cells slots Q (F0 m (pc + 1) ls (.int (T.1 28 x.toNatClampNeg) :: rest))) : W p l e R s m args below meth c H locs cells slots Q (F0 m pc ls (.int x :: .ref (ad 25) :: rest)) := gw_iald hx hb hK hP 13 28 24 25 (Nat.le_of_ble_eq_true rfl) rfl rfl rfl rfl rfl hin hdg kk
theorem saH_13 (hx : p.tables.exec = Jvm.exec) (hb : c.code = cc) (hK : va_K (dC, dI) cls_all (gT LH km) s) (hP : va_P (dC, dI) cls_all (gW LH ad km T) H) (hD : va_D A (gW LH ad km T)) (hS : va_S A H0 H locs) {x : Int32} {v : Int32} (hin : inb x 24) (hdg : decode cc pc = .ok (.iastore, 1)) (kk : ∀ (T1 : gSt), T1 = sI T 28 x.toNatClampNeg v → ∀ (H1 : Heap) (locs1 : List Loc), va_P (dC, dI) cls_all (gW LH ad km T1) H1 → va_D A (gW LH ad km T1) → va_S A H0 H1 locs1 → W p l e R s m args below meth c H1 locs1 cells slots Q (F0 m (pc + 1) ls rest)) : W p l e R s m args below meth c H locs cells slots Q (F0 m pc ls (.int v :: .int x :: .ref (ad 25) :: rest)) := gw_iast okH hx hb hK hP hD hS 13 28 24 25 (Nat.le_of_ble_eq_true rfl) rfl rfl rfl rfl rfl hin hdg kk
theorem rd_Items_18 (hx : p.tables.exec = Jvm.exec) (hb : c.code = cc) (hT : ∀ w ∈ lw_good, w.before args s = true) (hown : s.vm.findClass R_Items = some m.cls) (hK : va_K (dC, dI) cls_all (gT LH km) s) (hP : va_P (dC, dI) cls_all (gW LH ad km T) H) (hdg : decode cc pc = .ok (.getfield 18, 3)) (kk : W p l e R s m args below meth c H locs cells slots Q (F0 m (pc + 3) ls (.ref (ad 27) :: rest))) : W p l e R s m args below meth c H locs cells slots Q (F0 m pc ls (.ref (ad 2) :: rest)) := gw_get hx hb hT i_Items hown hK hP 2 3 30 (Nat.le_of_ble_eq_true rfl) rfl rfl (Nat.le_of_ble_eq_true rfl) rfl (gv_a rfl) (hT _ fl_Items_18) (fun _ h9 => h9) hdg kk
theorem laH_15 (hx : p.tables.exec = Jvm.exec) (hb : c.code = cc) (hK : va_K (dC, dI) cls_all (gT LH km) s) (hP : va_P (dC, dI) cls_all (gW LH ad km T) H) {x : Int32} (hin : inb x 24) (hdg : decode cc pc = .ok (.laload, 1)) (kk : W p l e R s m args below meth c H locs cells slots Q (F0 m (pc + 1) ls (.long (T.2 30 x.toNatClampNeg) :: rest))) : W p l e R s m args below meth c H locs cells slots Q (F0 m pc ls (.int x :: .ref (ad 27) :: rest)) := gw_lald hx hb hK hP 15 30 24 27 (Nat.le_of_ble_eq_true rfl) rfl rfl rfl rfl rfl hin hdg kk
theorem saH_15 (hx : p.tables.exec = Jvm.exec) (hb : c.code = cc) (hK : va_K (dC, dI) cls_all (gT LH km) s) (hP : va_P (dC, dI) cls_all (gW LH ad km T) H) (hD : va_D A (gW LH ad km T)) (hS : va_S A H0 H locs) {x : Int32} {v : Int64} (hin : inb x 24) (hdg : decode cc pc = .ok (.lastore, 1)) (kk : ∀ (T1 : gSt), T1 = sJ T 30 x.toNatClampNeg v → ∀ (H1 : Heap) (locs1 : List Loc), va_P (dC, dI) cls_all (gW LH ad km T1) H1 → va_D A (gW LH ad km T1) → va_S A H0 H1 locs1 → W p l e R s m args below meth c H1 locs1 cells slots Q (F0 m (pc + 1) ls rest)) : W p l e R s m args below meth c H locs cells slots Q (F0 m pc ls (.long v :: .int x :: .ref (ad 27) :: rest)) := gw_last okH hx hb hK hP hD hS 15 30 24 27 (Nat.le_of_ble_eq_true rfl) rfl rfl rfl rfl rfl hin hdg kk
theorem rd_Code_37 (hx : p.tables.exec = Jvm.exec) (hb : c.code = cc) (hT : ∀ w ∈ lw_good, w.before args s = true) (hown : s.vm.findClass R_Code = some m.cls) (hK : va_K (dC, dI) cls_all (gT LH km) s) (hP : va_P (dC, dI) cls_all (gW LH ad km T) H) (hdg : decode cc pc = .ok (.getfield 37, 3)) (kk : W p l e R s m args below meth c H locs cells slots Q (F0 m (pc + 3) ls (.int (T.1 53 0) :: rest))) : W p l e R s m args below meth c H locs cells slots Q (F0 m pc ls (.ref (ad 3) :: rest)) := gw_get hx hb hT i_Code hown hK hP 3 5 53 (Nat.le_of_ble_eq_true rfl) rfl rfl (Nat.le_of_ble_eq_true rfl) rfl (gv_i rfl) (hT _ fl_Code_37) (fun _ h9 => h9) hdg kk
theorem wr_Code_37 (hx : p.tables.exec = Jvm.exec) (hb : c.code = cc) (hT : ∀ w ∈ lw_good, w.before args s = true) (hown : s.vm.findClass R_Code = some m.cls) (hK : va_K (dC, dI) cls_all (gT LH km) s) (hP : va_P (dC, dI) cls_all (gW LH ad km T) H) (hD : va_D A (gW LH ad km T)) (hS : va_S A H0 H locs) {v : Int32} (hdg : decode cc pc = .ok (.putfield 37, 3)) (kk : ∀ (T1 : gSt), T1 = sI T 53 0 v → ∀ (H1 : Heap) (locs1 : List Loc), va_P (dC, dI) cls_all (gW LH ad km T1) H1 → va_D A (gW LH ad km T1) → va_S A H0 H1 locs1 → W p l e R s m args below meth c H1 locs1 cells slots Q (F0 m (pc + 3) ls rest)) : W p l e R s m args below meth c H locs cells slots Q (F0 m pc ls (.int v :: .ref (ad 3) :: rest)) := gw_puti okH hx hb hT i_Code t_Code t_Code_ok n_Code hown hK hP hD hS 3 5 53 (Nat.le_of_ble_eq_true rfl) rfl rfl (Nat.le_of_ble_eq_true rfl) rfl rfl (hT _ fl_Code_37) (fun _ h9 => h9) rfl (ty := .int) (by decide +kernel) rfl rfl hdg kk
theorem wr_Code_24 (hx : p.tables.exec = Jvm.exec) (hb : c.code = cc) (hT : ∀ w ∈ lw_good, w.before args s = true) (hown : s.vm.findClass R_Code = some m.cls) (hK : va_K (dC, dI) cls_all (gT LH km) s) (hP : va_P (dC, dI) cls_all (gW LH ad km T) H) (hD : va_D A (gW LH ad km T)) (hS : va_S A H0 H locs) {v : Int32} (hdg : decode cc pc = .ok (.putfield 24, 3)) (kk : ∀ (T1 : gSt), T1 = sI T 54 0 v → ∀ (H1 : Heap) (locs1 : List Loc), va_P (dC, dI) cls_all (gW LH ad km T1) H1 → va_D A (gW LH ad km T1) → va_S A H0 H1 locs1 → W p l e R s m args below meth c H1 locs1 cells slots Q (F0 m (pc + 3) ls rest)) : W p l e R s m args below meth c H locs cells slots Q (F0 m pc ls (.int v :: .ref (ad 3) :: rest)) := gw_puti okH hx hb hT i_Code t_Code t_Code_ok n_Code hown hK hP hD hS 3 6 54 (Nat.le_of_ble_eq_true rfl) rfl rfl (Nat.le_of_ble_eq_true rfl) rfl rfl (hT _ fl_Code_24) (fun _ h9 => h9) rfl (ty := .int) (by decide +kernel) rfl rfl hdg kk
theorem rd_Code_21 (hx : p.tables.exec = Jvm.exec) (hb : c.code = cc) (hT : ∀ w ∈ lw_good, w.before args s = true) (hown : s.vm.findClass R_Code = some m.cls) (hK : va_K (dC, dI) cls_all (gT LH km) s) (hP : va_P (dC, dI) cls_all (gW LH ad km T) H) (hdg : decode cc pc = .ok (.getfield 21, 3)) (kk : W p l e R s m args below meth c H locs cells slots Q (F0 m (pc + 3) ls (.ref (ad 48) :: rest))) : W p l e R s m args below meth c H locs cells slots Q (F0 m pc ls (.ref (ad 3) :: rest)) := gw_get hx hb hT i_Code hown hK hP 3 4 52 (Nat.le_of_ble_eq_true rfl) rfl rfl (Nat.le_of_ble_eq_true rfl) rfl (gv_a rfl) (hT _ fl_Code_21) (fun _ h9 => h9) hdg kk
theorem rd_Code_28 (hx : p.tables.exec = Jvm.exec) (hb : c.code = cc) (hT : ∀ w ∈ lw_good, w.before args s = true) (hown : s.vm.findClass R_Code = some m.cls) (hK : va_K (dC, dI) cls_all (gT LH km) s) (hP : va_P (dC, dI) cls_all (gW LH ad km T) H) (hdg : decode cc pc = .ok (.getfield 28, 3)) (kk : W p l e R s m args below meth c H locs cells slots Q (F0 m (pc + 3) ls (.int (T.1 51 0) :: rest))) : W p l e R s m args below meth c H locs cells slots Q (F0 m pc ls (.ref (ad 3) :: rest)) := gw_get hx hb hT i_Code hown hK hP 3 3 51 (Nat.le_of_ble_eq_true rfl) rfl rfl (Nat.le_of_ble_eq_true rfl) rfl (gv_i rfl) (hT _ fl_Code_28) (fun _ h9 => h9) hdg kk
theorem rd_Code_11 (hx : p.tables.exec = Jvm.exec) (hb : c.code = cc) (hT : ∀ w ∈ lw_good, w.before args s = true) (hown : s.vm.findClass R_Code = some m.cls) (hK : va_K (dC, dI) cls_all (gT LH km) s) (hP : va_P (dC, dI) cls_all (gW LH ad km T) H) (hdg : decode cc pc = .ok (.getfield 11, 3)) (kk : W p l e R s m args below meth c H locs cells slots Q (F0 m (pc + 3) ls (.ref (ad 45) :: rest))) : W p l e R s m args below meth c H locs cells slots Q (F0 m pc ls (.ref (ad 3) :: rest)) := gw_get hx hb hT i_Code hown hK hP 3 0 48 (Nat.le_of_ble_eq_true rfl) rfl rfl (Nat.le_of_ble_eq_true rfl) rfl (gv_a rfl) (hT _ fl_Code_11) (fun _ h9 => h9) hdg kk
theorem laH_33 (hx : p.tables.exec = Jvm.exec) (hb : c.code = cc) (hK : va_K (dC, dI) cls_all (gT LH km) s) (hP : va_P (dC, dI) cls_all (gW LH ad km T) H) {x : Int32} (hin : inb x 6032) (hdg : decode cc pc = .ok (.iaload, 1)) (kk : W p l e R s m args below meth c H locs cells slots Q (F0 m (pc + 1) ls (.int (T.1 48 x.toNatClampNeg) :: rest))) : W p l e R s m args below meth c H locs cells slots Q (F0 m pc ls (.int x :: .ref (ad 45) :: rest)) := gw_iald hx hb hK hP 33 48 6032 45 (Nat.le_of_ble_eq_true rfl) rfl rfl rfl rfl rfl hin hdg kk
theorem saH_33 (hx : p.tables.exec = Jvm.exec) (hb : c.code = cc) (hK : va_K (dC, dI) cls_all (gT LH km) s) (hP : va_P (dC, dI) cls_all (gW LH ad km T) H) (hD : va_D A (gW LH ad km T)) (hS : va_S A H0 H locs) {x : Int32} {v : Int32} (hin : inb x 6032) (hdg : decode cc pc = .ok (.iastore, 1)) (kk : ∀ (T1 : gSt), T1 = sI T 48 x.toNatClampNeg v → ∀ (H1 : Heap) (locs1 : List Loc), va_P (dC, dI) cls_all (gW LH ad km T1) H1 → va_D A (gW LH ad km T1) → va_S A H0 H1 locs1 → W p l e R s m args below meth c H1 locs1 cells slots Q (F0 m (pc + 1) ls rest)) : W p l e R s m args below meth c H locs cells slots Q (F0 m pc ls (.int v :: .int x :: .ref (ad 45) :: rest)) := gw_iast okH hx hb hK hP hD hS 33 48 6032 45 (Nat.le_of_ble_eq_true rfl) rfl rfl rfl rfl rfl hin hdg kk
theorem rd_Code_15 (hx : p.tables.exec = Jvm.exec) (hb : c.code = cc) (hT : ∀ w ∈ lw_good, w.before args s = true) (hown : s.vm.findClass R_Code = some m.cls) (hK : va_K (dC, dI) cls_all (gT LH km) s) (hP : va_P (dC, dI) cls_all (gW LH ad km T) H) (hdg : decode cc pc = .ok (.getfield 15, 3)) (kk : W p l e R s m args below meth c H locs cells slots Q (F0 m (pc + 3) ls (.ref (ad 46) :: rest))) : W p l e R s m args below meth c H locs cells slots Q (F0 m pc ls (.ref (ad 3) :: rest)) := gw_get hx hb hT i_Code hown hK hP 3 1 49 (Nat.le_of_ble_eq_true rfl) rfl rfl (Nat.le_of_ble_eq_true rfl) rfl (gv_a rfl) (hT _ fl_Code_15) (fun _ h9 => h9) hdg kk
theorem laH_34 (hx : p.tables.exec = Jvm.exec) (hb : c.code = cc) (hK : va_K (dC, dI) cls_all (gT LH km) s) (hP : va_P (dC, dI) cls_all (gW LH ad km T) H) {x : Int32} (hin : inb x 6032) (hdg : decode cc pc = .ok (.iaload, 1)) (kk : W p l e R s m args below meth c H locs cells slots Q (F0 m (pc + 1) ls (.int (T.1 49 x.toNatClampNeg) :: rest))) : W p l e R s m args below meth c H locs cells slots Q (F0 m pc ls (.int x :: .ref (ad 46) :: rest)) := gw_iald hx hb hK hP 34 49 6032 46 (Nat.le_of_ble_eq_true rfl) rfl rfl rfl rfl rfl hin hdg kk
theorem saH_34 (hx : p.tables.exec = Jvm.exec) (hb : c.code = cc) (hK : va_K (dC, dI) cls_all (gT LH km) s) (hP : va_P (dC, dI) cls_all (gW LH ad km T) H) (hD : va_D A (gW LH ad km T)) (hS : va_S A H0 H locs) {x : Int32} {v : Int32} (hin : inb x 6032) (hdg : decode cc pc = .ok (.iastore, 1)) (kk : ∀ (T1 : gSt), T1 = sI T 49 x.toNatClampNeg v → ∀ (H1 : Heap) (locs1 : List Loc), va_P (dC, dI) cls_all (gW LH ad km T1) H1 → va_D A (gW LH ad km T1) → va_S A H0 H1 locs1 → W p l e R s m args below meth c H1 locs1 cells slots Q (F0 m (pc + 1) ls rest)) : W p l e R s m args below meth c H locs cells slots Q (F0 m pc ls (.int v :: .int x :: .ref (ad 46) :: rest)) := gw_iast okH hx hb hK hP hD hS 34 49 6032 46 (Nat.le_of_ble_eq_true rfl) rfl rfl rfl rfl rfl hin hdg kk
theorem rd_Code_18 (hx : p.tables.exec = Jvm.exec) (hb : c.code = cc) (hT : ∀ w ∈ lw_good, w.before args s = true) (hown : s.vm.findClass R_Code = some m.cls) (hK : va_K (dC, dI) cls_all (gT LH km) s) (hP : va_P (dC, dI) cls_all (gW LH ad km T) H) (hdg : decode cc pc = .ok (.getfield 18, 3)) (kk : W p l e R s m args below meth c H locs cells slots Q (F0 m (pc + 3) ls (.ref (ad 47) :: rest))) : W p l e R s m args below meth c H locs cells slots Q (F0 m pc ls (.ref (ad 3) :: rest)) := gw_get hx hb hT i_Code hown hK hP 3 2 50 (Nat.le_of_ble_eq_true rfl) rfl rfl (Nat.le_of_ble_eq_true rfl) rfl (gv_a rfl) (hT _ fl_Code_18) (fun _ h9 => h9) hdg kk
theorem laH_35 (hx : p.tables.exec = Jvm.exec) (hb : c.code = cc) (hK : va_K (dC, dI) cls_all (gT LH km) s) (hP : va_P (dC, dI) cls_all (gW LH ad km T) H) {x : Int32} (hin : inb x 6032) (hdg : decode cc pc = .ok (.iaload, 1)) (kk : W p l e R s m args below meth c H locs cells slots Q (F0 m (pc + 1) ls (.int (T.1 50 x.toNatClampNeg) :: rest))) : W p l e R s m args below meth c H locs cells slots Q (F0 m pc ls (.int x :: .ref (ad 47) :: rest)) := gw_iald hx hb hK hP 35 50 6032 47 (Nat.le_of_ble_eq_true rfl) rfl rfl rfl rfl rfl hin hdg kk
theorem saH_35 (hx : p.tables.exec = Jvm.exec) (hb : c.code = cc) (hK : va_K (dC, dI) cls_all (gT LH km) s) (hP : va_P (dC, dI) cls_all (gW LH ad km T) H) (hD : va_D A (gW LH ad km T)) (hS : va_S A H0 H locs) {x : Int32} {v : Int32} (hin : inb x 6032) (hdg : decode cc pc = .ok (.iastore, 1)) (kk : ∀ (T1 : gSt), T1 = sI T 50 x.toNatClampNeg v → ∀ (H1 : Heap) (locs1 : List Loc), va_P (dC, dI) cls_all (gW LH ad km T1) H1 → va_D A (gW LH ad km T1) → va_S A H0 H1 locs1 → W p l e R s m args below meth c H1 locs1 cells slots Q (F0 m (pc + 1) ls rest)) : W p l e R s m args below meth c H locs cells slots Q (F0 m pc ls (.int v :: .int x :: .ref (ad 47) :: rest)) := gw_iast okH hx hb hK hP hD hS 35 50 6032 47 (Nat.le_of_ble_eq_true rfl) rfl rfl rfl rfl rfl hin hdg kk
theorem wr_Code_28 (hx : p.tables.exec = Jvm.exec) (hb : c.code = cc) (hT : ∀ w ∈ lw_good, w.before args s = true) (hown : s.vm.findClass R_Code = some m.cls) (hK : va_K (dC, dI) cls_all (gT LH km) s) (hP : va_P (dC, dI) cls_all (gW LH ad km T) H) (hD : va_D A (gW LH ad km T)) (hS : va_S A H0 H locs) {v : Int32} (hdg : decode cc pc = .ok (.putfield 28, 3)) (kk : ∀ (T1 : gSt), T1 = sI T 51 0 v → ∀ (H1 : Heap) (locs1 : List Loc), va_P (dC, dI) cls_all (gW LH ad km T1) H1 → va_D A (gW LH ad km T1) → va_S A H0 H1 locs1 → W p l e R s m args below meth c H1 locs1 cells slots Q (F0 m (pc + 3) ls rest)) : W p l e R s m args below meth c H locs cells slots Q (F0 m pc ls (.int v :: .ref (ad 3) :: rest)) := gw_puti okH hx hb hT i_Code t_Code t_Code_ok n_Code hown hK hP hD hS 3 3 51 (Nat.le_of_ble_eq_true rfl) rfl rfl (Nat.le_of_ble_eq_true rfl) rfl rfl (hT _ fl_Code_28) (fun _ h9 => h9) rfl (ty := .int) (by decide +kernel) rfl rfl hdg kk
theorem wr_Parser_23 (hx : p.tables.exec = Jvm.exec) (hb : c.code = cc) (hT : ∀ w ∈ lw_good, w.before args s = true) (hown : s.vm.findClass R_Parser = some m.cls) (hK : va_K (dC, dI) cls_all (gT LH km) s) (hP : va_P (dC, dI) cls_all (gW LH ad km T) H) (hD : va_D A (gW LH ad km T)) (hS : va_S A H0 H locs) {v : Int32} (hdg : decode cc pc = .ok (.putfield 23, 3)) (kk : ∀ (T1 : gSt), T1 = sI T 58 0 v → ∀ (H1 : Heap) (locs1 : List Loc), va_P (dC, dI) cls_all (gW LH ad km T1) H1 → va_D A (gW LH ad km T1) → va_S A H0 H1 locs1 → W p l e R s m args below meth c H1 locs1 cells slots Q (F0 m (pc + 3) ls rest)) : W p l e R s m args below meth c H locs cells slots Q (F0 m pc ls (.int v :: .ref (ad 4) :: rest)) := gw_puti okH hx hb hT i_Parser t_Parser t_Parser_ok n_Parser hown hK hP hD hS 4 3 58 (Nat.le_of_ble_eq_true rfl) rfl rfl (Nat.le_of_ble_eq_true rfl) rfl rfl (hT _ fl_Parser_23) (fun _ h9 => h9) rfl (ty := .int) (by decide +kernel) rfl rfl hdg kk
theorem rd_Parser_9 (hx : p.tables.exec = Jvm.exec) (hb : c.code = cc) (hT : ∀ w ∈ lw_good, w.before args s = true) (hown : s.vm.findClass R_Parser = some m.cls) (hK : va_K (dC, dI) cls_all (gT LH km) s) (hP : va_P (dC, dI) cls_all (gW LH ad km T) H) (hdg : decode cc pc = .ok (.getfield 9, 3)) (kk : W p l e R s m args below meth c H locs cells slots Q (F0 m (pc + 3) ls (.ref (ad 1) :: rest))) : W p l e R s m args below meth c H locs cells slots Q (F0 m pc ls (.ref (ad 4) :: rest)) := gw_get hx hb hT i_Parser hown hK hP 4 0 55 (Nat.le_of_ble_eq_true rfl) rfl rfl (Nat.le_of_ble_eq_true rfl) rfl (gv_o rfl) (hT _ fl_Parser_9) (fun _ h9 => h9) hdg kk
theorem rd_Parser_23 (hx : p.tables.exec = Jvm.exec) (hb : c.code = cc) (hT : ∀ w ∈ lw_good, w.before args s = true) (hown : s.vm.findClass R_Parser = some m.cls) (hK : va_K (dC, dI) cls_all (gT LH km) s) (hP : va_P (dC, dI) cls_all (gW LH ad km T) H) (hdg : decode cc pc = .ok (.getfield 23, 3)) (kk : W p l e R s m args below meth c H locs cells slots Q (F0 m (pc + 3) ls (.int (T.1 58 0) :: rest))) : W p l e R s m args below meth c H locs cells slots Q (F0 m pc ls (.ref (ad 4) :: rest)) := gw_get hx hb hT i_Parser hown hK hP 4 3 58 (Nat.le_of_ble_eq_true rfl) rfl rfl (Nat.le_of_ble_eq_true rfl) rfl (gv_i rfl) (hT _ fl_Parser_23) (fun _ h9 => h9) hdg kk
theorem wr_Parser_33 (hx : p.tables.exec = Jvm.exec) (hb : c.code = cc) (hT : ∀ w ∈ lw_good, w.before args s = true) (hown : s.vm.findClass R_Parser = some m.cls) (hK : va_K (dC, dI) cls_all (gT LH km) s) (hP : va_P (dC, dI) cls_all (gW LH ad km T) H) (hD : va_D A (gW LH ad km T)) (hS : va_S A H0 H locs) {v : Int32} (hdg : decode cc pc = .ok (.putfield 33, 3)) (kk : ∀ (T1 : gSt), T1 = sI T 128 0 v → ∀ (H1 : Heap) (locs1 : List Loc), va_P (dC, dI) cls_all (gW LH ad km T1) H1 → va_D A (gW LH ad km T1) → va_S A H0 H1 locs1 → W p l e R s m args below meth c H1 locs1 cells slots Q (F0 m (pc + 3) ls rest)) : W p l e R s m args below meth c H locs cells slots Q (F0 m pc ls (.int v :: .ref (ad 4) :: rest)) := gw_puti okH hx hb hT i_Parser t_Parser t_Parser_ok n_Parser hown hK hP hD hS 4 4 128 (Nat.le_of_ble_eq_true rfl) rfl rfl (Nat.le_of_ble_eq_true rfl) rfl rfl (hT _ fl_Parser_33) (fun _ h9 => h9) rfl (ty := .int) (by decide +kernel) rfl rfl hdg kk
theorem wr_Parser_36 (hx : p.tables.exec = Jvm.exec) (hb : c.code = cc) (hT : ∀ w ∈ lw_good, w.before args s = true) (hown : s.vm.findClass R_Parser = some m.cls) (hK : va_K (dC, dI) cls_all (gT LH km) s) (hP : va_P (dC, dI) cls_all (gW LH ad km T) H) (hD : va_D A (gW LH ad km T)) (hS : va_S A H0 H locs) {v : Int32} (hz : v = 0 ∨ v = 1) (hdg : decode cc pc = .ok (.putfield 36, 3)) (kk : ∀ (T1 : gSt), T1 = sI T 59 0 v → ∀ (H1 : Heap) (locs1 : List Loc), va_P (dC, dI) cls_all (gW LH ad km T1) H1 → va_D A (gW LH ad km T1) → va_S A H0 H1 locs1 → W p l e R s m args below meth c H1 locs1 cells slots Q (F0 m (pc + 3) ls rest)) : W p l e R s m args below meth c H locs cells slots Q (F0 m pc ls (.int v :: .ref (ad 4) :: rest)) := gw_puti okH hx hb hT i_Parser t_Parser t_Parser_ok n_Parser hown hK hP hD hS 4 5 59 (Nat.le_of_ble_eq_true rfl) rfl rfl (Nat.le_of_ble_eq_true rfl) rfl rfl (hT _ fl_Parser_36) (fun _ h9 => h9) rfl (ty := .boolean) (by decide +kernel) (by rcases hz with h | h <;> rw [h] <;> rfl) (by rcases hz with h | h <;> rw [h] <;> rfl) hdg kk
theorem rd_Parser_15 (hx : p.tables.exec = Jvm.exec) (hb : c.code = cc) (hT : ∀ w ∈ lw_good, w.before args s = true) (hown : s.vm.findClass R_Parser = some m.cls) (hK : va_K (dC, dI) cls_all (gT LH km) s) (hP : va_P (dC, dI) cls_all (gW LH ad km T) H) (hdg : decode cc pc = .ok (.getfield 15, 3)) (kk : W p l e R s m args below meth c H locs cells slots Q (F0 m (pc + 3) ls (.ref (ad 2) :: rest))) : W p l e R s m args below meth c H locs cells slots Q (F0 m pc ls (.ref (ad 4) :: rest)) := gw_get hx hb hT i_Parser hown hK hP 4 1 56 (Nat.le_of_ble_eq_true rfl) rfl rfl (Nat.le_of_ble_eq_true rfl) rfl (gv_o rfl) (hT _ fl_Parser_15) (fun _ h9 => h9) hdg kk
theorem wr_Parser_40 (hx : p.tables.exec = Jvm.exec) (hb : c.code = cc) (hT : ∀ w ∈ lw_good, w.before args s = true) (hown : s.vm.findClass R_Parser = some m.cls) (hK : va_K (dC, dI) cls_all (gT LH km) s) (hP : va_P (dC, dI) cls_all (gW LH ad km T) H) (hD : va_D A (gW LH ad km T)) (hS : va_S A H0 H locs) {v : Int32} (hdg : decode cc pc = .ok (.putfield 40, 3)) (kk : ∀ (T1 : gSt), T1 = sI T 27 0 v → ∀ (H1 : Heap) (locs1 : List Loc), va_P (dC, dI) cls_all (gW LH ad km T1) H1 → va_D A (gW LH ad km T1) → va_S A H0 H1 locs1 → W p l e R s m args below meth c H1 locs1 cells slots Q (F0 m (pc + 3) ls rest)) : W p l e R s m args below meth c H locs cells slots Q (F0 m pc ls (.int v :: .ref (ad 2) :: rest)) := gw_puti okH hx hb hT i_Items t_Items t_Items_ok n_Items hown hK hP hD hS 2 0 27 (Nat.le_of_ble_eq_true rfl) rfl rfl (Nat.le_of_ble_eq_true rfl) rfl rfl (hT _ fl_Parser_40) (fun _ h9 => h9) rfl (ty := .int) (by decide +kernel) rfl rfl hdg kk
theorem rd_Parser_36 (hx : p.tables.exec = Jvm.exec) (hb : c.code = cc) (hT : ∀ w ∈ lw_good, w.before args s = true) (hown : s.vm.findClass R_Parser = some m.cls) (hK : va_K (dC, dI) cls_all (gT LH km) s) (hP : va_P (dC, dI) cls_all (gW LH ad km T) H) (hdg : decode cc pc = .ok (.getfield 36, 3)) (kk : W p l e R s m args below meth c H locs cells slots Q (F0 m (pc + 3) ls (.int (T.1 59 0) :: rest))) : W p l e R s m args below meth c H locs cells slots Q (F0 m pc ls (.ref (ad 4) :: rest)) := gw_get hx hb hT i_Parser hown hK hP 4 5 59 (Nat.le_of_ble_eq_true rfl) rfl rfl (Nat.le_of_ble_eq_true rfl) rfl (gv_i rfl) (hT _ fl_Parser_36) (fun _ h9 => h9) hdg kk
theorem rd_Parser_33 (hx : p.tables.exec = Jvm.exec) (hb : c.code = cc) (hT : ∀ w ∈ lw_good, w.before args s = true) (hown : s.vm.findClass R_Parser = some m.cls) (hK : va_K (dC, dI) cls_all (gT LH km) s) (hP : va_P (dC, dI) cls_all (gW LH ad km T) H) (hdg : decode cc pc = .ok (.getfield 33, 3)) (kk : W p l e R s m args below meth c H locs cells slots Q (F0 m (pc + 3) ls (.int (T.1 128 0) :: rest))) : W p l e R s m args below meth c H locs cells slots Q (F0 m pc ls (.ref (ad 4) :: rest)) := gw_get hx hb hT i_Parser hown hK hP 4 4 128 (Nat.le_of_ble_eq_true rfl) rfl rfl (Nat.le_of_ble_eq_true rfl) rfl (gv_i rfl) (hT _ fl_Parser_33) (fun _ h9 => h9) hdg kk
theorem rd_Parser_49 (hx : p.tables.exec = Jvm.exec) (hb : c.code = cc) (hT : ∀ w ∈ lw_good, w.before args s = true) (hown : s.vm.findClass R_Parser = some m.cls) (hK : va_K (dC, dI) cls_all (gT LH km) s) (hP : va_P (dC, dI) cls_all (gW LH ad km T) H) (hdg : decode cc pc = .ok (.getfield 49, 3)) (kk : W p l e R s m args below meth c H locs cells slots Q (F0 m (pc + 3) ls (.ref (ad 25) :: rest))) : W p l e R s m args below meth c H locs cells slots Q (F0 m pc ls (.ref (ad 2) :: rest)) := gw_get hx hb hT i_Items hown hK hP 2 1 28 (Nat.le_of_ble_eq_true rfl) rfl rfl (Nat.le_of_ble_eq_true rfl) rfl (gv_a rfl) (hT _ fl_Parser_49) (fun _ h9 => h9) hdg kk
theorem rd_Parser_19 (hx : p.tables.exec = Jvm.exec) (hb : c.code = cc) (hT : ∀ w ∈ lw_good, w.before args s = true) (hown : s.vm.findClass R_Parser = some m.cls) (hK : va_K (dC, dI) cls_all (gT LH km) s) (hP : va_P (dC, dI) cls_all (gW LH ad km T) H) (hdg : decode cc pc = .ok (.getfield 19, 3)) (kk : W p l e R s m args below meth c H locs cells slots Q (F0 m (pc + 3) ls (.ref (ad 3) :: rest))) : W p l e R s m args below meth c H locs cells slots Q (F0 m pc ls (.ref (ad 4) :: rest)) := gw_get hx hb hT i_Parser hown hK hP 4 2 57 (Nat.le_of_ble_eq_true rfl) rfl rfl (Nat.le_of_ble_eq_true rfl) rfl (gv_o rfl) (hT _ fl_Parser_19) (fun _ h9 => h9) hdg kk
theorem rd_Parser_74 (hx : p.tables.exec = Jvm.exec) (hb : c.code = cc) (hT : ∀ w ∈ lw_good, w.before args s = true) (hown : s.vm.findClass R_Parser = some m.cls) (hK : va_K (dC, dI) cls_all (gT LH km) s) (hP : va_P (dC, dI) cls_all (gW LH ad km T) H) (hdg : decode cc pc = .ok (.getfield 74, 3)) (kk : W p l e R s m args below meth c H locs cells slots Q (F0 m (pc + 3) ls (.ref (ad 26) :: rest))) : W p l e R s m args below meth c H locs cells slots Q (F0 m pc ls (.ref (ad 2) :: rest)) := gw_get hx hb hT i_Items hown hK hP 2 2 29 (Nat.le_of_ble_eq_true rfl) rfl rfl (Nat.le_of_ble_eq_true rfl) rfl (gv_a rfl) (hT _ fl_Parser_74) (fun _ h9 => h9) hdg kk
theorem laH_14 (hx : p.tables.exec = Jvm.exec) (hb : c.code = cc) (hK : va_K (dC, dI) cls_all (gT LH km) s) (hP : va_P (dC, dI) cls_all (gW LH ad km T) H) {x : Int32} (hin : inb x 24) (hdg : decode cc pc = .ok (.iaload, 1)) (kk : W p l e R s m args below meth c H locs cells slots Q (F0 m (pc + 1) ls (.int (T.1 29 x.toNatClampNeg) :: rest))) : W p l e R s m args below meth c H locs cells slots Q (F0 m pc ls (.int x :: .ref (ad 26) :: rest)) := gw_iald hx hb hK hP 14 29 24 26 (Nat.le_of_ble_eq_true rfl) rfl rfl rfl rfl rfl hin hdg kk
theorem saH_14 (hx : p.tables.exec = Jvm.exec) (hb : c.code = cc) (hK : va_K (dC, dI) cls_all (gT LH km) s) (hP : va_P (dC, dI) cls_all (gW LH ad km T) H) (hD : va_D A (gW LH ad km T)) (hS : va_S A H0 H locs) {x : Int32} {v : Int32} (hin : inb x 24) (hdg : decode cc pc = .ok (.iastore, 1)) (kk : ∀ (T1 : gSt), T1 = sI T 29 x.toNatClampNeg v → ∀ (H1 : Heap) (locs1 : List Loc), va_P (dC, dI) cls_all (gW LH ad km T1) H1 → va_D A (gW LH ad km T1) → va_S A H0 H1 locs1 → W p l e R s m args below meth c H1 locs1 cells slots Q (F0 m (pc + 1) ls rest)) : W p l e R s m args below meth c H locs cells slots Q (F0 m pc ls (.int v :: .int x :: .ref (ad 26) :: rest)) := gw_iast okH hx hb hK hP hD hS 14 29 24 26 (Nat.le_of_ble_eq_true rfl) rfl rfl rfl rfl rfl hin hdg kk
theorem rd_Parser_77 (hx : p.tables.exec = Jvm.exec) (hb : c.code = cc) (hT : ∀ w ∈ lw_good, w.before args s = true) (hown : s.vm.findClass R_Parser = some m.cls) (hK : va_K (dC, dI) cls_all (gT LH km) s) (hP : va_P (dC, dI) cls_all (gW LH ad km T) H) (hdg : decode cc pc = .ok (.getfield 77, 3)) (kk : W p l e R s m args below meth c H locs cells slots Q (F0 m (pc + 3) ls (.ref (ad 27) :: rest))) : W p l e R s m args below meth c H locs cells slots Q (F0 m pc ls (.ref (ad 2) :: rest)) := gw_get hx hb hT i_Items hown hK hP 2 3 30 (Nat.le_of_ble_eq_true rfl) rfl rfl (Nat.le_of_ble_eq_true rfl) rfl (gv_a rfl) (hT _ fl_Parser_77) (fun _ h9 => h9) hdg kk
theorem rd_Parser_88 (hx : p.tables.exec = Jvm.exec) (hb : c.code = cc) (hT : ∀ w ∈ lw_good, w.before args s = true) (hown : s.vm.findClass R_Parser = some m.cls) (hK : va_K (dC, dI) cls_all (gT LH km) s) (hP : va_P (dC, dI) cls_all (gW LH ad km T) H) (hdg : decode cc pc = .ok (.getfield 88, 3)) (kk : W p l e R s m args below meth c H locs cells slots Q (F0 m (pc + 3) ls (.ref (ad 28) :: rest))) : W p l e R s m args below meth c H locs cells slots Q (F0 m pc ls (.ref (ad 2) :: rest)) := gw_get hx hb hT i_Items hown hK hP 2 4 31 (Nat.le_of_ble_eq_true rfl) rfl rfl (Nat.le_of_ble_eq_true rfl) rfl (gv_a rfl) (hT _ fl_Parser_88) (fun _ h9 => h9) hdg kk
theorem laH_16 (hx : p.tables.exec = Jvm.exec) (hb : c.code = cc) (hK : va_K (dC, dI) cls_all (gT LH km) s) (hP : va_P (dC, dI) cls_all (gW LH ad km T) H) {x : Int32} (hin : inb x 24) (hdg : decode cc pc = .ok (.iaload, 1)) (kk : W p l e R s m args below meth c H locs cells slots Q (F0 m (pc + 1) ls (.int (T.1 31 x.toNatClampNeg) :: rest))) : W p l e R s m args below meth c H locs cells slots Q (F0 m pc ls (.int x :: .ref (ad 28) :: rest)) := gw_iald hx hb hK hP 16 31 24 28 (Nat.le_of_ble_eq_true rfl) rfl rfl rfl rfl rfl hin hdg kk
theorem saH_16 (hx : p.tables.exec = Jvm.exec) (hb : c.code = cc) (hK : va_K (dC, dI) cls_all (gT LH km) s) (hP : va_P (dC, dI) cls_all (gW LH ad km T) H) (hD : va_D A (gW LH ad km T)) (hS : va_S A H0 H locs) {x : Int32} {v : Int32} (hin : inb x 24) (hdg : decode cc pc = .ok (.iastore, 1)) (kk : ∀ (T1 : gSt), T1 = sI T 31 x.toNatClampNeg v → ∀ (H1 : Heap) (locs1 : List Loc), va_P (dC, dI) cls_all (gW LH ad km T1) H1 → va_D A (gW LH ad km T1) → va_S A H0 H1 locs1 → W p l e R s m args below meth c H1 locs1 cells slots Q (F0 m (pc + 1) ls rest)) : W p l e R s m args below meth c H locs cells slots Q (F0 m pc ls (.int v :: .int x :: .ref (ad 28) :: rest)) := gw_iast okH hx hb hK hP hD hS 16 31 24 28 (Nat.le_of_ble_eq_true rfl) rfl rfl rfl rfl rfl hin hdg kk
theorem rd_Parser_94 (hx : p.tables.exec = Jvm.exec) (hb : c.code = cc) (hT : ∀ w ∈ lw_good, w.before args s = true) (hown : s.vm.findClass R_Parser = some m.cls) (hK : va_K (dC, dI) cls_all (gT LH km) s) (hP : va_P (dC, dI) cls_all (gW LH ad km T) H) (hdg : decode cc pc = .ok (.getfield 94, 3)) (kk : W p l e R s m args below meth c H locs cells slots Q (F0 m (pc + 3) ls (.ref (ad 29) :: rest))) : W p l e R s m args below meth c H locs cells slots Q (F0 m pc ls (.ref (ad 2) :: rest)) := gw_get hx hb hT i_Items hown hK hP 2 5 32 (Nat.le_of_ble_eq_true rfl) rfl rfl (Nat.le_of_ble_eq_true rfl) rfl (gv_a rfl) (hT _ fl_Parser_94) (fun _ h9 => h9) hdg kk
theorem rd_Parser_97 (hx : p.tables.exec = Jvm.exec) (hb : c.code = cc) (hT : ∀ w ∈ lw_good, w.before args s = true) (hown : s.vm.findClass R_Parser = some m.cls) (hK : va_K (dC, dI) cls_all (gT LH km) s) (hP : va_P (dC, dI) cls_all (gW LH ad km T) H) (hdg : decode cc pc = .ok (.getfield 97, 3)) (kk : W p l e R s m args below meth c H locs cells slots Q (F0 m (pc + 3) ls (.ref (ad 30) :: rest))) : W p l e R s m args below meth c H locs cells slots Q (F0 m pc ls (.ref (ad 2) :: rest)) := gw_get hx hb hT i_Items hown hK hP 2 6 33 (Nat.le_of_ble_eq_true rfl) rfl rfl (Nat.le_of_ble_eq_true rfl) rfl (gv_a rfl) (hT _ fl_Parser_97) (fun _ h9 => h9) hdg kk
theorem laH_18 (hx : p.tables.exec = Jvm.exec) (hb : c.code = cc) (hK : va_K (dC, dI) cls_all (gT LH km) s) (hP : va_P (dC, dI) cls_all (gW LH ad km T) H) {x : Int32} (hin : inb x 24) (hdg : decode cc pc = .ok (.iaload, 1)) (kk : W p l e R s m args below meth c H locs cells slots Q (F0 m (pc + 1) ls (.int (T.1 33 x.toNatClampNeg) :: rest))) : W p l e R s m args below meth c H locs cells slots Q (F0 m pc ls (.int x :: .ref (ad 30) :: rest)) := gw_iald hx hb hK hP 18 33 24 30 (Nat.le_of_ble_eq_true rfl) rfl rfl rfl rfl rfl hin hdg kk
theorem saH_18 (hx : p.tables.exec = Jvm.exec) (hb : c.code = cc) (hK : va_K (dC, dI) cls_all (gT LH km) s) (hP : va_P (dC, dI) cls_all (gW LH ad km T) H) (hD : va_D A (gW LH ad km T)) (hS : va_S A H0 H locs) {x : Int32} {v : Int32} (hin : inb x 24) (hdg : decode cc pc = .ok (.iastore, 1)) (kk : ∀ (T1 : gSt), T1 = sI T 33 x.toNatClampNeg v → ∀ (H1 : Heap) (locs1 : List Loc), va_P (dC, dI) cls_all (gW LH ad km T1) H1 → va_D A (gW LH ad km T1) → va_S A H0 H1 locs1 → W p l e R s m args below meth c H1 locs1 cells slots Q (F0 m (pc + 1) ls rest)) : W p l e R s m args below meth c H locs cells slots Q (F0 m pc ls (.int v :: .int x :: .ref (ad 30) :: rest)) := gw_iast okH hx hb hK hP hD hS 18 33 24 30 (Nat.le_of_ble_eq_true rfl) rfl rfl rfl rfl rfl hin hdg kk
theorem rd_Parser_100 (hx : p.tables.exec = Jvm.exec) (hb : c.code = cc) (hT : ∀ w ∈ lw_good, w.before args s = true) (hown : s.vm.findClass R_Parser = some m.cls) (hK : va_K (dC, dI) cls_all (gT LH km) s) (hP : va_P (dC, dI) cls_all (gW LH ad km T) H) (hdg : decode cc pc = .ok (.getfield 100, 3)) (kk : W p l e R s m args below meth c H locs cells slots Q (F0 m (pc + 3) ls (.ref (ad 31) :: rest))) : W p l e R s m args below meth c H locs cells slots Q (F0 m pc ls (.ref (ad 2) :: rest)) := gw_get hx hb hT i_Items hown hK hP 2 7 34 (Nat.le_of_ble_eq_true rfl) rfl rfl (Nat.le_of_ble_eq_true rfl) rfl (gv_a rfl) (hT _ fl_Parser_100) (fun _ h9 => h9) hdg kk
theorem laH_19 (hx : p.tables.exec = Jvm.exec) (hb : c.code = cc) (hK : va_K (dC, dI) cls_all (gT LH km) s) (hP : va_P (dC, dI) cls_all (gW LH ad km T) H) {x : Int32} (hin : inb x 24) (hdg : decode cc pc = .ok (.iaload, 1)) (kk : W p l e R s m args below meth c H locs cells slots Q (F0 m (pc + 1) ls (.int (T.1 34 x.toNatClampNeg) :: rest))) : W p l e R s m args below meth c H locs cells slots Q (F0 m pc ls (.int x :: .ref (ad 31) :: rest)) := gw_iald hx hb hK hP 19 34 24 31 (Nat.le_of_ble_eq_true rfl) rfl rfl rfl rfl rfl hin hdg kk
theorem saH_19 (hx : p.tables.exec = Jvm.exec) (hb : c.code = cc) (hK : va_K (dC, dI) cls_all (gT LH km) s) (hP : va_P (dC, dI) cls_all (gW LH ad km T) H) (hD : va_D A (gW LH ad km T)) (hS : va_S A H0 H locs) {x : Int32} {v : Int32} (hin : inb x 24) (hdg : decode cc pc = .ok (.iastore, 1)) (kk : ∀ (T1 : gSt), T1 = sI T 34 x.toNatClampNeg v → ∀ (H1 : Heap) (locs1 : List Loc), va_P (dC, dI) cls_all (gW LH ad km T1) H1 → va_D A (gW LH ad km T1) → va_S A H0 H1 locs1 → W p l e R s m args below meth c H1 locs1 cells slots Q (F0 m (pc + 1) ls rest)) : W p l e R s m args below meth c H locs cells slots Q (F0 m pc ls (.int v :: .int x :: .ref (ad 31) :: rest)) := gw_iast okH hx hb hK hP hD hS 19 34 24 31 (Nat.le_of_ble_eq_true rfl) rfl rfl rfl rfl rfl hin hdg kk
theorem rd_Parser_103 (hx : p.tables.exec = Jvm.exec) (hb : c.code = cc) (hT : ∀ w ∈ lw_good, w.before args s = true) (hown : s.vm.findClass R_Parser = some m.cls) (hK : va_K (dC, dI) cls_all (gT LH km) s) (hP : va_P (dC, dI) cls_all (gW LH ad km T) H) (hdg : decode cc pc = .ok (.getfield 103, 3)) (kk : W p l e R s m args below meth c H locs cells slots Q (F0 m (pc + 3) ls (.ref (ad 32) :: rest))) : W p l e R s m args below meth c H locs cells slots Q (F0 m pc ls (.ref (ad 2) :: rest)) := gw_get hx hb hT i_Items hown hK hP 2 8 35 (Nat.le_of_ble_eq_true rfl) rfl rfl (Nat.le_of_ble_eq_true rfl) rfl (gv_a rfl) (hT _ fl_Parser_103) (fun _ h9 => h9) hdg kk
theorem laH_20 (hx : p.tables.exec = Jvm.exec) (hb : c.code = cc) (hK : va_K (dC, dI) cls_all (gT LH km) s) (hP : va_P (dC, dI) cls_all (gW LH ad km T) H) {x : Int32} (hin : inb x 24) (hdg : decode cc pc = .ok (.iaload, 1)) (kk : W p l e R s m args below meth c H locs cells slots Q (F0 m (pc + 1) ls (.int (T.1 35 x.toNatClampNeg) :: rest))) : W p l e R s m args below meth c H locs cells slots Q (F0 m pc ls (.int x :: .ref (ad 32) :: rest)) := gw_iald hx hb hK hP 20 35 24 32 (Nat.le_of_ble_eq_true rfl) rfl rfl rfl rfl rfl hin hdg kk
theorem saH_20 (hx : p.tables.exec = Jvm.exec) (hb : c.code = cc) (hK : va_K (dC, dI) cls_all (gT LH km) s) (hP : va_P (dC, dI) cls_all (gW LH ad km T) H) (hD : va_D A (gW LH ad km T)) (hS : va_S A H0 H locs) {x : Int32} {v : Int32} (hin : inb x 24) (hdg : decode cc pc = .ok (.iastore, 1)) (kk : ∀ (T1 : gSt), T1 = sI T 35 x.toNatClampNeg v → ∀ (H1 : Heap) (locs1 : List Loc), va_P (dC, dI) cls_all (gW LH ad km T1) H1 → va_D A (gW LH ad km T1) → va_S A H0 H1 locs1 → W p l e R s m args below meth c H1 locs1 cells slots Q (F0 m (pc + 1) ls rest)) : W p l e R s m args below meth c H locs cells slots Q (F0 m pc ls (.int v :: .int x :: .ref (ad 32) :: rest)) := gw_iast okH hx hb hK hP hD hS 20 35 24 32 (Nat.le_of_ble_eq_true rfl) rfl rfl rfl rfl rfl hin hdg kk
end GV
def mt_House_end (l : Launch) (dC : Nat → ClassId) (dI : Nat → Nat → Nat) (ea ev ad : Nat → Nat) (km : Nat → ClassId) (F : gF) (d : Nat) : Prop := ∀ (T : gSt) (p1 : Int32) (r : Int32) (rl : Int64) (T' : gSt), F 2 T [p1] [] = some (r, rl, T') → GMi l dC dI LH ad km ea ev y_House_end w_House_end (rmD d) [.ref (ad 0), .int p1] T r T'
theorem pd_House_end : (y_House_end).cls = R_House ∧ (y_House_end).cls ≠ "java/lang/invoke/MethodHandle" ∧ (y_House_end).cls ≠ "java/lang/invoke/VarHandle" ∧ (parseMethodDescriptor (y_House_end).desc).map (fun d => d.parameters.length) = some 1 := by decide +kernel
def mt_Machine_halt (l : Launch) (dC : Nat → ClassId) (dI : Nat → Nat → Nat) (ea ev ad : Nat → Nat) (km : Nat → ClassId) (F : gF) (d : Nat) : Prop := ∀ (T : gSt)  (r : Int32) (rl : Int64) (T' : gSt), F 192 T [] [] = some (r, rl, T') → GMv l dC dI LH ad km ea ev y_Machine_halt w_Machine_halt (rmD d) [.ref (ad 10)] T T'
theorem pd_Machine_halt : (y_Machine_halt).cls = R_Machine ∧ (y_Machine_halt).cls ≠ "java/lang/invoke/MethodHandle" ∧ (y_Machine_halt).cls ≠ "java/lang/invoke/VarHandle" ∧ (parseMethodDescriptor (y_Machine_halt).desc).map (fun d => d.parameters.length) = some 0 := by decide +kernel
def mt_Code_clear (l : Launch) (dC : Nat → ClassId) (dI : Nat → Nat → Nat) (ea ev ad : Nat → Nat) (km : Nat → ClassId) (F : gF) (d : Nat) : Prop := ∀ (T : gSt)  (r : Int32) (rl : Int64) (T' : gSt), F 46 T [] [] = some (r, rl, T') → GMv l dC dI LH ad km ea ev y_Code_clear w_Code_clear (rmD d) [.ref (ad 3)] T T'
theorem pd_Code_clear : (y_Code_clear).cls = R_Code ∧ (y_Code_clear).cls ≠ "java/lang/invoke/MethodHandle" ∧ (y_Code_clear).cls ≠ "java/lang/invoke/VarHandle" ∧ (parseMethodDescriptor (y_Code_clear).desc).map (fun d => d.parameters.length) = some 0 := by decide +kernel
def mt_Source_scan (l : Launch) (dC : Nat → ClassId) (dI : Nat → Nat → Nat) (ea ev ad : Nat → Nat) (km : Nat → ClassId) (F : gF) (d : Nat) : Prop := ∀ (T : gSt) (p2 : Int32) (r : Int32) (rl : Int64) (T' : gSt), F 14 T [p2] [] = some (r, rl, T') → GMv l dC dI LH ad km ea ev y_Source_scan w_Source_scan (rmD d) [.ref (ad 1), .ref (ad 12), .int p2] T T'
theorem pd_Source_scan : (y_Source_scan).cls = R_Source ∧ (y_Source_scan).cls ≠ "java/lang/invoke/MethodHandle" ∧ (y_Source_scan).cls ≠ "java/lang/invoke/VarHandle" ∧ (parseMethodDescriptor (y_Source_scan).desc).map (fun d => d.parameters.length) = some 2 := by decide +kernel
def mt_Parser_parse (l : Launch) (dC : Nat → ClassId) (dI : Nat → Nat → Nat) (ea ev ad : Nat → Nat) (km : Nat → ClassId) (F : gF) (d : Nat) : Prop := ∀ (T : gSt)  (r : Int32) (rl : Int64) (T' : gSt), F 57 T [] [] = some (r, rl, T') → GMv l dC dI LH ad km ea ev y_Parser_parse w_Parser_parse (rmD d) [.ref (ad 4)] T T'
theorem pd_Parser_parse : (y_Parser_parse).cls = R_Parser ∧ (y_Parser_parse).cls ≠ "java/lang/invoke/MethodHandle" ∧ (y_Parser_parse).cls ≠ "java/lang/invoke/VarHandle" ∧ (parseMethodDescriptor (y_Parser_parse).desc).map (fun d => d.parameters.length) = some 0 := by decide +kernel
def mt_Code_isSound (l : Launch) (dC : Nat → ClassId) (dI : Nat → Nat → Nat) (ea ev ad : Nat → Nat) (km : Nat → ClassId) (F : gF) (d : Nat) : Prop := ∀ (T : gSt)  (r : Int32) (rl : Int64) (T' : gSt), F 48 T [] [] = some (r, rl, T') → GMi l dC dI LH ad km ea ev y_Code_isSound w_Code_isSound (rmD d) [.ref (ad 3)] T r T'
theorem pd_Code_isSound : (y_Code_isSound).cls = R_Code ∧ (y_Code_isSound).cls ≠ "java/lang/invoke/MethodHandle" ∧ (y_Code_isSound).cls ≠ "java/lang/invoke/VarHandle" ∧ (parseMethodDescriptor (y_Code_isSound).desc).map (fun d => d.parameters.length) = some 0 := by decide +kernel
def mt_Steps_check (l : Launch) (dC : Nat → ClassId) (dI : Nat → Nat → Nat) (ea ev ad : Nat → Nat) (km : Nat → ClassId) (F : gF) (d : Nat) : Prop := ∀ (T : gSt)  (r : Int32) (rl : Int64) (T' : gSt), F 178 T [] [] = some (r, rl, T') → GMv l dC dI LH ad km ea ev y_Steps_check w_Steps_check (rmD d) [.ref (ad 9)] T T'
theorem pd_Steps_check : (y_Steps_check).cls = R_Steps ∧ (y_Steps_check).cls ≠ "java/lang/invoke/MethodHandle" ∧ (y_Steps_check).cls ≠ "java/lang/invoke/VarHandle" ∧ (parseMethodDescriptor (y_Steps_check).desc).map (fun d => d.parameters.length) = some 0 := by decide +kernel
def mt_Heads_check (l : Launch) (dC : Nat → ClassId) (dI : Nat → Nat → Nat) (ea ev ad : Nat → Nat) (km : Nat → ClassId) (F : gF) (d : Nat) : Prop := ∀ (T : gSt)  (r : Int32) (rl : Int64) (T' : gSt), F 126 T [] [] = some (r, rl, T') → GMv l dC dI LH ad km ea ev y_Heads_check w_Heads_check (rmD d) [.ref (ad 7)] T T'
theorem pd_Heads_check : (y_Heads_check).cls = R_Heads ∧ (y_Heads_check).cls ≠ "java/lang/invoke/MethodHandle" ∧ (y_Heads_check).cls ≠ "java/lang/invoke/VarHandle" ∧ (parseMethodDescriptor (y_Heads_check).desc).map (fun d => d.parameters.length) = some 0 := by decide +kernel
def mt_House_build (l : Launch) (dC : Nat → ClassId) (dI : Nat → Nat → Nat) (ea ev ad : Nat → Nat) (km : Nat → ClassId) (F : gF) (d : Nat) : Prop := ∀ (T : gSt)  (r : Int32) (rl : Int64) (T' : gSt), F 3 T [] [] = some (r, rl, T') → GMi l dC dI LH ad km ea ev y_House_build w_House_build (rmD d) [.ref (ad 0)] T r T'
theorem pd_House_build : (y_House_build).cls = R_House ∧ (y_House_build).cls ≠ "java/lang/invoke/MethodHandle" ∧ (y_House_build).cls ≠ "java/lang/invoke/VarHandle" ∧ (parseMethodDescriptor (y_House_build).desc).map (fun d => d.parameters.length) = some 0 := by decide +kernel
def mt_House_fault (l : Launch) (dC : Nat → ClassId) (dI : Nat → Nat → Nat) (ea ev ad : Nat → Nat) (km : Nat → ClassId) (F : gF) (d : Nat) : Prop := ∀ (T : gSt) (p1 : Int32) (r : Int32) (rl : Int64) (T' : gSt), F 4 T [p1] [] = some (r, rl, T') → GMi l dC dI LH ad km ea ev y_House_fault w_House_fault (rmD d) [.ref (ad 0), .int p1] T r T'
theorem pd_House_fault : (y_House_fault).cls = R_House ∧ (y_House_fault).cls ≠ "java/lang/invoke/MethodHandle" ∧ (y_House_fault).cls ≠ "java/lang/invoke/VarHandle" ∧ (parseMethodDescriptor (y_House_fault).desc).map (fun d => d.parameters.length) = some 1 := by decide +kernel
def mt_House_program (l : Launch) (dC : Nat → ClassId) (dI : Nat → Nat → Nat) (ea ev ad : Nat → Nat) (km : Nat → ClassId) (F : gF) (d : Nat) : Prop := ∀ (T : gSt) (p1 : Int32) (r : Int32) (rl : Int64) (T' : gSt), F 5 T [p1] [] = some (r, rl, T') → GMi l dC dI LH ad km ea ev y_House_program w_House_program (rmD d) [.ref (ad 0), .int p1] T r T'
theorem pd_House_program : (y_House_program).cls = R_House ∧ (y_House_program).cls ≠ "java/lang/invoke/MethodHandle" ∧ (y_House_program).cls ≠ "java/lang/invoke/VarHandle" ∧ (parseMethodDescriptor (y_House_program).desc).map (fun d => d.parameters.length) = some 1 := by decide +kernel
def mt_Machine_begin (l : Launch) (dC : Nat → ClassId) (dI : Nat → Nat → Nat) (ea ev ad : Nat → Nat) (km : Nat → ClassId) (F : gF) (d : Nat) : Prop := ∀ (T : gSt) (p1 : Int32) (p2 : Int32) (r : Int32) (rl : Int64) (T' : gSt), F 193 T [p1, p2] [] = some (r, rl, T') → GMv l dC dI LH ad km ea ev y_Machine_begin w_Machine_begin (rmD d) [.ref (ad 10), .int p1, .int p2] T T'
theorem pd_Machine_begin : (y_Machine_begin).cls = R_Machine ∧ (y_Machine_begin).cls ≠ "java/lang/invoke/MethodHandle" ∧ (y_Machine_begin).cls ≠ "java/lang/invoke/VarHandle" ∧ (parseMethodDescriptor (y_Machine_begin).desc).map (fun d => d.parameters.length) = some 2 := by decide +kernel
def mt_House_start (l : Launch) (dC : Nat → ClassId) (dI : Nat → Nat → Nat) (ea ev ad : Nat → Nat) (km : Nat → ClassId) (F : gF) (d : Nat) : Prop := ∀ (T : gSt) (p1 : Int32) (p2 : Int32) (r : Int32) (rl : Int64) (T' : gSt), F 6 T [p1, p2] [] = some (r, rl, T') → GMi l dC dI LH ad km ea ev y_House_start w_House_start (rmD d) [.ref (ad 0), .int p1, .int p2] T r T'
theorem pd_House_start : (y_House_start).cls = R_House ∧ (y_House_start).cls ≠ "java/lang/invoke/MethodHandle" ∧ (y_House_start).cls ≠ "java/lang/invoke/VarHandle" ∧ (parseMethodDescriptor (y_House_start).desc).map (fun d => d.parameters.length) = some 2 := by decide +kernel
def mt_Machine_takeInput (l : Launch) (dC : Nat → ClassId) (dI : Nat → Nat → Nat) (ea ev ad : Nat → Nat) (km : Nat → ClassId) (F : gF) (d : Nat) : Prop := ∀ (T : gSt) (p1 : Int32) (r : Int32) (rl : Int64) (T' : gSt), F 194 T [p1] [] = some (r, rl, T') → GMi l dC dI LH ad km ea ev y_Machine_takeInput w_Machine_takeInput (rmD d) [.ref (ad 10), .int p1] T r T'
theorem pd_Machine_takeInput : (y_Machine_takeInput).cls = R_Machine ∧ (y_Machine_takeInput).cls ≠ "java/lang/invoke/MethodHandle" ∧ (y_Machine_takeInput).cls ≠ "java/lang/invoke/VarHandle" ∧ (parseMethodDescriptor (y_Machine_takeInput).desc).map (fun d => d.parameters.length) = some 1 := by decide +kernel
def mt_House_input (l : Launch) (dC : Nat → ClassId) (dI : Nat → Nat → Nat) (ea ev ad : Nat → Nat) (km : Nat → ClassId) (F : gF) (d : Nat) : Prop := ∀ (T : gSt) (p1 : Int32) (r : Int32) (rl : Int64) (T' : gSt), F 7 T [p1] [] = some (r, rl, T') → GMi l dC dI LH ad km ea ev y_House_input w_House_input (rmD d) [.ref (ad 0), .int p1] T r T'
theorem pd_House_input : (y_House_input).cls = R_House ∧ (y_House_input).cls ≠ "java/lang/invoke/MethodHandle" ∧ (y_House_input).cls ≠ "java/lang/invoke/VarHandle" ∧ (parseMethodDescriptor (y_House_input).desc).map (fun d => d.parameters.length) = some 1 := by decide +kernel
def mt_Machine_doSteps (l : Launch) (dC : Nat → ClassId) (dI : Nat → Nat → Nat) (ea ev ad : Nat → Nat) (km : Nat → ClassId) (F : gF) (d : Nat) : Prop := ∀ (T : gSt) (p1 : Int32) (r : Int32) (rl : Int64) (T' : gSt), F 195 T [p1] [] = some (r, rl, T') → GMi l dC dI LH ad km ea ev y_Machine_doSteps w_Machine_doSteps (rmD d) [.ref (ad 10), .int p1] T r T'
theorem pd_Machine_doSteps : (y_Machine_doSteps).cls = R_Machine ∧ (y_Machine_doSteps).cls ≠ "java/lang/invoke/MethodHandle" ∧ (y_Machine_doSteps).cls ≠ "java/lang/invoke/VarHandle" ∧ (parseMethodDescriptor (y_Machine_doSteps).desc).map (fun d => d.parameters.length) = some 1 := by decide +kernel
def mt_House_run (l : Launch) (dC : Nat → ClassId) (dI : Nat → Nat → Nat) (ea ev ad : Nat → Nat) (km : Nat → ClassId) (F : gF) (d : Nat) : Prop := ∀ (T : gSt) (p1 : Int32) (r : Int32) (rl : Int64) (T' : gSt), F 8 T [p1] [] = some (r, rl, T') → GMi l dC dI LH ad km ea ev y_House_run w_House_run (rmD d) [.ref (ad 0), .int p1] T r T'
theorem pd_House_run : (y_House_run).cls = R_House ∧ (y_House_run).cls ≠ "java/lang/invoke/MethodHandle" ∧ (y_House_run).cls ≠ "java/lang/invoke/VarHandle" ∧ (parseMethodDescriptor (y_House_run).desc).map (fun d => d.parameters.length) = some 1 := by decide +kernel
def mt_Machine_placeOfStep (l : Launch) (dC : Nat → ClassId) (dI : Nat → Nat → Nat) (ea ev ad : Nat → Nat) (km : Nat → ClassId) (F : gF) (d : Nat) : Prop := ∀ (T : gSt)  (r : Int32) (rl : Int64) (T' : gSt), F 219 T [] [] = some (r, rl, T') → GMi l dC dI LH ad km ea ev y_Machine_placeOfStep w_Machine_placeOfStep (rmD d) [.ref (ad 10)] T r T'
theorem pd_Machine_placeOfStep : (y_Machine_placeOfStep).cls = R_Machine ∧ (y_Machine_placeOfStep).cls ≠ "java/lang/invoke/MethodHandle" ∧ (y_Machine_placeOfStep).cls ≠ "java/lang/invoke/VarHandle" ∧ (parseMethodDescriptor (y_Machine_placeOfStep).desc).map (fun d => d.parameters.length) = some 0 := by decide +kernel
def mt_House_state (l : Launch) (dC : Nat → ClassId) (dI : Nat → Nat → Nat) (ea ev ad : Nat → Nat) (km : Nat → ClassId) (F : gF) (d : Nat) : Prop := ∀ (T : gSt) (p1 : Int32) (r : Int32) (rl : Int64) (T' : gSt), F 9 T [p1] [] = some (r, rl, T') → GMi l dC dI LH ad km ea ev y_House_state w_House_state (rmD d) [.ref (ad 0), .int p1] T r T'
theorem pd_House_state : (y_House_state).cls = R_House ∧ (y_House_state).cls ≠ "java/lang/invoke/MethodHandle" ∧ (y_House_state).cls ≠ "java/lang/invoke/VarHandle" ∧ (parseMethodDescriptor (y_House_state).desc).map (fun d => d.parameters.length) = some 1 := by decide +kernel
def mt_Machine_tell (l : Launch) (dC : Nat → ClassId) (dI : Nat → Nat → Nat) (ea ev ad : Nat → Nat) (km : Nat → ClassId) (F : gF) (d : Nat) : Prop := ∀ (T : gSt) (p1 : Int32) (r : Int32) (rl : Int64) (T' : gSt), F 220 T [p1] [] = some (r, rl, T') → GMi l dC dI LH ad km ea ev y_Machine_tell w_Machine_tell (rmD d) [.ref (ad 10), .int p1] T r T'
theorem pd_Machine_tell : (y_Machine_tell).cls = R_Machine ∧ (y_Machine_tell).cls ≠ "java/lang/invoke/MethodHandle" ∧ (y_Machine_tell).cls ≠ "java/lang/invoke/VarHandle" ∧ (parseMethodDescriptor (y_Machine_tell).desc).map (fun d => d.parameters.length) = some 1 := by decide +kernel
def mt_House_world (l : Launch) (dC : Nat → ClassId) (dI : Nat → Nat → Nat) (ea ev ad : Nat → Nat) (km : Nat → ClassId) (F : gF) (d : Nat) : Prop := ∀ (T : gSt) (p1 : Int32) (r : Int32) (rl : Int64) (T' : gSt), F 10 T [p1] [] = some (r, rl, T') → GMi l dC dI LH ad km ea ev y_House_world w_House_world (rmD d) [.ref (ad 0), .int p1] T r T'
theorem pd_House_world : (y_House_world).cls = R_House ∧ (y_House_world).cls ≠ "java/lang/invoke/MethodHandle" ∧ (y_House_world).cls ≠ "java/lang/invoke/VarHandle" ∧ (parseMethodDescriptor (y_House_world).desc).map (fun d => d.parameters.length) = some 1 := by decide +kernel
def mt_Memory_tellRegion (l : Launch) (dC : Nat → ClassId) (dI : Nat → Nat → Nat) (ea ev ad : Nat → Nat) (km : Nat → ClassId) (F : gF) (d : Nat) : Prop := ∀ (T : gSt) (p1 : Int32) (p2 : Int32) (r : Int32) (rl : Int64) (T' : gSt), F 236 T [p1, p2] [] = some (r, rl, T') → GMi l dC dI LH ad km ea ev y_Memory_tellRegion w_Memory_tellRegion (rmD d) [.ref (ad 11), .int p1, .int p2] T r T'
theorem pd_Memory_tellRegion : (y_Memory_tellRegion).cls = R_Memory ∧ (y_Memory_tellRegion).cls ≠ "java/lang/invoke/MethodHandle" ∧ (y_Memory_tellRegion).cls ≠ "java/lang/invoke/VarHandle" ∧ (parseMethodDescriptor (y_Memory_tellRegion).desc).map (fun d => d.parameters.length) = some 2 := by decide +kernel
def mt_House_region (l : Launch) (dC : Nat → ClassId) (dI : Nat → Nat → Nat) (ea ev ad : Nat → Nat) (km : Nat → ClassId) (F : gF) (d : Nat) : Prop := ∀ (T : gSt) (p1 : Int32) (p2 : Int32) (r : Int32) (rl : Int64) (T' : gSt), F 11 T [p1, p2] [] = some (r, rl, T') → GMi l dC dI LH ad km ea ev y_House_region w_House_region (rmD d) [.ref (ad 0), .int p1, .int p2] T r T'
theorem pd_House_region : (y_House_region).cls = R_House ∧ (y_House_region).cls ≠ "java/lang/invoke/MethodHandle" ∧ (y_House_region).cls ≠ "java/lang/invoke/VarHandle" ∧ (parseMethodDescriptor (y_House_region).desc).map (fun d => d.parameters.length) = some 2 := by decide +kernel
def mt_Machine_printedAt (l : Launch) (dC : Nat → ClassId) (dI : Nat → Nat → Nat) (ea ev ad : Nat → Nat) (km : Nat → ClassId) (F : gF) (d : Nat) : Prop := ∀ (T : gSt) (p1 : Int32) (r : Int32) (rl : Int64) (T' : gSt), F 221 T [p1] [] = some (r, rl, T') → GMi l dC dI LH ad km ea ev y_Machine_printedAt w_Machine_printedAt (rmD d) [.ref (ad 10), .int p1] T r T'
theorem pd_Machine_printedAt : (y_Machine_printedAt).cls = R_Machine ∧ (y_Machine_printedAt).cls ≠ "java/lang/invoke/MethodHandle" ∧ (y_Machine_printedAt).cls ≠ "java/lang/invoke/VarHandle" ∧ (parseMethodDescriptor (y_Machine_printedAt).desc).map (fun d => d.parameters.length) = some 1 := by decide +kernel
def mt_House_printed (l : Launch) (dC : Nat → ClassId) (dI : Nat → Nat → Nat) (ea ev ad : Nat → Nat) (km : Nat → ClassId) (F : gF) (d : Nat) : Prop := ∀ (T : gSt) (p1 : Int32) (r : Int32) (rl : Int64) (T' : gSt), F 12 T [p1] [] = some (r, rl, T') → GMi l dC dI LH ad km ea ev y_House_printed w_House_printed (rmD d) [.ref (ad 0), .int p1] T r T'
theorem pd_House_printed : (y_House_printed).cls = R_House ∧ (y_House_printed).cls ≠ "java/lang/invoke/MethodHandle" ∧ (y_House_printed).cls ≠ "java/lang/invoke/VarHandle" ∧ (parseMethodDescriptor (y_House_printed).desc).map (fun d => d.parameters.length) = some 1 := by decide +kernel
def mt_Source_kindAt (l : Launch) (dC : Nat → ClassId) (dI : Nat → Nat → Nat) (ea ev ad : Nat → Nat) (km : Nat → ClassId) (F : gF) (d : Nat) : Prop := ∀ (T : gSt) (p1 : Int32) (r : Int32) (rl : Int64) (T' : gSt), F 25 T [p1] [] = some (r, rl, T') → GMi l dC dI LH ad km ea ev y_Source_kindAt w_Source_kindAt (rmD d) [.ref (ad 1), .int p1] T r T'
theorem pd_Source_kindAt : (y_Source_kindAt).cls = R_Source ∧ (y_Source_kindAt).cls ≠ "java/lang/invoke/MethodHandle" ∧ (y_Source_kindAt).cls ≠ "java/lang/invoke/VarHandle" ∧ (parseMethodDescriptor (y_Source_kindAt).desc).map (fun d => d.parameters.length) = some 1 := by decide +kernel
def mt_Source_startOf (l : Launch) (dC : Nat → ClassId) (dI : Nat → Nat → Nat) (ea ev ad : Nat → Nat) (km : Nat → ClassId) (F : gF) (d : Nat) : Prop := ∀ (T : gSt) (p1 : Int32) (r : Int32) (rl : Int64) (T' : gSt), F 26 T [p1] [] = some (r, rl, T') → GMi l dC dI LH ad km ea ev y_Source_startOf w_Source_startOf (rmD d) [.ref (ad 1), .int p1] T r T'
theorem pd_Source_startOf : (y_Source_startOf).cls = R_Source ∧ (y_Source_startOf).cls ≠ "java/lang/invoke/MethodHandle" ∧ (y_Source_startOf).cls ≠ "java/lang/invoke/VarHandle" ∧ (parseMethodDescriptor (y_Source_startOf).desc).map (fun d => d.parameters.length) = some 1 := by decide +kernel
def mt_Source_nameAt (l : Launch) (dC : Nat → ClassId) (dI : Nat → Nat → Nat) (ea ev ad : Nat → Nat) (km : Nat → ClassId) (F : gF) (d : Nat) : Prop := ∀ (T : gSt) (p1 : Int32) (r : Int32) (rl : Int64) (T' : gSt), F 27 T [p1] [] = some (r, rl, T') → GMl l dC dI LH ad km ea ev y_Source_nameAt w_Source_nameAt (rmD d) [.ref (ad 1), .int p1] T rl T'
theorem pd_Source_nameAt : (y_Source_nameAt).cls = R_Source ∧ (y_Source_nameAt).cls ≠ "java/lang/invoke/MethodHandle" ∧ (y_Source_nameAt).cls ≠ "java/lang/invoke/VarHandle" ∧ (parseMethodDescriptor (y_Source_nameAt).desc).map (fun d => d.parameters.length) = some 1 := by decide +kernel
def mt_Source_addNode (l : Launch) (dC : Nat → ClassId) (dI : Nat → Nat → Nat) (ea ev ad : Nat → Nat) (km : Nat → ClassId) (F : gF) (d : Nat) : Prop := ∀ (T : gSt) (p1 : Int32) (p2 : Int32) (r : Int32) (rl : Int64) (T' : gSt), F 28 T [p1, p2] [] = some (r, rl, T') → GMi l dC dI LH ad km ea ev y_Source_addNode w_Source_addNode (rmD d) [.ref (ad 1), .int p1, .int p2] T r T'
theorem pd_Source_addNode : (y_Source_addNode).cls = R_Source ∧ (y_Source_addNode).cls ≠ "java/lang/invoke/MethodHandle" ∧ (y_Source_addNode).cls ≠ "java/lang/invoke/VarHandle" ∧ (parseMethodDescriptor (y_Source_addNode).desc).map (fun d => d.parameters.length) = some 2 := by decide +kernel
def mt_Source_isBareParen (l : Launch) (dC : Nat → ClassId) (dI : Nat → Nat → Nat) (ea ev ad : Nat → Nat) (km : Nat → ClassId) (F : gF) (d : Nat) : Prop := ∀ (T : gSt) (p1 : Int32) (r : Int32) (rl : Int64) (T' : gSt), F 31 T [p1] [] = some (r, rl, T') → GMi l dC dI LH ad km ea ev y_Source_isBareParen w_Source_isBareParen (rmD d) [.ref (ad 1), .int p1] T r T'
theorem pd_Source_isBareParen : (y_Source_isBareParen).cls = R_Source ∧ (y_Source_isBareParen).cls ≠ "java/lang/invoke/MethodHandle" ∧ (y_Source_isBareParen).cls ≠ "java/lang/invoke/VarHandle" ∧ (parseMethodDescriptor (y_Source_isBareParen).desc).map (fun d => d.parameters.length) = some 1 := by decide +kernel
def mt_Source_bare (l : Launch) (dC : Nat → ClassId) (dI : Nat → Nat → Nat) (ea ev ad : Nat → Nat) (km : Nat → ClassId) (F : gF) (d : Nat) : Prop := ∀ (T : gSt) (p1 : Int32) (r : Int32) (rl : Int64) (T' : gSt), F 29 T [p1] [] = some (r, rl, T') → GMi l dC dI LH ad km ea ev y_Source_bare w_Source_bare (rmD d) [.ref (ad 1), .int p1] T r T'
theorem pd_Source_bare : (y_Source_bare).cls = R_Source ∧ (y_Source_bare).cls ≠ "java/lang/invoke/MethodHandle" ∧ (y_Source_bare).cls ≠ "java/lang/invoke/VarHandle" ∧ (parseMethodDescriptor (y_Source_bare).desc).map (fun d => d.parameters.length) = some 1 := by decide +kernel
def mt_Source_bareTerm (l : Launch) (dC : Nat → ClassId) (dI : Nat → Nat → Nat) (ea ev ad : Nat → Nat) (km : Nat → ClassId) (F : gF) (d : Nat) : Prop := ∀ (T : gSt) (p1 : Int32) (r : Int32) (rl : Int64) (T' : gSt), F 30 T [p1] [] = some (r, rl, T') → GMi l dC dI LH ad km ea ev y_Source_bareTerm w_Source_bareTerm (rmD d) [.ref (ad 1), .int p1] T r T'
theorem pd_Source_bareTerm : (y_Source_bareTerm).cls = R_Source ∧ (y_Source_bareTerm).cls ≠ "java/lang/invoke/MethodHandle" ∧ (y_Source_bareTerm).cls ≠ "java/lang/invoke/VarHandle" ∧ (parseMethodDescriptor (y_Source_bareTerm).desc).map (fun d => d.parameters.length) = some 1 := by decide +kernel
def mt_Source_lastTail (l : Launch) (dC : Nat → ClassId) (dI : Nat → Nat → Nat) (ea ev ad : Nat → Nat) (km : Nat → ClassId) (F : gF) (d : Nat) : Prop := ∀ (T : gSt) (p1 : Int32) (r : Int32) (rl : Int64) (T' : gSt), F 32 T [p1] [] = some (r, rl, T') → GMi l dC dI LH ad km ea ev y_Source_lastTail w_Source_lastTail (rmD d) [.ref (ad 1), .int p1] T r T'
theorem pd_Source_lastTail : (y_Source_lastTail).cls = R_Source ∧ (y_Source_lastTail).cls ≠ "java/lang/invoke/MethodHandle" ∧ (y_Source_lastTail).cls ≠ "java/lang/invoke/VarHandle" ∧ (parseMethodDescriptor (y_Source_lastTail).desc).map (fun d => d.parameters.length) = some 1 := by decide +kernel
def mt_Source_beginOf (l : Launch) (dC : Nat → ClassId) (dI : Nat → Nat → Nat) (ea ev ad : Nat → Nat) (km : Nat → ClassId) (F : gF) (d : Nat) : Prop := ∀ (T : gSt) (p1 : Int32) (r : Int32) (rl : Int64) (T' : gSt), F 33 T [p1] [] = some (r, rl, T') → GMi l dC dI LH ad km ea ev y_Source_beginOf w_Source_beginOf (rmD d) [.ref (ad 1), .int p1] T r T'
theorem pd_Source_beginOf : (y_Source_beginOf).cls = R_Source ∧ (y_Source_beginOf).cls ≠ "java/lang/invoke/MethodHandle" ∧ (y_Source_beginOf).cls ≠ "java/lang/invoke/VarHandle" ∧ (parseMethodDescriptor (y_Source_beginOf).desc).map (fun d => d.parameters.length) = some 1 := by decide +kernel
def mt_Source_countPeers (l : Launch) (dC : Nat → ClassId) (dI : Nat → Nat → Nat) (ea ev ad : Nat → Nat) (km : Nat → ClassId) (F : gF) (d : Nat) : Prop := ∀ (T : gSt) (p1 : Int32) (r : Int32) (rl : Int64) (T' : gSt), F 34 T [p1] [] = some (r, rl, T') → GMi l dC dI LH ad km ea ev y_Source_countPeers w_Source_countPeers (rmD d) [.ref (ad 1), .int p1] T r T'
theorem pd_Source_countPeers : (y_Source_countPeers).cls = R_Source ∧ (y_Source_countPeers).cls ≠ "java/lang/invoke/MethodHandle" ∧ (y_Source_countPeers).cls ≠ "java/lang/invoke/VarHandle" ∧ (parseMethodDescriptor (y_Source_countPeers).desc).map (fun d => d.parameters.length) = some 1 := by decide +kernel
def mt_Source_countRegions (l : Launch) (dC : Nat → ClassId) (dI : Nat → Nat → Nat) (ea ev ad : Nat → Nat) (km : Nat → ClassId) (F : gF) (d : Nat) : Prop := ∀ (T : gSt) (p1 : Int32) (r : Int32) (rl : Int64) (T' : gSt), F 35 T [p1] [] = some (r, rl, T') → GMi l dC dI LH ad km ea ev y_Source_countRegions w_Source_countRegions (rmD d) [.ref (ad 1), .int p1] T r T'
theorem pd_Source_countRegions : (y_Source_countRegions).cls = R_Source ∧ (y_Source_countRegions).cls ≠ "java/lang/invoke/MethodHandle" ∧ (y_Source_countRegions).cls ≠ "java/lang/invoke/VarHandle" ∧ (parseMethodDescriptor (y_Source_countRegions).desc).map (fun d => d.parameters.length) = some 1 := by decide +kernel
def mt_Items_isPart (l : Launch) (dC : Nat → ClassId) (dI : Nat → Nat → Nat) (ea ev ad : Nat → Nat) (km : Nat → ClassId) (F : gF) (d : Nat) : Prop := ∀ (T : gSt) (p1 : Int32) (p2 : Int32) (r : Int32) (rl : Int64) (T' : gSt), F 44 T [p1, p2] [] = some (r, rl, T') → GMi l dC dI LH ad km ea ev y_Items_isPart w_Items_isPart (rmD d) [.ref (ad 2), .int p1, .int p2] T r T'
theorem pd_Items_isPart : (y_Items_isPart).cls = R_Items ∧ (y_Items_isPart).cls ≠ "java/lang/invoke/MethodHandle" ∧ (y_Items_isPart).cls ≠ "java/lang/invoke/VarHandle" ∧ (parseMethodDescriptor (y_Items_isPart).desc).map (fun d => d.parameters.length) = some 2 := by decide +kernel
def mt_Items_tokOfPart (l : Launch) (dC : Nat → ClassId) (dI : Nat → Nat → Nat) (ea ev ad : Nat → Nat) (km : Nat → ClassId) (F : gF) (d : Nat) : Prop := ∀ (T : gSt) (p1 : Int32) (p2 : Int32) (r : Int32) (rl : Int64) (T' : gSt), F 36 T [p1, p2] [] = some (r, rl, T') → GMi l dC dI LH ad km ea ev y_Items_tokOfPart w_Items_tokOfPart (rmD d) [.ref (ad 2), .int p1, .int p2] T r T'
theorem pd_Items_tokOfPart : (y_Items_tokOfPart).cls = R_Items ∧ (y_Items_tokOfPart).cls ≠ "java/lang/invoke/MethodHandle" ∧ (y_Items_tokOfPart).cls ≠ "java/lang/invoke/VarHandle" ∧ (parseMethodDescriptor (y_Items_tokOfPart).desc).map (fun d => d.parameters.length) = some 2 := by decide +kernel
def mt_Items_typeOfPart (l : Launch) (dC : Nat → ClassId) (dI : Nat → Nat → Nat) (ea ev ad : Nat → Nat) (km : Nat → ClassId) (F : gF) (d : Nat) : Prop := ∀ (T : gSt) (p1 : Int32) (p2 : Int32) (r : Int32) (rl : Int64) (T' : gSt), F 37 T [p1, p2] [] = some (r, rl, T') → GMi l dC dI LH ad km ea ev y_Items_typeOfPart w_Items_typeOfPart (rmD d) [.ref (ad 2), .int p1, .int p2] T r T'
theorem pd_Items_typeOfPart : (y_Items_typeOfPart).cls = R_Items ∧ (y_Items_typeOfPart).cls ≠ "java/lang/invoke/MethodHandle" ∧ (y_Items_typeOfPart).cls ≠ "java/lang/invoke/VarHandle" ∧ (parseMethodDescriptor (y_Items_typeOfPart).desc).map (fun d => d.parameters.length) = some 2 := by decide +kernel
def mt_Items_placeOfPart (l : Launch) (dC : Nat → ClassId) (dI : Nat → Nat → Nat) (ea ev ad : Nat → Nat) (km : Nat → ClassId) (F : gF) (d : Nat) : Prop := ∀ (T : gSt) (p1 : Int32) (p2 : Int32) (r : Int32) (rl : Int64) (T' : gSt), F 38 T [p1, p2] [] = some (r, rl, T') → GMi l dC dI LH ad km ea ev y_Items_placeOfPart w_Items_placeOfPart (rmD d) [.ref (ad 2), .int p1, .int p2] T r T'
theorem pd_Items_placeOfPart : (y_Items_placeOfPart).cls = R_Items ∧ (y_Items_placeOfPart).cls ≠ "java/lang/invoke/MethodHandle" ∧ (y_Items_placeOfPart).cls ≠ "java/lang/invoke/VarHandle" ∧ (parseMethodDescriptor (y_Items_placeOfPart).desc).map (fun d => d.parameters.length) = some 2 := by decide +kernel
def mt_Items_addPart (l : Launch) (dC : Nat → ClassId) (dI : Nat → Nat → Nat) (ea ev ad : Nat → Nat) (km : Nat → ClassId) (F : gF) (d : Nat) : Prop := ∀ (T : gSt) (p1 : Int32) (p2 : Int32) (r : Int32) (rl : Int64) (T' : gSt), F 39 T [p1, p2] [] = some (r, rl, T') → GMv l dC dI LH ad km ea ev y_Items_addPart w_Items_addPart (rmD d) [.ref (ad 2), .int p1, .int p2] T T'
theorem pd_Items_addPart : (y_Items_addPart).cls = R_Items ∧ (y_Items_addPart).cls ≠ "java/lang/invoke/MethodHandle" ∧ (y_Items_addPart).cls ≠ "java/lang/invoke/VarHandle" ∧ (parseMethodDescriptor (y_Items_addPart).desc).map (fun d => d.parameters.length) = some 2 := by decide +kernel
def mt_Items_setPart (l : Launch) (dC : Nat → ClassId) (dI : Nat → Nat → Nat) (ea ev ad : Nat → Nat) (km : Nat → ClassId) (F : gF) (d : Nat) : Prop := ∀ (T : gSt) (p1 : Int32) (p2 : Int32) (p3 : Int32) (p4 : Int32) (r : Int32) (rl : Int64) (T' : gSt), F 40 T [p1, p2, p3, p4] [] = some (r, rl, T') → GMv l dC dI LH ad km ea ev y_Items_setPart w_Items_setPart (rmD d) [.ref (ad 2), .int p1, .int p2, .int p3, .int p4] T T'
theorem pd_Items_setPart : (y_Items_setPart).cls = R_Items ∧ (y_Items_setPart).cls ≠ "java/lang/invoke/MethodHandle" ∧ (y_Items_setPart).cls ≠ "java/lang/invoke/VarHandle" ∧ (parseMethodDescriptor (y_Items_setPart).desc).map (fun d => d.parameters.length) = some 4 := by decide +kernel
def mt_Items_addPair (l : Launch) (dC : Nat → ClassId) (dI : Nat → Nat → Nat) (ea ev ad : Nat → Nat) (km : Nat → ClassId) (F : gF) (d : Nat) : Prop := ∀ (T : gSt) (p1 : Int32) (p2 : Int32) (p3 : Int32) (r : Int32) (rl : Int64) (T' : gSt), F 41 T [p1, p2, p3] [] = some (r, rl, T') → GMv l dC dI LH ad km ea ev y_Items_addPair w_Items_addPair (rmD d) [.ref (ad 2), .int p1, .int p2, .int p3] T T'
theorem pd_Items_addPair : (y_Items_addPair).cls = R_Items ∧ (y_Items_addPair).cls ≠ "java/lang/invoke/MethodHandle" ∧ (y_Items_addPair).cls ≠ "java/lang/invoke/VarHandle" ∧ (parseMethodDescriptor (y_Items_addPair).desc).map (fun d => d.parameters.length) = some 3 := by decide +kernel
def mt_Items_upperOf (l : Launch) (dC : Nat → ClassId) (dI : Nat → Nat → Nat) (ea ev ad : Nat → Nat) (km : Nat → ClassId) (F : gF) (d : Nat) : Prop := ∀ (T : gSt) (p1 : Int32) (p2 : Int32) (r : Int32) (rl : Int64) (T' : gSt), F 42 T [p1, p2] [] = some (r, rl, T') → GMi l dC dI LH ad km ea ev y_Items_upperOf w_Items_upperOf (rmD d) [.ref (ad 2), .int p1, .int p2] T r T'
theorem pd_Items_upperOf : (y_Items_upperOf).cls = R_Items ∧ (y_Items_upperOf).cls ≠ "java/lang/invoke/MethodHandle" ∧ (y_Items_upperOf).cls ≠ "java/lang/invoke/VarHandle" ∧ (parseMethodDescriptor (y_Items_upperOf).desc).map (fun d => d.parameters.length) = some 2 := by decide +kernel
def mt_Items_lowerOf (l : Launch) (dC : Nat → ClassId) (dI : Nat → Nat → Nat) (ea ev ad : Nat → Nat) (km : Nat → ClassId) (F : gF) (d : Nat) : Prop := ∀ (T : gSt) (p1 : Int32) (p2 : Int32) (r : Int32) (rl : Int64) (T' : gSt), F 43 T [p1, p2] [] = some (r, rl, T') → GMi l dC dI LH ad km ea ev y_Items_lowerOf w_Items_lowerOf (rmD d) [.ref (ad 2), .int p1, .int p2] T r T'
theorem pd_Items_lowerOf : (y_Items_lowerOf).cls = R_Items ∧ (y_Items_lowerOf).cls ≠ "java/lang/invoke/MethodHandle" ∧ (y_Items_lowerOf).cls ≠ "java/lang/invoke/VarHandle" ∧ (parseMethodDescriptor (y_Items_lowerOf).desc).map (fun d => d.parameters.length) = some 2 := by decide +kernel
def mt_Items_find (l : Launch) (dC : Nat → ClassId) (dI : Nat → Nat → Nat) (ea ev ad : Nat → Nat) (km : Nat → ClassId) (F : gF) (d : Nat) : Prop := ∀ (T : gSt) (p1 : Int64) (p2 : Int32) (r : Int32) (rl : Int64) (T' : gSt), F 45 T [p2] [p1] = some (r, rl, T') → GMi l dC dI LH ad km ea ev y_Items_find w_Items_find (rmD d) [.ref (ad 2), .long p1, .int p2] T r T'
theorem pd_Items_find : (y_Items_find).cls = R_Items ∧ (y_Items_find).cls ≠ "java/lang/invoke/MethodHandle" ∧ (y_Items_find).cls ≠ "java/lang/invoke/VarHandle" ∧ (parseMethodDescriptor (y_Items_find).desc).map (fun d => d.parameters.length) = some 2 := by decide +kernel
def mt_Code_note (l : Launch) (dC : Nat → ClassId) (dI : Nat → Nat → Nat) (ea ev ad : Nat → Nat) (km : Nat → ClassId) (F : gF) (d : Nat) : Prop := ∀ (T : gSt) (p1 : Int32) (p2 : Int32) (r : Int32) (rl : Int64) (T' : gSt), F 47 T [p1, p2] [] = some (r, rl, T') → GMv l dC dI LH ad km ea ev y_Code_note w_Code_note (rmD d) [.ref (ad 3), .int p1, .int p2] T T'
theorem pd_Code_note : (y_Code_note).cls = R_Code ∧ (y_Code_note).cls ≠ "java/lang/invoke/MethodHandle" ∧ (y_Code_note).cls ≠ "java/lang/invoke/VarHandle" ∧ (parseMethodDescriptor (y_Code_note).desc).map (fun d => d.parameters.length) = some 2 := by decide +kernel
def mt_Code_tally (l : Launch) (dC : Nat → ClassId) (dI : Nat → Nat → Nat) (ea ev ad : Nat → Nat) (km : Nat → ClassId) (F : gF) (d : Nat) : Prop := ∀ (T : gSt) (p1 : Int32) (r : Int32) (rl : Int64) (T' : gSt), F 49 T [p1] [] = some (r, rl, T') → GMv l dC dI LH ad km ea ev y_Code_tally w_Code_tally (rmD d) [.ref (ad 3), .int p1] T T'
theorem pd_Code_tally : (y_Code_tally).cls = R_Code ∧ (y_Code_tally).cls ≠ "java/lang/invoke/MethodHandle" ∧ (y_Code_tally).cls ≠ "java/lang/invoke/VarHandle" ∧ (parseMethodDescriptor (y_Code_tally).desc).map (fun d => d.parameters.length) = some 1 := by decide +kernel
def mt_Code_count (l : Launch) (dC : Nat → ClassId) (dI : Nat → Nat → Nat) (ea ev ad : Nat → Nat) (km : Nat → ClassId) (F : gF) (d : Nat) : Prop := ∀ (T : gSt)  (r : Int32) (rl : Int64) (T' : gSt), F 50 T [] [] = some (r, rl, T') → GMi l dC dI LH ad km ea ev y_Code_count w_Code_count (rmD d) [.ref (ad 3)] T r T'
theorem pd_Code_count : (y_Code_count).cls = R_Code ∧ (y_Code_count).cls ≠ "java/lang/invoke/MethodHandle" ∧ (y_Code_count).cls ≠ "java/lang/invoke/VarHandle" ∧ (parseMethodDescriptor (y_Code_count).desc).map (fun d => d.parameters.length) = some 0 := by decide +kernel
def mt_Code_emit (l : Launch) (dC : Nat → ClassId) (dI : Nat → Nat → Nat) (ea ev ad : Nat → Nat) (km : Nat → ClassId) (F : gF) (d : Nat) : Prop := ∀ (T : gSt) (p1 : Int32) (p2 : Int32) (p3 : Int32) (r : Int32) (rl : Int64) (T' : gSt), F 51 T [p1, p2, p3] [] = some (r, rl, T') → GMi l dC dI LH ad km ea ev y_Code_emit w_Code_emit (rmD d) [.ref (ad 3), .int p1, .int p2, .int p3] T r T'
theorem pd_Code_emit : (y_Code_emit).cls = R_Code ∧ (y_Code_emit).cls ≠ "java/lang/invoke/MethodHandle" ∧ (y_Code_emit).cls ≠ "java/lang/invoke/VarHandle" ∧ (parseMethodDescriptor (y_Code_emit).desc).map (fun d => d.parameters.length) = some 3 := by decide +kernel
def mt_Code_has (l : Launch) (dC : Nat → ClassId) (dI : Nat → Nat → Nat) (ea ev ad : Nat → Nat) (km : Nat → ClassId) (F : gF) (d : Nat) : Prop := ∀ (T : gSt) (p1 : Int32) (r : Int32) (rl : Int64) (T' : gSt), F 53 T [p1] [] = some (r, rl, T') → GMi l dC dI LH ad km ea ev y_Code_has w_Code_has (rmD d) [.ref (ad 3), .int p1] T r T'
theorem pd_Code_has : (y_Code_has).cls = R_Code ∧ (y_Code_has).cls ≠ "java/lang/invoke/MethodHandle" ∧ (y_Code_has).cls ≠ "java/lang/invoke/VarHandle" ∧ (parseMethodDescriptor (y_Code_has).desc).map (fun d => d.parameters.length) = some 1 := by decide +kernel
def mt_Code_aim (l : Launch) (dC : Nat → ClassId) (dI : Nat → Nat → Nat) (ea ev ad : Nat → Nat) (km : Nat → ClassId) (F : gF) (d : Nat) : Prop := ∀ (T : gSt) (p1 : Int32) (r : Int32) (rl : Int64) (T' : gSt), F 52 T [p1] [] = some (r, rl, T') → GMv l dC dI LH ad km ea ev y_Code_aim w_Code_aim (rmD d) [.ref (ad 3), .int p1] T T'
theorem pd_Code_aim : (y_Code_aim).cls = R_Code ∧ (y_Code_aim).cls ≠ "java/lang/invoke/MethodHandle" ∧ (y_Code_aim).cls ≠ "java/lang/invoke/VarHandle" ∧ (parseMethodDescriptor (y_Code_aim).desc).map (fun d => d.parameters.length) = some 1 := by decide +kernel
def mt_Code_opAt (l : Launch) (dC : Nat → ClassId) (dI : Nat → Nat → Nat) (ea ev ad : Nat → Nat) (km : Nat → ClassId) (F : gF) (d : Nat) : Prop := ∀ (T : gSt) (p1 : Int32) (r : Int32) (rl : Int64) (T' : gSt), F 54 T [p1] [] = some (r, rl, T') → GMi l dC dI LH ad km ea ev y_Code_opAt w_Code_opAt (rmD d) [.ref (ad 3), .int p1] T r T'
theorem pd_Code_opAt : (y_Code_opAt).cls = R_Code ∧ (y_Code_opAt).cls ≠ "java/lang/invoke/MethodHandle" ∧ (y_Code_opAt).cls ≠ "java/lang/invoke/VarHandle" ∧ (parseMethodDescriptor (y_Code_opAt).desc).map (fun d => d.parameters.length) = some 1 := by decide +kernel
def mt_Code_firstAt (l : Launch) (dC : Nat → ClassId) (dI : Nat → Nat → Nat) (ea ev ad : Nat → Nat) (km : Nat → ClassId) (F : gF) (d : Nat) : Prop := ∀ (T : gSt) (p1 : Int32) (r : Int32) (rl : Int64) (T' : gSt), F 55 T [p1] [] = some (r, rl, T') → GMi l dC dI LH ad km ea ev y_Code_firstAt w_Code_firstAt (rmD d) [.ref (ad 3), .int p1] T r T'
theorem pd_Code_firstAt : (y_Code_firstAt).cls = R_Code ∧ (y_Code_firstAt).cls ≠ "java/lang/invoke/MethodHandle" ∧ (y_Code_firstAt).cls ≠ "java/lang/invoke/VarHandle" ∧ (parseMethodDescriptor (y_Code_firstAt).desc).map (fun d => d.parameters.length) = some 1 := by decide +kernel
def mt_Code_secondAt (l : Launch) (dC : Nat → ClassId) (dI : Nat → Nat → Nat) (ea ev ad : Nat → Nat) (km : Nat → ClassId) (F : gF) (d : Nat) : Prop := ∀ (T : gSt) (p1 : Int32) (r : Int32) (rl : Int64) (T' : gSt), F 56 T [p1] [] = some (r, rl, T') → GMi l dC dI LH ad km ea ev y_Code_secondAt w_Code_secondAt (rmD d) [.ref (ad 3), .int p1] T r T'
theorem pd_Code_secondAt : (y_Code_secondAt).cls = R_Code ∧ (y_Code_secondAt).cls ≠ "java/lang/invoke/MethodHandle" ∧ (y_Code_secondAt).cls ≠ "java/lang/invoke/VarHandle" ∧ (parseMethodDescriptor (y_Code_secondAt).desc).map (fun d => d.parameters.length) = some 1 := by decide +kernel
def mt_Parser_parseHead (l : Launch) (dC : Nat → ClassId) (dI : Nat → Nat → Nat) (ea ev ad : Nat → Nat) (km : Nat → ClassId) (F : gF) (d : Nat) : Prop := ∀ (T : gSt) (p1 : Int32) (r : Int32) (rl : Int64) (T' : gSt), F 62 T [p1] [] = some (r, rl, T') → GMv l dC dI LH ad km ea ev y_Parser_parseHead w_Parser_parseHead (rmD d) [.ref (ad 4), .int p1] T T'
theorem pd_Parser_parseHead : (y_Parser_parseHead).cls = R_Parser ∧ (y_Parser_parseHead).cls ≠ "java/lang/invoke/MethodHandle" ∧ (y_Parser_parseHead).cls ≠ "java/lang/invoke/VarHandle" ∧ (parseMethodDescriptor (y_Parser_parseHead).desc).map (fun d => d.parameters.length) = some 1 := by decide +kernel
def mt_Parser_parseFields (l : Launch) (dC : Nat → ClassId) (dI : Nat → Nat → Nat) (ea ev ad : Nat → Nat) (km : Nat → ClassId) (F : gF) (d : Nat) : Prop := ∀ (T : gSt) (p1 : Int32) (r : Int32) (rl : Int64) (T' : gSt), F 64 T [p1] [] = some (r, rl, T') → GMv l dC dI LH ad km ea ev y_Parser_parseFields w_Parser_parseFields (rmD d) [.ref (ad 4), .int p1] T T'
theorem pd_Parser_parseFields : (y_Parser_parseFields).cls = R_Parser ∧ (y_Parser_parseFields).cls ≠ "java/lang/invoke/MethodHandle" ∧ (y_Parser_parseFields).cls ≠ "java/lang/invoke/VarHandle" ∧ (parseMethodDescriptor (y_Parser_parseFields).desc).map (fun d => d.parameters.length) = some 1 := by decide +kernel
def mt_Parser_parseFun (l : Launch) (dC : Nat → ClassId) (dI : Nat → Nat → Nat) (ea ev ad : Nat → Nat) (km : Nat → ClassId) (F : gF) (d : Nat) : Prop := ∀ (T : gSt) (p1 : Int32) (r : Int32) (rl : Int64) (T' : gSt), F 66 T [p1] [] = some (r, rl, T') → GMv l dC dI LH ad km ea ev y_Parser_parseFun w_Parser_parseFun (rmD d) [.ref (ad 4), .int p1] T T'
theorem pd_Parser_parseFun : (y_Parser_parseFun).cls = R_Parser ∧ (y_Parser_parseFun).cls ≠ "java/lang/invoke/MethodHandle" ∧ (y_Parser_parseFun).cls ≠ "java/lang/invoke/VarHandle" ∧ (parseMethodDescriptor (y_Parser_parseFun).desc).map (fun d => d.parameters.length) = some 1 := by decide +kernel
def mt_Parser_advance (l : Launch) (dC : Nat → ClassId) (dI : Nat → Nat → Nat) (ea ev ad : Nat → Nat) (km : Nat → ClassId) (F : gF) (d : Nat) : Prop := ∀ (T : gSt)  (r : Int32) (rl : Int64) (T' : gSt), F 58 T [] [] = some (r, rl, T') → GMv l dC dI LH ad km ea ev y_Parser_advance w_Parser_advance (rmD d) [.ref (ad 4)] T T'
theorem pd_Parser_advance : (y_Parser_advance).cls = R_Parser ∧ (y_Parser_advance).cls ≠ "java/lang/invoke/MethodHandle" ∧ (y_Parser_advance).cls ≠ "java/lang/invoke/VarHandle" ∧ (parseMethodDescriptor (y_Parser_advance).desc).map (fun d => d.parameters.length) = some 0 := by decide +kernel
def mt_Parser_accept (l : Launch) (dC : Nat → ClassId) (dI : Nat → Nat → Nat) (ea ev ad : Nat → Nat) (km : Nat → ClassId) (F : gF) (d : Nat) : Prop := ∀ (T : gSt) (p1 : Int32) (r : Int32) (rl : Int64) (T' : gSt), F 59 T [p1] [] = some (r, rl, T') → GMi l dC dI LH ad km ea ev y_Parser_accept w_Parser_accept (rmD d) [.ref (ad 4), .int p1] T r T'
theorem pd_Parser_accept : (y_Parser_accept).cls = R_Parser ∧ (y_Parser_accept).cls ≠ "java/lang/invoke/MethodHandle" ∧ (y_Parser_accept).cls ≠ "java/lang/invoke/VarHandle" ∧ (parseMethodDescriptor (y_Parser_accept).desc).map (fun d => d.parameters.length) = some 1 := by decide +kernel
def mt_Parser_stop (l : Launch) (dC : Nat → ClassId) (dI : Nat → Nat → Nat) (ea ev ad : Nat → Nat) (km : Nat → ClassId) (F : gF) (d : Nat) : Prop := ∀ (T : gSt)  (r : Int32) (rl : Int64) (T' : gSt), F 61 T [] [] = some (r, rl, T') → GMv l dC dI LH ad km ea ev y_Parser_stop w_Parser_stop (rmD d) [.ref (ad 4)] T T'
theorem pd_Parser_stop : (y_Parser_stop).cls = R_Parser ∧ (y_Parser_stop).cls ≠ "java/lang/invoke/MethodHandle" ∧ (y_Parser_stop).cls ≠ "java/lang/invoke/VarHandle" ∧ (parseMethodDescriptor (y_Parser_stop).desc).map (fun d => d.parameters.length) = some 0 := by decide +kernel
def mt_Parser_need (l : Launch) (dC : Nat → ClassId) (dI : Nat → Nat → Nat) (ea ev ad : Nat → Nat) (km : Nat → ClassId) (F : gF) (d : Nat) : Prop := ∀ (T : gSt) (p1 : Int32) (r : Int32) (rl : Int64) (T' : gSt), F 60 T [p1] [] = some (r, rl, T') → GMv l dC dI LH ad km ea ev y_Parser_need w_Parser_need (rmD d) [.ref (ad 4), .int p1] T T'
theorem pd_Parser_need : (y_Parser_need).cls = R_Parser ∧ (y_Parser_need).cls ≠ "java/lang/invoke/MethodHandle" ∧ (y_Parser_need).cls ≠ "java/lang/invoke/VarHandle" ∧ (parseMethodDescriptor (y_Parser_need).desc).map (fun d => d.parameters.length) = some 1 := by decide +kernel
def mt_Parser_parseRegions (l : Launch) (dC : Nat → ClassId) (dI : Nat → Nat → Nat) (ea ev ad : Nat → Nat) (km : Nat → ClassId) (F : gF) (d : Nat) : Prop := ∀ (T : gSt) (p1 : Int32) (r : Int32) (rl : Int64) (T' : gSt), F 63 T [p1] [] = some (r, rl, T') → GMi l dC dI LH ad km ea ev y_Parser_parseRegions w_Parser_parseRegions (rmD d) [.ref (ad 4), .int p1] T r T'
theorem pd_Parser_parseRegions : (y_Parser_parseRegions).cls = R_Parser ∧ (y_Parser_parseRegions).cls ≠ "java/lang/invoke/MethodHandle" ∧ (y_Parser_parseRegions).cls ≠ "java/lang/invoke/VarHandle" ∧ (parseMethodDescriptor (y_Parser_parseRegions).desc).map (fun d => d.parameters.length) = some 1 := by decide +kernel
def mt_Parser_parsePart (l : Launch) (dC : Nat → ClassId) (dI : Nat → Nat → Nat) (ea ev ad : Nat → Nat) (km : Nat → ClassId) (F : gF) (d : Nat) : Prop := ∀ (T : gSt) (p1 : Int32) (r : Int32) (rl : Int64) (T' : gSt), F 65 T [p1] [] = some (r, rl, T') → GMv l dC dI LH ad km ea ev y_Parser_parsePart w_Parser_parsePart (rmD d) [.ref (ad 4), .int p1] T T'
theorem pd_Parser_parsePart : (y_Parser_parsePart).cls = R_Parser ∧ (y_Parser_parsePart).cls ≠ "java/lang/invoke/MethodHandle" ∧ (y_Parser_parsePart).cls ≠ "java/lang/invoke/VarHandle" ∧ (parseMethodDescriptor (y_Parser_parsePart).desc).map (fun d => d.parameters.length) = some 1 := by decide +kernel
def mt_Parser_parseType (l : Launch) (dC : Nat → ClassId) (dI : Nat → Nat → Nat) (ea ev ad : Nat → Nat) (km : Nat → ClassId) (F : gF) (d : Nat) : Prop := ∀ (T : gSt) (p1 : Int32) (p2 : Int32) (r : Int32) (rl : Int64) (T' : gSt), F 69 T [p1, p2] [] = some (r, rl, T') → GMv l dC dI LH ad km ea ev y_Parser_parseType w_Parser_parseType (rmD d) [.ref (ad 4), .int p1, .int p2] T T'
theorem pd_Parser_parseType : (y_Parser_parseType).cls = R_Parser ∧ (y_Parser_parseType).cls ≠ "java/lang/invoke/MethodHandle" ∧ (y_Parser_parseType).cls ≠ "java/lang/invoke/VarHandle" ∧ (parseMethodDescriptor (y_Parser_parseType).desc).map (fun d => d.parameters.length) = some 2 := by decide +kernel
set_option maxHeartbeats 4000000 in
set_option maxRecDepth 100000 in
theorem sp_House_end (l : Launch) (dC : Nat → ClassId) (dI : Nat → Nat → Nat) (ea ev ad : Nat → Nat) (km : Nat → ClassId) (F : gF) (nf d : Nat) (T0 : gSt) (p1 : Int32) (r0 : Int32) (rl0 : Int64) (T9 : gSt) (hR : rb_House_end F nf T0 p1 = some (r0, rl0, T9)) : GMi l dC dI LH ad km ea ev y_House_end w_House_end (rmD (d + 1)) [.ref (ad 0), .int p1] T0 r0 T9 := by
  intro sz
  refine Met.ofW (cc := b_House_end) (maxL := 2) (ret := (some .int)) (by decide) rfl ?_
  intro p e s m args below meth c s₁ B hml hv
  obtain ⟨rfl, hsz, hP, hK, hD0, hnw, henv⟩ := hv
  have hx := B.exec
  have hb := B.bytes
  have hr := B.returns
  have hT : ∀ w ∈ lw_good, w.before _ s = true := fun w h => atoms_spec (ws := w_House_end) B.pre w (List.mem_cons_of_mem _ h)
  have hown : s.vm.findClass R_House = some m.cls := findClass_of_methodNamed B.named
  subst hsz
  have hD := hD0.self (sz := s.heap.size)
  clear hD0
  generalize hAe : va_A (gW LH ad km T0) s.heap.size = A at hD henv ⊢
  have hA : ∀ q : Nat, s.heap.size ≤ q → A q := fun q h => by rw [← hAe]; exact Or.inr h
  have hS : va_S A s.heap s.heap [] := va_S.rf
  have hl := lv_entry ([.ref (ad 0), .int p1]) (n := 2) (Nat.le_of_ble_eq_true rfl)
  rw [lg_entry_eq]
  generalize (lg_sl ([.ref (ad 0), .int p1]) ++ List.replicate (2 - (lg_sl ([.ref (ad 0), .int p1])).length) Slot.unset).toArray = ls at hl ⊢
  have hl : lv_has ls 2 [(0, .ref (ad 0)), (1, .int p1)] := hl
  unfold rb_House_end at hR
  refine lv_iload_n hx hb d_House_end_0 rfl (lv_at hl 1 rfl) ?_
  refine lv_if_lt (tgt := 12) hx hb d_House_end_1 (by decide) (fun c1 => ?_) (fun c1 => ?_)
  · replace hR := if_p c1 hR
    refine lv_iconst (v := (-1)) hx hb d_House_end_12 (by decide) ?_
    obtain ⟨e1, -, e3⟩ := re_e hR
    subst e1; subst e3
    exact W.iret (v := (-1 : Int32)) hx hb hr (fun t ht hW => ⟨⟨(-1 : Int32), (), rfl, rfl, by rw [ht]; exact hP, va_K.moved hW.alike hK, hD⟩, hS.F ht⟩) hS.2.2 d_House_end_13
  · replace hR := if_n c1 hR
    refine lv_iload_n hx hb d_House_end_4 rfl (lv_at hl 1 rfl) ?_
    refine lv_aload_n hx hb d_House_end_5 rfl (lv_at hl 0 rfl) ?_
    refine rd_House_83 hx hb hT hown hK hP d_House_end_6 ?_
    refine lv_icmp_le (tgt := 14) hx hb d_House_end_9 (by decide) (fun c3 => ?_) (fun c3 => ?_)
    · replace hR := if_p c3 hR
      refine lv_aload_n hx hb d_House_end_14 rfl (lv_at hl 0 rfl) ?_
      refine lv_iload_n hx hb d_House_end_15 rfl (lv_at hl 1 rfl) ?_
      refine wr_House_83 hx hb hT hown hK hP hD hS d_House_end_16 (fun T4 eT H locs hP hD hS => ?_)
      replace hR := stK_e eT hR
      clear eT
      refine lv_iload_n hx hb d_House_end_19 rfl (lv_at hl 1 rfl) ?_
      obtain ⟨e1, -, e3⟩ := re_e hR
      subst e1; subst e3
      exact W.iret (v := p1) hx hb hr (fun t ht hW => ⟨⟨p1, (), rfl, rfl, by rw [ht]; exact hP, va_K.moved hW.alike hK, hD⟩, hS.F ht⟩) hS.2.2 d_House_end_20
    · replace hR := if_n c3 hR
      refine lv_iconst (v := (-1)) hx hb d_House_end_12 (by decide) ?_
      obtain ⟨e1, -, e3⟩ := re_e hR
      subst e1; subst e3
      exact W.iret (v := (-1 : Int32)) hx hb hr (fun t ht hW => ⟨⟨(-1 : Int32), (), rfl, rfl, by rw [ht]; exact hP, va_K.moved hW.alike hK, hD⟩, hS.F ht⟩) hS.2.2 d_House_end_13
set_option maxHeartbeats 4000000 in
set_option maxRecDepth 100000 in
theorem sp_House_build (l : Launch) (dC : Nat → ClassId) (dI : Nat → Nat → Nat) (ea ev ad : Nat → Nat) (km : Nat → ClassId) (F : gF) (nf d : Nat) (h_Machine_halt : mt_Machine_halt l dC dI ea ev ad km F d) (h_Code_clear : mt_Code_clear l dC dI ea ev ad km F d) (h_Source_scan : mt_Source_scan l dC dI ea ev ad km F d) (h_Parser_parse : mt_Parser_parse l dC dI ea ev ad km F d) (h_Code_isSound : mt_Code_isSound l dC dI ea ev ad km F d) (h_Steps_check : mt_Steps_check l dC dI ea ev ad km F d) (h_Heads_check : mt_Heads_check l dC dI ea ev ad km F d) (T0 : gSt) (r0 : Int32) (rl0 : Int64) (T9 : gSt) (hR : rb_House_build F nf T0 = some (r0, rl0, T9)) : GMi l dC dI LH ad km ea ev y_House_build w_House_build (rmD (d + 1)) [.ref (ad 0)] T0 r0 T9 := by
  intro sz
  refine Met.ofW (cc := b_House_build) (maxL := 1) (ret := (some .int)) (by decide) rfl ?_
  intro p e s m args below meth c s₁ B hml hv
  obtain ⟨rfl, hsz, hP, hK, hD0, hnw, henv⟩ := hv
  have hx := B.exec
  have hb := B.bytes
  have hr := B.returns
  have hT : ∀ w ∈ lw_good, w.before _ s = true := fun w h => atoms_spec (ws := w_House_build) B.pre w (List.mem_cons_of_mem _ h)
  have hown : s.vm.findClass R_House = some m.cls := findClass_of_methodNamed B.named
  subst hsz
  have hD := hD0.self (sz := s.heap.size)
  clear hD0
  generalize hAe : va_A (gW LH ad km T0) s.heap.size = A at hD henv ⊢
  have hA : ∀ q : Nat, s.heap.size ≤ q → A q := fun q h => by rw [← hAe]; exact Or.inr h
  have hS : va_S A s.heap s.heap [] := va_S.rf
  have hl := lv_entry ([.ref (ad 0)]) (n := 1) (Nat.le_of_ble_eq_true rfl)
  rw [lg_entry_eq]
  generalize (lg_sl ([.ref (ad 0)]) ++ List.replicate (1 - (lg_sl ([.ref (ad 0)])).length) Slot.unset).toArray = ls at hl ⊢
  have hl : lv_has ls 1 [(0, .ref (ad 0))] := hl
  obtain ⟨G, hG⟩ : ∃ G : Nat → List (Nat × Value) → List Value → gSt → Prop, G = (fun pc lv stk T => ∀ (H : Heap) (locs : List Loc), va_P (dC, dI) cls_all (gW LH ad km T) H → va_D A (gW LH ad km T) → va_S A s.heap H locs → ∀ (ls : Array Slot), lv_has ls 1 lv → W p l e (headSpec w_House_build (rmD (d + 1))).room s m ([.ref (ad 0)] : List Value).toArray below meth c H locs 0 0 (MQ below (va_Qi (fun (z : Int32) (_ : Unit) => z = r0) (fun _ t => gPost dC dI LH ad km T9 A t) A) ([.ref (ad 0)] : List Value).toArray s 0 0 A) (F0 m pc ls stk)) := ⟨_, rfl⟩
  have lb_75 : ∀ (T : gSt), rj_House_build_75 F nf T = some (r0, rl0, T9) → G 75 [(0, .ref (ad 0))] [] T := by
    intro T hR; unfold rj_House_build_75 at hR; rw [hG]; intro H locs hP hD hS ls hl
    refine lv_aload_n hx hb d_House_build_75 rfl (lv_at hl 0 rfl) ?_
    refine lv_iconst (v := 0) hx hb d_House_build_76 (by decide) ?_
    refine wr_House_83 hx hb hT hown hK hP hD hS d_House_build_77 (fun T15 eT H locs hP hD hS => ?_)
    replace hR := stK_e eT hR
    clear eT
    refine lv_aload_n hx hb d_House_build_80 rfl (lv_at hl 0 rfl) ?_
    refine lv_aload_n hx hb d_House_build_81 rfl (lv_at hl 0 rfl) ?_
    refine rd_House_30 hx hb hT hown hK hP d_House_build_82 ?_
    replace hR := bi_e hR
    obtain ⟨r16, l16, T16, hc16, hR⟩ := hR
    refine gcV_i (rest := [.ref (ad 0)]) ⟨hx, hb, hml, hown, hT⟩ (h_Code_isSound _ _ _ _ hc16) (cwV 0 hT (gV ml_House_108 im_Code_isSound se_Code_isSound ini_Code co_Code_isSound) rfl rfl rfl pd_Code_isSound ⟨rm_hi, rm_lo (Nat.le_of_ble_eq_true rfl)⟩) hK hP hD hS hA hnw henv (Nat.le_of_ble_eq_true rfl) rfl rfl hl.1 rfl (Nat.le_of_ble_eq_true rfl) d_House_build_85 ⟨Nat.le_refl _, Nat.le_refl _⟩ (fun H locs hP hD hS => ?_)
    clear hc16
    replace hR := gd_e hR
    obtain ⟨b17, hR⟩ := hR
    refine wr_House_116 hx hb hT hown hK hP hD hS b17 d_House_build_88 (fun T17 eT H locs hP hD hS => ?_)
    replace hR := stK_e eT hR
    clear eT
    refine lv_aload_n hx hb d_House_build_91 rfl (lv_at hl 0 rfl) ?_
    refine rd_House_116 hx hb hT hown hK hP d_House_build_92 ?_
    refine lv_if_eq (tgt := 108) hx hb d_House_build_95 (by decide) (fun c18 => ?_) (fun c18 => ?_)
    · replace hR := if_p c18 hR
      refine lv_iconst (v := (-1)) hx hb d_House_build_108 (by decide) ?_
      obtain ⟨e1, -, e3⟩ := re_e hR
      subst e1; subst e3
      exact W.iret (v := (-1 : Int32)) hx hb hr (fun t ht hW => ⟨⟨(-1 : Int32), (), rfl, rfl, by rw [ht]; exact hP, va_K.moved hW.alike hK, hD⟩, hS.F ht⟩) hS.2.2 d_House_build_109
    · replace hR := if_n c18 hR
      refine lv_aload_n hx hb d_House_build_98 rfl (lv_at hl 0 rfl) ?_
      refine rd_House_23 hx hb hT hown hK hP d_House_build_99 ?_
      refine rd_House_119 hx hb hT hown hK hP d_House_build_102 ?_
      refine lv_goto (tgt := 109) hx hb d_House_build_105 (by decide) ?_
      obtain ⟨e1, -, e3⟩ := re_e hR
      subst e1; subst e3
      exact W.iret (v := T17.1 27 0) hx hb hr (fun t ht hW => ⟨⟨T17.1 27 0, (), rfl, rfl, by rw [ht]; exact hP, va_K.moved hW.alike hK, hD⟩, hS.F ht⟩) hS.2.2 d_House_build_109
  unfold rb_House_build at hR
  refine lv_aload_n hx hb d_House_build_0 rfl (lv_at hl 0 rfl) ?_
  refine lv_iconst (v := 1) hx hb d_House_build_1 (by decide) ?_
  refine wr_House_91 hx hb hT hown hK hP hD hS (by decide) d_House_build_2 (fun T1 eT H locs hP hD hS => ?_)
  replace hR := stK_e eT hR
  clear eT
  refine lv_aload_n hx hb d_House_build_5 rfl (lv_at hl 0 rfl) ?_
  refine rd_House_79 hx hb hT hown hK hP d_House_build_6 ?_
  replace hR := bi_e hR
  obtain ⟨r2, l2, T2, hc2, hR⟩ := hR
  refine gcV_v (rest := []) ⟨hx, hb, hml, hown, hT⟩ (h_Machine_halt _ _ _ _ hc2) (cwV 0 hT (gV ml_House_95 im_Machine_halt se_Machine_halt ini_Machine co_Machine_halt) rfl rfl rfl pd_Machine_halt ⟨rm_hi, rm_lo (Nat.le_of_ble_eq_true rfl)⟩) hK hP hD hS hA hnw henv (Nat.le_of_ble_eq_true rfl) rfl rfl hl.1 rfl (Nat.le_of_ble_eq_true rfl) d_House_build_9 ⟨Nat.le_refl _, Nat.le_refl _⟩ (fun H locs hP hD hS => ?_)
  clear hc2
  refine lv_aload_n hx hb d_House_build_12 rfl (lv_at hl 0 rfl) ?_
  refine rd_House_30 hx hb hT hown hK hP d_House_build_13 ?_
  replace hR := bi_e hR
  obtain ⟨r3, l3, T3, hc3, hR⟩ := hR
  refine gcV_v (rest := []) ⟨hx, hb, hml, hown, hT⟩ (h_Code_clear _ _ _ _ hc3) (cwV 0 hT (gV ml_House_98 im_Code_clear se_Code_clear ini_Code co_Code_clear) rfl rfl rfl pd_Code_clear ⟨rm_hi, rm_lo (Nat.le_of_ble_eq_true rfl)⟩) hK hP hD hS hA hnw henv (Nat.le_of_ble_eq_true rfl) rfl rfl hl.1 rfl (Nat.le_of_ble_eq_true rfl) d_House_build_16 ⟨Nat.le_refl _, Nat.le_refl _⟩ (fun H locs hP hD hS => ?_)
  clear hc3
  refine lv_aload_n hx hb d_House_build_19 rfl (lv_at hl 0 rfl) ?_
  refine rd_House_16 hx hb hT hown hK hP d_House_build_20 ?_
  refine lv_aload_n hx hb d_House_build_23 rfl (lv_at hl 0 rfl) ?_
  refine rd_House_9 hx hb hT hown hK hP d_House_build_24 ?_
  refine lv_aload_n hx hb d_House_build_27 rfl (lv_at hl 0 rfl) ?_
  refine rd_House_83 hx hb hT hown hK hP d_House_build_28 ?_
  replace hR := bi_e hR
  obtain ⟨r4, l4, T4, hc4, hR⟩ := hR
  refine gcV_v (rest := []) ⟨hx, hb, hml, hown, hT⟩ (h_Source_scan _ _ _ _ _ hc4) (cwV 2 hT (gV ml_House_101 im_Source_scan se_Source_scan ini_Source co_Source_scan) rfl rfl rfl pd_Source_scan ⟨rm_hi, rm_lo (Nat.le_of_ble_eq_true rfl)⟩) hK hP hD hS hA hnw henv (Nat.le_of_ble_eq_true rfl) rfl rfl hl.1 rfl (Nat.le_of_ble_eq_true rfl) d_House_build_31 ⟨Nat.le_refl _, Nat.le_refl _⟩ (fun H locs hP hD hS => ?_)
  clear hc4
  refine lv_aload_n hx hb d_House_build_34 rfl (lv_at hl 0 rfl) ?_
  refine rd_House_39 hx hb hT hown hK hP d_House_build_35 ?_
  replace hR := bi_e hR
  obtain ⟨r5, l5, T5, hc5, hR⟩ := hR
  refine gcV_v (rest := []) ⟨hx, hb, hml, hown, hT⟩ (h_Parser_parse _ _ _ _ hc5) (cwV 0 hT (gV ml_House_105 im_Parser_parse se_Parser_parse ini_Parser co_Parser_parse) rfl rfl rfl pd_Parser_parse ⟨rm_hi, rm_lo (Nat.le_of_ble_eq_true rfl)⟩) hK hP hD hS hA hnw henv (Nat.le_of_ble_eq_true rfl) rfl rfl hl.1 rfl (Nat.le_of_ble_eq_true rfl) d_House_build_38 ⟨Nat.le_refl _, Nat.le_refl _⟩ (fun H locs hP hD hS => ?_)
  clear hc5
  refine lv_aload_n hx hb d_House_build_41 rfl (lv_at hl 0 rfl) ?_
  refine rd_House_30 hx hb hT hown hK hP d_House_build_42 ?_
  replace hR := bi_e hR
  obtain ⟨r6, l6, T6, hc6, hR⟩ := hR
  refine gcV_i (rest := []) ⟨hx, hb, hml, hown, hT⟩ (h_Code_isSound _ _ _ _ hc6) (cwV 0 hT (gV ml_House_108 im_Code_isSound se_Code_isSound ini_Code co_Code_isSound) rfl rfl rfl pd_Code_isSound ⟨rm_hi, rm_lo (Nat.le_of_ble_eq_true rfl)⟩) hK hP hD hS hA hnw henv (Nat.le_of_ble_eq_true rfl) rfl rfl hl.1 rfl (Nat.le_of_ble_eq_true rfl) d_House_build_45 ⟨Nat.le_refl _, Nat.le_refl _⟩ (fun H locs hP hD hS => ?_)
  clear hc6
  refine lv_if_eq (tgt := 58) hx hb d_House_build_48 (by decide) (fun c7 => ?_) (fun c7 => ?_)
  · replace hR := if_p c7 hR
    refine lv_aload_n hx hb d_House_build_58 rfl (lv_at hl 0 rfl) ?_
    refine rd_House_30 hx hb hT hown hK hP d_House_build_59 ?_
    replace hR := bi_e hR
    obtain ⟨r8, l8, T8, hc8, hR⟩ := hR
    refine gcV_i (rest := []) ⟨hx, hb, hml, hown, hT⟩ (h_Code_isSound _ _ _ _ hc8) (cwV 0 hT (gV ml_House_108 im_Code_isSound se_Code_isSound ini_Code co_Code_isSound) rfl rfl rfl pd_Code_isSound ⟨rm_hi, rm_lo (Nat.le_of_ble_eq_true rfl)⟩) hK hP hD hS hA hnw henv (Nat.le_of_ble_eq_true rfl) rfl rfl hl.1 rfl (Nat.le_of_ble_eq_true rfl) d_House_build_62 ⟨Nat.le_refl _, Nat.le_refl _⟩ (fun H locs hP hD hS => ?_)
    clear hc8
    refine lv_if_eq (tgt := 75) hx hb d_House_build_65 (by decide) (fun c9 => ?_) (fun c9 => ?_)
    · replace hR := if_p c9 hR
      have g := lb_75 T8 hR
      rw [hG] at g
      exact g _ _ hP hD hS _ (lv_sub hl [0] rfl)
    · replace hR := if_n c9 hR
      refine lv_aload_n hx hb d_House_build_68 rfl (lv_at hl 0 rfl) ?_
      refine rd_House_70 hx hb hT hown hK hP d_House_build_69 ?_
      replace hR := bi_e hR
      obtain ⟨r10, l10, T10, hc10, hR⟩ := hR
      refine gcV_v (rest := []) ⟨hx, hb, hml, hown, hT⟩ (h_Steps_check _ _ _ _ hc10) (cwV 0 hT (gV ml_House_115 im_Steps_check se_Steps_check ini_Steps co_Steps_check) rfl rfl rfl pd_Steps_check ⟨rm_hi, rm_lo (Nat.le_of_ble_eq_true rfl)⟩) hK hP hD hS hA hnw henv (Nat.le_of_ble_eq_true rfl) rfl rfl hl.1 rfl (Nat.le_of_ble_eq_true rfl) d_House_build_72 ⟨Nat.le_refl _, Nat.le_refl _⟩ (fun H locs hP hD hS => ?_)
      clear hc10
      have g := lb_75 T10 hR
      rw [hG] at g
      exact g _ _ hP hD hS _ (lv_sub hl [0] rfl)
  · replace hR := if_n c7 hR
    refine lv_aload_n hx hb d_House_build_51 rfl (lv_at hl 0 rfl) ?_
    refine rd_House_56 hx hb hT hown hK hP d_House_build_52 ?_
    replace hR := bi_e hR
    obtain ⟨r11, l11, T11, hc11, hR⟩ := hR
    refine gcV_v (rest := []) ⟨hx, hb, hml, hown, hT⟩ (h_Heads_check _ _ _ _ hc11) (cwV 0 hT (gV ml_House_112 im_Heads_check se_Heads_check ini_Heads co_Heads_check) rfl rfl rfl pd_Heads_check ⟨rm_hi, rm_lo (Nat.le_of_ble_eq_true rfl)⟩) hK hP hD hS hA hnw henv (Nat.le_of_ble_eq_true rfl) rfl rfl hl.1 rfl (Nat.le_of_ble_eq_true rfl) d_House_build_55 ⟨Nat.le_refl _, Nat.le_refl _⟩ (fun H locs hP hD hS => ?_)
    clear hc11
    refine lv_aload_n hx hb d_House_build_58 rfl (lv_at hl 0 rfl) ?_
    refine rd_House_30 hx hb hT hown hK hP d_House_build_59 ?_
    replace hR := bi_e hR
    obtain ⟨r12, l12, T12, hc12, hR⟩ := hR
    refine gcV_i (rest := []) ⟨hx, hb, hml, hown, hT⟩ (h_Code_isSound _ _ _ _ hc12) (cwV 0 hT (gV ml_House_108 im_Code_isSound se_Code_isSound ini_Code co_Code_isSound) rfl rfl rfl pd_Code_isSound ⟨rm_hi, rm_lo (Nat.le_of_ble_eq_true rfl)⟩) hK hP hD hS hA hnw henv (Nat.le_of_ble_eq_true rfl) rfl rfl hl.1 rfl (Nat.le_of_ble_eq_true rfl) d_House_build_62 ⟨Nat.le_refl _, Nat.le_refl _⟩ (fun H locs hP hD hS => ?_)
    clear hc12
    refine lv_if_eq (tgt := 75) hx hb d_House_build_65 (by decide) (fun c13 => ?_) (fun c13 => ?_)
    · replace hR := if_p c13 hR
      have g := lb_75 T12 hR
      rw [hG] at g
      exact g _ _ hP hD hS _ (lv_sub hl [0] rfl)
    · replace hR := if_n c13 hR
      refine lv_aload_n hx hb d_House_build_68 rfl (lv_at hl 0 rfl) ?_
      refine rd_House_70 hx hb hT hown hK hP d_House_build_69 ?_
      replace hR := bi_e hR
      obtain ⟨r14, l14, T14, hc14, hR⟩ := hR
      refine gcV_v (rest := []) ⟨hx, hb, hml, hown, hT⟩ (h_Steps_check _ _ _ _ hc14) (cwV 0 hT (gV ml_House_115 im_Steps_check se_Steps_check ini_Steps co_Steps_check) rfl rfl rfl pd_Steps_check ⟨rm_hi, rm_lo (Nat.le_of_ble_eq_true rfl)⟩) hK hP hD hS hA hnw henv (Nat.le_of_ble_eq_true rfl) rfl rfl hl.1 rfl (Nat.le_of_ble_eq_true rfl) d_House_build_72 ⟨Nat.le_refl _, Nat.le_refl _⟩ (fun H locs hP hD hS => ?_)
      clear hc14
      have g := lb_75 T14 hR
      rw [hG] at g
      exact g _ _ hP hD hS _ (lv_sub hl [0] rfl)
set_option maxHeartbeats 4000000 in
set_option maxRecDepth 100000 in
theorem sp_House_fault (l : Launch) (dC : Nat → ClassId) (dI : Nat → Nat → Nat) (ea ev ad : Nat → Nat) (km : Nat → ClassId) (F : gF) (nf d : Nat) (T0 : gSt) (p1 : Int32) (r0 : Int32) (rl0 : Int64) (T9 : gSt) (hR : rb_House_fault F nf T0 p1 = some (r0, rl0, T9)) : GMi l dC dI LH ad km ea ev y_House_fault w_House_fault (rmD (d + 1)) [.ref (ad 0), .int p1] T0 r0 T9 := by
  intro sz
  refine Met.ofW (cc := b_House_fault) (maxL := 2) (ret := (some .int)) (by decide) rfl ?_
  intro p e s m args below meth c s₁ B hml hv
  obtain ⟨rfl, hsz, hP, hK, hD0, hnw, henv⟩ := hv
  have hx := B.exec
  have hb := B.bytes
  have hr := B.returns
  have hT : ∀ w ∈ lw_good, w.before _ s = true := fun w h => atoms_spec (ws := w_House_fault) B.pre w (List.mem_cons_of_mem _ h)
  have hown : s.vm.findClass R_House = some m.cls := findClass_of_methodNamed B.named
  subst hsz
  have hD := hD0.self (sz := s.heap.size)
  clear hD0
  generalize hAe : va_A (gW LH ad km T0) s.heap.size = A at hD henv ⊢
  have hA : ∀ q : Nat, s.heap.size ≤ q → A q := fun q h => by rw [← hAe]; exact Or.inr h
  have hS : va_S A s.heap s.heap [] := va_S.rf
  have hl := lv_entry ([.ref (ad 0), .int p1]) (n := 2) (Nat.le_of_ble_eq_true rfl)
  rw [lg_entry_eq]
  generalize (lg_sl ([.ref (ad 0), .int p1]) ++ List.replicate (2 - (lg_sl ([.ref (ad 0), .int p1])).length) Slot.unset).toArray = ls at hl ⊢
  have hl : lv_has ls 2 [(0, .ref (ad 0)), (1, .int p1)] := hl
  unfold rb_House_fault at hR
  refine lv_aload_n hx hb d_House_fault_0 rfl (lv_at hl 0 rfl) ?_
  refine rd_House_91 hx hb hT hown hK hP d_House_fault_1 ?_
  refine lv_if_eq (tgt := 16) hx hb d_House_fault_4 (by decide) (fun c1 => ?_) (fun c1 => ?_)
  · replace hR := if_p c1 hR
    refine lv_iconst (v := (-1)) hx hb d_House_fault_16 (by decide) ?_
    obtain ⟨e1, -, e3⟩ := re_e hR
    subst e1; subst e3
    exact W.iret (v := (-1 : Int32)) hx hb hr (fun t ht hW => ⟨⟨(-1 : Int32), (), rfl, rfl, by rw [ht]; exact hP, va_K.moved hW.alike hK, hD⟩, hS.F ht⟩) hS.2.2 d_House_fault_17
  · replace hR := if_n c1 hR
    refine lv_iload_n hx hb d_House_fault_7 rfl (lv_at hl 1 rfl) ?_
    refine lv_if_lt (tgt := 16) hx hb d_House_fault_8 (by decide) (fun c3 => ?_) (fun c3 => ?_)
    · replace hR := if_p c3 hR
      refine lv_iconst (v := (-1)) hx hb d_House_fault_16 (by decide) ?_
      obtain ⟨e1, -, e3⟩ := re_e hR
      subst e1; subst e3
      exact W.iret (v := (-1 : Int32)) hx hb hr (fun t ht hW => ⟨⟨(-1 : Int32), (), rfl, rfl, by rw [ht]; exact hP, va_K.moved hW.alike hK, hD⟩, hS.F ht⟩) hS.2.2 d_House_fault_17
    · replace hR := if_n c3 hR
      refine lv_iload_n hx hb d_House_fault_11 rfl (lv_at hl 1 rfl) ?_
      refine lv_iconst (v := 1) hx hb d_House_fault_12 (by decide) ?_
      refine lv_icmp_le (tgt := 18) hx hb d_House_fault_13 (by decide) (fun c5 => ?_) (fun c5 => ?_)
      · replace hR := if_p c5 hR
        refine lv_iload_n hx hb d_House_fault_18 rfl (lv_at hl 1 rfl) ?_
        refine lv_if_ne (tgt := 32) hx hb d_House_fault_19 (by decide) (fun c6 => ?_) (fun c6 => ?_)
        · replace hR := if_n c6 hR
          refine lv_aload_n hx hb d_House_fault_32 rfl (lv_at hl 0 rfl) ?_
          refine rd_House_30 hx hb hT hown hK hP d_House_fault_33 ?_
          refine rd_House_125 hx hb hT hown hK hP d_House_fault_36 ?_
          obtain ⟨e1, -, e3⟩ := re_e hR
          subst e1; subst e3
          exact W.iret (v := T0.1 54 0) hx hb hr (fun t ht hW => ⟨⟨T0.1 54 0, (), rfl, rfl, by rw [ht]; exact hP, va_K.moved hW.alike hK, hD⟩, hS.F ht⟩) hS.2.2 d_House_fault_39
        · replace hR := if_p c6 hR
          refine lv_aload_n hx hb d_House_fault_22 rfl (lv_at hl 0 rfl) ?_
          refine rd_House_30 hx hb hT hown hK hP d_House_fault_23 ?_
          refine rd_House_122 hx hb hT hown hK hP d_House_fault_26 ?_
          refine lv_goto (tgt := 39) hx hb d_House_fault_29 (by decide) ?_
          obtain ⟨e1, -, e3⟩ := re_e hR
          subst e1; subst e3
          exact W.iret (v := T0.1 53 0) hx hb hr (fun t ht hW => ⟨⟨T0.1 53 0, (), rfl, rfl, by rw [ht]; exact hP, va_K.moved hW.alike hK, hD⟩, hS.F ht⟩) hS.2.2 d_House_fault_39
      · replace hR := if_n c5 hR
        refine lv_iconst (v := (-1)) hx hb d_House_fault_16 (by decide) ?_
        obtain ⟨e1, -, e3⟩ := re_e hR
        subst e1; subst e3
        exact W.iret (v := (-1 : Int32)) hx hb hr (fun t ht hW => ⟨⟨(-1 : Int32), (), rfl, rfl, by rw [ht]; exact hP, va_K.moved hW.alike hK, hD⟩, hS.F ht⟩) hS.2.2 d_House_fault_17
set_option maxHeartbeats 4000000 in
set_option maxRecDepth 100000 in
theorem sp_House_program (l : Launch) (dC : Nat → ClassId) (dI : Nat → Nat → Nat) (ea ev ad : Nat → Nat) (km : Nat → ClassId) (F : gF) (nf d : Nat) (T0 : gSt) (p1 : Int32) (r0 : Int32) (rl0 : Int64) (T9 : gSt) (hR : rb_House_program F nf T0 p1 = some (r0, rl0, T9)) : GMi l dC dI LH ad km ea ev y_House_program w_House_program (rmD (d + 1)) [.ref (ad 0), .int p1] T0 r0 T9 := by
  intro sz
  refine Met.ofW (cc := b_House_program) (maxL := 2) (ret := (some .int)) (by decide) rfl ?_
  intro p e s m args below meth c s₁ B hml hv
  obtain ⟨rfl, hsz, hP, hK, hD0, hnw, henv⟩ := hv
  have hx := B.exec
  have hb := B.bytes
  have hr := B.returns
  have hT : ∀ w ∈ lw_good, w.before _ s = true := fun w h => atoms_spec (ws := w_House_program) B.pre w (List.mem_cons_of_mem _ h)
  have hown : s.vm.findClass R_House = some m.cls := findClass_of_methodNamed B.named
  subst hsz
  have hD := hD0.self (sz := s.heap.size)
  clear hD0
  generalize hAe : va_A (gW LH ad km T0) s.heap.size = A at hD henv ⊢
  have hA : ∀ q : Nat, s.heap.size ≤ q → A q := fun q h => by rw [← hAe]; exact Or.inr h
  have hS : va_S A s.heap s.heap [] := va_S.rf
  have hl := lv_entry ([.ref (ad 0), .int p1]) (n := 2) (Nat.le_of_ble_eq_true rfl)
  rw [lg_entry_eq]
  generalize (lg_sl ([.ref (ad 0), .int p1]) ++ List.replicate (2 - (lg_sl ([.ref (ad 0), .int p1])).length) Slot.unset).toArray = ls at hl ⊢
  have hl : lv_has ls 2 [(0, .ref (ad 0)), (1, .int p1)] := hl
  unfold rb_House_program at hR
  refine lv_aload_n hx hb d_House_program_0 rfl (lv_at hl 0 rfl) ?_
  refine rd_House_116 hx hb hT hown hK hP d_House_program_1 ?_
  refine lv_if_eq (tgt := 17) hx hb d_House_program_4 (by decide) (fun c1 => ?_) (fun c1 => ?_)
  · replace hR := if_p c1 hR
    refine lv_iconst (v := (-1)) hx hb d_House_program_17 (by decide) ?_
    obtain ⟨e1, -, e3⟩ := re_e hR
    subst e1; subst e3
    exact W.iret (v := (-1 : Int32)) hx hb hr (fun t ht hW => ⟨⟨(-1 : Int32), (), rfl, rfl, by rw [ht]; exact hP, va_K.moved hW.alike hK, hD⟩, hS.F ht⟩) hS.2.2 d_House_program_18
  · replace hR := if_n c1 hR
    refine lv_iload_n hx hb d_House_program_7 rfl (lv_at hl 1 rfl) ?_
    refine lv_if_lt (tgt := 17) hx hb d_House_program_8 (by decide) (fun c3 => ?_) (fun c3 => ?_)
    · replace hR := if_p c3 hR
      refine lv_iconst (v := (-1)) hx hb d_House_program_17 (by decide) ?_
      obtain ⟨e1, -, e3⟩ := re_e hR
      subst e1; subst e3
      exact W.iret (v := (-1 : Int32)) hx hb hr (fun t ht hW => ⟨⟨(-1 : Int32), (), rfl, rfl, by rw [ht]; exact hP, va_K.moved hW.alike hK, hD⟩, hS.F ht⟩) hS.2.2 d_House_program_18
    · replace hR := if_n c3 hR
      refine lv_iload_n hx hb d_House_program_11 rfl (lv_at hl 1 rfl) ?_
      refine lv_bipush (v := 7) hx hb d_House_program_12 (by decide) ?_
      refine lv_icmp_lt (tgt := 19) hx hb d_House_program_14 (by decide) (fun c5 => ?_) (fun c5 => ?_)
      · replace hR := if_p c5 hR
        refine lv_aload_n hx hb d_House_program_19 rfl (lv_at hl 0 rfl) ?_
        refine rd_House_30 hx hb hT hown hK hP d_House_program_20 ?_
        refine rd_House_128 hx hb hT hown hK hP d_House_program_23 ?_
        refine lv_iload_n hx hb d_House_program_26 rfl (lv_at hl 1 rfl) ?_
        replace hR := gd_e hR
        obtain ⟨b6, hR⟩ := hR
        refine laH_36 hx hb hK hP b6 d_House_program_27 ?_
        obtain ⟨e1, -, e3⟩ := re_e hR
        subst e1; subst e3
        exact W.iret (v := T0.1 52 p1.toNatClampNeg) hx hb hr (fun t ht hW => ⟨⟨T0.1 52 p1.toNatClampNeg, (), rfl, rfl, by rw [ht]; exact hP, va_K.moved hW.alike hK, hD⟩, hS.F ht⟩) hS.2.2 d_House_program_28
      · replace hR := if_n c5 hR
        refine lv_iconst (v := (-1)) hx hb d_House_program_17 (by decide) ?_
        obtain ⟨e1, -, e3⟩ := re_e hR
        subst e1; subst e3
        exact W.iret (v := (-1 : Int32)) hx hb hr (fun t ht hW => ⟨⟨(-1 : Int32), (), rfl, rfl, by rw [ht]; exact hP, va_K.moved hW.alike hK, hD⟩, hS.F ht⟩) hS.2.2 d_House_program_18
set_option maxHeartbeats 4000000 in
set_option maxRecDepth 100000 in
theorem sp_House_start (l : Launch) (dC : Nat → ClassId) (dI : Nat → Nat → Nat) (ea ev ad : Nat → Nat) (km : Nat → ClassId) (F : gF) (nf d : Nat) (h_Machine_begin : mt_Machine_begin l dC dI ea ev ad km F d) (T0 : gSt) (p1 : Int32) (p2 : Int32) (r0 : Int32) (rl0 : Int64) (T9 : gSt) (hR : rb_House_start F nf T0 p1 p2 = some (r0, rl0, T9)) : GMi l dC dI LH ad km ea ev y_House_start w_House_start (rmD (d + 1)) [.ref (ad 0), .int p1, .int p2] T0 r0 T9 := by
  intro sz
  refine Met.ofW (cc := b_House_start) (maxL := 3) (ret := (some .boolean)) (by decide) rfl ?_
  intro p e s m args below meth c s₁ B hml hv
  obtain ⟨rfl, hsz, hP, hK, hD0, hnw, henv⟩ := hv
  have hx := B.exec
  have hb := B.bytes
  have hr := B.returns
  have hT : ∀ w ∈ lw_good, w.before _ s = true := fun w h => atoms_spec (ws := w_House_start) B.pre w (List.mem_cons_of_mem _ h)
  have hown : s.vm.findClass R_House = some m.cls := findClass_of_methodNamed B.named
  subst hsz
  have hD := hD0.self (sz := s.heap.size)
  clear hD0
  generalize hAe : va_A (gW LH ad km T0) s.heap.size = A at hD henv ⊢
  have hA : ∀ q : Nat, s.heap.size ≤ q → A q := fun q h => by rw [← hAe]; exact Or.inr h
  have hS : va_S A s.heap s.heap [] := va_S.rf
  have hl := lv_entry ([.ref (ad 0), .int p1, .int p2]) (n := 3) (Nat.le_of_ble_eq_true rfl)
  rw [lg_entry_eq]
  generalize (lg_sl ([.ref (ad 0), .int p1, .int p2]) ++ List.replicate (3 - (lg_sl ([.ref (ad 0), .int p1, .int p2])).length) Slot.unset).toArray = ls at hl ⊢
  have hl : lv_has ls 3 [(0, .ref (ad 0)), (1, .int p1), (2, .int p2)] := hl
  unfold rb_House_start at hR
  refine lv_aload_n hx hb d_House_start_0 rfl (lv_at hl 0 rfl) ?_
  refine rd_House_116 hx hb hT hown hK hP d_House_start_1 ?_
  refine lv_if_eq (tgt := 29) hx hb d_House_start_4 (by decide) (fun c1 => ?_) (fun c1 => ?_)
  · replace hR := if_p c1 hR
    refine lv_iconst (v := 0) hx hb d_House_start_29 (by decide) ?_
    obtain ⟨e1, -, e3⟩ := re_e hR
    subst e1; subst e3
    exact W.zret (v := (0 : Int32)) hx hb hr (by first | rfl | decide) (fun t ht hW => ⟨⟨(0 : Int32), (), rfl, rfl, by rw [ht]; exact hP, va_K.moved hW.alike hK, hD⟩, hS.F ht⟩) hS.2.2 d_House_start_30
  · replace hR := if_n c1 hR
    refine lv_iload_n hx hb d_House_start_7 rfl (lv_at hl 1 rfl) ?_
    refine lv_iconst (v := 1) hx hb d_House_start_8 (by decide) ?_
    refine lv_icmp_lt (tgt := 29) hx hb d_House_start_9 (by decide) (fun c3 => ?_) (fun c3 => ?_)
    · replace hR := if_p c3 hR
      refine lv_iconst (v := 0) hx hb d_House_start_29 (by decide) ?_
      obtain ⟨e1, -, e3⟩ := re_e hR
      subst e1; subst e3
      exact W.zret (v := (0 : Int32)) hx hb hr (by first | rfl | decide) (fun t ht hW => ⟨⟨(0 : Int32), (), rfl, rfl, by rw [ht]; exact hP, va_K.moved hW.alike hK, hD⟩, hS.F ht⟩) hS.2.2 d_House_start_30
    · replace hR := if_n c3 hR
      refine lv_iload_n hx hb d_House_start_12 rfl (lv_at hl 1 rfl) ?_
      refine lv_bipush (v := 64) hx hb d_House_start_13 (by decide) ?_
      refine lv_icmp_gt (tgt := 29) hx hb d_House_start_15 (by decide) (fun c5 => ?_) (fun c5 => ?_)
      · replace hR := if_p c5 hR
        refine lv_iconst (v := 0) hx hb d_House_start_29 (by decide) ?_
        obtain ⟨e1, -, e3⟩ := re_e hR
        subst e1; subst e3
        exact W.zret (v := (0 : Int32)) hx hb hr (by first | rfl | decide) (fun t ht hW => ⟨⟨(0 : Int32), (), rfl, rfl, by rw [ht]; exact hP, va_K.moved hW.alike hK, hD⟩, hS.F ht⟩) hS.2.2 d_House_start_30
      · replace hR := if_n c5 hR
        refine lv_iload_n hx hb d_House_start_18 rfl (lv_at hl 2 rfl) ?_
        refine lv_iconst (v := 4) hx hb d_House_start_19 (by decide) ?_
        refine lv_icmp_lt (tgt := 29) hx hb d_House_start_20 (by decide) (fun c7 => ?_) (fun c7 => ?_)
        · replace hR := if_p c7 hR
          refine lv_iconst (v := 0) hx hb d_House_start_29 (by decide) ?_
          obtain ⟨e1, -, e3⟩ := re_e hR
          subst e1; subst e3
          exact W.zret (v := (0 : Int32)) hx hb hr (by first | rfl | decide) (fun t ht hW => ⟨⟨(0 : Int32), (), rfl, rfl, by rw [ht]; exact hP, va_K.moved hW.alike hK, hD⟩, hS.F ht⟩) hS.2.2 d_House_start_30
        · replace hR := if_n c7 hR
          refine lv_iload_n hx hb d_House_start_23 rfl (lv_at hl 2 rfl) ?_
          refine lv_bipush (v := 64) hx hb d_House_start_24 (by decide) ?_
          refine lv_icmp_le (tgt := 31) hx hb d_House_start_26 (by decide) (fun c9 => ?_) (fun c9 => ?_)
          · replace hR := if_p c9 hR
            refine lv_aload_n hx hb d_House_start_31 rfl (lv_at hl 0 rfl) ?_
            refine rd_House_79 hx hb hT hown hK hP d_House_start_32 ?_
            refine lv_iload_n hx hb d_House_start_35 rfl (lv_at hl 1 rfl) ?_
            refine lv_iload_n hx hb d_House_start_36 rfl (lv_at hl 2 rfl) ?_
            replace hR := bi_e hR
            obtain ⟨r10, l10, T10, hc10, hR⟩ := hR
            refine gcV_v (rest := []) ⟨hx, hb, hml, hown, hT⟩ (h_Machine_begin _ _ _ _ _ _ hc10) (cwV 2 hT (gV ml_House_134 im_Machine_begin se_Machine_begin ini_Machine co_Machine_begin) rfl rfl rfl pd_Machine_begin ⟨rm_hi, rm_lo (Nat.le_of_ble_eq_true rfl)⟩) hK hP hD hS hA hnw henv (Nat.le_of_ble_eq_true rfl) rfl rfl hl.1 rfl (Nat.le_of_ble_eq_true rfl) d_House_start_37 ⟨Nat.le_refl _, Nat.le_refl _⟩ (fun H locs hP hD hS => ?_)
            clear hc10
            refine lv_iconst (v := 1) hx hb d_House_start_40 (by decide) ?_
            obtain ⟨e1, -, e3⟩ := re_e hR
            subst e1; subst e3
            exact W.zret (v := (1 : Int32)) hx hb hr (by first | rfl | decide) (fun t ht hW => ⟨⟨(1 : Int32), (), rfl, rfl, by rw [ht]; exact hP, va_K.moved hW.alike hK, hD⟩, hS.F ht⟩) hS.2.2 d_House_start_41
          · replace hR := if_n c9 hR
            refine lv_iconst (v := 0) hx hb d_House_start_29 (by decide) ?_
            obtain ⟨e1, -, e3⟩ := re_e hR
            subst e1; subst e3
            exact W.zret (v := (0 : Int32)) hx hb hr (by first | rfl | decide) (fun t ht hW => ⟨⟨(0 : Int32), (), rfl, rfl, by rw [ht]; exact hP, va_K.moved hW.alike hK, hD⟩, hS.F ht⟩) hS.2.2 d_House_start_30
set_option maxHeartbeats 4000000 in
set_option maxRecDepth 100000 in
theorem sp_House_input (l : Launch) (dC : Nat → ClassId) (dI : Nat → Nat → Nat) (ea ev ad : Nat → Nat) (km : Nat → ClassId) (F : gF) (nf d : Nat) (h_Machine_takeInput : mt_Machine_takeInput l dC dI ea ev ad km F d) (T0 : gSt) (p1 : Int32) (r0 : Int32) (rl0 : Int64) (T9 : gSt) (hR : rb_House_input F nf T0 p1 = some (r0, rl0, T9)) : GMi l dC dI LH ad km ea ev y_House_input w_House_input (rmD (d + 1)) [.ref (ad 0), .int p1] T0 r0 T9 := by
  intro sz
  refine Met.ofW (cc := b_House_input) (maxL := 2) (ret := (some .int)) (by decide) rfl ?_
  intro p e s m args below meth c s₁ B hml hv
  obtain ⟨rfl, hsz, hP, hK, hD0, hnw, henv⟩ := hv
  have hx := B.exec
  have hb := B.bytes
  have hr := B.returns
  have hT : ∀ w ∈ lw_good, w.before _ s = true := fun w h => atoms_spec (ws := w_House_input) B.pre w (List.mem_cons_of_mem _ h)
  have hown : s.vm.findClass R_House = some m.cls := findClass_of_methodNamed B.named
  subst hsz
  have hD := hD0.self (sz := s.heap.size)
  clear hD0
  generalize hAe : va_A (gW LH ad km T0) s.heap.size = A at hD henv ⊢
  have hA : ∀ q : Nat, s.heap.size ≤ q → A q := fun q h => by rw [← hAe]; exact Or.inr h
  have hS : va_S A s.heap s.heap [] := va_S.rf
  have hl := lv_entry ([.ref (ad 0), .int p1]) (n := 2) (Nat.le_of_ble_eq_true rfl)
  rw [lg_entry_eq]
  generalize (lg_sl ([.ref (ad 0), .int p1]) ++ List.replicate (2 - (lg_sl ([.ref (ad 0), .int p1])).length) Slot.unset).toArray = ls at hl ⊢
  have hl : lv_has ls 2 [(0, .ref (ad 0)), (1, .int p1)] := hl
  unfold rb_House_input at hR
  refine lv_aload_n hx hb d_House_input_0 rfl (lv_at hl 0 rfl) ?_
  refine rd_House_79 hx hb hT hown hK hP d_House_input_1 ?_
  refine lv_iload_n hx hb d_House_input_4 rfl (lv_at hl 1 rfl) ?_
  replace hR := bi_e hR
  obtain ⟨r1, l1, T1, hc1, hR⟩ := hR
  refine gcV_i (rest := []) ⟨hx, hb, hml, hown, hT⟩ (h_Machine_takeInput _ _ _ _ _ hc1) (cwV 1 hT (gV ml_House_138 im_Machine_takeInput se_Machine_takeInput ini_Machine co_Machine_takeInput) rfl rfl rfl pd_Machine_takeInput ⟨rm_hi, rm_lo (Nat.le_of_ble_eq_true rfl)⟩) hK hP hD hS hA hnw henv (Nat.le_of_ble_eq_true rfl) rfl rfl hl.1 rfl (Nat.le_of_ble_eq_true rfl) d_House_input_5 ⟨Nat.le_refl _, Nat.le_refl _⟩ (fun H locs hP hD hS => ?_)
  clear hc1
  obtain ⟨e1, -, e3⟩ := re_e hR
  subst e1; subst e3
  exact W.iret (v := r1) hx hb hr (fun t ht hW => ⟨⟨r1, (), rfl, rfl, by rw [ht]; exact hP, va_K.moved hW.alike hK, hD⟩, hS.F ht⟩) hS.2.2 d_House_input_8
set_option maxHeartbeats 4000000 in
set_option maxRecDepth 100000 in
theorem sp_House_run (l : Launch) (dC : Nat → ClassId) (dI : Nat → Nat → Nat) (ea ev ad : Nat → Nat) (km : Nat → ClassId) (F : gF) (nf d : Nat) (h_Machine_doSteps : mt_Machine_doSteps l dC dI ea ev ad km F d) (T0 : gSt) (p1 : Int32) (r0 : Int32) (rl0 : Int64) (T9 : gSt) (hR : rb_House_run F nf T0 p1 = some (r0, rl0, T9)) : GMi l dC dI LH ad km ea ev y_House_run w_House_run (rmD (d + 1)) [.ref (ad 0), .int p1] T0 r0 T9 := by
  intro sz
  refine Met.ofW (cc := b_House_run) (maxL := 2) (ret := (some .int)) (by decide) rfl ?_
  intro p e s m args below meth c s₁ B hml hv
  obtain ⟨rfl, hsz, hP, hK, hD0, hnw, henv⟩ := hv
  have hx := B.exec
  have hb := B.bytes
  have hr := B.returns
  have hT : ∀ w ∈ lw_good, w.before _ s = true := fun w h => atoms_spec (ws := w_House_run) B.pre w (List.mem_cons_of_mem _ h)
  have hown : s.vm.findClass R_House = some m.cls := findClass_of_methodNamed B.named
  subst hsz
  have hD := hD0.self (sz := s.heap.size)
  clear hD0
  generalize hAe : va_A (gW LH ad km T0) s.heap.size = A at hD henv ⊢
  have hA : ∀ q : Nat, s.heap.size ≤ q → A q := fun q h => by rw [← hAe]; exact Or.inr h
  have hS : va_S A s.heap s.heap [] := va_S.rf
  have hl := lv_entry ([.ref (ad 0), .int p1]) (n := 2) (Nat.le_of_ble_eq_true rfl)
  rw [lg_entry_eq]
  generalize (lg_sl ([.ref (ad 0), .int p1]) ++ List.replicate (2 - (lg_sl ([.ref (ad 0), .int p1])).length) Slot.unset).toArray = ls at hl ⊢
  have hl : lv_has ls 2 [(0, .ref (ad 0)), (1, .int p1)] := hl
  unfold rb_House_run at hR
  refine lv_iload_n hx hb d_House_run_0 rfl (lv_at hl 1 rfl) ?_
  refine lv_iconst (v := 1) hx hb d_House_run_1 (by decide) ?_
  refine lv_icmp_lt (tgt := 23) hx hb d_House_run_2 (by decide) (fun c1 => ?_) (fun c1 => ?_)
  · replace hR := if_p c1 hR
    refine lv_iconst (v := (-1)) hx hb d_House_run_23 (by decide) ?_
    obtain ⟨e1, -, e3⟩ := re_e hR
    subst e1; subst e3
    exact W.iret (v := (-1 : Int32)) hx hb hr (fun t ht hW => ⟨⟨(-1 : Int32), (), rfl, rfl, by rw [ht]; exact hP, va_K.moved hW.alike hK, hD⟩, hS.F ht⟩) hS.2.2 d_House_run_24
  · replace hR := if_n c1 hR
    refine lv_iload_n hx hb d_House_run_5 rfl (lv_at hl 1 rfl) ?_
    refine lv_sipush (v := 500) hx hb d_House_run_6 (by decide) ?_
    refine lv_icmp_gt (tgt := 23) hx hb d_House_run_9 (by decide) (fun c3 => ?_) (fun c3 => ?_)
    · replace hR := if_p c3 hR
      refine lv_iconst (v := (-1)) hx hb d_House_run_23 (by decide) ?_
      obtain ⟨e1, -, e3⟩ := re_e hR
      subst e1; subst e3
      exact W.iret (v := (-1 : Int32)) hx hb hr (fun t ht hW => ⟨⟨(-1 : Int32), (), rfl, rfl, by rw [ht]; exact hP, va_K.moved hW.alike hK, hD⟩, hS.F ht⟩) hS.2.2 d_House_run_24
    · replace hR := if_n c3 hR
      refine lv_aload_n hx hb d_House_run_12 rfl (lv_at hl 0 rfl) ?_
      refine rd_House_79 hx hb hT hown hK hP d_House_run_13 ?_
      refine rd_House_142 hx hb hT hown hK hP d_House_run_16 ?_
      refine lv_iconst (v := 1) hx hb d_House_run_19 (by decide) ?_
      refine lv_icmp_eq (tgt := 25) hx hb d_House_run_20 (by decide) (fun c5 => ?_) (fun c5 => ?_)
      · replace hR := if_p c5 hR
        refine lv_aload_n hx hb d_House_run_25 rfl (lv_at hl 0 rfl) ?_
        refine rd_House_79 hx hb hT hown hK hP d_House_run_26 ?_
        refine lv_iload_n hx hb d_House_run_29 rfl (lv_at hl 1 rfl) ?_
        replace hR := bi_e hR
        obtain ⟨r6, l6, T6, hc6, hR⟩ := hR
        refine gcV_i (rest := []) ⟨hx, hb, hml, hown, hT⟩ (h_Machine_doSteps _ _ _ _ _ hc6) (cwV 1 hT (gV ml_House_145 im_Machine_doSteps se_Machine_doSteps ini_Machine co_Machine_doSteps) rfl rfl rfl pd_Machine_doSteps ⟨rm_hi, rm_lo (Nat.le_of_ble_eq_true rfl)⟩) hK hP hD hS hA hnw henv (Nat.le_of_ble_eq_true rfl) rfl rfl hl.1 rfl (Nat.le_of_ble_eq_true rfl) d_House_run_30 ⟨Nat.le_refl _, Nat.le_refl _⟩ (fun H locs hP hD hS => ?_)
        clear hc6
        obtain ⟨e1, -, e3⟩ := re_e hR
        subst e1; subst e3
        exact W.iret (v := r6) hx hb hr (fun t ht hW => ⟨⟨r6, (), rfl, rfl, by rw [ht]; exact hP, va_K.moved hW.alike hK, hD⟩, hS.F ht⟩) hS.2.2 d_House_run_33
      · replace hR := if_n c5 hR
        refine lv_iconst (v := (-1)) hx hb d_House_run_23 (by decide) ?_
        obtain ⟨e1, -, e3⟩ := re_e hR
        subst e1; subst e3
        exact W.iret (v := (-1 : Int32)) hx hb hr (fun t ht hW => ⟨⟨(-1 : Int32), (), rfl, rfl, by rw [ht]; exact hP, va_K.moved hW.alike hK, hD⟩, hS.F ht⟩) hS.2.2 d_House_run_24
set_option maxHeartbeats 4000000 in
set_option maxRecDepth 100000 in
theorem sp_House_state (l : Launch) (dC : Nat → ClassId) (dI : Nat → Nat → Nat) (ea ev ad : Nat → Nat) (km : Nat → ClassId) (F : gF) (nf d : Nat) (h_Machine_placeOfStep : mt_Machine_placeOfStep l dC dI ea ev ad km F d) (T0 : gSt) (p1 : Int32) (r0 : Int32) (rl0 : Int64) (T9 : gSt) (hR : rb_House_state F nf T0 p1 = some (r0, rl0, T9)) : GMi l dC dI LH ad km ea ev y_House_state w_House_state (rmD (d + 1)) [.ref (ad 0), .int p1] T0 r0 T9 := by
  intro sz
  refine Met.ofW (cc := b_House_state) (maxL := 2) (ret := (some .int)) (by decide) rfl ?_
  intro p e s m args below meth c s₁ B hml hv
  obtain ⟨rfl, hsz, hP, hK, hD0, hnw, henv⟩ := hv
  have hx := B.exec
  have hb := B.bytes
  have hr := B.returns
  have hT : ∀ w ∈ lw_good, w.before _ s = true := fun w h => atoms_spec (ws := w_House_state) B.pre w (List.mem_cons_of_mem _ h)
  have hown : s.vm.findClass R_House = some m.cls := findClass_of_methodNamed B.named
  subst hsz
  have hD := hD0.self (sz := s.heap.size)
  clear hD0
  generalize hAe : va_A (gW LH ad km T0) s.heap.size = A at hD henv ⊢
  have hA : ∀ q : Nat, s.heap.size ≤ q → A q := fun q h => by rw [← hAe]; exact Or.inr h
  have hS : va_S A s.heap s.heap [] := va_S.rf
  have hl := lv_entry ([.ref (ad 0), .int p1]) (n := 2) (Nat.le_of_ble_eq_true rfl)
  rw [lg_entry_eq]
  generalize (lg_sl ([.ref (ad 0), .int p1]) ++ List.replicate (2 - (lg_sl ([.ref (ad 0), .int p1])).length) Slot.unset).toArray = ls at hl ⊢
  have hl : lv_has ls 2 [(0, .ref (ad 0)), (1, .int p1)] := hl
  unfold rb_House_state at hR
  refine lv_iload_n hx hb d_House_state_0 rfl (lv_at hl 1 rfl) ?_
  by_cases c1 : p1 = (0 : Int32)
  · replace hR := if_p c1 hR
    refine lv_tableIn (off := 27) (tgt := 28) hx hb d_House_state_1 (by rw [c1]; decide) (by rw [c1]; decide) (by rw [c1]; decide) (by decide) ?_
    refine lv_aload_n hx hb d_House_state_28 rfl (lv_at hl 0 rfl) ?_
    refine rd_House_79 hx hb hT hown hK hP d_House_state_29 ?_
    refine rd_House_142 hx hb hT hown hK hP d_House_state_32 ?_
    obtain ⟨e1, -, e3⟩ := re_e hR
    subst e1; subst e3
    exact W.iret (v := T0.1 106 0) hx hb hr (fun t ht hW => ⟨⟨T0.1 106 0, (), rfl, rfl, by rw [ht]; exact hP, va_K.moved hW.alike hK, hD⟩, hS.F ht⟩) hS.2.2 d_House_state_35
  replace hR := if_n c1 hR
  by_cases c3 : p1 = (1 : Int32)
  · replace hR := if_p c3 hR
    refine lv_tableIn (off := 35) (tgt := 36) hx hb d_House_state_1 (by rw [c3]; decide) (by rw [c3]; decide) (by rw [c3]; decide) (by decide) ?_
    refine lv_aload_n hx hb d_House_state_36 rfl (lv_at hl 0 rfl) ?_
    refine rd_House_79 hx hb hT hown hK hP d_House_state_37 ?_
    refine rd_House_142 hx hb hT hown hK hP d_House_state_40 ?_
    refine lv_iconst (v := 3) hx hb d_House_state_43 (by decide) ?_
    refine lv_icmp_ne (tgt := 57) hx hb d_House_state_44 (by decide) (fun c4 => ?_) (fun c4 => ?_)
    · replace hR := if_n c4 hR
      refine lv_iconst (v := 0) hx hb d_House_state_57 (by decide) ?_
      obtain ⟨e1, -, e3⟩ := re_e hR
      subst e1; subst e3
      exact W.iret (v := (0 : Int32)) hx hb hr (fun t ht hW => ⟨⟨(0 : Int32), (), rfl, rfl, by rw [ht]; exact hP, va_K.moved hW.alike hK, hD⟩, hS.F ht⟩) hS.2.2 d_House_state_58
    · replace hR := if_p c4 hR
      refine lv_aload_n hx hb d_House_state_47 rfl (lv_at hl 0 rfl) ?_
      refine rd_House_79 hx hb hT hown hK hP d_House_state_48 ?_
      refine rd_House_148 hx hb hT hown hK hP d_House_state_51 ?_
      refine lv_goto (tgt := 58) hx hb d_House_state_54 (by decide) ?_
      obtain ⟨e1, -, e3⟩ := re_e hR
      subst e1; subst e3
      exact W.iret (v := T0.1 107 0) hx hb hr (fun t ht hW => ⟨⟨T0.1 107 0, (), rfl, rfl, by rw [ht]; exact hP, va_K.moved hW.alike hK, hD⟩, hS.F ht⟩) hS.2.2 d_House_state_58
  replace hR := if_n c3 hR
  by_cases c7 : p1 = (2 : Int32)
  · replace hR := if_p c7 hR
    refine lv_tableIn (off := 58) (tgt := 59) hx hb d_House_state_1 (by rw [c7]; decide) (by rw [c7]; decide) (by rw [c7]; decide) (by decide) ?_
    refine lv_aload_n hx hb d_House_state_59 rfl (lv_at hl 0 rfl) ?_
    refine rd_House_79 hx hb hT hown hK hP d_House_state_60 ?_
    replace hR := bi_e hR
    obtain ⟨r8, l8, T8, hc8, hR⟩ := hR
    refine gcV_i (rest := []) ⟨hx, hb, hml, hown, hT⟩ (h_Machine_placeOfStep _ _ _ _ hc8) (cwV 0 hT (gV ml_House_151 im_Machine_placeOfStep se_Machine_placeOfStep ini_Machine co_Machine_placeOfStep) rfl rfl rfl pd_Machine_placeOfStep ⟨rm_hi, rm_lo (Nat.le_of_ble_eq_true rfl)⟩) hK hP hD hS hA hnw henv (Nat.le_of_ble_eq_true rfl) rfl rfl hl.1 rfl (Nat.le_of_ble_eq_true rfl) d_House_state_63 ⟨Nat.le_refl _, Nat.le_refl _⟩ (fun H locs hP hD hS => ?_)
    clear hc8
    obtain ⟨e1, -, e3⟩ := re_e hR
    subst e1; subst e3
    exact W.iret (v := r8) hx hb hr (fun t ht hW => ⟨⟨r8, (), rfl, rfl, by rw [ht]; exact hP, va_K.moved hW.alike hK, hD⟩, hS.F ht⟩) hS.2.2 d_House_state_66
  replace hR := if_n c7 hR
  have h310 : (p1 : Int32).toInt < 0 ∨ 2 < (p1 : Int32).toInt := by
    simp only [i_eq, Int32.reduceToInt] at c1 c3 c7; omega
  refine lv_tableOut (tgt := 67) hx hb d_House_state_1 h310 (by decide) ?_
  refine lv_iconst (v := (-1)) hx hb d_House_state_67 (by decide) ?_
  obtain ⟨e1, -, e3⟩ := re_e hR
  subst e1; subst e3
  exact W.iret (v := (-1 : Int32)) hx hb hr (fun t ht hW => ⟨⟨(-1 : Int32), (), rfl, rfl, by rw [ht]; exact hP, va_K.moved hW.alike hK, hD⟩, hS.F ht⟩) hS.2.2 d_House_state_68
set_option maxHeartbeats 4000000 in
set_option maxRecDepth 100000 in
theorem sp_House_world (l : Launch) (dC : Nat → ClassId) (dI : Nat → Nat → Nat) (ea ev ad : Nat → Nat) (km : Nat → ClassId) (F : gF) (nf d : Nat) (h_Machine_tell : mt_Machine_tell l dC dI ea ev ad km F d) (T0 : gSt) (p1 : Int32) (r0 : Int32) (rl0 : Int64) (T9 : gSt) (hR : rb_House_world F nf T0 p1 = some (r0, rl0, T9)) : GMi l dC dI LH ad km ea ev y_House_world w_House_world (rmD (d + 1)) [.ref (ad 0), .int p1] T0 r0 T9 := by
  intro sz
  refine Met.ofW (cc := b_House_world) (maxL := 2) (ret := (some .int)) (by decide) rfl ?_
  intro p e s m args below meth c s₁ B hml hv
  obtain ⟨rfl, hsz, hP, hK, hD0, hnw, henv⟩ := hv
  have hx := B.exec
  have hb := B.bytes
  have hr := B.returns
  have hT : ∀ w ∈ lw_good, w.before _ s = true := fun w h => atoms_spec (ws := w_House_world) B.pre w (List.mem_cons_of_mem _ h)
  have hown : s.vm.findClass R_House = some m.cls := findClass_of_methodNamed B.named
  subst hsz
  have hD := hD0.self (sz := s.heap.size)
  clear hD0
  generalize hAe : va_A (gW LH ad km T0) s.heap.size = A at hD henv ⊢
  have hA : ∀ q : Nat, s.heap.size ≤ q → A q := fun q h => by rw [← hAe]; exact Or.inr h
  have hS : va_S A s.heap s.heap [] := va_S.rf
  have hl := lv_entry ([.ref (ad 0), .int p1]) (n := 2) (Nat.le_of_ble_eq_true rfl)
  rw [lg_entry_eq]
  generalize (lg_sl ([.ref (ad 0), .int p1]) ++ List.replicate (2 - (lg_sl ([.ref (ad 0), .int p1])).length) Slot.unset).toArray = ls at hl ⊢
  have hl : lv_has ls 2 [(0, .ref (ad 0)), (1, .int p1)] := hl
  unfold rb_House_world at hR
  refine lv_iload_n hx hb d_House_world_0 rfl (lv_at hl 1 rfl) ?_
  refine lv_if_lt (tgt := 10) hx hb d_House_world_1 (by decide) (fun c1 => ?_) (fun c1 => ?_)
  · replace hR := if_p c1 hR
    refine lv_iconst (v := (-1)) hx hb d_House_world_10 (by decide) ?_
    obtain ⟨e1, -, e3⟩ := re_e hR
    subst e1; subst e3
    exact W.iret (v := (-1 : Int32)) hx hb hr (fun t ht hW => ⟨⟨(-1 : Int32), (), rfl, rfl, by rw [ht]; exact hP, va_K.moved hW.alike hK, hD⟩, hS.F ht⟩) hS.2.2 d_House_world_11
  · replace hR := if_n c1 hR
    refine lv_iload_n hx hb d_House_world_4 rfl (lv_at hl 1 rfl) ?_
    refine lv_bipush (v := 8) hx hb d_House_world_5 (by decide) ?_
    refine lv_icmp_le (tgt := 12) hx hb d_House_world_7 (by decide) (fun c3 => ?_) (fun c3 => ?_)
    · replace hR := if_p c3 hR
      refine lv_aload_n hx hb d_House_world_12 rfl (lv_at hl 0 rfl) ?_
      refine rd_House_79 hx hb hT hown hK hP d_House_world_13 ?_
      refine rd_House_142 hx hb hT hown hK hP d_House_world_16 ?_
      refine lv_if_ne (tgt := 26) hx hb d_House_world_19 (by decide) (fun c4 => ?_) (fun c4 => ?_)
      · replace hR := if_n c4 hR
        refine lv_aload_n hx hb d_House_world_26 rfl (lv_at hl 0 rfl) ?_
        refine rd_House_79 hx hb hT hown hK hP d_House_world_27 ?_
        refine lv_iload_n hx hb d_House_world_30 rfl (lv_at hl 1 rfl) ?_
        replace hR := bi_e hR
        obtain ⟨r5, l5, T5, hc5, hR⟩ := hR
        refine gcV_i (rest := []) ⟨hx, hb, hml, hown, hT⟩ (h_Machine_tell _ _ _ _ _ hc5) (cwV 1 hT (gV ml_House_155 im_Machine_tell se_Machine_tell ini_Machine co_Machine_tell) rfl rfl rfl pd_Machine_tell ⟨rm_hi, rm_lo (Nat.le_of_ble_eq_true rfl)⟩) hK hP hD hS hA hnw henv (Nat.le_of_ble_eq_true rfl) rfl rfl hl.1 rfl (Nat.le_of_ble_eq_true rfl) d_House_world_31 ⟨Nat.le_refl _, Nat.le_refl _⟩ (fun H locs hP hD hS => ?_)
        clear hc5
        obtain ⟨e1, -, e3⟩ := re_e hR
        subst e1; subst e3
        exact W.iret (v := r5) hx hb hr (fun t ht hW => ⟨⟨r5, (), rfl, rfl, by rw [ht]; exact hP, va_K.moved hW.alike hK, hD⟩, hS.F ht⟩) hS.2.2 d_House_world_34
      · replace hR := if_p c4 hR
        refine lv_iconst (v := 0) hx hb d_House_world_22 (by decide) ?_
        refine lv_goto (tgt := 34) hx hb d_House_world_23 (by decide) ?_
        obtain ⟨e1, -, e3⟩ := re_e hR
        subst e1; subst e3
        exact W.iret (v := (0 : Int32)) hx hb hr (fun t ht hW => ⟨⟨(0 : Int32), (), rfl, rfl, by rw [ht]; exact hP, va_K.moved hW.alike hK, hD⟩, hS.F ht⟩) hS.2.2 d_House_world_34
    · replace hR := if_n c3 hR
      refine lv_iconst (v := (-1)) hx hb d_House_world_10 (by decide) ?_
      obtain ⟨e1, -, e3⟩ := re_e hR
      subst e1; subst e3
      exact W.iret (v := (-1 : Int32)) hx hb hr (fun t ht hW => ⟨⟨(-1 : Int32), (), rfl, rfl, by rw [ht]; exact hP, va_K.moved hW.alike hK, hD⟩, hS.F ht⟩) hS.2.2 d_House_world_11
set_option maxHeartbeats 4000000 in
set_option maxRecDepth 100000 in
theorem sp_House_region (l : Launch) (dC : Nat → ClassId) (dI : Nat → Nat → Nat) (ea ev ad : Nat → Nat) (km : Nat → ClassId) (F : gF) (nf d : Nat) (h_Memory_tellRegion : mt_Memory_tellRegion l dC dI ea ev ad km F d) (T0 : gSt) (p1 : Int32) (p2 : Int32) (r0 : Int32) (rl0 : Int64) (T9 : gSt) (hR : rb_House_region F nf T0 p1 p2 = some (r0, rl0, T9)) : GMi l dC dI LH ad km ea ev y_House_region w_House_region (rmD (d + 1)) [.ref (ad 0), .int p1, .int p2] T0 r0 T9 := by
  intro sz
  refine Met.ofW (cc := b_House_region) (maxL := 3) (ret := (some .int)) (by decide) rfl ?_
  intro p e s m args below meth c s₁ B hml hv
  obtain ⟨rfl, hsz, hP, hK, hD0, hnw, henv⟩ := hv
  have hx := B.exec
  have hb := B.bytes
  have hr := B.returns
  have hT : ∀ w ∈ lw_good, w.before _ s = true := fun w h => atoms_spec (ws := w_House_region) B.pre w (List.mem_cons_of_mem _ h)
  have hown : s.vm.findClass R_House = some m.cls := findClass_of_methodNamed B.named
  subst hsz
  have hD := hD0.self (sz := s.heap.size)
  clear hD0
  generalize hAe : va_A (gW LH ad km T0) s.heap.size = A at hD henv ⊢
  have hA : ∀ q : Nat, s.heap.size ≤ q → A q := fun q h => by rw [← hAe]; exact Or.inr h
  have hS : va_S A s.heap s.heap [] := va_S.rf
  have hl := lv_entry ([.ref (ad 0), .int p1, .int p2]) (n := 3) (Nat.le_of_ble_eq_true rfl)
  rw [lg_entry_eq]
  generalize (lg_sl ([.ref (ad 0), .int p1, .int p2]) ++ List.replicate (3 - (lg_sl ([.ref (ad 0), .int p1, .int p2])).length) Slot.unset).toArray = ls at hl ⊢
  have hl : lv_has ls 3 [(0, .ref (ad 0)), (1, .int p1), (2, .int p2)] := hl
  unfold rb_House_region at hR
  refine lv_aload_n hx hb d_House_region_0 rfl (lv_at hl 0 rfl) ?_
  refine rd_House_79 hx hb hT hown hK hP d_House_region_1 ?_
  refine rd_House_142 hx hb hT hown hK hP d_House_region_4 ?_
  refine lv_if_ne (tgt := 12) hx hb d_House_region_7 (by decide) (fun c1 => ?_) (fun c1 => ?_)
  · replace hR := if_n c1 hR
    refine lv_aload_n hx hb d_House_region_12 rfl (lv_at hl 0 rfl) ?_
    refine rd_House_79 hx hb hT hown hK hP d_House_region_13 ?_
    refine rd_House_158 hx hb hT hown hK hP d_House_region_16 ?_
    refine lv_iload_n hx hb d_House_region_19 rfl (lv_at hl 1 rfl) ?_
    refine lv_iload_n hx hb d_House_region_20 rfl (lv_at hl 2 rfl) ?_
    replace hR := bi_e hR
    obtain ⟨r2, l2, T2, hc2, hR⟩ := hR
    refine gcV_i (rest := []) ⟨hx, hb, hml, hown, hT⟩ (h_Memory_tellRegion _ _ _ _ _ _ hc2) (cwV 2 hT (gV ml_House_162 im_Memory_tellRegion se_Memory_tellRegion ini_Memory co_Memory_tellRegion) rfl rfl rfl pd_Memory_tellRegion ⟨rm_hi, rm_lo (Nat.le_of_ble_eq_true rfl)⟩) hK hP hD hS hA hnw henv (Nat.le_of_ble_eq_true rfl) rfl rfl hl.1 rfl (Nat.le_of_ble_eq_true rfl) d_House_region_21 ⟨Nat.le_refl _, Nat.le_refl _⟩ (fun H locs hP hD hS => ?_)
    clear hc2
    obtain ⟨e1, -, e3⟩ := re_e hR
    subst e1; subst e3
    exact W.iret (v := r2) hx hb hr (fun t ht hW => ⟨⟨r2, (), rfl, rfl, by rw [ht]; exact hP, va_K.moved hW.alike hK, hD⟩, hS.F ht⟩) hS.2.2 d_House_region_24
  · replace hR := if_p c1 hR
    refine lv_iconst (v := (-1)) hx hb d_House_region_10 (by decide) ?_
    obtain ⟨e1, -, e3⟩ := re_e hR
    subst e1; subst e3
    exact W.iret (v := (-1 : Int32)) hx hb hr (fun t ht hW => ⟨⟨(-1 : Int32), (), rfl, rfl, by rw [ht]; exact hP, va_K.moved hW.alike hK, hD⟩, hS.F ht⟩) hS.2.2 d_House_region_11
set_option maxHeartbeats 4000000 in
set_option maxRecDepth 100000 in
theorem sp_House_printed (l : Launch) (dC : Nat → ClassId) (dI : Nat → Nat → Nat) (ea ev ad : Nat → Nat) (km : Nat → ClassId) (F : gF) (nf d : Nat) (h_Machine_printedAt : mt_Machine_printedAt l dC dI ea ev ad km F d) (T0 : gSt) (p1 : Int32) (r0 : Int32) (rl0 : Int64) (T9 : gSt) (hR : rb_House_printed F nf T0 p1 = some (r0, rl0, T9)) : GMi l dC dI LH ad km ea ev y_House_printed w_House_printed (rmD (d + 1)) [.ref (ad 0), .int p1] T0 r0 T9 := by
  intro sz
  refine Met.ofW (cc := b_House_printed) (maxL := 2) (ret := (some .int)) (by decide) rfl ?_
  intro p e s m args below meth c s₁ B hml hv
  obtain ⟨rfl, hsz, hP, hK, hD0, hnw, henv⟩ := hv
  have hx := B.exec
  have hb := B.bytes
  have hr := B.returns
  have hT : ∀ w ∈ lw_good, w.before _ s = true := fun w h => atoms_spec (ws := w_House_printed) B.pre w (List.mem_cons_of_mem _ h)
  have hown : s.vm.findClass R_House = some m.cls := findClass_of_methodNamed B.named
  subst hsz
  have hD := hD0.self (sz := s.heap.size)
  clear hD0
  generalize hAe : va_A (gW LH ad km T0) s.heap.size = A at hD henv ⊢
  have hA : ∀ q : Nat, s.heap.size ≤ q → A q := fun q h => by rw [← hAe]; exact Or.inr h
  have hS : va_S A s.heap s.heap [] := va_S.rf
  have hl := lv_entry ([.ref (ad 0), .int p1]) (n := 2) (Nat.le_of_ble_eq_true rfl)
  rw [lg_entry_eq]
  generalize (lg_sl ([.ref (ad 0), .int p1]) ++ List.replicate (2 - (lg_sl ([.ref (ad 0), .int p1])).length) Slot.unset).toArray = ls at hl ⊢
  have hl : lv_has ls 2 [(0, .ref (ad 0)), (1, .int p1)] := hl
  unfold rb_House_printed at hR
  refine lv_aload_n hx hb d_House_printed_0 rfl (lv_at hl 0 rfl) ?_
  refine rd_House_79 hx hb hT hown hK hP d_House_printed_1 ?_
  refine rd_House_142 hx hb hT hown hK hP d_House_printed_4 ?_
  refine lv_if_ne (tgt := 12) hx hb d_House_printed_7 (by decide) (fun c1 => ?_) (fun c1 => ?_)
  · replace hR := if_n c1 hR
    refine lv_aload_n hx hb d_House_printed_12 rfl (lv_at hl 0 rfl) ?_
    refine rd_House_79 hx hb hT hown hK hP d_House_printed_13 ?_
    refine lv_iload_n hx hb d_House_printed_16 rfl (lv_at hl 1 rfl) ?_
    replace hR := bi_e hR
    obtain ⟨r2, l2, T2, hc2, hR⟩ := hR
    refine gcV_i (rest := []) ⟨hx, hb, hml, hown, hT⟩ (h_Machine_printedAt _ _ _ _ _ hc2) (cwV 1 hT (gV ml_House_166 im_Machine_printedAt se_Machine_printedAt ini_Machine co_Machine_printedAt) rfl rfl rfl pd_Machine_printedAt ⟨rm_hi, rm_lo (Nat.le_of_ble_eq_true rfl)⟩) hK hP hD hS hA hnw henv (Nat.le_of_ble_eq_true rfl) rfl rfl hl.1 rfl (Nat.le_of_ble_eq_true rfl) d_House_printed_17 ⟨Nat.le_refl _, Nat.le_refl _⟩ (fun H locs hP hD hS => ?_)
    clear hc2
    obtain ⟨e1, -, e3⟩ := re_e hR
    subst e1; subst e3
    exact W.iret (v := r2) hx hb hr (fun t ht hW => ⟨⟨r2, (), rfl, rfl, by rw [ht]; exact hP, va_K.moved hW.alike hK, hD⟩, hS.F ht⟩) hS.2.2 d_House_printed_20
  · replace hR := if_p c1 hR
    refine lv_iconst (v := 0) hx hb d_House_printed_10 (by decide) ?_
    obtain ⟨e1, -, e3⟩ := re_e hR
    subst e1; subst e3
    exact W.iret (v := (0 : Int32)) hx hb hr (fun t ht hW => ⟨⟨(0 : Int32), (), rfl, rfl, by rw [ht]; exact hP, va_K.moved hW.alike hK, hD⟩, hS.F ht⟩) hS.2.2 d_House_printed_11
set_option maxHeartbeats 4000000 in
set_option maxRecDepth 100000 in
theorem sp_Source_kindAt (l : Launch) (dC : Nat → ClassId) (dI : Nat → Nat → Nat) (ea ev ad : Nat → Nat) (km : Nat → ClassId) (F : gF) (nf d : Nat) (T0 : gSt) (p1 : Int32) (r0 : Int32) (rl0 : Int64) (T9 : gSt) (hR : rb_Source_kindAt F nf T0 p1 = some (r0, rl0, T9)) : GMi l dC dI LH ad km ea ev y_Source_kindAt w_Source_kindAt (rmD (d + 1)) [.ref (ad 1), .int p1] T0 r0 T9 := by
  intro sz
  refine Met.ofW (cc := b_Source_kindAt) (maxL := 2) (ret := (some .int)) (by decide) rfl ?_
  intro p e s m args below meth c s₁ B hml hv
  obtain ⟨rfl, hsz, hP, hK, hD0, hnw, henv⟩ := hv
  have hx := B.exec
  have hb := B.bytes
  have hr := B.returns
  have hT : ∀ w ∈ lw_good, w.before _ s = true := fun w h => atoms_spec (ws := w_Source_kindAt) B.pre w (List.mem_cons_of_mem _ h)
  have hown : s.vm.findClass R_Source = some m.cls := findClass_of_methodNamed B.named
  subst hsz
  have hD := hD0.self (sz := s.heap.size)
  clear hD0
  generalize hAe : va_A (gW LH ad km T0) s.heap.size = A at hD henv ⊢
  have hA : ∀ q : Nat, s.heap.size ≤ q → A q := fun q h => by rw [← hAe]; exact Or.inr h
  have hS : va_S A s.heap s.heap [] := va_S.rf
  have hl := lv_entry ([.ref (ad 1), .int p1]) (n := 2) (Nat.le_of_ble_eq_true rfl)
  rw [lg_entry_eq]
  generalize (lg_sl ([.ref (ad 1), .int p1]) ++ List.replicate (2 - (lg_sl ([.ref (ad 1), .int p1])).length) Slot.unset).toArray = ls at hl ⊢
  have hl : lv_has ls 2 [(0, .ref (ad 1)), (1, .int p1)] := hl
  unfold rb_Source_kindAt at hR
  refine lv_iload_n hx hb d_Source_kindAt_0 rfl (lv_at hl 1 rfl) ?_
  refine lv_if_lt (tgt := 12) hx hb d_Source_kindAt_1 (by decide) (fun c1 => ?_) (fun c1 => ?_)
  · replace hR := if_p c1 hR
    refine lv_iconst (v := 0) hx hb d_Source_kindAt_12 (by decide) ?_
    refine lv_goto (tgt := 22) hx hb d_Source_kindAt_13 (by decide) ?_
    obtain ⟨e1, -, e3⟩ := re_e hR
    subst e1; subst e3
    exact W.iret (v := (0 : Int32)) hx hb hr (fun t ht hW => ⟨⟨(0 : Int32), (), rfl, rfl, by rw [ht]; exact hP, va_K.moved hW.alike hK, hD⟩, hS.F ht⟩) hS.2.2 d_Source_kindAt_22
  · replace hR := if_n c1 hR
    refine lv_iload_n hx hb d_Source_kindAt_4 rfl (lv_at hl 1 rfl) ?_
    refine lv_aload_n hx hb d_Source_kindAt_5 rfl (lv_at hl 0 rfl) ?_
    refine rd_Source_86 hx hb hT hown hK hP d_Source_kindAt_6 ?_
    refine lv_icmp_lt (tgt := 16) hx hb d_Source_kindAt_9 (by decide) (fun c3 => ?_) (fun c3 => ?_)
    · replace hR := if_p c3 hR
      refine lv_aload_n hx hb d_Source_kindAt_16 rfl (lv_at hl 0 rfl) ?_
      refine rd_Source_36 hx hb hT hown hK hP d_Source_kindAt_17 ?_
      refine lv_iload_n hx hb d_Source_kindAt_20 rfl (lv_at hl 1 rfl) ?_
      replace hR := gd_e hR
      obtain ⟨b4, hR⟩ := hR
      refine laH_9 hx hb hK hP b4 d_Source_kindAt_21 ?_
      obtain ⟨e1, -, e3⟩ := re_e hR
      subst e1; subst e3
      exact W.iret (v := T0.1 22 p1.toNatClampNeg) hx hb hr (fun t ht hW => ⟨⟨T0.1 22 p1.toNatClampNeg, (), rfl, rfl, by rw [ht]; exact hP, va_K.moved hW.alike hK, hD⟩, hS.F ht⟩) hS.2.2 d_Source_kindAt_22
    · replace hR := if_n c3 hR
      refine lv_iconst (v := 0) hx hb d_Source_kindAt_12 (by decide) ?_
      refine lv_goto (tgt := 22) hx hb d_Source_kindAt_13 (by decide) ?_
      obtain ⟨e1, -, e3⟩ := re_e hR
      subst e1; subst e3
      exact W.iret (v := (0 : Int32)) hx hb hr (fun t ht hW => ⟨⟨(0 : Int32), (), rfl, rfl, by rw [ht]; exact hP, va_K.moved hW.alike hK, hD⟩, hS.F ht⟩) hS.2.2 d_Source_kindAt_22
set_option maxHeartbeats 4000000 in
set_option maxRecDepth 100000 in
theorem sp_Source_startOf (l : Launch) (dC : Nat → ClassId) (dI : Nat → Nat → Nat) (ea ev ad : Nat → Nat) (km : Nat → ClassId) (F : gF) (nf d : Nat) (T0 : gSt) (p1 : Int32) (r0 : Int32) (rl0 : Int64) (T9 : gSt) (hR : rb_Source_startOf F nf T0 p1 = some (r0, rl0, T9)) : GMi l dC dI LH ad km ea ev y_Source_startOf w_Source_startOf (rmD (d + 1)) [.ref (ad 1), .int p1] T0 r0 T9 := by
  intro sz
  refine Met.ofW (cc := b_Source_startOf) (maxL := 2) (ret := (some .int)) (by decide) rfl ?_
  intro p e s m args below meth c s₁ B hml hv
  obtain ⟨rfl, hsz, hP, hK, hD0, hnw, henv⟩ := hv
  have hx := B.exec
  have hb := B.bytes
  have hr := B.returns
  have hT : ∀ w ∈ lw_good, w.before _ s = true := fun w h => atoms_spec (ws := w_Source_startOf) B.pre w (List.mem_cons_of_mem _ h)
  have hown : s.vm.findClass R_Source = some m.cls := findClass_of_methodNamed B.named
  subst hsz
  have hD := hD0.self (sz := s.heap.size)
  clear hD0
  generalize hAe : va_A (gW LH ad km T0) s.heap.size = A at hD henv ⊢
  have hA : ∀ q : Nat, s.heap.size ≤ q → A q := fun q h => by rw [← hAe]; exact Or.inr h
  have hS : va_S A s.heap s.heap [] := va_S.rf
  have hl := lv_entry ([.ref (ad 1), .int p1]) (n := 2) (Nat.le_of_ble_eq_true rfl)
  rw [lg_entry_eq]
  generalize (lg_sl ([.ref (ad 1), .int p1]) ++ List.replicate (2 - (lg_sl ([.ref (ad 1), .int p1])).length) Slot.unset).toArray = ls at hl ⊢
  have hl : lv_has ls 2 [(0, .ref (ad 1)), (1, .int p1)] := hl
  unfold rb_Source_startOf at hR
  refine lv_iload_n hx hb d_Source_startOf_0 rfl (lv_at hl 1 rfl) ?_
  refine lv_if_lt (tgt := 12) hx hb d_Source_startOf_1 (by decide) (fun c1 => ?_) (fun c1 => ?_)
  · replace hR := if_p c1 hR
    refine lv_aload_n hx hb d_Source_startOf_12 rfl (lv_at hl 0 rfl) ?_
    refine rd_Source_83 hx hb hT hown hK hP d_Source_startOf_13 ?_
    refine lv_goto (tgt := 25) hx hb d_Source_startOf_16 (by decide) ?_
    obtain ⟨e1, -, e3⟩ := re_e hR
    subst e1; subst e3
    exact W.iret (v := T0.1 21 0) hx hb hr (fun t ht hW => ⟨⟨T0.1 21 0, (), rfl, rfl, by rw [ht]; exact hP, va_K.moved hW.alike hK, hD⟩, hS.F ht⟩) hS.2.2 d_Source_startOf_25
  · replace hR := if_n c1 hR
    refine lv_iload_n hx hb d_Source_startOf_4 rfl (lv_at hl 1 rfl) ?_
    refine lv_aload_n hx hb d_Source_startOf_5 rfl (lv_at hl 0 rfl) ?_
    refine rd_Source_86 hx hb hT hown hK hP d_Source_startOf_6 ?_
    refine lv_icmp_lt (tgt := 19) hx hb d_Source_startOf_9 (by decide) (fun c3 => ?_) (fun c3 => ?_)
    · replace hR := if_p c3 hR
      refine lv_aload_n hx hb d_Source_startOf_19 rfl (lv_at hl 0 rfl) ?_
      refine rd_Source_39 hx hb hT hown hK hP d_Source_startOf_20 ?_
      refine lv_iload_n hx hb d_Source_startOf_23 rfl (lv_at hl 1 rfl) ?_
      replace hR := gd_e hR
      obtain ⟨b4, hR⟩ := hR
      refine laH_10 hx hb hK hP b4 d_Source_startOf_24 ?_
      obtain ⟨e1, -, e3⟩ := re_e hR
      subst e1; subst e3
      exact W.iret (v := T0.1 23 p1.toNatClampNeg) hx hb hr (fun t ht hW => ⟨⟨T0.1 23 p1.toNatClampNeg, (), rfl, rfl, by rw [ht]; exact hP, va_K.moved hW.alike hK, hD⟩, hS.F ht⟩) hS.2.2 d_Source_startOf_25
    · replace hR := if_n c3 hR
      refine lv_aload_n hx hb d_Source_startOf_12 rfl (lv_at hl 0 rfl) ?_
      refine rd_Source_83 hx hb hT hown hK hP d_Source_startOf_13 ?_
      refine lv_goto (tgt := 25) hx hb d_Source_startOf_16 (by decide) ?_
      obtain ⟨e1, -, e3⟩ := re_e hR
      subst e1; subst e3
      exact W.iret (v := T0.1 21 0) hx hb hr (fun t ht hW => ⟨⟨T0.1 21 0, (), rfl, rfl, by rw [ht]; exact hP, va_K.moved hW.alike hK, hD⟩, hS.F ht⟩) hS.2.2 d_Source_startOf_25
set_option maxHeartbeats 4000000 in
set_option maxRecDepth 100000 in
theorem sp_Source_nameAt (l : Launch) (dC : Nat → ClassId) (dI : Nat → Nat → Nat) (ea ev ad : Nat → Nat) (km : Nat → ClassId) (F : gF) (nf d : Nat) (T0 : gSt) (p1 : Int32) (r0 : Int32) (rl0 : Int64) (T9 : gSt) (hR : rb_Source_nameAt F nf T0 p1 = some (r0, rl0, T9)) : GMl l dC dI LH ad km ea ev y_Source_nameAt w_Source_nameAt (rmD (d + 1)) [.ref (ad 1), .int p1] T0 rl0 T9 := by
  intro sz
  refine Met.ofW (cc := b_Source_nameAt) (maxL := 2) (ret := (some .long)) (by decide) rfl ?_
  intro p e s m args below meth c s₁ B hml hv
  obtain ⟨rfl, hsz, hP, hK, hD0, hnw, henv⟩ := hv
  have hx := B.exec
  have hb := B.bytes
  have hr := B.returns
  have hT : ∀ w ∈ lw_good, w.before _ s = true := fun w h => atoms_spec (ws := w_Source_nameAt) B.pre w (List.mem_cons_of_mem _ h)
  have hown : s.vm.findClass R_Source = some m.cls := findClass_of_methodNamed B.named
  subst hsz
  have hD := hD0.self (sz := s.heap.size)
  clear hD0
  generalize hAe : va_A (gW LH ad km T0) s.heap.size = A at hD henv ⊢
  have hA : ∀ q : Nat, s.heap.size ≤ q → A q := fun q h => by rw [← hAe]; exact Or.inr h
  have hS : va_S A s.heap s.heap [] := va_S.rf
  have hl := lv_entry ([.ref (ad 1), .int p1]) (n := 2) (Nat.le_of_ble_eq_true rfl)
  rw [lg_entry_eq]
  generalize (lg_sl ([.ref (ad 1), .int p1]) ++ List.replicate (2 - (lg_sl ([.ref (ad 1), .int p1])).length) Slot.unset).toArray = ls at hl ⊢
  have hl : lv_has ls 2 [(0, .ref (ad 1)), (1, .int p1)] := hl
  unfold rb_Source_nameAt at hR
  refine lv_iload_n hx hb d_Source_nameAt_0 rfl (lv_at hl 1 rfl) ?_
  refine lv_if_lt (tgt := 12) hx hb d_Source_nameAt_1 (by decide) (fun c1 => ?_) (fun c1 => ?_)
  · replace hR := if_p c1 hR
    refine lv_lconst (v := 0) hx hb d_Source_nameAt_12 (by decide) ?_
    refine lv_goto (tgt := 22) hx hb d_Source_nameAt_13 (by decide) ?_
    obtain ⟨-, e1, e3⟩ := re_e hR
    subst e1; subst e3
    exact W.lret (v := (0 : Int64)) hx hb hr (fun t ht hW => ⟨⟨(0 : Int64), (), rfl, rfl, by rw [ht]; exact hP, va_K.moved hW.alike hK, hD⟩, hS.F ht⟩) hS.2.2 d_Source_nameAt_22
  · replace hR := if_n c1 hR
    refine lv_iload_n hx hb d_Source_nameAt_4 rfl (lv_at hl 1 rfl) ?_
    refine lv_aload_n hx hb d_Source_nameAt_5 rfl (lv_at hl 0 rfl) ?_
    refine rd_Source_86 hx hb hT hown hK hP d_Source_nameAt_6 ?_
    refine lv_icmp_lt (tgt := 16) hx hb d_Source_nameAt_9 (by decide) (fun c2 => ?_) (fun c2 => ?_)
    · replace hR := if_p c2 hR
      refine lv_aload_n hx hb d_Source_nameAt_16 rfl (lv_at hl 0 rfl) ?_
      refine rd_Source_42 hx hb hT hown hK hP d_Source_nameAt_17 ?_
      refine lv_iload_n hx hb d_Source_nameAt_20 rfl (lv_at hl 1 rfl) ?_
      replace hR := gd_e hR
      obtain ⟨b3, hR⟩ := hR
      refine laH_11 hx hb hK hP b3 d_Source_nameAt_21 ?_
      obtain ⟨-, e1, e3⟩ := re_e hR
      subst e1; subst e3
      exact W.lret (v := T0.2 24 p1.toNatClampNeg) hx hb hr (fun t ht hW => ⟨⟨T0.2 24 p1.toNatClampNeg, (), rfl, rfl, by rw [ht]; exact hP, va_K.moved hW.alike hK, hD⟩, hS.F ht⟩) hS.2.2 d_Source_nameAt_22
    · replace hR := if_n c2 hR
      refine lv_lconst (v := 0) hx hb d_Source_nameAt_12 (by decide) ?_
      refine lv_goto (tgt := 22) hx hb d_Source_nameAt_13 (by decide) ?_
      obtain ⟨-, e1, e3⟩ := re_e hR
      subst e1; subst e3
      exact W.lret (v := (0 : Int64)) hx hb hr (fun t ht hW => ⟨⟨(0 : Int64), (), rfl, rfl, by rw [ht]; exact hP, va_K.moved hW.alike hK, hD⟩, hS.F ht⟩) hS.2.2 d_Source_nameAt_22
set_option maxHeartbeats 4000000 in
set_option maxRecDepth 100000 in
theorem sp_Source_addNode (l : Launch) (dC : Nat → ClassId) (dI : Nat → Nat → Nat) (ea ev ad : Nat → Nat) (km : Nat → ClassId) (F : gF) (nf d : Nat) (T0 : gSt) (p1 : Int32) (p2 : Int32) (r0 : Int32) (rl0 : Int64) (T9 : gSt) (hR : rb_Source_addNode F nf T0 p1 p2 = some (r0, rl0, T9)) : GMi l dC dI LH ad km ea ev y_Source_addNode w_Source_addNode (rmD (d + 1)) [.ref (ad 1), .int p1, .int p2] T0 r0 T9 := by
  intro sz
  refine Met.ofW (cc := b_Source_addNode) (maxL := 3) (ret := (some .int)) (by decide) rfl ?_
  intro p e s m args below meth c s₁ B hml hv
  obtain ⟨rfl, hsz, hP, hK, hD0, hnw, henv⟩ := hv
  have hx := B.exec
  have hb := B.bytes
  have hr := B.returns
  have hT : ∀ w ∈ lw_good, w.before _ s = true := fun w h => atoms_spec (ws := w_Source_addNode) B.pre w (List.mem_cons_of_mem _ h)
  have hown : s.vm.findClass R_Source = some m.cls := findClass_of_methodNamed B.named
  subst hsz
  have hD := hD0.self (sz := s.heap.size)
  clear hD0
  generalize hAe : va_A (gW LH ad km T0) s.heap.size = A at hD henv ⊢
  have hA : ∀ q : Nat, s.heap.size ≤ q → A q := fun q h => by rw [← hAe]; exact Or.inr h
  have hS : va_S A s.heap s.heap [] := va_S.rf
  have hl := lv_entry ([.ref (ad 1), .int p1, .int p2]) (n := 3) (Nat.le_of_ble_eq_true rfl)
  rw [lg_entry_eq]
  generalize (lg_sl ([.ref (ad 1), .int p1, .int p2]) ++ List.replicate (3 - (lg_sl ([.ref (ad 1), .int p1, .int p2])).length) Slot.unset).toArray = ls at hl ⊢
  have hl : lv_has ls 3 [(0, .ref (ad 1)), (1, .int p1), (2, .int p2)] := hl
  unfold rb_Source_addNode at hR
  refine lv_aload_n hx hb d_Source_addNode_0 rfl (lv_at hl 0 rfl) ?_
  refine rd_Source_96 hx hb hT hown hK hP d_Source_addNode_1 ?_
  refine lv_sipush (v := 4008) hx hb d_Source_addNode_4 (by decide) ?_
  refine lv_icmp_lt (tgt := 12) hx hb d_Source_addNode_7 (by decide) (fun c1 => ?_) (fun c1 => ?_)
  · replace hR := if_p c1 hR
    refine lv_aload_n hx hb d_Source_addNode_12 rfl (lv_at hl 0 rfl) ?_
    refine rd_Source_11 hx hb hT hown hK hP d_Source_addNode_13 ?_
    refine lv_aload_n hx hb d_Source_addNode_16 rfl (lv_at hl 0 rfl) ?_
    refine rd_Source_96 hx hb hT hown hK hP d_Source_addNode_17 ?_
    refine lv_iload_n hx hb d_Source_addNode_20 rfl (lv_at hl 1 rfl) ?_
    replace hR := gd_e hR
    obtain ⟨b2, hR⟩ := hR
    refine saH_1 hx hb hK hP hD hS b2 d_Source_addNode_21 (fun T2 eT H locs hP hD hS => ?_)
    replace hR := stK_e eT hR
    clear eT
    refine lv_aload_n hx hb d_Source_addNode_22 rfl (lv_at hl 0 rfl) ?_
    refine rd_Source_15 hx hb hT hown hK hP d_Source_addNode_23 ?_
    refine lv_aload_n hx hb d_Source_addNode_26 rfl (lv_at hl 0 rfl) ?_
    refine rd_Source_96 hx hb hT hown hK hP d_Source_addNode_27 ?_
    refine lv_iload_n hx hb d_Source_addNode_30 rfl (lv_at hl 2 rfl) ?_
    replace hR := gd_e hR
    obtain ⟨b3, hR⟩ := hR
    refine saH_2 hx hb hK hP hD hS b3 d_Source_addNode_31 (fun T3 eT H locs hP hD hS => ?_)
    replace hR := stK_e eT hR
    clear eT
    refine lv_aload_n hx hb d_Source_addNode_32 rfl (lv_at hl 0 rfl) ?_
    refine rd_Source_18 hx hb hT hown hK hP d_Source_addNode_33 ?_
    refine lv_aload_n hx hb d_Source_addNode_36 rfl (lv_at hl 0 rfl) ?_
    refine rd_Source_96 hx hb hT hown hK hP d_Source_addNode_37 ?_
    refine lv_iconst (v := 0) hx hb d_Source_addNode_40 (by decide) ?_
    replace hR := gd_e hR
    obtain ⟨b4, hR⟩ := hR
    refine saH_3 hx hb hK hP hD hS b4 d_Source_addNode_41 (fun T4 eT H locs hP hD hS => ?_)
    replace hR := stK_e eT hR
    clear eT
    refine lv_aload_n hx hb d_Source_addNode_42 rfl (lv_at hl 0 rfl) ?_
    refine rd_Source_21 hx hb hT hown hK hP d_Source_addNode_43 ?_
    refine lv_aload_n hx hb d_Source_addNode_46 rfl (lv_at hl 0 rfl) ?_
    refine rd_Source_96 hx hb hT hown hK hP d_Source_addNode_47 ?_
    refine lv_iconst (v := 0) hx hb d_Source_addNode_50 (by decide) ?_
    replace hR := gd_e hR
    obtain ⟨b5, hR⟩ := hR
    refine saH_4 hx hb hK hP hD hS b5 d_Source_addNode_51 (fun T5 eT H locs hP hD hS => ?_)
    replace hR := stK_e eT hR
    clear eT
    refine lv_aload_n hx hb d_Source_addNode_52 rfl (lv_at hl 0 rfl) ?_
    refine rd_Source_24 hx hb hT hown hK hP d_Source_addNode_53 ?_
    refine lv_aload_n hx hb d_Source_addNode_56 rfl (lv_at hl 0 rfl) ?_
    refine rd_Source_96 hx hb hT hown hK hP d_Source_addNode_57 ?_
    refine lv_iconst (v := 0) hx hb d_Source_addNode_60 (by decide) ?_
    replace hR := gd_e hR
    obtain ⟨b6, hR⟩ := hR
    refine saH_5 hx hb hK hP hD hS b6 d_Source_addNode_61 (fun T6 eT H locs hP hD hS => ?_)
    replace hR := stK_e eT hR
    clear eT
    refine lv_aload_n hx hb d_Source_addNode_62 rfl (lv_at hl 0 rfl) ?_
    refine rd_Source_27 hx hb hT hown hK hP d_Source_addNode_63 ?_
    refine lv_aload_n hx hb d_Source_addNode_66 rfl (lv_at hl 0 rfl) ?_
    refine rd_Source_96 hx hb hT hown hK hP d_Source_addNode_67 ?_
    refine lv_iconst (v := 0) hx hb d_Source_addNode_70 (by decide) ?_
    replace hR := gd_e hR
    obtain ⟨b7, hR⟩ := hR
    refine saH_6 hx hb hK hP hD hS b7 d_Source_addNode_71 (fun T7 eT H locs hP hD hS => ?_)
    replace hR := stK_e eT hR
    clear eT
    refine lv_aload_n hx hb d_Source_addNode_72 rfl (lv_at hl 0 rfl) ?_
    refine rd_Source_30 hx hb hT hown hK hP d_Source_addNode_73 ?_
    refine lv_aload_n hx hb d_Source_addNode_76 rfl (lv_at hl 0 rfl) ?_
    refine rd_Source_96 hx hb hT hown hK hP d_Source_addNode_77 ?_
    refine lv_iconst (v := 0) hx hb d_Source_addNode_80 (by decide) ?_
    replace hR := gd_e hR
    obtain ⟨b8, hR⟩ := hR
    refine saH_7 hx hb hK hP hD hS b8 d_Source_addNode_81 (fun T8 eT H locs hP hD hS => ?_)
    replace hR := stK_e eT hR
    clear eT
    refine lv_aload_n hx hb d_Source_addNode_82 rfl (lv_at hl 0 rfl) ?_
    refine rd_Source_33 hx hb hT hown hK hP d_Source_addNode_83 ?_
    refine lv_aload_n hx hb d_Source_addNode_86 rfl (lv_at hl 0 rfl) ?_
    refine rd_Source_96 hx hb hT hown hK hP d_Source_addNode_87 ?_
    refine lv_iconst (v := 0) hx hb d_Source_addNode_90 (by decide) ?_
    replace hR := gd_e hR
    obtain ⟨b9, hR⟩ := hR
    refine saH_8 hx hb hK hP hD hS b9 d_Source_addNode_91 (fun T9 eT H locs hP hD hS => ?_)
    replace hR := stK_e eT hR
    clear eT
    refine lv_aload_n hx hb d_Source_addNode_92 rfl (lv_at hl 0 rfl) ?_
    refine lv_dup hx hb d_Source_addNode_93 rfl ?_
    refine rd_Source_96 hx hb hT hown hK hP d_Source_addNode_94 ?_
    refine lv_iconst (v := 1) hx hb d_Source_addNode_97 (by decide) ?_
    refine lv_iadd hx hb d_Source_addNode_98 ?_
    refine wr_Source_96 hx hb hT hown hK hP hD hS d_Source_addNode_99 (fun T10 eT H locs hP hD hS => ?_)
    replace hR := stK_e eT hR
    clear eT
    refine lv_aload_n hx hb d_Source_addNode_102 rfl (lv_at hl 0 rfl) ?_
    refine rd_Source_96 hx hb hT hown hK hP d_Source_addNode_103 ?_
    refine lv_iconst (v := 1) hx hb d_Source_addNode_106 (by decide) ?_
    refine lv_isub hx hb d_Source_addNode_107 ?_
    obtain ⟨e1, -, e3⟩ := re_e hR
    subst e1; subst e3
    exact W.iret (v := (T10.1 19 0) - (1 : Int32)) hx hb hr (fun t ht hW => ⟨⟨(T10.1 19 0) - (1 : Int32), (), rfl, rfl, by rw [ht]; exact hP, va_K.moved hW.alike hK, hD⟩, hS.F ht⟩) hS.2.2 d_Source_addNode_108
  · replace hR := if_n c1 hR
    refine lv_iconst (v := 0) hx hb d_Source_addNode_10 (by decide) ?_
    obtain ⟨e1, -, e3⟩ := re_e hR
    subst e1; subst e3
    exact W.iret (v := (0 : Int32)) hx hb hr (fun t ht hW => ⟨⟨(0 : Int32), (), rfl, rfl, by rw [ht]; exact hP, va_K.moved hW.alike hK, hD⟩, hS.F ht⟩) hS.2.2 d_Source_addNode_11
set_option maxHeartbeats 4000000 in
set_option maxRecDepth 100000 in
theorem sp_Source_bare (l : Launch) (dC : Nat → ClassId) (dI : Nat → Nat → Nat) (ea ev ad : Nat → Nat) (km : Nat → ClassId) (F : gF) (nf d : Nat) (h_Source_isBareParen : mt_Source_isBareParen l dC dI ea ev ad km F d) (T0 : gSt) (p1 : Int32) (r0 : Int32) (rl0 : Int64) (T9 : gSt) (hR : rb_Source_bare F nf T0 p1 = some (r0, rl0, T9)) : GMi l dC dI LH ad km ea ev y_Source_bare w_Source_bare (rmD (d + 1)) [.ref (ad 1), .int p1] T0 r0 T9 := by
  intro sz
  refine Met.ofW (cc := b_Source_bare) (maxL := 4) (ret := (some .int)) (by decide) rfl ?_
  intro p e s m args below meth c s₁ B hml hv
  obtain ⟨rfl, hsz, hP, hK, hD0, hnw, henv⟩ := hv
  have hx := B.exec
  have hb := B.bytes
  have hr := B.returns
  have hT : ∀ w ∈ lw_good, w.before _ s = true := fun w h => atoms_spec (ws := w_Source_bare) B.pre w (List.mem_cons_of_mem _ h)
  have hown : s.vm.findClass R_Source = some m.cls := findClass_of_methodNamed B.named
  subst hsz
  have hD := hD0.self (sz := s.heap.size)
  clear hD0
  generalize hAe : va_A (gW LH ad km T0) s.heap.size = A at hD henv ⊢
  have hA : ∀ q : Nat, s.heap.size ≤ q → A q := fun q h => by rw [← hAe]; exact Or.inr h
  have hS : va_S A s.heap s.heap [] := va_S.rf
  have hl := lv_entry ([.ref (ad 1), .int p1]) (n := 4) (Nat.le_of_ble_eq_true rfl)
  rw [lg_entry_eq]
  generalize (lg_sl ([.ref (ad 1), .int p1]) ++ List.replicate (4 - (lg_sl ([.ref (ad 1), .int p1])).length) Slot.unset).toArray = ls at hl ⊢
  have hl : lv_has ls 4 [(0, .ref (ad 1)), (1, .int p1)] := hl
  obtain ⟨G, hG⟩ : ∃ G : Nat → List (Nat × Value) → List Value → gSt → Prop, G = (fun pc lv stk T => ∀ (H : Heap) (locs : List Loc), va_P (dC, dI) cls_all (gW LH ad km T) H → va_D A (gW LH ad km T) → va_S A s.heap H locs → ∀ (ls : Array Slot), lv_has ls 4 lv → W p l e (headSpec w_Source_bare (rmD (d + 1))).room s m ([.ref (ad 1), .int p1] : List Value).toArray below meth c H locs 0 0 (MQ below (va_Qi (fun (z : Int32) (_ : Unit) => z = r0) (fun _ t => gPost dC dI LH ad km T9 A t) A) ([.ref (ad 1), .int p1] : List Value).toArray s 0 0 A) (F0 m pc ls stk)) := ⟨_, rfl⟩
  have lb_4 : ∀ (n : Nat) (T : gSt) (x2 : Int32) (x3 : Int32), rl_Source_bare_4 F nf n T x2 x3 = some (r0, rl0, T9) → G 4 [(0, .ref (ad 1)), (2, .int x2), (3, .int x3)] [] T := by
    intro n
    induction n with
    | zero => intro T x2 x3 hR; rw [rl_Source_bare_4] at hR; cases hR
    | succ n ih =>
      intro T x2 x3 hR; rw [rl_Source_bare_4] at hR; rw [hG]; intro H locs hP hD hS ls hl
      refine lv_iload_n hx hb d_Source_bare_4 rfl (lv_at hl 2 rfl) ?_
      refine lv_bipush (v := 20) hx hb d_Source_bare_5 (by decide) ?_
      refine lv_icmp_ge (tgt := 40) hx hb d_Source_bare_7 (by decide) (fun c1 => ?_) (fun c1 => ?_)
      · replace hR := if_p c1 hR
        refine lv_iload_n hx hb d_Source_bare_40 rfl (lv_at hl 1 rfl) ?_
        obtain ⟨e1, -, e3⟩ := re_e hR
        subst e1; subst e3
        exact W.iret (v := x2) hx hb hr (fun t ht hW => ⟨⟨x2, (), rfl, rfl, by rw [ht]; exact hP, va_K.moved hW.alike hK, hD⟩, hS.F ht⟩) hS.2.2 d_Source_bare_41
      · replace hR := if_n c1 hR
        refine lv_aload_n hx hb d_Source_bare_10 rfl (lv_at hl 0 rfl) ?_
        refine lv_iload_n hx hb d_Source_bare_11 rfl (lv_at hl 1 rfl) ?_
        replace hR := bi_e hR
        obtain ⟨r3, l3, T3, hc3, hR⟩ := hR
        refine gcV_i (rest := []) ⟨hx, hb, hml, hown, hT⟩ (h_Source_isBareParen _ _ _ _ _ hc3) (cwV 1 hT (gV ml_Source_141 im_Source_isBareParen se_Source_isBareParen ini_Source co_Source_isBareParen) rfl rfl rfl pd_Source_isBareParen ⟨rm_hi, rm_lo (Nat.le_of_ble_eq_true rfl)⟩) hK hP hD hS hA hnw henv (Nat.le_of_ble_eq_true rfl) rfl rfl hl.1 rfl (Nat.le_of_ble_eq_true rfl) d_Source_bare_12 ⟨Nat.le_refl _, Nat.le_refl _⟩ (fun H locs hP hD hS => ?_)
        clear hc3
        refine lv_if_eq (tgt := 40) hx hb d_Source_bare_15 (by decide) (fun c4 => ?_) (fun c4 => ?_)
        · replace hR := if_p c4 hR
          refine lv_iload_n hx hb d_Source_bare_40 rfl (lv_at hl 1 rfl) ?_
          obtain ⟨e1, -, e3⟩ := re_e hR
          subst e1; subst e3
          exact W.iret (v := x2) hx hb hr (fun t ht hW => ⟨⟨x2, (), rfl, rfl, by rw [ht]; exact hP, va_K.moved hW.alike hK, hD⟩, hS.F ht⟩) hS.2.2 d_Source_bare_41
        · replace hR := if_n c4 hR
          refine lv_aload_n hx hb d_Source_bare_18 rfl (lv_at hl 0 rfl) ?_
          refine rd_Source_18 hx hb hT hown hK hP d_Source_bare_19 ?_
          refine lv_iload_n hx hb d_Source_bare_22 rfl (lv_at hl 1 rfl) ?_
          replace hR := gd_e hR
          obtain ⟨b6, hR⟩ := hR
          refine laH_3 hx hb hK hP b6 d_Source_bare_23 ?_
          refine lv_if_ne (tgt := 40) hx hb d_Source_bare_24 (by decide) (fun c7 => ?_) (fun c7 => ?_)
          · replace hR := if_n c7 hR
            refine lv_iload_n hx hb d_Source_bare_40 rfl (lv_at hl 1 rfl) ?_
            obtain ⟨e1, -, e3⟩ := re_e hR
            subst e1; subst e3
            exact W.iret (v := x2) hx hb hr (fun t ht hW => ⟨⟨x2, (), rfl, rfl, by rw [ht]; exact hP, va_K.moved hW.alike hK, hD⟩, hS.F ht⟩) hS.2.2 d_Source_bare_41
          · replace hR := if_p c7 hR
            refine lv_aload_n hx hb d_Source_bare_27 rfl (lv_at hl 0 rfl) ?_
            refine rd_Source_30 hx hb hT hown hK hP d_Source_bare_28 ?_
            refine lv_iload_n hx hb d_Source_bare_31 rfl (lv_at hl 1 rfl) ?_
            replace hR := gd_e hR
            obtain ⟨b9, hR⟩ := hR
            refine laH_7 hx hb hK hP b9 d_Source_bare_32 ?_
            refine lv_topi (fun z10 e10 => ?_)
            replace hR := vK_e e10 hR
            refine lv_istore_n (lv' := [(2, .int z10), (0, .ref (ad 1)), (3, .int x3)]) hx hb d_Source_bare_33 rfl hl (by decide) rfl (fun ls hl => ?_)
            obtain ⟨z11, e11⟩ : ∃ y : Int32, y = x3 + (1 : Int32) := ⟨_, rfl⟩
            replace hR := vK_e e11 hR
            refine lv_iinc (v := z11) (lv' := [(3, .int z11), (2, .int z10), (0, .ref (ad 1))]) hx hb d_Source_bare_34 hl (k := 2) rfl (by rw [e11]; rfl) (by decide) rfl (fun ls hl => ?_)
            refine lv_goto (tgt := 4) hx hb d_Source_bare_37 (by decide) ?_
            have g := ih T3 z10 z11 hR
            rw [hG] at g
            exact g _ _ hP hD hS _ (lv_sub hl [2, 1, 0] rfl)
  unfold rb_Source_bare at hR
  refine lv_iload_n hx hb d_Source_bare_0 rfl (lv_at hl 1 rfl) ?_
  refine lv_istore_n (lv' := [(2, .int p1), (0, .ref (ad 1)), (1, .int p1)]) hx hb d_Source_bare_1 rfl hl (by decide) rfl (fun ls hl => ?_)
  refine lv_iconst (v := 0) hx hb d_Source_bare_2 (by decide) ?_
  refine lv_istore_n (lv' := [(3, .int (0 : Int32)), (2, .int p1), (0, .ref (ad 1)), (1, .int p1)]) hx hb d_Source_bare_3 rfl hl (by decide) rfl (fun ls hl => ?_)
  have g := lb_4 nf T0 p1 (0 : Int32) hR
  rw [hG] at g
  exact g _ _ hP hD hS _ (lv_sub hl [2, 1, 0] rfl)
set_option maxHeartbeats 4000000 in
set_option maxRecDepth 100000 in
theorem sp_Source_bareTerm (l : Launch) (dC : Nat → ClassId) (dI : Nat → Nat → Nat) (ea ev ad : Nat → Nat) (km : Nat → ClassId) (F : gF) (nf d : Nat) (h_Source_isBareParen : mt_Source_isBareParen l dC dI ea ev ad km F d) (h_Source_bare : mt_Source_bare l dC dI ea ev ad km F d) (T0 : gSt) (p1 : Int32) (r0 : Int32) (rl0 : Int64) (T9 : gSt) (hR : rb_Source_bareTerm F nf T0 p1 = some (r0, rl0, T9)) : GMi l dC dI LH ad km ea ev y_Source_bareTerm w_Source_bareTerm (rmD (d + 1)) [.ref (ad 1), .int p1] T0 r0 T9 := by
  intro sz
  refine Met.ofW (cc := b_Source_bareTerm) (maxL := 3) (ret := (some .int)) (by decide) rfl ?_
  intro p e s m args below meth c s₁ B hml hv
  obtain ⟨rfl, hsz, hP, hK, hD0, hnw, henv⟩ := hv
  have hx := B.exec
  have hb := B.bytes
  have hr := B.returns
  have hT : ∀ w ∈ lw_good, w.before _ s = true := fun w h => atoms_spec (ws := w_Source_bareTerm) B.pre w (List.mem_cons_of_mem _ h)
  have hown : s.vm.findClass R_Source = some m.cls := findClass_of_methodNamed B.named
  subst hsz
  have hD := hD0.self (sz := s.heap.size)
  clear hD0
  generalize hAe : va_A (gW LH ad km T0) s.heap.size = A at hD henv ⊢
  have hA : ∀ q : Nat, s.heap.size ≤ q → A q := fun q h => by rw [← hAe]; exact Or.inr h
  have hS : va_S A s.heap s.heap [] := va_S.rf
  have hl := lv_entry ([.ref (ad 1), .int p1]) (n := 3) (Nat.le_of_ble_eq_true rfl)
  rw [lg_entry_eq]
  generalize (lg_sl ([.ref (ad 1), .int p1]) ++ List.replicate (3 - (lg_sl ([.ref (ad 1), .int p1])).length) Slot.unset).toArray = ls at hl ⊢
  have hl : lv_has ls 3 [(0, .ref (ad 1)), (1, .int p1)] := hl
  unfold rb_Source_bareTerm at hR
  refine lv_aload_n hx hb d_Source_bareTerm_0 rfl (lv_at hl 0 rfl) ?_
  refine lv_iload_n hx hb d_Source_bareTerm_1 rfl (lv_at hl 1 rfl) ?_
  replace hR := bi_e hR
  obtain ⟨r1, l1, T1, hc1, hR⟩ := hR
  refine gcV_i (rest := []) ⟨hx, hb, hml, hown, hT⟩ (h_Source_isBareParen _ _ _ _ _ hc1) (cwV 1 hT (gV ml_Source_141 im_Source_isBareParen se_Source_isBareParen ini_Source co_Source_isBareParen) rfl rfl rfl pd_Source_isBareParen ⟨rm_hi, rm_lo (Nat.le_of_ble_eq_true rfl)⟩) hK hP hD hS hA hnw henv (Nat.le_of_ble_eq_true rfl) rfl rfl hl.1 rfl (Nat.le_of_ble_eq_true rfl) d_Source_bareTerm_2 ⟨Nat.le_refl _, Nat.le_refl _⟩ (fun H locs hP hD hS => ?_)
  clear hc1
  refine lv_if_ne (tgt := 10) hx hb d_Source_bareTerm_5 (by decide) (fun c2 => ?_) (fun c2 => ?_)
  · replace hR := if_n c2 hR
    refine lv_aload_n hx hb d_Source_bareTerm_10 rfl (lv_at hl 0 rfl) ?_
    refine lv_aload_n hx hb d_Source_bareTerm_11 rfl (lv_at hl 0 rfl) ?_
    refine rd_Source_30 hx hb hT hown hK hP d_Source_bareTerm_12 ?_
    refine lv_iload_n hx hb d_Source_bareTerm_15 rfl (lv_at hl 1 rfl) ?_
    replace hR := gd_e hR
    obtain ⟨b3, hR⟩ := hR
    refine laH_7 hx hb hK hP b3 d_Source_bareTerm_16 ?_
    replace hR := bi_e hR
    obtain ⟨r4, l4, T4, hc4, hR⟩ := hR
    refine gcV_i (rest := []) ⟨hx, hb, hml, hown, hT⟩ (h_Source_bare _ _ _ _ _ hc4) (cwV 1 hT (gV ml_Source_145 im_Source_bare se_Source_bare ini_Source co_Source_bare) rfl rfl rfl pd_Source_bare ⟨rm_hi, rm_lo (Nat.le_of_ble_eq_true rfl)⟩) hK hP hD hS hA hnw henv (Nat.le_of_ble_eq_true rfl) rfl rfl hl.1 rfl (Nat.le_of_ble_eq_true rfl) d_Source_bareTerm_17 ⟨Nat.le_refl _, Nat.le_refl _⟩ (fun H locs hP hD hS => ?_)
    clear hc4
    refine lv_istore_n (lv' := [(2, .int r4), (0, .ref (ad 1)), (1, .int p1)]) hx hb d_Source_bareTerm_20 rfl hl (by decide) rfl (fun ls hl => ?_)
    refine lv_aload_n hx hb d_Source_bareTerm_21 rfl (lv_at hl 1 rfl) ?_
    refine rd_Source_18 hx hb hT hown hK hP d_Source_bareTerm_22 ?_
    refine lv_iload_n hx hb d_Source_bareTerm_25 rfl (lv_at hl 0 rfl) ?_
    replace hR := gd_e hR
    obtain ⟨b5, hR⟩ := hR
    refine laH_3 hx hb hK hP b5 d_Source_bareTerm_26 ?_
    refine lv_if_ne (tgt := 34) hx hb d_Source_bareTerm_27 (by decide) (fun c6 => ?_) (fun c6 => ?_)
    · replace hR := if_n c6 hR
      refine lv_iconst (v := 0) hx hb d_Source_bareTerm_34 (by decide) ?_
      obtain ⟨e1, -, e3⟩ := re_e hR
      subst e1; subst e3
      exact W.iret (v := (0 : Int32)) hx hb hr (fun t ht hW => ⟨⟨(0 : Int32), (), rfl, rfl, by rw [ht]; exact hP, va_K.moved hW.alike hK, hD⟩, hS.F ht⟩) hS.2.2 d_Source_bareTerm_35
    · replace hR := if_p c6 hR
      refine lv_iload_n hx hb d_Source_bareTerm_30 rfl (lv_at hl 0 rfl) ?_
      refine lv_goto (tgt := 35) hx hb d_Source_bareTerm_31 (by decide) ?_
      obtain ⟨e1, -, e3⟩ := re_e hR
      subst e1; subst e3
      exact W.iret (v := r4) hx hb hr (fun t ht hW => ⟨⟨r4, (), rfl, rfl, by rw [ht]; exact hP, va_K.moved hW.alike hK, hD⟩, hS.F ht⟩) hS.2.2 d_Source_bareTerm_35
  · replace hR := if_p c2 hR
    refine lv_iload_n hx hb d_Source_bareTerm_8 rfl (lv_at hl 1 rfl) ?_
    obtain ⟨e1, -, e3⟩ := re_e hR
    subst e1; subst e3
    exact W.iret (v := p1) hx hb hr (fun t ht hW => ⟨⟨p1, (), rfl, rfl, by rw [ht]; exact hP, va_K.moved hW.alike hK, hD⟩, hS.F ht⟩) hS.2.2 d_Source_bareTerm_9
set_option maxHeartbeats 4000000 in
set_option maxRecDepth 100000 in
theorem sp_Source_isBareParen (l : Launch) (dC : Nat → ClassId) (dI : Nat → Nat → Nat) (ea ev ad : Nat → Nat) (km : Nat → ClassId) (F : gF) (nf d : Nat) (T0 : gSt) (p1 : Int32) (r0 : Int32) (rl0 : Int64) (T9 : gSt) (hR : rb_Source_isBareParen F nf T0 p1 = some (r0, rl0, T9)) : GMi l dC dI LH ad km ea ev y_Source_isBareParen w_Source_isBareParen (rmD (d + 1)) [.ref (ad 1), .int p1] T0 r0 T9 := by
  intro sz
  refine Met.ofW (cc := b_Source_isBareParen) (maxL := 2) (ret := (some .boolean)) (by decide) rfl ?_
  intro p e s m args below meth c s₁ B hml hv
  obtain ⟨rfl, hsz, hP, hK, hD0, hnw, henv⟩ := hv
  have hx := B.exec
  have hb := B.bytes
  have hr := B.returns
  have hT : ∀ w ∈ lw_good, w.before _ s = true := fun w h => atoms_spec (ws := w_Source_isBareParen) B.pre w (List.mem_cons_of_mem _ h)
  have hown : s.vm.findClass R_Source = some m.cls := findClass_of_methodNamed B.named
  subst hsz
  have hD := hD0.self (sz := s.heap.size)
  clear hD0
  generalize hAe : va_A (gW LH ad km T0) s.heap.size = A at hD henv ⊢
  have hA : ∀ q : Nat, s.heap.size ≤ q → A q := fun q h => by rw [← hAe]; exact Or.inr h
  have hS : va_S A s.heap s.heap [] := va_S.rf
  have hl := lv_entry ([.ref (ad 1), .int p1]) (n := 2) (Nat.le_of_ble_eq_true rfl)
  rw [lg_entry_eq]
  generalize (lg_sl ([.ref (ad 1), .int p1]) ++ List.replicate (2 - (lg_sl ([.ref (ad 1), .int p1])).length) Slot.unset).toArray = ls at hl ⊢
  have hl : lv_has ls 2 [(0, .ref (ad 1)), (1, .int p1)] := hl
  unfold rb_Source_isBareParen at hR
  refine lv_aload_n hx hb d_Source_isBareParen_0 rfl (lv_at hl 0 rfl) ?_
  refine rd_Source_11 hx hb hT hown hK hP d_Source_isBareParen_1 ?_
  refine lv_iload_n hx hb d_Source_isBareParen_4 rfl (lv_at hl 1 rfl) ?_
  replace hR := gd_e hR
  obtain ⟨b1, hR⟩ := hR
  refine laH_1 hx hb hK hP b1 d_Source_isBareParen_5 ?_
  refine lv_bipush (v := 42) hx hb d_Source_isBareParen_6 (by decide) ?_
  refine lv_icmp_ne (tgt := 24) hx hb d_Source_isBareParen_8 (by decide) (fun c2 => ?_) (fun c2 => ?_)
  · replace hR := if_n c2 hR
    refine lv_iconst (v := 0) hx hb d_Source_isBareParen_24 (by decide) ?_
    obtain ⟨e1, -, e3⟩ := re_e hR
    subst e1; subst e3
    exact W.zret (v := (0 : Int32)) hx hb hr (by first | rfl | decide) (fun t ht hW => ⟨⟨(0 : Int32), (), rfl, rfl, by rw [ht]; exact hP, va_K.moved hW.alike hK, hD⟩, hS.F ht⟩) hS.2.2 d_Source_isBareParen_25
  · replace hR := if_p c2 hR
    refine lv_aload_n hx hb d_Source_isBareParen_11 rfl (lv_at hl 0 rfl) ?_
    refine rd_Source_33 hx hb hT hown hK hP d_Source_isBareParen_12 ?_
    refine lv_iload_n hx hb d_Source_isBareParen_15 rfl (lv_at hl 1 rfl) ?_
    replace hR := gd_e hR
    obtain ⟨b4, hR⟩ := hR
    refine laH_8 hx hb hK hP b4 d_Source_isBareParen_16 ?_
    refine lv_if_ne (tgt := 24) hx hb d_Source_isBareParen_17 (by decide) (fun c5 => ?_) (fun c5 => ?_)
    · replace hR := if_n c5 hR
      refine lv_iconst (v := 0) hx hb d_Source_isBareParen_24 (by decide) ?_
      obtain ⟨e1, -, e3⟩ := re_e hR
      subst e1; subst e3
      exact W.zret (v := (0 : Int32)) hx hb hr (by first | rfl | decide) (fun t ht hW => ⟨⟨(0 : Int32), (), rfl, rfl, by rw [ht]; exact hP, va_K.moved hW.alike hK, hD⟩, hS.F ht⟩) hS.2.2 d_Source_isBareParen_25
    · replace hR := if_p c5 hR
      refine lv_iconst (v := 1) hx hb d_Source_isBareParen_20 (by decide) ?_
      refine lv_goto (tgt := 25) hx hb d_Source_isBareParen_21 (by decide) ?_
      obtain ⟨e1, -, e3⟩ := re_e hR
      subst e1; subst e3
      exact W.zret (v := (1 : Int32)) hx hb hr (by first | rfl | decide) (fun t ht hW => ⟨⟨(1 : Int32), (), rfl, rfl, by rw [ht]; exact hP, va_K.moved hW.alike hK, hD⟩, hS.F ht⟩) hS.2.2 d_Source_isBareParen_25
set_option maxHeartbeats 4000000 in
set_option maxRecDepth 100000 in
theorem sp_Source_lastTail (l : Launch) (dC : Nat → ClassId) (dI : Nat → Nat → Nat) (ea ev ad : Nat → Nat) (km : Nat → ClassId) (F : gF) (nf d : Nat) (T0 : gSt) (p1 : Int32) (r0 : Int32) (rl0 : Int64) (T9 : gSt) (hR : rb_Source_lastTail F nf T0 p1 = some (r0, rl0, T9)) : GMi l dC dI LH ad km ea ev y_Source_lastTail w_Source_lastTail (rmD (d + 1)) [.ref (ad 1), .int p1] T0 r0 T9 := by
  intro sz
  refine Met.ofW (cc := b_Source_lastTail) (maxL := 5) (ret := (some .int)) (by decide) rfl ?_
  intro p e s m args below meth c s₁ B hml hv
  obtain ⟨rfl, hsz, hP, hK, hD0, hnw, henv⟩ := hv
  have hx := B.exec
  have hb := B.bytes
  have hr := B.returns
  have hT : ∀ w ∈ lw_good, w.before _ s = true := fun w h => atoms_spec (ws := w_Source_lastTail) B.pre w (List.mem_cons_of_mem _ h)
  have hown : s.vm.findClass R_Source = some m.cls := findClass_of_methodNamed B.named
  subst hsz
  have hD := hD0.self (sz := s.heap.size)
  clear hD0
  generalize hAe : va_A (gW LH ad km T0) s.heap.size = A at hD henv ⊢
  have hA : ∀ q : Nat, s.heap.size ≤ q → A q := fun q h => by rw [← hAe]; exact Or.inr h
  have hS : va_S A s.heap s.heap [] := va_S.rf
  have hl := lv_entry ([.ref (ad 1), .int p1]) (n := 5) (Nat.le_of_ble_eq_true rfl)
  rw [lg_entry_eq]
  generalize (lg_sl ([.ref (ad 1), .int p1]) ++ List.replicate (5 - (lg_sl ([.ref (ad 1), .int p1])).length) Slot.unset).toArray = ls at hl ⊢
  have hl : lv_has ls 5 [(0, .ref (ad 1)), (1, .int p1)] := hl
  obtain ⟨G, hG⟩ : ∃ G : Nat → List (Nat × Value) → List Value → gSt → Prop, G = (fun pc lv stk T => ∀ (H : Heap) (locs : List Loc), va_P (dC, dI) cls_all (gW LH ad km T) H → va_D A (gW LH ad km T) → va_S A s.heap H locs → ∀ (ls : Array Slot), lv_has ls 5 lv → W p l e (headSpec w_Source_lastTail (rmD (d + 1))).room s m ([.ref (ad 1), .int p1] : List Value).toArray below meth c H locs 0 0 (MQ below (va_Qi (fun (z : Int32) (_ : Unit) => z = r0) (fun _ t => gPost dC dI LH ad km T9 A t) A) ([.ref (ad 1), .int p1] : List Value).toArray s 0 0 A) (F0 m pc ls stk)) := ⟨_, rfl⟩
  have lb_12 : ∀ (n : Nat) (T : gSt) (x2 : Int32) (x3 : Int32) (x4 : Int32), rl_Source_lastTail_12 F nf n T x2 x3 x4 = some (r0, rl0, T9) → G 12 [(0, .ref (ad 1)), (2, .int x2), (3, .int x3), (4, .int x4)] [] T := by
    intro n
    induction n with
    | zero => intro T x2 x3 x4 hR; rw [rl_Source_lastTail_12] at hR; cases hR
    | succ n ih =>
      intro T x2 x3 x4 hR; rw [rl_Source_lastTail_12] at hR; rw [hG]; intro H locs hP hD hS ls hl
      refine lv_iload_n hx hb d_Source_lastTail_12 rfl (lv_at hl 2 rfl) ?_
      refine lv_if_eq (tgt := 39) hx hb d_Source_lastTail_13 (by decide) (fun c3 => ?_) (fun c3 => ?_)
      · replace hR := if_p c3 hR
        refine lv_iload_n hx hb d_Source_lastTail_39 rfl (lv_at hl 1 rfl) ?_
        obtain ⟨e1, -, e3⟩ := re_e hR
        subst e1; subst e3
        exact W.iret (v := x2) hx hb hr (fun t ht hW => ⟨⟨x2, (), rfl, rfl, by rw [ht]; exact hP, va_K.moved hW.alike hK, hD⟩, hS.F ht⟩) hS.2.2 d_Source_lastTail_40
      · replace hR := if_n c3 hR
        refine lv_iload hx hb d_Source_lastTail_16 (lv_at hl 3 rfl) ?_
        refine lv_sipush (v := 4008) hx hb d_Source_lastTail_18 (by decide) ?_
        refine lv_icmp_ge (tgt := 39) hx hb d_Source_lastTail_21 (by decide) (fun c5 => ?_) (fun c5 => ?_)
        · replace hR := if_p c5 hR
          refine lv_iload_n hx hb d_Source_lastTail_39 rfl (lv_at hl 1 rfl) ?_
          obtain ⟨e1, -, e3⟩ := re_e hR
          subst e1; subst e3
          exact W.iret (v := x2) hx hb hr (fun t ht hW => ⟨⟨x2, (), rfl, rfl, by rw [ht]; exact hP, va_K.moved hW.alike hK, hD⟩, hS.F ht⟩) hS.2.2 d_Source_lastTail_40
        · replace hR := if_n c5 hR
          refine lv_iload_n hx hb d_Source_lastTail_24 rfl (lv_at hl 2 rfl) ?_
          refine lv_istore_n (lv' := [(2, .int x3), (0, .ref (ad 1)), (3, .int x3), (4, .int x4)]) hx hb d_Source_lastTail_25 rfl hl (by decide) rfl (fun ls hl => ?_)
          refine lv_aload_n hx hb d_Source_lastTail_26 rfl (lv_at hl 1 rfl) ?_
          refine rd_Source_18 hx hb hT hown hK hP d_Source_lastTail_27 ?_
          refine lv_iload_n hx hb d_Source_lastTail_30 rfl (lv_at hl 2 rfl) ?_
          replace hR := gd_e hR
          obtain ⟨b7, hR⟩ := hR
          refine laH_3 hx hb hK hP b7 d_Source_lastTail_31 ?_
          refine lv_topi (fun z8 e8 => ?_)
          replace hR := vK_e e8 hR
          refine lv_istore_n (lv' := [(3, .int z8), (2, .int x3), (0, .ref (ad 1)), (4, .int x4)]) hx hb d_Source_lastTail_32 rfl hl (by decide) rfl (fun ls hl => ?_)
          obtain ⟨z9, e9⟩ : ∃ y : Int32, y = x4 + (1 : Int32) := ⟨_, rfl⟩
          replace hR := vK_e e9 hR
          refine lv_iinc (v := z9) (lv' := [(4, .int z9), (3, .int z8), (2, .int x3), (0, .ref (ad 1))]) hx hb d_Source_lastTail_33 hl (k := 3) rfl (by rw [e9]; rfl) (by decide) rfl (fun ls hl => ?_)
          refine lv_goto (tgt := 12) hx hb d_Source_lastTail_36 (by decide) ?_
          have g := ih T x3 z8 z9 hR
          rw [hG] at g
          exact g _ _ hP hD hS _ (lv_sub hl [3, 2, 1, 0] rfl)
  unfold rb_Source_lastTail at hR
  refine lv_iconst (v := 0) hx hb d_Source_lastTail_0 (by decide) ?_
  refine lv_istore_n (lv' := [(2, .int (0 : Int32)), (0, .ref (ad 1)), (1, .int p1)]) hx hb d_Source_lastTail_1 rfl hl (by decide) rfl (fun ls hl => ?_)
  refine lv_aload_n hx hb d_Source_lastTail_2 rfl (lv_at hl 1 rfl) ?_
  refine rd_Source_33 hx hb hT hown hK hP d_Source_lastTail_3 ?_
  refine lv_iload_n hx hb d_Source_lastTail_6 rfl (lv_at hl 2 rfl) ?_
  replace hR := gd_e hR
  obtain ⟨b1, hR⟩ := hR
  refine laH_8 hx hb hK hP b1 d_Source_lastTail_7 ?_
  refine lv_topi (fun z2 e2 => ?_)
  replace hR := vK_e e2 hR
  refine lv_istore_n (lv' := [(3, .int z2), (2, .int (0 : Int32)), (0, .ref (ad 1)), (1, .int p1)]) hx hb d_Source_lastTail_8 rfl hl (by decide) rfl (fun ls hl => ?_)
  refine lv_iconst (v := 0) hx hb d_Source_lastTail_9 (by decide) ?_
  refine lv_istore (lv' := [(4, .int (0 : Int32)), (3, .int z2), (2, .int (0 : Int32)), (0, .ref (ad 1)), (1, .int p1)]) hx hb d_Source_lastTail_10 hl (by decide) rfl (fun ls hl => ?_)
  have g := lb_12 nf T0 (0 : Int32) z2 (0 : Int32) hR
  rw [hG] at g
  exact g _ _ hP hD hS _ (lv_sub hl [3, 2, 1, 0] rfl)
set_option maxHeartbeats 4000000 in
set_option maxRecDepth 100000 in
theorem sp_Source_beginOf (l : Launch) (dC : Nat → ClassId) (dI : Nat → Nat → Nat) (ea ev ad : Nat → Nat) (km : Nat → ClassId) (F : gF) (nf d : Nat) (h_Source_startOf : mt_Source_startOf l dC dI ea ev ad km F d) (T0 : gSt) (p1 : Int32) (r0 : Int32) (rl0 : Int64) (T9 : gSt) (hR : rb_Source_beginOf F nf T0 p1 = some (r0, rl0, T9)) : GMi l dC dI LH ad km ea ev y_Source_beginOf w_Source_beginOf (rmD (d + 1)) [.ref (ad 1), .int p1] T0 r0 T9 := by
  intro sz
  refine Met.ofW (cc := b_Source_beginOf) (maxL := 4) (ret := (some .int)) (by decide) rfl ?_
  intro p e s m args below meth c s₁ B hml hv
  obtain ⟨rfl, hsz, hP, hK, hD0, hnw, henv⟩ := hv
  have hx := B.exec
  have hb := B.bytes
  have hr := B.returns
  have hT : ∀ w ∈ lw_good, w.before _ s = true := fun w h => atoms_spec (ws := w_Source_beginOf) B.pre w (List.mem_cons_of_mem _ h)
  have hown : s.vm.findClass R_Source = some m.cls := findClass_of_methodNamed B.named
  subst hsz
  have hD := hD0.self (sz := s.heap.size)
  clear hD0
  generalize hAe : va_A (gW LH ad km T0) s.heap.size = A at hD henv ⊢
  have hA : ∀ q : Nat, s.heap.size ≤ q → A q := fun q h => by rw [← hAe]; exact Or.inr h
  have hS : va_S A s.heap s.heap [] := va_S.rf
  have hl := lv_entry ([.ref (ad 1), .int p1]) (n := 4) (Nat.le_of_ble_eq_true rfl)
  rw [lg_entry_eq]
  generalize (lg_sl ([.ref (ad 1), .int p1]) ++ List.replicate (4 - (lg_sl ([.ref (ad 1), .int p1])).length) Slot.unset).toArray = ls at hl ⊢
  have hl : lv_has ls 4 [(0, .ref (ad 1)), (1, .int p1)] := hl
  obtain ⟨G, hG⟩ : ∃ G : Nat → List (Nat × Value) → List Value → gSt → Prop, G = (fun pc lv stk T => ∀ (H : Heap) (locs : List Loc), va_P (dC, dI) cls_all (gW LH ad km T) H → va_D A (gW LH ad km T) → va_S A s.heap H locs → ∀ (ls : Array Slot), lv_has ls 4 lv → W p l e (headSpec w_Source_beginOf (rmD (d + 1))).room s m ([.ref (ad 1), .int p1] : List Value).toArray below meth c H locs 0 0 (MQ below (va_Qi (fun (z : Int32) (_ : Unit) => z = r0) (fun _ t => gPost dC dI LH ad km T9 A t) A) ([.ref (ad 1), .int p1] : List Value).toArray s 0 0 A) (F0 m pc ls stk)) := ⟨_, rfl⟩
  have lb_4 : ∀ (n : Nat) (T : gSt) (x2 : Int32) (x3 : Int32), rl_Source_beginOf_4 F nf n T x2 x3 = some (r0, rl0, T9) → G 4 [(0, .ref (ad 1)), (2, .int x2), (3, .int x3)] [] T := by
    intro n
    induction n with
    | zero => intro T x2 x3 hR; rw [rl_Source_beginOf_4] at hR; cases hR
    | succ n ih =>
      intro T x2 x3 hR; rw [rl_Source_beginOf_4] at hR; rw [hG]; intro H locs hP hD hS ls hl
      refine lv_iload_n hx hb d_Source_beginOf_4 rfl (lv_at hl 2 rfl) ?_
      refine lv_bipush (v := 20) hx hb d_Source_beginOf_5 (by decide) ?_
      refine lv_icmp_ge (tgt := 34) hx hb d_Source_beginOf_7 (by decide) (fun c1 => ?_) (fun c1 => ?_)
      · replace hR := if_p c1 hR
        refine lv_aload_n hx hb d_Source_beginOf_34 rfl (lv_at hl 0 rfl) ?_
        refine lv_aload_n hx hb d_Source_beginOf_35 rfl (lv_at hl 0 rfl) ?_
        refine rd_Source_15 hx hb hT hown hK hP d_Source_beginOf_36 ?_
        refine lv_iload_n hx hb d_Source_beginOf_39 rfl (lv_at hl 1 rfl) ?_
        replace hR := gd_e hR
        obtain ⟨b2, hR⟩ := hR
        refine laH_2 hx hb hK hP b2 d_Source_beginOf_40 ?_
        replace hR := bi_e hR
        obtain ⟨r3, l3, T3, hc3, hR⟩ := hR
        refine gcV_i (rest := []) ⟨hx, hb, hml, hown, hT⟩ (h_Source_startOf _ _ _ _ _ hc3) (cwV 1 hT (gV ml_Source_148 im_Source_startOf se_Source_startOf ini_Source co_Source_startOf) rfl rfl rfl pd_Source_startOf ⟨rm_hi, rm_lo (Nat.le_of_ble_eq_true rfl)⟩) hK hP hD hS hA hnw henv (Nat.le_of_ble_eq_true rfl) rfl rfl hl.1 rfl (Nat.le_of_ble_eq_true rfl) d_Source_beginOf_41 ⟨Nat.le_refl _, Nat.le_refl _⟩ (fun H locs hP hD hS => ?_)
        clear hc3
        obtain ⟨e1, -, e3⟩ := re_e hR
        subst e1; subst e3
        exact W.iret (v := r3) hx hb hr (fun t ht hW => ⟨⟨r3, (), rfl, rfl, by rw [ht]; exact hP, va_K.moved hW.alike hK, hD⟩, hS.F ht⟩) hS.2.2 d_Source_beginOf_44
      · replace hR := if_n c1 hR
        refine lv_aload_n hx hb d_Source_beginOf_10 rfl (lv_at hl 0 rfl) ?_
        refine rd_Source_11 hx hb hT hown hK hP d_Source_beginOf_11 ?_
        refine lv_iload_n hx hb d_Source_beginOf_14 rfl (lv_at hl 1 rfl) ?_
        replace hR := gd_e hR
        obtain ⟨b5, hR⟩ := hR
        refine laH_1 hx hb hK hP b5 d_Source_beginOf_15 ?_
        refine lv_bipush (v := 42) hx hb d_Source_beginOf_16 (by decide) ?_
        refine lv_icmp_ne (tgt := 34) hx hb d_Source_beginOf_18 (by decide) (fun c6 => ?_) (fun c6 => ?_)
        · replace hR := if_n c6 hR
          refine lv_aload_n hx hb d_Source_beginOf_34 rfl (lv_at hl 0 rfl) ?_
          refine lv_aload_n hx hb d_Source_beginOf_35 rfl (lv_at hl 0 rfl) ?_
          refine rd_Source_15 hx hb hT hown hK hP d_Source_beginOf_36 ?_
          refine lv_iload_n hx hb d_Source_beginOf_39 rfl (lv_at hl 1 rfl) ?_
          replace hR := gd_e hR
          obtain ⟨b7, hR⟩ := hR
          refine laH_2 hx hb hK hP b7 d_Source_beginOf_40 ?_
          replace hR := bi_e hR
          obtain ⟨r8, l8, T8, hc8, hR⟩ := hR
          refine gcV_i (rest := []) ⟨hx, hb, hml, hown, hT⟩ (h_Source_startOf _ _ _ _ _ hc8) (cwV 1 hT (gV ml_Source_148 im_Source_startOf se_Source_startOf ini_Source co_Source_startOf) rfl rfl rfl pd_Source_startOf ⟨rm_hi, rm_lo (Nat.le_of_ble_eq_true rfl)⟩) hK hP hD hS hA hnw henv (Nat.le_of_ble_eq_true rfl) rfl rfl hl.1 rfl (Nat.le_of_ble_eq_true rfl) d_Source_beginOf_41 ⟨Nat.le_refl _, Nat.le_refl _⟩ (fun H locs hP hD hS => ?_)
          clear hc8
          obtain ⟨e1, -, e3⟩ := re_e hR
          subst e1; subst e3
          exact W.iret (v := r8) hx hb hr (fun t ht hW => ⟨⟨r8, (), rfl, rfl, by rw [ht]; exact hP, va_K.moved hW.alike hK, hD⟩, hS.F ht⟩) hS.2.2 d_Source_beginOf_44
        · replace hR := if_p c6 hR
          refine lv_aload_n hx hb d_Source_beginOf_21 rfl (lv_at hl 0 rfl) ?_
          refine rd_Source_30 hx hb hT hown hK hP d_Source_beginOf_22 ?_
          refine lv_iload_n hx hb d_Source_beginOf_25 rfl (lv_at hl 1 rfl) ?_
          replace hR := gd_e hR
          obtain ⟨b10, hR⟩ := hR
          refine laH_7 hx hb hK hP b10 d_Source_beginOf_26 ?_
          refine lv_topi (fun z11 e11 => ?_)
          replace hR := vK_e e11 hR
          refine lv_istore_n (lv' := [(2, .int z11), (0, .ref (ad 1)), (3, .int x3)]) hx hb d_Source_beginOf_27 rfl hl (by decide) rfl (fun ls hl => ?_)
          obtain ⟨z12, e12⟩ : ∃ y : Int32, y = x3 + (1 : Int32) := ⟨_, rfl⟩
          replace hR := vK_e e12 hR
          refine lv_iinc (v := z12) (lv' := [(3, .int z12), (2, .int z11), (0, .ref (ad 1))]) hx hb d_Source_beginOf_28 hl (k := 2) rfl (by rw [e12]; rfl) (by decide) rfl (fun ls hl => ?_)
          refine lv_goto (tgt := 4) hx hb d_Source_beginOf_31 (by decide) ?_
          have g := ih T z11 z12 hR
          rw [hG] at g
          exact g _ _ hP hD hS _ (lv_sub hl [2, 1, 0] rfl)
  unfold rb_Source_beginOf at hR
  refine lv_iload_n hx hb d_Source_beginOf_0 rfl (lv_at hl 1 rfl) ?_
  refine lv_istore_n (lv' := [(2, .int p1), (0, .ref (ad 1)), (1, .int p1)]) hx hb d_Source_beginOf_1 rfl hl (by decide) rfl (fun ls hl => ?_)
  refine lv_iconst (v := 0) hx hb d_Source_beginOf_2 (by decide) ?_
  refine lv_istore_n (lv' := [(3, .int (0 : Int32)), (2, .int p1), (0, .ref (ad 1)), (1, .int p1)]) hx hb d_Source_beginOf_3 rfl hl (by decide) rfl (fun ls hl => ?_)
  have g := lb_4 nf T0 p1 (0 : Int32) hR
  rw [hG] at g
  exact g _ _ hP hD hS _ (lv_sub hl [2, 1, 0] rfl)
set_option maxHeartbeats 4000000 in
set_option maxRecDepth 100000 in
theorem sp_Source_countPeers (l : Launch) (dC : Nat → ClassId) (dI : Nat → Nat → Nat) (ea ev ad : Nat → Nat) (km : Nat → ClassId) (F : gF) (nf d : Nat) (T0 : gSt) (p1 : Int32) (r0 : Int32) (rl0 : Int64) (T9 : gSt) (hR : rb_Source_countPeers F nf T0 p1 = some (r0, rl0, T9)) : GMi l dC dI LH ad km ea ev y_Source_countPeers w_Source_countPeers (rmD (d + 1)) [.ref (ad 1), .int p1] T0 r0 T9 := by
  intro sz
  refine Met.ofW (cc := b_Source_countPeers) (maxL := 5) (ret := (some .int)) (by decide) rfl ?_
  intro p e s m args below meth c s₁ B hml hv
  obtain ⟨rfl, hsz, hP, hK, hD0, hnw, henv⟩ := hv
  have hx := B.exec
  have hb := B.bytes
  have hr := B.returns
  have hT : ∀ w ∈ lw_good, w.before _ s = true := fun w h => atoms_spec (ws := w_Source_countPeers) B.pre w (List.mem_cons_of_mem _ h)
  have hown : s.vm.findClass R_Source = some m.cls := findClass_of_methodNamed B.named
  subst hsz
  have hD := hD0.self (sz := s.heap.size)
  clear hD0
  generalize hAe : va_A (gW LH ad km T0) s.heap.size = A at hD henv ⊢
  have hA : ∀ q : Nat, s.heap.size ≤ q → A q := fun q h => by rw [← hAe]; exact Or.inr h
  have hS : va_S A s.heap s.heap [] := va_S.rf
  have hl := lv_entry ([.ref (ad 1), .int p1]) (n := 5) (Nat.le_of_ble_eq_true rfl)
  rw [lg_entry_eq]
  generalize (lg_sl ([.ref (ad 1), .int p1]) ++ List.replicate (5 - (lg_sl ([.ref (ad 1), .int p1])).length) Slot.unset).toArray = ls at hl ⊢
  have hl : lv_has ls 5 [(0, .ref (ad 1)), (1, .int p1)] := hl
  obtain ⟨G, hG⟩ : ∃ G : Nat → List (Nat × Value) → List Value → gSt → Prop, G = (fun pc lv stk T => ∀ (H : Heap) (locs : List Loc), va_P (dC, dI) cls_all (gW LH ad km T) H → va_D A (gW LH ad km T) → va_S A s.heap H locs → ∀ (ls : Array Slot), lv_has ls 5 lv → W p l e (headSpec w_Source_countPeers (rmD (d + 1))).room s m ([.ref (ad 1), .int p1] : List Value).toArray below meth c H locs 0 0 (MQ below (va_Qi (fun (z : Int32) (_ : Unit) => z = r0) (fun _ t => gPost dC dI LH ad km T9 A t) A) ([.ref (ad 1), .int p1] : List Value).toArray s 0 0 A) (F0 m pc ls stk)) := ⟨_, rfl⟩
  have lb_7 : ∀ (n : Nat) (T : gSt) (x2 : Int32) (x3 : Int32) (x4 : Int32), rl_Source_countPeers_7 F nf n T x2 x3 x4 = some (r0, rl0, T9) → G 7 [(0, .ref (ad 1)), (2, .int x2), (3, .int x3), (4, .int x4)] [] T := by
    intro n
    induction n with
    | zero => intro T x2 x3 x4 hR; rw [rl_Source_countPeers_7] at hR; cases hR
    | succ n ih =>
      intro T x2 x3 x4 hR; rw [rl_Source_countPeers_7] at hR; rw [hG]; intro H locs hP hD hS ls hl
      refine lv_iload_n hx hb d_Source_countPeers_7 rfl (lv_at hl 2 rfl) ?_
      refine lv_if_eq (tgt := 35) hx hb d_Source_countPeers_8 (by decide) (fun c1 => ?_) (fun c1 => ?_)
      · replace hR := if_p c1 hR
        refine lv_iload_n hx hb d_Source_countPeers_35 rfl (lv_at hl 1 rfl) ?_
        obtain ⟨e1, -, e3⟩ := re_e hR
        subst e1; subst e3
        exact W.iret (v := x2) hx hb hr (fun t ht hW => ⟨⟨x2, (), rfl, rfl, by rw [ht]; exact hP, va_K.moved hW.alike hK, hD⟩, hS.F ht⟩) hS.2.2 d_Source_countPeers_36
      · replace hR := if_n c1 hR
        refine lv_iload hx hb d_Source_countPeers_11 (lv_at hl 3 rfl) ?_
        refine lv_sipush (v := 4008) hx hb d_Source_countPeers_13 (by decide) ?_
        refine lv_icmp_ge (tgt := 35) hx hb d_Source_countPeers_16 (by decide) (fun c3 => ?_) (fun c3 => ?_)
        · replace hR := if_p c3 hR
          refine lv_iload_n hx hb d_Source_countPeers_35 rfl (lv_at hl 1 rfl) ?_
          obtain ⟨e1, -, e3⟩ := re_e hR
          subst e1; subst e3
          exact W.iret (v := x2) hx hb hr (fun t ht hW => ⟨⟨x2, (), rfl, rfl, by rw [ht]; exact hP, va_K.moved hW.alike hK, hD⟩, hS.F ht⟩) hS.2.2 d_Source_countPeers_36
        · replace hR := if_n c3 hR
          obtain ⟨z5, e5⟩ : ∃ y : Int32, y = x2 + (1 : Int32) := ⟨_, rfl⟩
          replace hR := vK_e e5 hR
          refine lv_iinc (v := z5) (lv' := [(2, .int z5), (0, .ref (ad 1)), (3, .int x3), (4, .int x4)]) hx hb d_Source_countPeers_19 hl (k := 1) rfl (by rw [e5]; rfl) (by decide) rfl (fun ls hl => ?_)
          refine lv_aload_n hx hb d_Source_countPeers_22 rfl (lv_at hl 1 rfl) ?_
          refine rd_Source_21 hx hb hT hown hK hP d_Source_countPeers_23 ?_
          refine lv_iload_n hx hb d_Source_countPeers_26 rfl (lv_at hl 2 rfl) ?_
          replace hR := gd_e hR
          obtain ⟨b6, hR⟩ := hR
          refine laH_4 hx hb hK hP b6 d_Source_countPeers_27 ?_
          refine lv_topi (fun z7 e7 => ?_)
          replace hR := vK_e e7 hR
          refine lv_istore_n (lv' := [(3, .int z7), (2, .int z5), (0, .ref (ad 1)), (4, .int x4)]) hx hb d_Source_countPeers_28 rfl hl (by decide) rfl (fun ls hl => ?_)
          obtain ⟨z8, e8⟩ : ∃ y : Int32, y = x4 + (1 : Int32) := ⟨_, rfl⟩
          replace hR := vK_e e8 hR
          refine lv_iinc (v := z8) (lv' := [(4, .int z8), (3, .int z7), (2, .int z5), (0, .ref (ad 1))]) hx hb d_Source_countPeers_29 hl (k := 3) rfl (by rw [e8]; rfl) (by decide) rfl (fun ls hl => ?_)
          refine lv_goto (tgt := 7) hx hb d_Source_countPeers_32 (by decide) ?_
          have g := ih T z5 z7 z8 hR
          rw [hG] at g
          exact g _ _ hP hD hS _ (lv_sub hl [3, 2, 1, 0] rfl)
  unfold rb_Source_countPeers at hR
  refine lv_iconst (v := 0) hx hb d_Source_countPeers_0 (by decide) ?_
  refine lv_istore_n (lv' := [(2, .int (0 : Int32)), (0, .ref (ad 1)), (1, .int p1)]) hx hb d_Source_countPeers_1 rfl hl (by decide) rfl (fun ls hl => ?_)
  refine lv_iload_n hx hb d_Source_countPeers_2 rfl (lv_at hl 2 rfl) ?_
  refine lv_istore_n (lv' := [(3, .int p1), (2, .int (0 : Int32)), (0, .ref (ad 1)), (1, .int p1)]) hx hb d_Source_countPeers_3 rfl hl (by decide) rfl (fun ls hl => ?_)
  refine lv_iconst (v := 0) hx hb d_Source_countPeers_4 (by decide) ?_
  refine lv_istore (lv' := [(4, .int (0 : Int32)), (3, .int p1), (2, .int (0 : Int32)), (0, .ref (ad 1)), (1, .int p1)]) hx hb d_Source_countPeers_5 hl (by decide) rfl (fun ls hl => ?_)
  have g := lb_7 nf T0 (0 : Int32) p1 (0 : Int32) hR
  rw [hG] at g
  exact g _ _ hP hD hS _ (lv_sub hl [3, 2, 1, 0] rfl)
set_option maxHeartbeats 4000000 in
set_option maxRecDepth 100000 in
theorem sp_Source_countRegions (l : Launch) (dC : Nat → ClassId) (dI : Nat → Nat → Nat) (ea ev ad : Nat → Nat) (km : Nat → ClassId) (F : gF) (nf d : Nat) (h_Source_kindAt : mt_Source_kindAt l dC dI ea ev ad km F d) (T0 : gSt) (p1 : Int32) (r0 : Int32) (rl0 : Int64) (T9 : gSt) (hR : rb_Source_countRegions F nf T0 p1 = some (r0, rl0, T9)) : GMi l dC dI LH ad km ea ev y_Source_countRegions w_Source_countRegions (rmD (d + 1)) [.ref (ad 1), .int p1] T0 r0 T9 := by
  intro sz
  refine Met.ofW (cc := b_Source_countRegions) (maxL := 3) (ret := (some .int)) (by decide) rfl ?_
  intro p e s m args below meth c s₁ B hml hv
  obtain ⟨rfl, hsz, hP, hK, hD0, hnw, henv⟩ := hv
  have hx := B.exec
  have hb := B.bytes
  have hr := B.returns
  have hT : ∀ w ∈ lw_good, w.before _ s = true := fun w h => atoms_spec (ws := w_Source_countRegions) B.pre w (List.mem_cons_of_mem _ h)
  have hown : s.vm.findClass R_Source = some m.cls := findClass_of_methodNamed B.named
  subst hsz
  have hD := hD0.self (sz := s.heap.size)
  clear hD0
  generalize hAe : va_A (gW LH ad km T0) s.heap.size = A at hD henv ⊢
  have hA : ∀ q : Nat, s.heap.size ≤ q → A q := fun q h => by rw [← hAe]; exact Or.inr h
  have hS : va_S A s.heap s.heap [] := va_S.rf
  have hl := lv_entry ([.ref (ad 1), .int p1]) (n := 3) (Nat.le_of_ble_eq_true rfl)
  rw [lg_entry_eq]
  generalize (lg_sl ([.ref (ad 1), .int p1]) ++ List.replicate (3 - (lg_sl ([.ref (ad 1), .int p1])).length) Slot.unset).toArray = ls at hl ⊢
  have hl : lv_has ls 3 [(0, .ref (ad 1)), (1, .int p1)] := hl
  obtain ⟨G, hG⟩ : ∃ G : Nat → List (Nat × Value) → List Value → gSt → Prop, G = (fun pc lv stk T => ∀ (H : Heap) (locs : List Loc), va_P (dC, dI) cls_all (gW LH ad km T) H → va_D A (gW LH ad km T) → va_S A s.heap H locs → ∀ (ls : Array Slot), lv_has ls 3 lv → W p l e (headSpec w_Source_countRegions (rmD (d + 1))).room s m ([.ref (ad 1), .int p1] : List Value).toArray below meth c H locs 0 0 (MQ below (va_Qi (fun (z : Int32) (_ : Unit) => z = r0) (fun _ t => gPost dC dI LH ad km T9 A t) A) ([.ref (ad 1), .int p1] : List Value).toArray s 0 0 A) (F0 m pc ls stk)) := ⟨_, rfl⟩
  have lb_2 : ∀ (n : Nat) (T : gSt) (x1 : Int32) (x2 : Int32), rl_Source_countRegions_2 F nf n T x1 x2 = some (r0, rl0, T9) → G 2 [(0, .ref (ad 1)), (1, .int x1), (2, .int x2)] [] T := by
    intro n
    induction n with
    | zero => intro T x1 x2 hR; rw [rl_Source_countRegions_2] at hR; cases hR
    | succ n ih =>
      intro T x1 x2 hR; rw [rl_Source_countRegions_2] at hR; rw [hG]; intro H locs hP hD hS ls hl
      refine lv_iload_n hx hb d_Source_countRegions_2 rfl (lv_at hl 2 rfl) ?_
      refine lv_iconst (v := 3) hx hb d_Source_countRegions_3 (by decide) ?_
      refine lv_icmp_ge (tgt := 24) hx hb d_Source_countRegions_4 (by decide) (fun c1 => ?_) (fun c1 => ?_)
      · replace hR := if_p c1 hR
        refine lv_iload_n hx hb d_Source_countRegions_24 rfl (lv_at hl 2 rfl) ?_
        obtain ⟨e1, -, e3⟩ := re_e hR
        subst e1; subst e3
        exact W.iret (v := x2) hx hb hr (fun t ht hW => ⟨⟨x2, (), rfl, rfl, by rw [ht]; exact hP, va_K.moved hW.alike hK, hD⟩, hS.F ht⟩) hS.2.2 d_Source_countRegions_25
      · replace hR := if_n c1 hR
        refine lv_aload_n hx hb d_Source_countRegions_7 rfl (lv_at hl 0 rfl) ?_
        refine lv_iload_n hx hb d_Source_countRegions_8 rfl (lv_at hl 1 rfl) ?_
        refine lv_iload_n hx hb d_Source_countRegions_9 rfl (lv_at hl 2 rfl) ?_
        refine lv_iadd hx hb d_Source_countRegions_10 ?_
        replace hR := bi_e hR
        obtain ⟨r3, l3, T3, hc3, hR⟩ := hR
        refine gcV_i (rest := []) ⟨hx, hb, hml, hown, hT⟩ (h_Source_kindAt _ _ _ _ _ hc3) (cwV 1 hT (gV ml_Source_151 im_Source_kindAt se_Source_kindAt ini_Source co_Source_kindAt) rfl rfl rfl pd_Source_kindAt ⟨rm_hi, rm_lo (Nat.le_of_ble_eq_true rfl)⟩) hK hP hD hS hA hnw henv (Nat.le_of_ble_eq_true rfl) rfl rfl hl.1 rfl (Nat.le_of_ble_eq_true rfl) d_Source_countRegions_11 ⟨Nat.le_refl _, Nat.le_refl _⟩ (fun H locs hP hD hS => ?_)
        clear hc3
        refine lv_iconst (v := 4) hx hb d_Source_countRegions_14 (by decide) ?_
        refine lv_icmp_ne (tgt := 24) hx hb d_Source_countRegions_15 (by decide) (fun c4 => ?_) (fun c4 => ?_)
        · replace hR := if_n c4 hR
          refine lv_iload_n hx hb d_Source_countRegions_24 rfl (lv_at hl 2 rfl) ?_
          obtain ⟨e1, -, e3⟩ := re_e hR
          subst e1; subst e3
          exact W.iret (v := x2) hx hb hr (fun t ht hW => ⟨⟨x2, (), rfl, rfl, by rw [ht]; exact hP, va_K.moved hW.alike hK, hD⟩, hS.F ht⟩) hS.2.2 d_Source_countRegions_25
        · replace hR := if_p c4 hR
          obtain ⟨z6, e6⟩ : ∃ y : Int32, y = x2 + (1 : Int32) := ⟨_, rfl⟩
          replace hR := vK_e e6 hR
          refine lv_iinc (v := z6) (lv' := [(2, .int z6), (0, .ref (ad 1)), (1, .int x1)]) hx hb d_Source_countRegions_18 hl (k := 2) rfl (by rw [e6]; rfl) (by decide) rfl (fun ls hl => ?_)
          refine lv_goto (tgt := 2) hx hb d_Source_countRegions_21 (by decide) ?_
          have g := ih T3 x1 z6 hR
          rw [hG] at g
          exact g _ _ hP hD hS _ (lv_sub hl [1, 2, 0] rfl)
  unfold rb_Source_countRegions at hR
  refine lv_iconst (v := 0) hx hb d_Source_countRegions_0 (by decide) ?_
  refine lv_istore_n (lv' := [(2, .int (0 : Int32)), (0, .ref (ad 1)), (1, .int p1)]) hx hb d_Source_countRegions_1 rfl hl (by decide) rfl (fun ls hl => ?_)
  have g := lb_2 nf T0 p1 (0 : Int32) hR
  rw [hG] at g
  exact g _ _ hP hD hS _ (lv_sub hl [1, 2, 0] rfl)
set_option maxHeartbeats 4000000 in
set_option maxRecDepth 100000 in
theorem sp_Items_tokOfPart (l : Launch) (dC : Nat → ClassId) (dI : Nat → Nat → Nat) (ea ev ad : Nat → Nat) (km : Nat → ClassId) (F : gF) (nf d : Nat) (h_Items_isPart : mt_Items_isPart l dC dI ea ev ad km F d) (T0 : gSt) (p1 : Int32) (p2 : Int32) (r0 : Int32) (rl0 : Int64) (T9 : gSt) (hR : rb_Items_tokOfPart F nf T0 p1 p2 = some (r0, rl0, T9)) : GMi l dC dI LH ad km ea ev y_Items_tokOfPart w_Items_tokOfPart (rmD (d + 1)) [.ref (ad 2), .int p1, .int p2] T0 r0 T9 := by
  intro sz
  refine Met.ofW (cc := b_Items_tokOfPart) (maxL := 3) (ret := (some .int)) (by decide) rfl ?_
  intro p e s m args below meth c s₁ B hml hv
  obtain ⟨rfl, hsz, hP, hK, hD0, hnw, henv⟩ := hv
  have hx := B.exec
  have hb := B.bytes
  have hr := B.returns
  have hT : ∀ w ∈ lw_good, w.before _ s = true := fun w h => atoms_spec (ws := w_Items_tokOfPart) B.pre w (List.mem_cons_of_mem _ h)
  have hown : s.vm.findClass R_Items = some m.cls := findClass_of_methodNamed B.named
  subst hsz
  have hD := hD0.self (sz := s.heap.size)
  clear hD0
  generalize hAe : va_A (gW LH ad km T0) s.heap.size = A at hD henv ⊢
  have hA : ∀ q : Nat, s.heap.size ≤ q → A q := fun q h => by rw [← hAe]; exact Or.inr h
  have hS : va_S A s.heap s.heap [] := va_S.rf
  have hl := lv_entry ([.ref (ad 2), .int p1, .int p2]) (n := 3) (Nat.le_of_ble_eq_true rfl)
  rw [lg_entry_eq]
  generalize (lg_sl ([.ref (ad 2), .int p1, .int p2]) ++ List.replicate (3 - (lg_sl ([.ref (ad 2), .int p1, .int p2])).length) Slot.unset).toArray = ls at hl ⊢
  have hl : lv_has ls 3 [(0, .ref (ad 2)), (1, .int p1), (2, .int p2)] := hl
  unfold rb_Items_tokOfPart at hR
  refine lv_aload_n hx hb d_Items_tokOfPart_0 rfl (lv_at hl 0 rfl) ?_
  refine lv_iload_n hx hb d_Items_tokOfPart_1 rfl (lv_at hl 1 rfl) ?_
  refine lv_iload_n hx hb d_Items_tokOfPart_2 rfl (lv_at hl 2 rfl) ?_
  replace hR := bi_e hR
  obtain ⟨r1, l1, T1, hc1, hR⟩ := hR
  refine gcV_i (rest := []) ⟨hx, hb, hml, hown, hT⟩ (h_Items_isPart _ _ _ _ _ _ hc1) (cwV 2 hT (gV ml_Items_73 im_Items_isPart se_Items_isPart ini_Items co_Items_isPart) rfl rfl rfl pd_Items_isPart ⟨rm_hi, rm_lo (Nat.le_of_ble_eq_true rfl)⟩) hK hP hD hS hA hnw henv (Nat.le_of_ble_eq_true rfl) rfl rfl hl.1 rfl (Nat.le_of_ble_eq_true rfl) d_Items_tokOfPart_3 ⟨Nat.le_refl _, Nat.le_refl _⟩ (fun H locs hP hD hS => ?_)
  clear hc1
  refine lv_if_eq (tgt := 23) hx hb d_Items_tokOfPart_6 (by decide) (fun c2 => ?_) (fun c2 => ?_)
  · replace hR := if_p c2 hR
    refine lv_iconst (v := 0) hx hb d_Items_tokOfPart_23 (by decide) ?_
    obtain ⟨e1, -, e3⟩ := re_e hR
    subst e1; subst e3
    exact W.iret (v := (0 : Int32)) hx hb hr (fun t ht hW => ⟨⟨(0 : Int32), (), rfl, rfl, by rw [ht]; exact hP, va_K.moved hW.alike hK, hD⟩, hS.F ht⟩) hS.2.2 d_Items_tokOfPart_24
  · replace hR := if_n c2 hR
    refine lv_aload_n hx hb d_Items_tokOfPart_9 rfl (lv_at hl 0 rfl) ?_
    refine rd_Items_58 hx hb hT hown hK hP d_Items_tokOfPart_10 ?_
    refine lv_iload_n hx hb d_Items_tokOfPart_13 rfl (lv_at hl 1 rfl) ?_
    refine lv_bipush (v := 8) hx hb d_Items_tokOfPart_14 (by decide) ?_
    refine lv_imul hx hb d_Items_tokOfPart_16 ?_
    refine lv_iload_n hx hb d_Items_tokOfPart_17 rfl (lv_at hl 2 rfl) ?_
    refine lv_iadd hx hb d_Items_tokOfPart_18 ?_
    replace hR := gd_e hR
    obtain ⟨b4, hR⟩ := hR
    refine laH_28 hx hb hK hP b4 d_Items_tokOfPart_19 ?_
    refine lv_goto (tgt := 24) hx hb d_Items_tokOfPart_20 (by decide) ?_
    obtain ⟨e1, -, e3⟩ := re_e hR
    subst e1; subst e3
    exact W.iret (v := T1.1 43 ((p1 * (8 : Int32)) + p2).toNatClampNeg) hx hb hr (fun t ht hW => ⟨⟨T1.1 43 ((p1 * (8 : Int32)) + p2).toNatClampNeg, (), rfl, rfl, by rw [ht]; exact hP, va_K.moved hW.alike hK, hD⟩, hS.F ht⟩) hS.2.2 d_Items_tokOfPart_24
set_option maxHeartbeats 4000000 in
set_option maxRecDepth 100000 in
theorem sp_Items_typeOfPart (l : Launch) (dC : Nat → ClassId) (dI : Nat → Nat → Nat) (ea ev ad : Nat → Nat) (km : Nat → ClassId) (F : gF) (nf d : Nat) (h_Items_isPart : mt_Items_isPart l dC dI ea ev ad km F d) (T0 : gSt) (p1 : Int32) (p2 : Int32) (r0 : Int32) (rl0 : Int64) (T9 : gSt) (hR : rb_Items_typeOfPart F nf T0 p1 p2 = some (r0, rl0, T9)) : GMi l dC dI LH ad km ea ev y_Items_typeOfPart w_Items_typeOfPart (rmD (d + 1)) [.ref (ad 2), .int p1, .int p2] T0 r0 T9 := by
  intro sz
  refine Met.ofW (cc := b_Items_typeOfPart) (maxL := 3) (ret := (some .int)) (by decide) rfl ?_
  intro p e s m args below meth c s₁ B hml hv
  obtain ⟨rfl, hsz, hP, hK, hD0, hnw, henv⟩ := hv
  have hx := B.exec
  have hb := B.bytes
  have hr := B.returns
  have hT : ∀ w ∈ lw_good, w.before _ s = true := fun w h => atoms_spec (ws := w_Items_typeOfPart) B.pre w (List.mem_cons_of_mem _ h)
  have hown : s.vm.findClass R_Items = some m.cls := findClass_of_methodNamed B.named
  subst hsz
  have hD := hD0.self (sz := s.heap.size)
  clear hD0
  generalize hAe : va_A (gW LH ad km T0) s.heap.size = A at hD henv ⊢
  have hA : ∀ q : Nat, s.heap.size ≤ q → A q := fun q h => by rw [← hAe]; exact Or.inr h
  have hS : va_S A s.heap s.heap [] := va_S.rf
  have hl := lv_entry ([.ref (ad 2), .int p1, .int p2]) (n := 3) (Nat.le_of_ble_eq_true rfl)
  rw [lg_entry_eq]
  generalize (lg_sl ([.ref (ad 2), .int p1, .int p2]) ++ List.replicate (3 - (lg_sl ([.ref (ad 2), .int p1, .int p2])).length) Slot.unset).toArray = ls at hl ⊢
  have hl : lv_has ls 3 [(0, .ref (ad 2)), (1, .int p1), (2, .int p2)] := hl
  unfold rb_Items_typeOfPart at hR
  refine lv_aload_n hx hb d_Items_typeOfPart_0 rfl (lv_at hl 0 rfl) ?_
  refine lv_iload_n hx hb d_Items_typeOfPart_1 rfl (lv_at hl 1 rfl) ?_
  refine lv_iload_n hx hb d_Items_typeOfPart_2 rfl (lv_at hl 2 rfl) ?_
  replace hR := bi_e hR
  obtain ⟨r1, l1, T1, hc1, hR⟩ := hR
  refine gcV_i (rest := []) ⟨hx, hb, hml, hown, hT⟩ (h_Items_isPart _ _ _ _ _ _ hc1) (cwV 2 hT (gV ml_Items_73 im_Items_isPart se_Items_isPart ini_Items co_Items_isPart) rfl rfl rfl pd_Items_isPart ⟨rm_hi, rm_lo (Nat.le_of_ble_eq_true rfl)⟩) hK hP hD hS hA hnw henv (Nat.le_of_ble_eq_true rfl) rfl rfl hl.1 rfl (Nat.le_of_ble_eq_true rfl) d_Items_typeOfPart_3 ⟨Nat.le_refl _, Nat.le_refl _⟩ (fun H locs hP hD hS => ?_)
  clear hc1
  refine lv_if_eq (tgt := 23) hx hb d_Items_typeOfPart_6 (by decide) (fun c2 => ?_) (fun c2 => ?_)
  · replace hR := if_p c2 hR
    refine lv_iconst (v := 1) hx hb d_Items_typeOfPart_23 (by decide) ?_
    obtain ⟨e1, -, e3⟩ := re_e hR
    subst e1; subst e3
    exact W.iret (v := (1 : Int32)) hx hb hr (fun t ht hW => ⟨⟨(1 : Int32), (), rfl, rfl, by rw [ht]; exact hP, va_K.moved hW.alike hK, hD⟩, hS.F ht⟩) hS.2.2 d_Items_typeOfPart_24
  · replace hR := if_n c2 hR
    refine lv_aload_n hx hb d_Items_typeOfPart_9 rfl (lv_at hl 0 rfl) ?_
    refine rd_Items_61 hx hb hT hown hK hP d_Items_typeOfPart_10 ?_
    refine lv_iload_n hx hb d_Items_typeOfPart_13 rfl (lv_at hl 1 rfl) ?_
    refine lv_bipush (v := 8) hx hb d_Items_typeOfPart_14 (by decide) ?_
    refine lv_imul hx hb d_Items_typeOfPart_16 ?_
    refine lv_iload_n hx hb d_Items_typeOfPart_17 rfl (lv_at hl 2 rfl) ?_
    refine lv_iadd hx hb d_Items_typeOfPart_18 ?_
    replace hR := gd_e hR
    obtain ⟨b4, hR⟩ := hR
    refine laH_29 hx hb hK hP b4 d_Items_typeOfPart_19 ?_
    refine lv_goto (tgt := 24) hx hb d_Items_typeOfPart_20 (by decide) ?_
    obtain ⟨e1, -, e3⟩ := re_e hR
    subst e1; subst e3
    exact W.iret (v := T1.1 44 ((p1 * (8 : Int32)) + p2).toNatClampNeg) hx hb hr (fun t ht hW => ⟨⟨T1.1 44 ((p1 * (8 : Int32)) + p2).toNatClampNeg, (), rfl, rfl, by rw [ht]; exact hP, va_K.moved hW.alike hK, hD⟩, hS.F ht⟩) hS.2.2 d_Items_typeOfPart_24
set_option maxHeartbeats 4000000 in
set_option maxRecDepth 100000 in
theorem sp_Items_placeOfPart (l : Launch) (dC : Nat → ClassId) (dI : Nat → Nat → Nat) (ea ev ad : Nat → Nat) (km : Nat → ClassId) (F : gF) (nf d : Nat) (h_Items_isPart : mt_Items_isPart l dC dI ea ev ad km F d) (T0 : gSt) (p1 : Int32) (p2 : Int32) (r0 : Int32) (rl0 : Int64) (T9 : gSt) (hR : rb_Items_placeOfPart F nf T0 p1 p2 = some (r0, rl0, T9)) : GMi l dC dI LH ad km ea ev y_Items_placeOfPart w_Items_placeOfPart (rmD (d + 1)) [.ref (ad 2), .int p1, .int p2] T0 r0 T9 := by
  intro sz
  refine Met.ofW (cc := b_Items_placeOfPart) (maxL := 3) (ret := (some .int)) (by decide) rfl ?_
  intro p e s m args below meth c s₁ B hml hv
  obtain ⟨rfl, hsz, hP, hK, hD0, hnw, henv⟩ := hv
  have hx := B.exec
  have hb := B.bytes
  have hr := B.returns
  have hT : ∀ w ∈ lw_good, w.before _ s = true := fun w h => atoms_spec (ws := w_Items_placeOfPart) B.pre w (List.mem_cons_of_mem _ h)
  have hown : s.vm.findClass R_Items = some m.cls := findClass_of_methodNamed B.named
  subst hsz
  have hD := hD0.self (sz := s.heap.size)
  clear hD0
  generalize hAe : va_A (gW LH ad km T0) s.heap.size = A at hD henv ⊢
  have hA : ∀ q : Nat, s.heap.size ≤ q → A q := fun q h => by rw [← hAe]; exact Or.inr h
  have hS : va_S A s.heap s.heap [] := va_S.rf
  have hl := lv_entry ([.ref (ad 2), .int p1, .int p2]) (n := 3) (Nat.le_of_ble_eq_true rfl)
  rw [lg_entry_eq]
  generalize (lg_sl ([.ref (ad 2), .int p1, .int p2]) ++ List.replicate (3 - (lg_sl ([.ref (ad 2), .int p1, .int p2])).length) Slot.unset).toArray = ls at hl ⊢
  have hl : lv_has ls 3 [(0, .ref (ad 2)), (1, .int p1), (2, .int p2)] := hl
  unfold rb_Items_placeOfPart at hR
  refine lv_aload_n hx hb d_Items_placeOfPart_0 rfl (lv_at hl 0 rfl) ?_
  refine lv_iload_n hx hb d_Items_placeOfPart_1 rfl (lv_at hl 1 rfl) ?_
  refine lv_iload_n hx hb d_Items_placeOfPart_2 rfl (lv_at hl 2 rfl) ?_
  replace hR := bi_e hR
  obtain ⟨r1, l1, T1, hc1, hR⟩ := hR
  refine gcV_i (rest := []) ⟨hx, hb, hml, hown, hT⟩ (h_Items_isPart _ _ _ _ _ _ hc1) (cwV 2 hT (gV ml_Items_73 im_Items_isPart se_Items_isPart ini_Items co_Items_isPart) rfl rfl rfl pd_Items_isPart ⟨rm_hi, rm_lo (Nat.le_of_ble_eq_true rfl)⟩) hK hP hD hS hA hnw henv (Nat.le_of_ble_eq_true rfl) rfl rfl hl.1 rfl (Nat.le_of_ble_eq_true rfl) d_Items_placeOfPart_3 ⟨Nat.le_refl _, Nat.le_refl _⟩ (fun H locs hP hD hS => ?_)
  clear hc1
  refine lv_if_eq (tgt := 23) hx hb d_Items_placeOfPart_6 (by decide) (fun c2 => ?_) (fun c2 => ?_)
  · replace hR := if_p c2 hR
    refine lv_iconst (v := 0) hx hb d_Items_placeOfPart_23 (by decide) ?_
    obtain ⟨e1, -, e3⟩ := re_e hR
    subst e1; subst e3
    exact W.iret (v := (0 : Int32)) hx hb hr (fun t ht hW => ⟨⟨(0 : Int32), (), rfl, rfl, by rw [ht]; exact hP, va_K.moved hW.alike hK, hD⟩, hS.F ht⟩) hS.2.2 d_Items_placeOfPart_24
  · replace hR := if_n c2 hR
    refine lv_aload_n hx hb d_Items_placeOfPart_9 rfl (lv_at hl 0 rfl) ?_
    refine rd_Items_64 hx hb hT hown hK hP d_Items_placeOfPart_10 ?_
    refine lv_iload_n hx hb d_Items_placeOfPart_13 rfl (lv_at hl 1 rfl) ?_
    refine lv_bipush (v := 8) hx hb d_Items_placeOfPart_14 (by decide) ?_
    refine lv_imul hx hb d_Items_placeOfPart_16 ?_
    refine lv_iload_n hx hb d_Items_placeOfPart_17 rfl (lv_at hl 2 rfl) ?_
    refine lv_iadd hx hb d_Items_placeOfPart_18 ?_
    replace hR := gd_e hR
    obtain ⟨b4, hR⟩ := hR
    refine laH_30 hx hb hK hP b4 d_Items_placeOfPart_19 ?_
    refine lv_goto (tgt := 24) hx hb d_Items_placeOfPart_20 (by decide) ?_
    obtain ⟨e1, -, e3⟩ := re_e hR
    subst e1; subst e3
    exact W.iret (v := T1.1 45 ((p1 * (8 : Int32)) + p2).toNatClampNeg) hx hb hr (fun t ht hW => ⟨⟨T1.1 45 ((p1 * (8 : Int32)) + p2).toNatClampNeg, (), rfl, rfl, by rw [ht]; exact hP, va_K.moved hW.alike hK, hD⟩, hS.F ht⟩) hS.2.2 d_Items_placeOfPart_24
set_option maxHeartbeats 4000000 in
set_option maxRecDepth 100000 in
theorem sp_Items_addPart (l : Launch) (dC : Nat → ClassId) (dI : Nat → Nat → Nat) (ea ev ad : Nat → Nat) (km : Nat → ClassId) (F : gF) (nf d : Nat) (T0 : gSt) (p1 : Int32) (p2 : Int32) (r0 : Int32) (rl0 : Int64) (T9 : gSt) (hR : rb_Items_addPart F nf T0 p1 p2 = some (r0, rl0, T9)) : GMv l dC dI LH ad km ea ev y_Items_addPart w_Items_addPart (rmD (d + 1)) [.ref (ad 2), .int p1, .int p2] T0 T9 := by
  intro sz
  refine Met.ofW (cc := b_Items_addPart) (maxL := 3) (ret := none) (by decide) rfl ?_
  intro p e s m args below meth c s₁ B hml hv
  obtain ⟨rfl, hsz, hP, hK, hD0, hnw, henv⟩ := hv
  have hx := B.exec
  have hb := B.bytes
  have hr := B.returns
  have hT : ∀ w ∈ lw_good, w.before _ s = true := fun w h => atoms_spec (ws := w_Items_addPart) B.pre w (List.mem_cons_of_mem _ h)
  have hown : s.vm.findClass R_Items = some m.cls := findClass_of_methodNamed B.named
  subst hsz
  have hD := hD0.self (sz := s.heap.size)
  clear hD0
  generalize hAe : va_A (gW LH ad km T0) s.heap.size = A at hD henv ⊢
  have hA : ∀ q : Nat, s.heap.size ≤ q → A q := fun q h => by rw [← hAe]; exact Or.inr h
  have hS : va_S A s.heap s.heap [] := va_S.rf
  have hl := lv_entry ([.ref (ad 2), .int p1, .int p2]) (n := 3) (Nat.le_of_ble_eq_true rfl)
  rw [lg_entry_eq]
  generalize (lg_sl ([.ref (ad 2), .int p1, .int p2]) ++ List.replicate (3 - (lg_sl ([.ref (ad 2), .int p1, .int p2])).length) Slot.unset).toArray = ls at hl ⊢
  have hl : lv_has ls 3 [(0, .ref (ad 2)), (1, .int p1), (2, .int p2)] := hl
  unfold rb_Items_addPart at hR
  refine lv_aload_n hx hb d_Items_addPart_0 rfl (lv_at hl 0 rfl) ?_
  refine rd_Items_25 hx hb hT hown hK hP d_Items_addPart_1 ?_
  refine lv_iload_n hx hb d_Items_addPart_4 rfl (lv_at hl 1 rfl) ?_
  replace hR := gd_e hR
  obtain ⟨b1, hR⟩ := hR
  refine laH_17 hx hb hK hP b1 d_Items_addPart_5 ?_
  refine lv_bipush (v := 8) hx hb d_Items_addPart_6 (by decide) ?_
  refine lv_icmp_ge (tgt := 38) hx hb d_Items_addPart_8 (by decide) (fun c2 => ?_) (fun c2 => ?_)
  · replace hR := if_p c2 hR
    obtain ⟨-, -, e3⟩ := re_e hR
    subst e3
    exact W.vret hx hb hr (fun t ht hW => ⟨⟨(), rfl, trivial, by rw [ht]; exact hP, va_K.moved hW.alike hK, hD⟩, hS.F ht⟩) hS.2.2 d_Items_addPart_38
  · replace hR := if_n c2 hR
    refine lv_aload_n hx hb d_Items_addPart_11 rfl (lv_at hl 0 rfl) ?_
    refine rd_Items_58 hx hb hT hown hK hP d_Items_addPart_12 ?_
    refine lv_iload_n hx hb d_Items_addPart_15 rfl (lv_at hl 1 rfl) ?_
    refine lv_bipush (v := 8) hx hb d_Items_addPart_16 (by decide) ?_
    refine lv_imul hx hb d_Items_addPart_18 ?_
    refine lv_aload_n hx hb d_Items_addPart_19 rfl (lv_at hl 0 rfl) ?_
    refine rd_Items_25 hx hb hT hown hK hP d_Items_addPart_20 ?_
    refine lv_iload_n hx hb d_Items_addPart_23 rfl (lv_at hl 1 rfl) ?_
    replace hR := gd_e hR
    obtain ⟨b3, hR⟩ := hR
    refine laH_17 hx hb hK hP b3 d_Items_addPart_24 ?_
    refine lv_iadd hx hb d_Items_addPart_25 ?_
    refine lv_iload_n hx hb d_Items_addPart_26 rfl (lv_at hl 2 rfl) ?_
    replace hR := gd_e hR
    obtain ⟨b4, hR⟩ := hR
    refine saH_28 hx hb hK hP hD hS b4 d_Items_addPart_27 (fun T4 eT H locs hP hD hS => ?_)
    replace hR := stK_e eT hR
    clear eT
    refine lv_aload_n hx hb d_Items_addPart_28 rfl (lv_at hl 0 rfl) ?_
    refine rd_Items_25 hx hb hT hown hK hP d_Items_addPart_29 ?_
    refine lv_iload_n hx hb d_Items_addPart_32 rfl (lv_at hl 1 rfl) ?_
    refine lv_dup2_11 hx hb d_Items_addPart_33 rfl rfl ?_
    replace hR := gd_e hR
    obtain ⟨b5, hR⟩ := hR
    refine laH_17 hx hb hK hP b5 d_Items_addPart_34 ?_
    refine lv_iconst (v := 1) hx hb d_Items_addPart_35 (by decide) ?_
    refine lv_iadd hx hb d_Items_addPart_36 ?_
    replace hR := gd_e hR
    obtain ⟨b6, hR⟩ := hR
    refine saH_17 hx hb hK hP hD hS b6 d_Items_addPart_37 (fun T6 eT H locs hP hD hS => ?_)
    replace hR := stK_e eT hR
    clear eT
    obtain ⟨-, -, e3⟩ := re_e hR
    subst e3
    exact W.vret hx hb hr (fun t ht hW => ⟨⟨(), rfl, trivial, by rw [ht]; exact hP, va_K.moved hW.alike hK, hD⟩, hS.F ht⟩) hS.2.2 d_Items_addPart_38
set_option maxHeartbeats 4000000 in
set_option maxRecDepth 100000 in
theorem sp_Items_setPart (l : Launch) (dC : Nat → ClassId) (dI : Nat → Nat → Nat) (ea ev ad : Nat → Nat) (km : Nat → ClassId) (F : gF) (nf d : Nat) (h_Items_isPart : mt_Items_isPart l dC dI ea ev ad km F d) (T0 : gSt) (p1 : Int32) (p2 : Int32) (p3 : Int32) (p4 : Int32) (r0 : Int32) (rl0 : Int64) (T9 : gSt) (hR : rb_Items_setPart F nf T0 p1 p2 p3 p4 = some (r0, rl0, T9)) : GMv l dC dI LH ad km ea ev y_Items_setPart w_Items_setPart (rmD (d + 1)) [.ref (ad 2), .int p1, .int p2, .int p3, .int p4] T0 T9 := by
  intro sz
  refine Met.ofW (cc := b_Items_setPart) (maxL := 5) (ret := none) (by decide) rfl ?_
  intro p e s m args below meth c s₁ B hml hv
  obtain ⟨rfl, hsz, hP, hK, hD0, hnw, henv⟩ := hv
  have hx := B.exec
  have hb := B.bytes
  have hr := B.returns
  have hT : ∀ w ∈ lw_good, w.before _ s = true := fun w h => atoms_spec (ws := w_Items_setPart) B.pre w (List.mem_cons_of_mem _ h)
  have hown : s.vm.findClass R_Items = some m.cls := findClass_of_methodNamed B.named
  subst hsz
  have hD := hD0.self (sz := s.heap.size)
  clear hD0
  generalize hAe : va_A (gW LH ad km T0) s.heap.size = A at hD henv ⊢
  have hA : ∀ q : Nat, s.heap.size ≤ q → A q := fun q h => by rw [← hAe]; exact Or.inr h
  have hS : va_S A s.heap s.heap [] := va_S.rf
  have hl := lv_entry ([.ref (ad 2), .int p1, .int p2, .int p3, .int p4]) (n := 5) (Nat.le_of_ble_eq_true rfl)
  rw [lg_entry_eq]
  generalize (lg_sl ([.ref (ad 2), .int p1, .int p2, .int p3, .int p4]) ++ List.replicate (5 - (lg_sl ([.ref (ad 2), .int p1, .int p2, .int p3, .int p4])).length) Slot.unset).toArray = ls at hl ⊢
  have hl : lv_has ls 5 [(0, .ref (ad 2)), (1, .int p1), (2, .int p2), (3, .int p3), (4, .int p4)] := hl
  unfold rb_Items_setPart at hR
  refine lv_aload_n hx hb d_Items_setPart_0 rfl (lv_at hl 0 rfl) ?_
  refine lv_iload_n hx hb d_Items_setPart_1 rfl (lv_at hl 1 rfl) ?_
  refine lv_iload_n hx hb d_Items_setPart_2 rfl (lv_at hl 2 rfl) ?_
  replace hR := bi_e hR
  obtain ⟨r1, l1, T1, hc1, hR⟩ := hR
  refine gcV_i (rest := []) ⟨hx, hb, hml, hown, hT⟩ (h_Items_isPart _ _ _ _ _ _ hc1) (cwV 2 hT (gV ml_Items_73 im_Items_isPart se_Items_isPart ini_Items co_Items_isPart) rfl rfl rfl pd_Items_isPart ⟨rm_hi, rm_lo (Nat.le_of_ble_eq_true rfl)⟩) hK hP hD hS hA hnw henv (Nat.le_of_ble_eq_true rfl) rfl rfl hl.1 rfl (Nat.le_of_ble_eq_true rfl) d_Items_setPart_3 ⟨Nat.le_refl _, Nat.le_refl _⟩ (fun H locs hP hD hS => ?_)
  clear hc1
  refine lv_if_eq (tgt := 34) hx hb d_Items_setPart_6 (by decide) (fun c2 => ?_) (fun c2 => ?_)
  · replace hR := if_p c2 hR
    obtain ⟨-, -, e3⟩ := re_e hR
    subst e3
    exact W.vret hx hb hr (fun t ht hW => ⟨⟨(), rfl, trivial, by rw [ht]; exact hP, va_K.moved hW.alike hK, hD⟩, hS.F ht⟩) hS.2.2 d_Items_setPart_34
  · replace hR := if_n c2 hR
    refine lv_aload_n hx hb d_Items_setPart_9 rfl (lv_at hl 0 rfl) ?_
    refine rd_Items_61 hx hb hT hown hK hP d_Items_setPart_10 ?_
    refine lv_iload_n hx hb d_Items_setPart_13 rfl (lv_at hl 1 rfl) ?_
    refine lv_bipush (v := 8) hx hb d_Items_setPart_14 (by decide) ?_
    refine lv_imul hx hb d_Items_setPart_16 ?_
    refine lv_iload_n hx hb d_Items_setPart_17 rfl (lv_at hl 2 rfl) ?_
    refine lv_iadd hx hb d_Items_setPart_18 ?_
    refine lv_iload_n hx hb d_Items_setPart_19 rfl (lv_at hl 3 rfl) ?_
    replace hR := gd_e hR
    obtain ⟨b3, hR⟩ := hR
    refine saH_29 hx hb hK hP hD hS b3 d_Items_setPart_20 (fun T3 eT H locs hP hD hS => ?_)
    replace hR := stK_e eT hR
    clear eT
    refine lv_aload_n hx hb d_Items_setPart_21 rfl (lv_at hl 0 rfl) ?_
    refine rd_Items_64 hx hb hT hown hK hP d_Items_setPart_22 ?_
    refine lv_iload_n hx hb d_Items_setPart_25 rfl (lv_at hl 1 rfl) ?_
    refine lv_bipush (v := 8) hx hb d_Items_setPart_26 (by decide) ?_
    refine lv_imul hx hb d_Items_setPart_28 ?_
    refine lv_iload_n hx hb d_Items_setPart_29 rfl (lv_at hl 2 rfl) ?_
    refine lv_iadd hx hb d_Items_setPart_30 ?_
    refine lv_iload hx hb d_Items_setPart_31 (lv_at hl 4 rfl) ?_
    replace hR := gd_e hR
    obtain ⟨b4, hR⟩ := hR
    refine saH_30 hx hb hK hP hD hS b4 d_Items_setPart_33 (fun T4 eT H locs hP hD hS => ?_)
    replace hR := stK_e eT hR
    clear eT
    obtain ⟨-, -, e3⟩ := re_e hR
    subst e3
    exact W.vret hx hb hr (fun t ht hW => ⟨⟨(), rfl, trivial, by rw [ht]; exact hP, va_K.moved hW.alike hK, hD⟩, hS.F ht⟩) hS.2.2 d_Items_setPart_34
set_option maxHeartbeats 4000000 in
set_option maxRecDepth 100000 in
theorem sp_Items_addPair (l : Launch) (dC : Nat → ClassId) (dI : Nat → Nat → Nat) (ea ev ad : Nat → Nat) (km : Nat → ClassId) (F : gF) (nf d : Nat) (T0 : gSt) (p1 : Int32) (p2 : Int32) (p3 : Int32) (r0 : Int32) (rl0 : Int64) (T9 : gSt) (hR : rb_Items_addPair F nf T0 p1 p2 p3 = some (r0, rl0, T9)) : GMv l dC dI LH ad km ea ev y_Items_addPair w_Items_addPair (rmD (d + 1)) [.ref (ad 2), .int p1, .int p2, .int p3] T0 T9 := by
  intro sz
  refine Met.ofW (cc := b_Items_addPair) (maxL := 4) (ret := none) (by decide) rfl ?_
  intro p e s m args below meth c s₁ B hml hv
  obtain ⟨rfl, hsz, hP, hK, hD0, hnw, henv⟩ := hv
  have hx := B.exec
  have hb := B.bytes
  have hr := B.returns
  have hT : ∀ w ∈ lw_good, w.before _ s = true := fun w h => atoms_spec (ws := w_Items_addPair) B.pre w (List.mem_cons_of_mem _ h)
  have hown : s.vm.findClass R_Items = some m.cls := findClass_of_methodNamed B.named
  subst hsz
  have hD := hD0.self (sz := s.heap.size)
  clear hD0
  generalize hAe : va_A (gW LH ad km T0) s.heap.size = A at hD henv ⊢
  have hA : ∀ q : Nat, s.heap.size ≤ q → A q := fun q h => by rw [← hAe]; exact Or.inr h
  have hS : va_S A s.heap s.heap [] := va_S.rf
  have hl := lv_entry ([.ref (ad 2), .int p1, .int p2, .int p3]) (n := 4) (Nat.le_of_ble_eq_true rfl)
  rw [lg_entry_eq]
  generalize (lg_sl ([.ref (ad 2), .int p1, .int p2, .int p3]) ++ List.replicate (4 - (lg_sl ([.ref (ad 2), .int p1, .int p2, .int p3])).length) Slot.unset).toArray = ls at hl ⊢
  have hl : lv_has ls 4 [(0, .ref (ad 2)), (1, .int p1), (2, .int p2), (3, .int p3)] := hl
  unfold rb_Items_addPair at hR
  refine lv_aload_n hx hb d_Items_addPair_0 rfl (lv_at hl 0 rfl) ?_
  refine rd_Items_67 hx hb hT hown hK hP d_Items_addPair_1 ?_
  refine lv_iload_n hx hb d_Items_addPair_4 rfl (lv_at hl 1 rfl) ?_
  replace hR := gd_e hR
  obtain ⟨b1, hR⟩ := hR
  refine laH_31 hx hb hK hP b1 d_Items_addPair_5 ?_
  refine lv_iconst (v := 3) hx hb d_Items_addPair_6 (by decide) ?_
  refine lv_icmp_ge (tgt := 40) hx hb d_Items_addPair_7 (by decide) (fun c2 => ?_) (fun c2 => ?_)
  · replace hR := if_p c2 hR
    obtain ⟨-, -, e3⟩ := re_e hR
    subst e3
    exact W.vret hx hb hr (fun t ht hW => ⟨⟨(), rfl, trivial, by rw [ht]; exact hP, va_K.moved hW.alike hK, hD⟩, hS.F ht⟩) hS.2.2 d_Items_addPair_40
  · replace hR := if_n c2 hR
    refine lv_aload_n hx hb d_Items_addPair_10 rfl (lv_at hl 0 rfl) ?_
    refine rd_Items_70 hx hb hT hown hK hP d_Items_addPair_11 ?_
    refine lv_iload_n hx hb d_Items_addPair_14 rfl (lv_at hl 1 rfl) ?_
    refine lv_iconst (v := 3) hx hb d_Items_addPair_15 (by decide) ?_
    refine lv_imul hx hb d_Items_addPair_16 ?_
    refine lv_aload_n hx hb d_Items_addPair_17 rfl (lv_at hl 0 rfl) ?_
    refine rd_Items_67 hx hb hT hown hK hP d_Items_addPair_18 ?_
    refine lv_iload_n hx hb d_Items_addPair_21 rfl (lv_at hl 1 rfl) ?_
    replace hR := gd_e hR
    obtain ⟨b3, hR⟩ := hR
    refine laH_31 hx hb hK hP b3 d_Items_addPair_22 ?_
    refine lv_iadd hx hb d_Items_addPair_23 ?_
    refine lv_iload_n hx hb d_Items_addPair_24 rfl (lv_at hl 2 rfl) ?_
    refine lv_iconst (v := 2) hx hb d_Items_addPair_25 (by decide) ?_
    refine lv_ishl hx hb d_Items_addPair_26 ?_
    refine lv_iload_n hx hb d_Items_addPair_27 rfl (lv_at hl 3 rfl) ?_
    refine lv_ior hx hb d_Items_addPair_28 ?_
    replace hR := gd_e hR
    obtain ⟨b4, hR⟩ := hR
    refine saH_32 hx hb hK hP hD hS b4 d_Items_addPair_29 (fun T4 eT H locs hP hD hS => ?_)
    replace hR := stK_e eT hR
    clear eT
    refine lv_aload_n hx hb d_Items_addPair_30 rfl (lv_at hl 0 rfl) ?_
    refine rd_Items_67 hx hb hT hown hK hP d_Items_addPair_31 ?_
    refine lv_iload_n hx hb d_Items_addPair_34 rfl (lv_at hl 1 rfl) ?_
    refine lv_dup2_11 hx hb d_Items_addPair_35 rfl rfl ?_
    replace hR := gd_e hR
    obtain ⟨b5, hR⟩ := hR
    refine laH_31 hx hb hK hP b5 d_Items_addPair_36 ?_
    refine lv_iconst (v := 1) hx hb d_Items_addPair_37 (by decide) ?_
    refine lv_iadd hx hb d_Items_addPair_38 ?_
    replace hR := gd_e hR
    obtain ⟨b6, hR⟩ := hR
    refine saH_31 hx hb hK hP hD hS b6 d_Items_addPair_39 (fun T6 eT H locs hP hD hS => ?_)
    replace hR := stK_e eT hR
    clear eT
    obtain ⟨-, -, e3⟩ := re_e hR
    subst e3
    exact W.vret hx hb hr (fun t ht hW => ⟨⟨(), rfl, trivial, by rw [ht]; exact hP, va_K.moved hW.alike hK, hD⟩, hS.F ht⟩) hS.2.2 d_Items_addPair_40
set_option maxHeartbeats 4000000 in
set_option maxRecDepth 100000 in
theorem sp_Items_upperOf (l : Launch) (dC : Nat → ClassId) (dI : Nat → Nat → Nat) (ea ev ad : Nat → Nat) (km : Nat → ClassId) (F : gF) (nf d : Nat) (T0 : gSt) (p1 : Int32) (p2 : Int32) (r0 : Int32) (rl0 : Int64) (T9 : gSt) (hR : rb_Items_upperOf F nf T0 p1 p2 = some (r0, rl0, T9)) : GMi l dC dI LH ad km ea ev y_Items_upperOf w_Items_upperOf (rmD (d + 1)) [.ref (ad 2), .int p1, .int p2] T0 r0 T9 := by
  intro sz
  refine Met.ofW (cc := b_Items_upperOf) (maxL := 3) (ret := (some .int)) (by decide) rfl ?_
  intro p e s m args below meth c s₁ B hml hv
  obtain ⟨rfl, hsz, hP, hK, hD0, hnw, henv⟩ := hv
  have hx := B.exec
  have hb := B.bytes
  have hr := B.returns
  have hT : ∀ w ∈ lw_good, w.before _ s = true := fun w h => atoms_spec (ws := w_Items_upperOf) B.pre w (List.mem_cons_of_mem _ h)
  have hown : s.vm.findClass R_Items = some m.cls := findClass_of_methodNamed B.named
  subst hsz
  have hD := hD0.self (sz := s.heap.size)
  clear hD0
  generalize hAe : va_A (gW LH ad km T0) s.heap.size = A at hD henv ⊢
  have hA : ∀ q : Nat, s.heap.size ≤ q → A q := fun q h => by rw [← hAe]; exact Or.inr h
  have hS : va_S A s.heap s.heap [] := va_S.rf
  have hl := lv_entry ([.ref (ad 2), .int p1, .int p2]) (n := 3) (Nat.le_of_ble_eq_true rfl)
  rw [lg_entry_eq]
  generalize (lg_sl ([.ref (ad 2), .int p1, .int p2]) ++ List.replicate (3 - (lg_sl ([.ref (ad 2), .int p1, .int p2])).length) Slot.unset).toArray = ls at hl ⊢
  have hl : lv_has ls 3 [(0, .ref (ad 2)), (1, .int p1), (2, .int p2)] := hl
  unfold rb_Items_upperOf at hR
  refine lv_iload_n hx hb d_Items_upperOf_0 rfl (lv_at hl 2 rfl) ?_
  refine lv_aload_n hx hb d_Items_upperOf_1 rfl (lv_at hl 0 rfl) ?_
  refine rd_Items_67 hx hb hT hown hK hP d_Items_upperOf_2 ?_
  refine lv_iload_n hx hb d_Items_upperOf_5 rfl (lv_at hl 1 rfl) ?_
  replace hR := gd_e hR
  obtain ⟨b1, hR⟩ := hR
  refine laH_31 hx hb hK hP b1 d_Items_upperOf_6 ?_
  refine lv_icmp_ge (tgt := 25) hx hb d_Items_upperOf_7 (by decide) (fun c2 => ?_) (fun c2 => ?_)
  · replace hR := if_p c2 hR
    refine lv_iconst (v := 0) hx hb d_Items_upperOf_25 (by decide) ?_
    obtain ⟨e1, -, e3⟩ := re_e hR
    subst e1; subst e3
    exact W.iret (v := (0 : Int32)) hx hb hr (fun t ht hW => ⟨⟨(0 : Int32), (), rfl, rfl, by rw [ht]; exact hP, va_K.moved hW.alike hK, hD⟩, hS.F ht⟩) hS.2.2 d_Items_upperOf_26
  · replace hR := if_n c2 hR
    refine lv_aload_n hx hb d_Items_upperOf_10 rfl (lv_at hl 0 rfl) ?_
    refine rd_Items_70 hx hb hT hown hK hP d_Items_upperOf_11 ?_
    refine lv_iload_n hx hb d_Items_upperOf_14 rfl (lv_at hl 1 rfl) ?_
    refine lv_iconst (v := 3) hx hb d_Items_upperOf_15 (by decide) ?_
    refine lv_imul hx hb d_Items_upperOf_16 ?_
    refine lv_iload_n hx hb d_Items_upperOf_17 rfl (lv_at hl 2 rfl) ?_
    refine lv_iadd hx hb d_Items_upperOf_18 ?_
    replace hR := gd_e hR
    obtain ⟨b4, hR⟩ := hR
    refine laH_32 hx hb hK hP b4 d_Items_upperOf_19 ?_
    refine lv_iconst (v := 2) hx hb d_Items_upperOf_20 (by decide) ?_
    refine lv_ishr hx hb d_Items_upperOf_21 ?_
    refine lv_goto (tgt := 26) hx hb d_Items_upperOf_22 (by decide) ?_
    obtain ⟨e1, -, e3⟩ := re_e hR
    subst e1; subst e3
    exact W.iret (v := (T0.1 47 ((p1 * (3 : Int32)) + p2).toNatClampNeg) >>> ((2 : Int32) &&& 31)) hx hb hr (fun t ht hW => ⟨⟨(T0.1 47 ((p1 * (3 : Int32)) + p2).toNatClampNeg) >>> ((2 : Int32) &&& 31), (), rfl, rfl, by rw [ht]; exact hP, va_K.moved hW.alike hK, hD⟩, hS.F ht⟩) hS.2.2 d_Items_upperOf_26
set_option maxHeartbeats 4000000 in
set_option maxRecDepth 100000 in
theorem sp_Items_lowerOf (l : Launch) (dC : Nat → ClassId) (dI : Nat → Nat → Nat) (ea ev ad : Nat → Nat) (km : Nat → ClassId) (F : gF) (nf d : Nat) (T0 : gSt) (p1 : Int32) (p2 : Int32) (r0 : Int32) (rl0 : Int64) (T9 : gSt) (hR : rb_Items_lowerOf F nf T0 p1 p2 = some (r0, rl0, T9)) : GMi l dC dI LH ad km ea ev y_Items_lowerOf w_Items_lowerOf (rmD (d + 1)) [.ref (ad 2), .int p1, .int p2] T0 r0 T9 := by
  intro sz
  refine Met.ofW (cc := b_Items_lowerOf) (maxL := 3) (ret := (some .int)) (by decide) rfl ?_
  intro p e s m args below meth c s₁ B hml hv
  obtain ⟨rfl, hsz, hP, hK, hD0, hnw, henv⟩ := hv
  have hx := B.exec
  have hb := B.bytes
  have hr := B.returns
  have hT : ∀ w ∈ lw_good, w.before _ s = true := fun w h => atoms_spec (ws := w_Items_lowerOf) B.pre w (List.mem_cons_of_mem _ h)
  have hown : s.vm.findClass R_Items = some m.cls := findClass_of_methodNamed B.named
  subst hsz
  have hD := hD0.self (sz := s.heap.size)
  clear hD0
  generalize hAe : va_A (gW LH ad km T0) s.heap.size = A at hD henv ⊢
  have hA : ∀ q : Nat, s.heap.size ≤ q → A q := fun q h => by rw [← hAe]; exact Or.inr h
  have hS : va_S A s.heap s.heap [] := va_S.rf
  have hl := lv_entry ([.ref (ad 2), .int p1, .int p2]) (n := 3) (Nat.le_of_ble_eq_true rfl)
  rw [lg_entry_eq]
  generalize (lg_sl ([.ref (ad 2), .int p1, .int p2]) ++ List.replicate (3 - (lg_sl ([.ref (ad 2), .int p1, .int p2])).length) Slot.unset).toArray = ls at hl ⊢
  have hl : lv_has ls 3 [(0, .ref (ad 2)), (1, .int p1), (2, .int p2)] := hl
  unfold rb_Items_lowerOf at hR
  refine lv_iload_n hx hb d_Items_lowerOf_0 rfl (lv_at hl 2 rfl) ?_
  refine lv_aload_n hx hb d_Items_lowerOf_1 rfl (lv_at hl 0 rfl) ?_
  refine rd_Items_67 hx hb hT hown hK hP d_Items_lowerOf_2 ?_
  refine lv_iload_n hx hb d_Items_lowerOf_5 rfl (lv_at hl 1 rfl) ?_
  replace hR := gd_e hR
  obtain ⟨b1, hR⟩ := hR
  refine laH_31 hx hb hK hP b1 d_Items_lowerOf_6 ?_
  refine lv_icmp_ge (tgt := 25) hx hb d_Items_lowerOf_7 (by decide) (fun c2 => ?_) (fun c2 => ?_)
  · replace hR := if_p c2 hR
    refine lv_iconst (v := 0) hx hb d_Items_lowerOf_25 (by decide) ?_
    obtain ⟨e1, -, e3⟩ := re_e hR
    subst e1; subst e3
    exact W.iret (v := (0 : Int32)) hx hb hr (fun t ht hW => ⟨⟨(0 : Int32), (), rfl, rfl, by rw [ht]; exact hP, va_K.moved hW.alike hK, hD⟩, hS.F ht⟩) hS.2.2 d_Items_lowerOf_26
  · replace hR := if_n c2 hR
    refine lv_aload_n hx hb d_Items_lowerOf_10 rfl (lv_at hl 0 rfl) ?_
    refine rd_Items_70 hx hb hT hown hK hP d_Items_lowerOf_11 ?_
    refine lv_iload_n hx hb d_Items_lowerOf_14 rfl (lv_at hl 1 rfl) ?_
    refine lv_iconst (v := 3) hx hb d_Items_lowerOf_15 (by decide) ?_
    refine lv_imul hx hb d_Items_lowerOf_16 ?_
    refine lv_iload_n hx hb d_Items_lowerOf_17 rfl (lv_at hl 2 rfl) ?_
    refine lv_iadd hx hb d_Items_lowerOf_18 ?_
    replace hR := gd_e hR
    obtain ⟨b4, hR⟩ := hR
    refine laH_32 hx hb hK hP b4 d_Items_lowerOf_19 ?_
    refine lv_iconst (v := 3) hx hb d_Items_lowerOf_20 (by decide) ?_
    refine lv_iand hx hb d_Items_lowerOf_21 ?_
    refine lv_goto (tgt := 26) hx hb d_Items_lowerOf_22 (by decide) ?_
    obtain ⟨e1, -, e3⟩ := re_e hR
    subst e1; subst e3
    exact W.iret (v := (T0.1 47 ((p1 * (3 : Int32)) + p2).toNatClampNeg) &&& (3 : Int32)) hx hb hr (fun t ht hW => ⟨⟨(T0.1 47 ((p1 * (3 : Int32)) + p2).toNatClampNeg) &&& (3 : Int32), (), rfl, rfl, by rw [ht]; exact hP, va_K.moved hW.alike hK, hD⟩, hS.F ht⟩) hS.2.2 d_Items_lowerOf_26
set_option maxHeartbeats 4000000 in
set_option maxRecDepth 100000 in
theorem sp_Items_isPart (l : Launch) (dC : Nat → ClassId) (dI : Nat → Nat → Nat) (ea ev ad : Nat → Nat) (km : Nat → ClassId) (F : gF) (nf d : Nat) (T0 : gSt) (p1 : Int32) (p2 : Int32) (r0 : Int32) (rl0 : Int64) (T9 : gSt) (hR : rb_Items_isPart F nf T0 p1 p2 = some (r0, rl0, T9)) : GMi l dC dI LH ad km ea ev y_Items_isPart w_Items_isPart (rmD (d + 1)) [.ref (ad 2), .int p1, .int p2] T0 r0 T9 := by
  intro sz
  refine Met.ofW (cc := b_Items_isPart) (maxL := 3) (ret := (some .boolean)) (by decide) rfl ?_
  intro p e s m args below meth c s₁ B hml hv
  obtain ⟨rfl, hsz, hP, hK, hD0, hnw, henv⟩ := hv
  have hx := B.exec
  have hb := B.bytes
  have hr := B.returns
  have hT : ∀ w ∈ lw_good, w.before _ s = true := fun w h => atoms_spec (ws := w_Items_isPart) B.pre w (List.mem_cons_of_mem _ h)
  have hown : s.vm.findClass R_Items = some m.cls := findClass_of_methodNamed B.named
  subst hsz
  have hD := hD0.self (sz := s.heap.size)
  clear hD0
  generalize hAe : va_A (gW LH ad km T0) s.heap.size = A at hD henv ⊢
  have hA : ∀ q : Nat, s.heap.size ≤ q → A q := fun q h => by rw [← hAe]; exact Or.inr h
  have hS : va_S A s.heap s.heap [] := va_S.rf
  have hl := lv_entry ([.ref (ad 2), .int p1, .int p2]) (n := 3) (Nat.le_of_ble_eq_true rfl)
  rw [lg_entry_eq]
  generalize (lg_sl ([.ref (ad 2), .int p1, .int p2]) ++ List.replicate (3 - (lg_sl ([.ref (ad 2), .int p1, .int p2])).length) Slot.unset).toArray = ls at hl ⊢
  have hl : lv_has ls 3 [(0, .ref (ad 2)), (1, .int p1), (2, .int p2)] := hl
  unfold rb_Items_isPart at hR
  refine lv_iload_n hx hb d_Items_isPart_0 rfl (lv_at hl 1 rfl) ?_
  refine lv_if_lt (tgt := 24) hx hb d_Items_isPart_1 (by decide) (fun c1 => ?_) (fun c1 => ?_)
  · replace hR := if_p c1 hR
    refine lv_iconst (v := 0) hx hb d_Items_isPart_24 (by decide) ?_
    obtain ⟨e1, -, e3⟩ := re_e hR
    subst e1; subst e3
    exact W.zret (v := (0 : Int32)) hx hb hr (by first | rfl | decide) (fun t ht hW => ⟨⟨(0 : Int32), (), rfl, rfl, by rw [ht]; exact hP, va_K.moved hW.alike hK, hD⟩, hS.F ht⟩) hS.2.2 d_Items_isPart_25
  · replace hR := if_n c1 hR
    refine lv_iload_n hx hb d_Items_isPart_4 rfl (lv_at hl 1 rfl) ?_
    refine lv_bipush (v := 24) hx hb d_Items_isPart_5 (by decide) ?_
    refine lv_icmp_ge (tgt := 24) hx hb d_Items_isPart_7 (by decide) (fun c3 => ?_) (fun c3 => ?_)
    · replace hR := if_p c3 hR
      refine lv_iconst (v := 0) hx hb d_Items_isPart_24 (by decide) ?_
      obtain ⟨e1, -, e3⟩ := re_e hR
      subst e1; subst e3
      exact W.zret (v := (0 : Int32)) hx hb hr (by first | rfl | decide) (fun t ht hW => ⟨⟨(0 : Int32), (), rfl, rfl, by rw [ht]; exact hP, va_K.moved hW.alike hK, hD⟩, hS.F ht⟩) hS.2.2 d_Items_isPart_25
    · replace hR := if_n c3 hR
      refine lv_iload_n hx hb d_Items_isPart_10 rfl (lv_at hl 2 rfl) ?_
      refine lv_if_lt (tgt := 24) hx hb d_Items_isPart_11 (by decide) (fun c5 => ?_) (fun c5 => ?_)
      · replace hR := if_p c5 hR
        refine lv_iconst (v := 0) hx hb d_Items_isPart_24 (by decide) ?_
        obtain ⟨e1, -, e3⟩ := re_e hR
        subst e1; subst e3
        exact W.zret (v := (0 : Int32)) hx hb hr (by first | rfl | decide) (fun t ht hW => ⟨⟨(0 : Int32), (), rfl, rfl, by rw [ht]; exact hP, va_K.moved hW.alike hK, hD⟩, hS.F ht⟩) hS.2.2 d_Items_isPart_25
      · replace hR := if_n c5 hR
        refine lv_iload_n hx hb d_Items_isPart_14 rfl (lv_at hl 2 rfl) ?_
        refine lv_bipush (v := 8) hx hb d_Items_isPart_15 (by decide) ?_
        refine lv_icmp_ge (tgt := 24) hx hb d_Items_isPart_17 (by decide) (fun c7 => ?_) (fun c7 => ?_)
        · replace hR := if_p c7 hR
          refine lv_iconst (v := 0) hx hb d_Items_isPart_24 (by decide) ?_
          obtain ⟨e1, -, e3⟩ := re_e hR
          subst e1; subst e3
          exact W.zret (v := (0 : Int32)) hx hb hr (by first | rfl | decide) (fun t ht hW => ⟨⟨(0 : Int32), (), rfl, rfl, by rw [ht]; exact hP, va_K.moved hW.alike hK, hD⟩, hS.F ht⟩) hS.2.2 d_Items_isPart_25
        · replace hR := if_n c7 hR
          refine lv_iconst (v := 1) hx hb d_Items_isPart_20 (by decide) ?_
          refine lv_goto (tgt := 25) hx hb d_Items_isPart_21 (by decide) ?_
          obtain ⟨e1, -, e3⟩ := re_e hR
          subst e1; subst e3
          exact W.zret (v := (1 : Int32)) hx hb hr (by first | rfl | decide) (fun t ht hW => ⟨⟨(1 : Int32), (), rfl, rfl, by rw [ht]; exact hP, va_K.moved hW.alike hK, hD⟩, hS.F ht⟩) hS.2.2 d_Items_isPart_25
set_option maxHeartbeats 4000000 in
set_option maxRecDepth 100000 in
theorem sp_Items_find (l : Launch) (dC : Nat → ClassId) (dI : Nat → Nat → Nat) (ea ev ad : Nat → Nat) (km : Nat → ClassId) (F : gF) (nf d : Nat) (T0 : gSt) (p1 : Int64) (p2 : Int32) (r0 : Int32) (rl0 : Int64) (T9 : gSt) (hR : rb_Items_find F nf T0 p1 p2 = some (r0, rl0, T9)) : GMi l dC dI LH ad km ea ev y_Items_find w_Items_find (rmD (d + 1)) [.ref (ad 2), .long p1, .int p2] T0 r0 T9 := by
  intro sz
  refine Met.ofW (cc := b_Items_find) (maxL := 6) (ret := (some .int)) (by decide) rfl ?_
  intro p e s m args below meth c s₁ B hml hv
  obtain ⟨rfl, hsz, hP, hK, hD0, hnw, henv⟩ := hv
  have hx := B.exec
  have hb := B.bytes
  have hr := B.returns
  have hT : ∀ w ∈ lw_good, w.before _ s = true := fun w h => atoms_spec (ws := w_Items_find) B.pre w (List.mem_cons_of_mem _ h)
  have hown : s.vm.findClass R_Items = some m.cls := findClass_of_methodNamed B.named
  subst hsz
  have hD := hD0.self (sz := s.heap.size)
  clear hD0
  generalize hAe : va_A (gW LH ad km T0) s.heap.size = A at hD henv ⊢
  have hA : ∀ q : Nat, s.heap.size ≤ q → A q := fun q h => by rw [← hAe]; exact Or.inr h
  have hS : va_S A s.heap s.heap [] := va_S.rf
  have hl := lv_entry ([.ref (ad 2), .long p1, .int p2]) (n := 6) (Nat.le_of_ble_eq_true rfl)
  rw [lg_entry_eq]
  generalize (lg_sl ([.ref (ad 2), .long p1, .int p2]) ++ List.replicate (6 - (lg_sl ([.ref (ad 2), .long p1, .int p2])).length) Slot.unset).toArray = ls at hl ⊢
  have hl : lv_has ls 6 [(0, .ref (ad 2)), (1, .long p1), (3, .int p2)] := hl
  obtain ⟨G, hG⟩ : ∃ G : Nat → List (Nat × Value) → List Value → gSt → Prop, G = (fun pc lv stk T => ∀ (H : Heap) (locs : List Loc), va_P (dC, dI) cls_all (gW LH ad km T) H → va_D A (gW LH ad km T) → va_S A s.heap H locs → ∀ (ls : Array Slot), lv_has ls 6 lv → W p l e (headSpec w_Items_find (rmD (d + 1))).room s m ([.ref (ad 2), .long p1, .int p2] : List Value).toArray below meth c H locs 0 0 (MQ below (va_Qi (fun (z : Int32) (_ : Unit) => z = r0) (fun _ t => gPost dC dI LH ad km T9 A t) A) ([.ref (ad 2), .long p1, .int p2] : List Value).toArray s 0 0 A) (F0 m pc ls stk)) := ⟨_, rfl⟩
  have lb_53 : ∀ (rec_3 : gSt → Int64 → Int32 → Int32 → gR) (hrec_3 : ∀ (T : gSt) (x1 : Int64) (x3 : Int32) (x4 : Int32), rec_3 T x1 x3 x4 = some (r0, rl0, T9) → G 3 [(0, .ref (ad 2)), (1, .long x1), (3, .int x3), (4, .int x4)] [] T) (T : gSt) (x1 : Int64) (x3 : Int32) (x4 : Int32) (y0 : Int32), rj_Items_find_53 F nf rec_3 T x1 x3 x4 y0 = some (r0, rl0, T9) → G 53 [(0, .ref (ad 2)), (1, .long x1), (3, .int x3), (4, .int x4)] [.int y0] T := by
    intro rec_3 hrec_3 T x1 x3 x4 y0 hR; unfold rj_Items_find_53 at hR; rw [hG]; intro H locs hP hD hS ls hl
    refine lv_istore (lv' := [(5, .int y0), (0, .ref (ad 2)), (1, .long x1), (3, .int x3), (4, .int x4)]) hx hb d_Items_find_53 hl (by decide) rfl (fun ls hl => ?_)
    refine lv_iload hx hb d_Items_find_55 (lv_at hl 0 rfl) ?_
    refine lv_if_eq (tgt := 75) hx hb d_Items_find_57 (by decide) (fun c8 => ?_) (fun c8 => ?_)
    · replace hR := if_p c8 hR
      obtain ⟨z9, e9⟩ : ∃ y : Int32, y = x4 + (1 : Int32) := ⟨_, rfl⟩
      replace hR := vK_e e9 hR
      refine lv_iinc (v := z9) (lv' := [(4, .int z9), (5, .int y0), (0, .ref (ad 2)), (1, .long x1), (3, .int x3)]) hx hb d_Items_find_75 hl (k := 4) rfl (by rw [e9]; rfl) (by decide) rfl (fun ls hl => ?_)
      refine lv_goto (tgt := 3) hx hb d_Items_find_78 (by decide) ?_
      have g := hrec_3 T x1 x3 z9 hR
      rw [hG] at g
      exact g _ _ hP hD hS _ (lv_sub hl [2, 3, 4, 0] rfl)
    · replace hR := if_n c8 hR
      refine lv_aload_n hx hb d_Items_find_60 rfl (lv_at hl 1 rfl) ?_
      refine rd_Items_18 hx hb hT hown hK hP d_Items_find_61 ?_
      refine lv_iload hx hb d_Items_find_64 (lv_at hl 4 rfl) ?_
      replace hR := gd_e hR
      obtain ⟨b10, hR⟩ := hR
      refine laH_15 hx hb hK hP b10 d_Items_find_66 ?_
      refine lv_lload_n hx hb d_Items_find_67 rfl (lv_at hl 2 rfl) ?_
      refine W.lcmp hx hb d_Items_find_68 ?_
      refine lv_if_ne (tgt := 75) hx hb d_Items_find_69 (by decide) (fun c11 => ?_) (fun c11 => ?_)
      · replace hR := if_n c11 hR
        obtain ⟨z12, e12⟩ : ∃ y : Int32, y = x4 + (1 : Int32) := ⟨_, rfl⟩
        replace hR := vK_e e12 hR
        refine lv_iinc (v := z12) (lv' := [(4, .int z12), (5, .int y0), (0, .ref (ad 2)), (1, .long x1), (3, .int x3)]) hx hb d_Items_find_75 hl (k := 4) rfl (by rw [e12]; rfl) (by decide) rfl (fun ls hl => ?_)
        refine lv_goto (tgt := 3) hx hb d_Items_find_78 (by decide) ?_
        have g := hrec_3 T x1 x3 z12 hR
        rw [hG] at g
        exact g _ _ hP hD hS _ (lv_sub hl [2, 3, 4, 0] rfl)
      · replace hR := if_p c11 hR
        refine lv_iload hx hb d_Items_find_72 (lv_at hl 4 rfl) ?_
        obtain ⟨e1, -, e3⟩ := re_e hR
        subst e1; subst e3
        exact W.iret (v := x4) hx hb hr (fun t ht hW => ⟨⟨x4, (), rfl, rfl, by rw [ht]; exact hP, va_K.moved hW.alike hK, hD⟩, hS.F ht⟩) hS.2.2 d_Items_find_74
  have lb_3 : ∀ (n : Nat) (T : gSt) (x1 : Int64) (x3 : Int32) (x4 : Int32), rl_Items_find_3 F nf n T x1 x3 x4 = some (r0, rl0, T9) → G 3 [(0, .ref (ad 2)), (1, .long x1), (3, .int x3), (4, .int x4)] [] T := by
    intro n
    induction n with
    | zero => intro T x1 x3 x4 hR; rw [rl_Items_find_3] at hR; cases hR
    | succ n ih =>
      intro T x1 x3 x4 hR; rw [rl_Items_find_3] at hR; rw [hG]; intro H locs hP hD hS ls hl
      refine lv_iload hx hb d_Items_find_3 (lv_at hl 3 rfl) ?_
      refine lv_aload_n hx hb d_Items_find_5 rfl (lv_at hl 0 rfl) ?_
      refine rd_Items_79 hx hb hT hown hK hP d_Items_find_6 ?_
      refine lv_icmp_ge (tgt := 81) hx hb d_Items_find_9 (by decide) (fun c1 => ?_) (fun c1 => ?_)
      · replace hR := if_p c1 hR
        refine lv_iconst (v := (-1)) hx hb d_Items_find_81 (by decide) ?_
        obtain ⟨e1, -, e3⟩ := re_e hR
        subst e1; subst e3
        exact W.iret (v := (-1 : Int32)) hx hb hr (fun t ht hW => ⟨⟨(-1 : Int32), (), rfl, rfl, by rw [ht]; exact hP, va_K.moved hW.alike hK, hD⟩, hS.F ht⟩) hS.2.2 d_Items_find_82
      · replace hR := if_n c1 hR
        refine lv_iload_n hx hb d_Items_find_12 rfl (lv_at hl 2 rfl) ?_
        refine lv_if_eq (tgt := 36) hx hb d_Items_find_13 (by decide) (fun c3 => ?_) (fun c3 => ?_)
        · replace hR := if_p c3 hR
          refine lv_aload_n hx hb d_Items_find_36 rfl (lv_at hl 0 rfl) ?_
          refine rd_Items_9 hx hb hT hown hK hP d_Items_find_37 ?_
          refine lv_iload hx hb d_Items_find_40 (lv_at hl 3 rfl) ?_
          replace hR := gd_e hR
          obtain ⟨b4, hR⟩ := hR
          refine laH_13 hx hb hK hP b4 d_Items_find_42 ?_
          refine lv_bipush (v := 12) hx hb d_Items_find_43 (by decide) ?_
          refine lv_icmp_eq (tgt := 52) hx hb d_Items_find_45 (by decide) (fun c5 => ?_) (fun c5 => ?_)
          · replace hR := if_p c5 hR
            refine lv_iconst (v := 0) hx hb d_Items_find_52 (by decide) ?_
            have g := lb_53 (rl_Items_find_3 F nf n) ih T x1 x3 x4 (0 : Int32) hR
            rw [hG] at g
            exact g _ _ hP hD hS _ (lv_sub hl [0, 1, 2, 3] rfl)
          · replace hR := if_n c5 hR
            refine lv_iconst (v := 1) hx hb d_Items_find_48 (by decide) ?_
            refine lv_goto (tgt := 53) hx hb d_Items_find_49 (by decide) ?_
            have g := lb_53 (rl_Items_find_3 F nf n) ih T x1 x3 x4 (1 : Int32) hR
            rw [hG] at g
            exact g _ _ hP hD hS _ (lv_sub hl [0, 1, 2, 3] rfl)
        · replace hR := if_n c3 hR
          refine lv_aload_n hx hb d_Items_find_16 rfl (lv_at hl 0 rfl) ?_
          refine rd_Items_9 hx hb hT hown hK hP d_Items_find_17 ?_
          refine lv_iload hx hb d_Items_find_20 (lv_at hl 3 rfl) ?_
          replace hR := gd_e hR
          obtain ⟨b6, hR⟩ := hR
          refine laH_13 hx hb hK hP b6 d_Items_find_22 ?_
          refine lv_bipush (v := 12) hx hb d_Items_find_23 (by decide) ?_
          refine lv_icmp_ne (tgt := 32) hx hb d_Items_find_25 (by decide) (fun c7 => ?_) (fun c7 => ?_)
          · replace hR := if_n c7 hR
            refine lv_iconst (v := 0) hx hb d_Items_find_32 (by decide) ?_
            refine lv_goto (tgt := 53) hx hb d_Items_find_33 (by decide) ?_
            have g := lb_53 (rl_Items_find_3 F nf n) ih T x1 x3 x4 (0 : Int32) hR
            rw [hG] at g
            exact g _ _ hP hD hS _ (lv_sub hl [0, 1, 2, 3] rfl)
          · replace hR := if_p c7 hR
            refine lv_iconst (v := 1) hx hb d_Items_find_28 (by decide) ?_
            refine lv_goto (tgt := 53) hx hb d_Items_find_29 (by decide) ?_
            have g := lb_53 (rl_Items_find_3 F nf n) ih T x1 x3 x4 (1 : Int32) hR
            rw [hG] at g
            exact g _ _ hP hD hS _ (lv_sub hl [0, 1, 2, 3] rfl)
  unfold rb_Items_find at hR
  refine lv_iconst (v := 0) hx hb d_Items_find_0 (by decide) ?_
  refine lv_istore (lv' := [(4, .int (0 : Int32)), (0, .ref (ad 2)), (1, .long p1), (3, .int p2)]) hx hb d_Items_find_1 hl (by decide) rfl (fun ls hl => ?_)
  have g := lb_3 nf T0 p1 p2 (0 : Int32) hR
  rw [hG] at g
  exact g _ _ hP hD hS _ (lv_sub hl [1, 2, 3, 0] rfl)
set_option maxHeartbeats 4000000 in
set_option maxRecDepth 100000 in
theorem sp_Code_note (l : Launch) (dC : Nat → ClassId) (dI : Nat → Nat → Nat) (ea ev ad : Nat → Nat) (km : Nat → ClassId) (F : gF) (nf d : Nat) (T0 : gSt) (p1 : Int32) (p2 : Int32) (r0 : Int32) (rl0 : Int64) (T9 : gSt) (hR : rb_Code_note F nf T0 p1 p2 = some (r0, rl0, T9)) : GMv l dC dI LH ad km ea ev y_Code_note w_Code_note (rmD (d + 1)) [.ref (ad 3), .int p1, .int p2] T0 T9 := by
  intro sz
  refine Met.ofW (cc := b_Code_note) (maxL := 3) (ret := none) (by decide) rfl ?_
  intro p e s m args below meth c s₁ B hml hv
  obtain ⟨rfl, hsz, hP, hK, hD0, hnw, henv⟩ := hv
  have hx := B.exec
  have hb := B.bytes
  have hr := B.returns
  have hT : ∀ w ∈ lw_good, w.before _ s = true := fun w h => atoms_spec (ws := w_Code_note) B.pre w (List.mem_cons_of_mem _ h)
  have hown : s.vm.findClass R_Code = some m.cls := findClass_of_methodNamed B.named
  subst hsz
  have hD := hD0.self (sz := s.heap.size)
  clear hD0
  generalize hAe : va_A (gW LH ad km T0) s.heap.size = A at hD henv ⊢
  have hA : ∀ q : Nat, s.heap.size ≤ q → A q := fun q h => by rw [← hAe]; exact Or.inr h
  have hS : va_S A s.heap s.heap [] := va_S.rf
  have hl := lv_entry ([.ref (ad 3), .int p1, .int p2]) (n := 3) (Nat.le_of_ble_eq_true rfl)
  rw [lg_entry_eq]
  generalize (lg_sl ([.ref (ad 3), .int p1, .int p2]) ++ List.replicate (3 - (lg_sl ([.ref (ad 3), .int p1, .int p2])).length) Slot.unset).toArray = ls at hl ⊢
  have hl : lv_has ls 3 [(0, .ref (ad 3)), (1, .int p1), (2, .int p2)] := hl
  unfold rb_Code_note at hR
  refine lv_aload_n hx hb d_Code_note_0 rfl (lv_at hl 0 rfl) ?_
  refine rd_Code_37 hx hb hT hown hK hP d_Code_note_1 ?_
  refine lv_if_ne (tgt := 17) hx hb d_Code_note_4 (by decide) (fun c1 => ?_) (fun c1 => ?_)
  · replace hR := if_n c1 hR
    obtain ⟨-, -, e3⟩ := re_e hR
    subst e3
    exact W.vret hx hb hr (fun t ht hW => ⟨⟨(), rfl, trivial, by rw [ht]; exact hP, va_K.moved hW.alike hK, hD⟩, hS.F ht⟩) hS.2.2 d_Code_note_17
  · replace hR := if_p c1 hR
    refine lv_aload_n hx hb d_Code_note_7 rfl (lv_at hl 0 rfl) ?_
    refine lv_iload_n hx hb d_Code_note_8 rfl (lv_at hl 1 rfl) ?_
    refine wr_Code_37 hx hb hT hown hK hP hD hS d_Code_note_9 (fun T2 eT H locs hP hD hS => ?_)
    replace hR := stK_e eT hR
    clear eT
    refine lv_aload_n hx hb d_Code_note_12 rfl (lv_at hl 0 rfl) ?_
    refine lv_iload_n hx hb d_Code_note_13 rfl (lv_at hl 2 rfl) ?_
    refine wr_Code_24 hx hb hT hown hK hP hD hS d_Code_note_14 (fun T3 eT H locs hP hD hS => ?_)
    replace hR := stK_e eT hR
    clear eT
    obtain ⟨-, -, e3⟩ := re_e hR
    subst e3
    exact W.vret hx hb hr (fun t ht hW => ⟨⟨(), rfl, trivial, by rw [ht]; exact hP, va_K.moved hW.alike hK, hD⟩, hS.F ht⟩) hS.2.2 d_Code_note_17
set_option maxHeartbeats 4000000 in
set_option maxRecDepth 100000 in
theorem sp_Code_isSound (l : Launch) (dC : Nat → ClassId) (dI : Nat → Nat → Nat) (ea ev ad : Nat → Nat) (km : Nat → ClassId) (F : gF) (nf d : Nat) (T0 : gSt) (r0 : Int32) (rl0 : Int64) (T9 : gSt) (hR : rb_Code_isSound F nf T0 = some (r0, rl0, T9)) : GMi l dC dI LH ad km ea ev y_Code_isSound w_Code_isSound (rmD (d + 1)) [.ref (ad 3)] T0 r0 T9 := by
  intro sz
  refine Met.ofW (cc := b_Code_isSound) (maxL := 1) (ret := (some .boolean)) (by decide) rfl ?_
  intro p e s m args below meth c s₁ B hml hv
  obtain ⟨rfl, hsz, hP, hK, hD0, hnw, henv⟩ := hv
  have hx := B.exec
  have hb := B.bytes
  have hr := B.returns
  have hT : ∀ w ∈ lw_good, w.before _ s = true := fun w h => atoms_spec (ws := w_Code_isSound) B.pre w (List.mem_cons_of_mem _ h)
  have hown : s.vm.findClass R_Code = some m.cls := findClass_of_methodNamed B.named
  subst hsz
  have hD := hD0.self (sz := s.heap.size)
  clear hD0
  generalize hAe : va_A (gW LH ad km T0) s.heap.size = A at hD henv ⊢
  have hA : ∀ q : Nat, s.heap.size ≤ q → A q := fun q h => by rw [← hAe]; exact Or.inr h
  have hS : va_S A s.heap s.heap [] := va_S.rf
  have hl := lv_entry ([.ref (ad 3)]) (n := 1) (Nat.le_of_ble_eq_true rfl)
  rw [lg_entry_eq]
  generalize (lg_sl ([.ref (ad 3)]) ++ List.replicate (1 - (lg_sl ([.ref (ad 3)])).length) Slot.unset).toArray = ls at hl ⊢
  have hl : lv_has ls 1 [(0, .ref (ad 3))] := hl
  unfold rb_Code_isSound at hR
  refine lv_aload_n hx hb d_Code_isSound_0 rfl (lv_at hl 0 rfl) ?_
  refine rd_Code_37 hx hb hT hown hK hP d_Code_isSound_1 ?_
  refine lv_if_ne (tgt := 11) hx hb d_Code_isSound_4 (by decide) (fun c1 => ?_) (fun c1 => ?_)
  · replace hR := if_n c1 hR
    refine lv_iconst (v := 0) hx hb d_Code_isSound_11 (by decide) ?_
    obtain ⟨e1, -, e3⟩ := re_e hR
    subst e1; subst e3
    exact W.zret (v := (0 : Int32)) hx hb hr (by first | rfl | decide) (fun t ht hW => ⟨⟨(0 : Int32), (), rfl, rfl, by rw [ht]; exact hP, va_K.moved hW.alike hK, hD⟩, hS.F ht⟩) hS.2.2 d_Code_isSound_12
  · replace hR := if_p c1 hR
    refine lv_iconst (v := 1) hx hb d_Code_isSound_7 (by decide) ?_
    refine lv_goto (tgt := 12) hx hb d_Code_isSound_8 (by decide) ?_
    obtain ⟨e1, -, e3⟩ := re_e hR
    subst e1; subst e3
    exact W.zret (v := (1 : Int32)) hx hb hr (by first | rfl | decide) (fun t ht hW => ⟨⟨(1 : Int32), (), rfl, rfl, by rw [ht]; exact hP, va_K.moved hW.alike hK, hD⟩, hS.F ht⟩) hS.2.2 d_Code_isSound_12
set_option maxHeartbeats 4000000 in
set_option maxRecDepth 100000 in
theorem sp_Code_tally (l : Launch) (dC : Nat → ClassId) (dI : Nat → Nat → Nat) (ea ev ad : Nat → Nat) (km : Nat → ClassId) (F : gF) (nf d : Nat) (T0 : gSt) (p1 : Int32) (r0 : Int32) (rl0 : Int64) (T9 : gSt) (hR : rb_Code_tally F nf T0 p1 = some (r0, rl0, T9)) : GMv l dC dI LH ad km ea ev y_Code_tally w_Code_tally (rmD (d + 1)) [.ref (ad 3), .int p1] T0 T9 := by
  intro sz
  refine Met.ofW (cc := b_Code_tally) (maxL := 2) (ret := none) (by decide) rfl ?_
  intro p e s m args below meth c s₁ B hml hv
  obtain ⟨rfl, hsz, hP, hK, hD0, hnw, henv⟩ := hv
  have hx := B.exec
  have hb := B.bytes
  have hr := B.returns
  have hT : ∀ w ∈ lw_good, w.before _ s = true := fun w h => atoms_spec (ws := w_Code_tally) B.pre w (List.mem_cons_of_mem _ h)
  have hown : s.vm.findClass R_Code = some m.cls := findClass_of_methodNamed B.named
  subst hsz
  have hD := hD0.self (sz := s.heap.size)
  clear hD0
  generalize hAe : va_A (gW LH ad km T0) s.heap.size = A at hD henv ⊢
  have hA : ∀ q : Nat, s.heap.size ≤ q → A q := fun q h => by rw [← hAe]; exact Or.inr h
  have hS : va_S A s.heap s.heap [] := va_S.rf
  have hl := lv_entry ([.ref (ad 3), .int p1]) (n := 2) (Nat.le_of_ble_eq_true rfl)
  rw [lg_entry_eq]
  generalize (lg_sl ([.ref (ad 3), .int p1]) ++ List.replicate (2 - (lg_sl ([.ref (ad 3), .int p1])).length) Slot.unset).toArray = ls at hl ⊢
  have hl : lv_has ls 2 [(0, .ref (ad 3)), (1, .int p1)] := hl
  unfold rb_Code_tally at hR
  refine lv_iload_n hx hb d_Code_tally_0 rfl (lv_at hl 1 rfl) ?_
  refine lv_if_lt (tgt := 23) hx hb d_Code_tally_1 (by decide) (fun c1 => ?_) (fun c1 => ?_)
  · replace hR := if_p c1 hR
    obtain ⟨-, -, e3⟩ := re_e hR
    subst e3
    exact W.vret hx hb hr (fun t ht hW => ⟨⟨(), rfl, trivial, by rw [ht]; exact hP, va_K.moved hW.alike hK, hD⟩, hS.F ht⟩) hS.2.2 d_Code_tally_23
  · replace hR := if_n c1 hR
    refine lv_iload_n hx hb d_Code_tally_4 rfl (lv_at hl 1 rfl) ?_
    refine lv_aload_n hx hb d_Code_tally_5 rfl (lv_at hl 0 rfl) ?_
    refine rd_Code_21 hx hb hT hown hK hP d_Code_tally_6 ?_
    refine gw_alen hx hb hK hP 36 7 48 (Nat.le_of_ble_eq_true rfl) rfl rfl d_Code_tally_9 ?_
    refine W.eq (g2 := F0 m 10 ls [.int (7 : Int32), .int p1]) rfl ?_
    refine lv_icmp_ge (tgt := 23) hx hb d_Code_tally_10 (by decide) (fun c2 => ?_) (fun c2 => ?_)
    · replace hR := if_p c2 hR
      obtain ⟨-, -, e3⟩ := re_e hR
      subst e3
      exact W.vret hx hb hr (fun t ht hW => ⟨⟨(), rfl, trivial, by rw [ht]; exact hP, va_K.moved hW.alike hK, hD⟩, hS.F ht⟩) hS.2.2 d_Code_tally_23
    · replace hR := if_n c2 hR
      refine lv_aload_n hx hb d_Code_tally_13 rfl (lv_at hl 0 rfl) ?_
      refine rd_Code_21 hx hb hT hown hK hP d_Code_tally_14 ?_
      refine lv_iload_n hx hb d_Code_tally_17 rfl (lv_at hl 1 rfl) ?_
      refine lv_dup2_11 hx hb d_Code_tally_18 rfl rfl ?_
      replace hR := gd_e hR
      obtain ⟨b3, hR⟩ := hR
      refine laH_36 hx hb hK hP b3 d_Code_tally_19 ?_
      refine lv_iconst (v := 1) hx hb d_Code_tally_20 (by decide) ?_
      refine lv_iadd hx hb d_Code_tally_21 ?_
      replace hR := gd_e hR
      obtain ⟨b4, hR⟩ := hR
      refine saH_36 hx hb hK hP hD hS b4 d_Code_tally_22 (fun T4 eT H locs hP hD hS => ?_)
      replace hR := stK_e eT hR
      clear eT
      obtain ⟨-, -, e3⟩ := re_e hR
      subst e3
      exact W.vret hx hb hr (fun t ht hW => ⟨⟨(), rfl, trivial, by rw [ht]; exact hP, va_K.moved hW.alike hK, hD⟩, hS.F ht⟩) hS.2.2 d_Code_tally_23
set_option maxHeartbeats 4000000 in
set_option maxRecDepth 100000 in
theorem sp_Code_count (l : Launch) (dC : Nat → ClassId) (dI : Nat → Nat → Nat) (ea ev ad : Nat → Nat) (km : Nat → ClassId) (F : gF) (nf d : Nat) (T0 : gSt) (r0 : Int32) (rl0 : Int64) (T9 : gSt) (hR : rb_Code_count F nf T0 = some (r0, rl0, T9)) : GMi l dC dI LH ad km ea ev y_Code_count w_Code_count (rmD (d + 1)) [.ref (ad 3)] T0 r0 T9 := by
  intro sz
  refine Met.ofW (cc := b_Code_count) (maxL := 1) (ret := (some .int)) (by decide) rfl ?_
  intro p e s m args below meth c s₁ B hml hv
  obtain ⟨rfl, hsz, hP, hK, hD0, hnw, henv⟩ := hv
  have hx := B.exec
  have hb := B.bytes
  have hr := B.returns
  have hT : ∀ w ∈ lw_good, w.before _ s = true := fun w h => atoms_spec (ws := w_Code_count) B.pre w (List.mem_cons_of_mem _ h)
  have hown : s.vm.findClass R_Code = some m.cls := findClass_of_methodNamed B.named
  subst hsz
  have hD := hD0.self (sz := s.heap.size)
  clear hD0
  generalize hAe : va_A (gW LH ad km T0) s.heap.size = A at hD henv ⊢
  have hA : ∀ q : Nat, s.heap.size ≤ q → A q := fun q h => by rw [← hAe]; exact Or.inr h
  have hS : va_S A s.heap s.heap [] := va_S.rf
  have hl := lv_entry ([.ref (ad 3)]) (n := 1) (Nat.le_of_ble_eq_true rfl)
  rw [lg_entry_eq]
  generalize (lg_sl ([.ref (ad 3)]) ++ List.replicate (1 - (lg_sl ([.ref (ad 3)])).length) Slot.unset).toArray = ls at hl ⊢
  have hl : lv_has ls 1 [(0, .ref (ad 3))] := hl
  unfold rb_Code_count at hR
  refine lv_aload_n hx hb d_Code_count_0 rfl (lv_at hl 0 rfl) ?_
  refine rd_Code_28 hx hb hT hown hK hP d_Code_count_1 ?_
  obtain ⟨e1, -, e3⟩ := re_e hR
  subst e1; subst e3
  exact W.iret (v := T0.1 51 0) hx hb hr (fun t ht hW => ⟨⟨T0.1 51 0, (), rfl, rfl, by rw [ht]; exact hP, va_K.moved hW.alike hK, hD⟩, hS.F ht⟩) hS.2.2 d_Code_count_4
set_option maxHeartbeats 4000000 in
set_option maxRecDepth 100000 in
theorem sp_Code_emit (l : Launch) (dC : Nat → ClassId) (dI : Nat → Nat → Nat) (ea ev ad : Nat → Nat) (km : Nat → ClassId) (F : gF) (nf d : Nat) (T0 : gSt) (p1 : Int32) (p2 : Int32) (p3 : Int32) (r0 : Int32) (rl0 : Int64) (T9 : gSt) (hR : rb_Code_emit F nf T0 p1 p2 p3 = some (r0, rl0, T9)) : GMi l dC dI LH ad km ea ev y_Code_emit w_Code_emit (rmD (d + 1)) [.ref (ad 3), .int p1, .int p2, .int p3] T0 r0 T9 := by
  intro sz
  refine Met.ofW (cc := b_Code_emit) (maxL := 4) (ret := (some .int)) (by decide) rfl ?_
  intro p e s m args below meth c s₁ B hml hv
  obtain ⟨rfl, hsz, hP, hK, hD0, hnw, henv⟩ := hv
  have hx := B.exec
  have hb := B.bytes
  have hr := B.returns
  have hT : ∀ w ∈ lw_good, w.before _ s = true := fun w h => atoms_spec (ws := w_Code_emit) B.pre w (List.mem_cons_of_mem _ h)
  have hown : s.vm.findClass R_Code = some m.cls := findClass_of_methodNamed B.named
  subst hsz
  have hD := hD0.self (sz := s.heap.size)
  clear hD0
  generalize hAe : va_A (gW LH ad km T0) s.heap.size = A at hD henv ⊢
  have hA : ∀ q : Nat, s.heap.size ≤ q → A q := fun q h => by rw [← hAe]; exact Or.inr h
  have hS : va_S A s.heap s.heap [] := va_S.rf
  have hl := lv_entry ([.ref (ad 3), .int p1, .int p2, .int p3]) (n := 4) (Nat.le_of_ble_eq_true rfl)
  rw [lg_entry_eq]
  generalize (lg_sl ([.ref (ad 3), .int p1, .int p2, .int p3]) ++ List.replicate (4 - (lg_sl ([.ref (ad 3), .int p1, .int p2, .int p3])).length) Slot.unset).toArray = ls at hl ⊢
  have hl : lv_has ls 4 [(0, .ref (ad 3)), (1, .int p1), (2, .int p2), (3, .int p3)] := hl
  unfold rb_Code_emit at hR
  refine lv_aload_n hx hb d_Code_emit_0 rfl (lv_at hl 0 rfl) ?_
  refine rd_Code_28 hx hb hT hown hK hP d_Code_emit_1 ?_
  refine lv_sipush (v := 6032) hx hb d_Code_emit_4 (by decide) ?_
  refine lv_icmp_lt (tgt := 12) hx hb d_Code_emit_7 (by decide) (fun c1 => ?_) (fun c1 => ?_)
  · replace hR := if_p c1 hR
    refine lv_aload_n hx hb d_Code_emit_12 rfl (lv_at hl 0 rfl) ?_
    refine rd_Code_11 hx hb hT hown hK hP d_Code_emit_13 ?_
    refine lv_aload_n hx hb d_Code_emit_16 rfl (lv_at hl 0 rfl) ?_
    refine rd_Code_28 hx hb hT hown hK hP d_Code_emit_17 ?_
    refine lv_iload_n hx hb d_Code_emit_20 rfl (lv_at hl 1 rfl) ?_
    replace hR := gd_e hR
    obtain ⟨b2, hR⟩ := hR
    refine saH_33 hx hb hK hP hD hS b2 d_Code_emit_21 (fun T2 eT H locs hP hD hS => ?_)
    replace hR := stK_e eT hR
    clear eT
    refine lv_aload_n hx hb d_Code_emit_22 rfl (lv_at hl 0 rfl) ?_
    refine rd_Code_15 hx hb hT hown hK hP d_Code_emit_23 ?_
    refine lv_aload_n hx hb d_Code_emit_26 rfl (lv_at hl 0 rfl) ?_
    refine rd_Code_28 hx hb hT hown hK hP d_Code_emit_27 ?_
    refine lv_iload_n hx hb d_Code_emit_30 rfl (lv_at hl 2 rfl) ?_
    replace hR := gd_e hR
    obtain ⟨b3, hR⟩ := hR
    refine saH_34 hx hb hK hP hD hS b3 d_Code_emit_31 (fun T3 eT H locs hP hD hS => ?_)
    replace hR := stK_e eT hR
    clear eT
    refine lv_aload_n hx hb d_Code_emit_32 rfl (lv_at hl 0 rfl) ?_
    refine rd_Code_18 hx hb hT hown hK hP d_Code_emit_33 ?_
    refine lv_aload_n hx hb d_Code_emit_36 rfl (lv_at hl 0 rfl) ?_
    refine rd_Code_28 hx hb hT hown hK hP d_Code_emit_37 ?_
    refine lv_iload_n hx hb d_Code_emit_40 rfl (lv_at hl 3 rfl) ?_
    replace hR := gd_e hR
    obtain ⟨b4, hR⟩ := hR
    refine saH_35 hx hb hK hP hD hS b4 d_Code_emit_41 (fun T4 eT H locs hP hD hS => ?_)
    replace hR := stK_e eT hR
    clear eT
    refine lv_aload_n hx hb d_Code_emit_42 rfl (lv_at hl 0 rfl) ?_
    refine lv_dup hx hb d_Code_emit_43 rfl ?_
    refine rd_Code_28 hx hb hT hown hK hP d_Code_emit_44 ?_
    refine lv_iconst (v := 1) hx hb d_Code_emit_47 (by decide) ?_
    refine lv_iadd hx hb d_Code_emit_48 ?_
    refine wr_Code_28 hx hb hT hown hK hP hD hS d_Code_emit_49 (fun T5 eT H locs hP hD hS => ?_)
    replace hR := stK_e eT hR
    clear eT
    refine lv_aload_n hx hb d_Code_emit_52 rfl (lv_at hl 0 rfl) ?_
    refine rd_Code_28 hx hb hT hown hK hP d_Code_emit_53 ?_
    refine lv_iconst (v := 1) hx hb d_Code_emit_56 (by decide) ?_
    refine lv_isub hx hb d_Code_emit_57 ?_
    obtain ⟨e1, -, e3⟩ := re_e hR
    subst e1; subst e3
    exact W.iret (v := (T5.1 51 0) - (1 : Int32)) hx hb hr (fun t ht hW => ⟨⟨(T5.1 51 0) - (1 : Int32), (), rfl, rfl, by rw [ht]; exact hP, va_K.moved hW.alike hK, hD⟩, hS.F ht⟩) hS.2.2 d_Code_emit_58
  · replace hR := if_n c1 hR
    refine lv_iconst (v := (-1)) hx hb d_Code_emit_10 (by decide) ?_
    obtain ⟨e1, -, e3⟩ := re_e hR
    subst e1; subst e3
    exact W.iret (v := (-1 : Int32)) hx hb hr (fun t ht hW => ⟨⟨(-1 : Int32), (), rfl, rfl, by rw [ht]; exact hP, va_K.moved hW.alike hK, hD⟩, hS.F ht⟩) hS.2.2 d_Code_emit_11
set_option maxHeartbeats 4000000 in
set_option maxRecDepth 100000 in
theorem sp_Code_aim (l : Launch) (dC : Nat → ClassId) (dI : Nat → Nat → Nat) (ea ev ad : Nat → Nat) (km : Nat → ClassId) (F : gF) (nf d : Nat) (h_Code_has : mt_Code_has l dC dI ea ev ad km F d) (T0 : gSt) (p1 : Int32) (r0 : Int32) (rl0 : Int64) (T9 : gSt) (hR : rb_Code_aim F nf T0 p1 = some (r0, rl0, T9)) : GMv l dC dI LH ad km ea ev y_Code_aim w_Code_aim (rmD (d + 1)) [.ref (ad 3), .int p1] T0 T9 := by
  intro sz
  refine Met.ofW (cc := b_Code_aim) (maxL := 2) (ret := none) (by decide) rfl ?_
  intro p e s m args below meth c s₁ B hml hv
  obtain ⟨rfl, hsz, hP, hK, hD0, hnw, henv⟩ := hv
  have hx := B.exec
  have hb := B.bytes
  have hr := B.returns
  have hT : ∀ w ∈ lw_good, w.before _ s = true := fun w h => atoms_spec (ws := w_Code_aim) B.pre w (List.mem_cons_of_mem _ h)
  have hown : s.vm.findClass R_Code = some m.cls := findClass_of_methodNamed B.named
  subst hsz
  have hD := hD0.self (sz := s.heap.size)
  clear hD0
  generalize hAe : va_A (gW LH ad km T0) s.heap.size = A at hD henv ⊢
  have hA : ∀ q : Nat, s.heap.size ≤ q → A q := fun q h => by rw [← hAe]; exact Or.inr h
  have hS : va_S A s.heap s.heap [] := va_S.rf
  have hl := lv_entry ([.ref (ad 3), .int p1]) (n := 2) (Nat.le_of_ble_eq_true rfl)
  rw [lg_entry_eq]
  generalize (lg_sl ([.ref (ad 3), .int p1]) ++ List.replicate (2 - (lg_sl ([.ref (ad 3), .int p1])).length) Slot.unset).toArray = ls at hl ⊢
  have hl : lv_has ls 2 [(0, .ref (ad 3)), (1, .int p1)] := hl
  unfold rb_Code_aim at hR
  refine lv_aload_n hx hb d_Code_aim_0 rfl (lv_at hl 0 rfl) ?_
  refine lv_iload_n hx hb d_Code_aim_1 rfl (lv_at hl 1 rfl) ?_
  replace hR := bi_e hR
  obtain ⟨r1, l1, T1, hc1, hR⟩ := hR
  refine gcV_i (rest := []) ⟨hx, hb, hml, hown, hT⟩ (h_Code_has _ _ _ _ _ hc1) (cwV 1 hT (gV ml_Code_40 im_Code_has se_Code_has ini_Code co_Code_has) rfl rfl rfl pd_Code_has ⟨rm_hi, rm_lo (Nat.le_of_ble_eq_true rfl)⟩) hK hP hD hS hA hnw henv (Nat.le_of_ble_eq_true rfl) rfl rfl hl.1 rfl (Nat.le_of_ble_eq_true rfl) d_Code_aim_2 ⟨Nat.le_refl _, Nat.le_refl _⟩ (fun H locs hP hD hS => ?_)
  clear hc1
  refine lv_if_eq (tgt := 18) hx hb d_Code_aim_5 (by decide) (fun c2 => ?_) (fun c2 => ?_)
  · replace hR := if_p c2 hR
    obtain ⟨-, -, e3⟩ := re_e hR
    subst e3
    exact W.vret hx hb hr (fun t ht hW => ⟨⟨(), rfl, trivial, by rw [ht]; exact hP, va_K.moved hW.alike hK, hD⟩, hS.F ht⟩) hS.2.2 d_Code_aim_18
  · replace hR := if_n c2 hR
    refine lv_aload_n hx hb d_Code_aim_8 rfl (lv_at hl 0 rfl) ?_
    refine rd_Code_15 hx hb hT hown hK hP d_Code_aim_9 ?_
    refine lv_iload_n hx hb d_Code_aim_12 rfl (lv_at hl 1 rfl) ?_
    refine lv_aload_n hx hb d_Code_aim_13 rfl (lv_at hl 0 rfl) ?_
    refine rd_Code_28 hx hb hT hown hK hP d_Code_aim_14 ?_
    replace hR := gd_e hR
    obtain ⟨b3, hR⟩ := hR
    refine saH_34 hx hb hK hP hD hS b3 d_Code_aim_17 (fun T3 eT H locs hP hD hS => ?_)
    replace hR := stK_e eT hR
    clear eT
    obtain ⟨-, -, e3⟩ := re_e hR
    subst e3
    exact W.vret hx hb hr (fun t ht hW => ⟨⟨(), rfl, trivial, by rw [ht]; exact hP, va_K.moved hW.alike hK, hD⟩, hS.F ht⟩) hS.2.2 d_Code_aim_18
set_option maxHeartbeats 4000000 in
set_option maxRecDepth 100000 in
theorem sp_Code_has (l : Launch) (dC : Nat → ClassId) (dI : Nat → Nat → Nat) (ea ev ad : Nat → Nat) (km : Nat → ClassId) (F : gF) (nf d : Nat) (T0 : gSt) (p1 : Int32) (r0 : Int32) (rl0 : Int64) (T9 : gSt) (hR : rb_Code_has F nf T0 p1 = some (r0, rl0, T9)) : GMi l dC dI LH ad km ea ev y_Code_has w_Code_has (rmD (d + 1)) [.ref (ad 3), .int p1] T0 r0 T9 := by
  intro sz
  refine Met.ofW (cc := b_Code_has) (maxL := 2) (ret := (some .boolean)) (by decide) rfl ?_
  intro p e s m args below meth c s₁ B hml hv
  obtain ⟨rfl, hsz, hP, hK, hD0, hnw, henv⟩ := hv
  have hx := B.exec
  have hb := B.bytes
  have hr := B.returns
  have hT : ∀ w ∈ lw_good, w.before _ s = true := fun w h => atoms_spec (ws := w_Code_has) B.pre w (List.mem_cons_of_mem _ h)
  have hown : s.vm.findClass R_Code = some m.cls := findClass_of_methodNamed B.named
  subst hsz
  have hD := hD0.self (sz := s.heap.size)
  clear hD0
  generalize hAe : va_A (gW LH ad km T0) s.heap.size = A at hD henv ⊢
  have hA : ∀ q : Nat, s.heap.size ≤ q → A q := fun q h => by rw [← hAe]; exact Or.inr h
  have hS : va_S A s.heap s.heap [] := va_S.rf
  have hl := lv_entry ([.ref (ad 3), .int p1]) (n := 2) (Nat.le_of_ble_eq_true rfl)
  rw [lg_entry_eq]
  generalize (lg_sl ([.ref (ad 3), .int p1]) ++ List.replicate (2 - (lg_sl ([.ref (ad 3), .int p1])).length) Slot.unset).toArray = ls at hl ⊢
  have hl : lv_has ls 2 [(0, .ref (ad 3)), (1, .int p1)] := hl
  unfold rb_Code_has at hR
  refine lv_iload_n hx hb d_Code_has_0 rfl (lv_at hl 1 rfl) ?_
  refine lv_if_lt (tgt := 16) hx hb d_Code_has_1 (by decide) (fun c1 => ?_) (fun c1 => ?_)
  · replace hR := if_p c1 hR
    refine lv_iconst (v := 0) hx hb d_Code_has_16 (by decide) ?_
    obtain ⟨e1, -, e3⟩ := re_e hR
    subst e1; subst e3
    exact W.zret (v := (0 : Int32)) hx hb hr (by first | rfl | decide) (fun t ht hW => ⟨⟨(0 : Int32), (), rfl, rfl, by rw [ht]; exact hP, va_K.moved hW.alike hK, hD⟩, hS.F ht⟩) hS.2.2 d_Code_has_17
  · replace hR := if_n c1 hR
    refine lv_iload_n hx hb d_Code_has_4 rfl (lv_at hl 1 rfl) ?_
    refine lv_aload_n hx hb d_Code_has_5 rfl (lv_at hl 0 rfl) ?_
    refine rd_Code_28 hx hb hT hown hK hP d_Code_has_6 ?_
    refine lv_icmp_ge (tgt := 16) hx hb d_Code_has_9 (by decide) (fun c3 => ?_) (fun c3 => ?_)
    · replace hR := if_p c3 hR
      refine lv_iconst (v := 0) hx hb d_Code_has_16 (by decide) ?_
      obtain ⟨e1, -, e3⟩ := re_e hR
      subst e1; subst e3
      exact W.zret (v := (0 : Int32)) hx hb hr (by first | rfl | decide) (fun t ht hW => ⟨⟨(0 : Int32), (), rfl, rfl, by rw [ht]; exact hP, va_K.moved hW.alike hK, hD⟩, hS.F ht⟩) hS.2.2 d_Code_has_17
    · replace hR := if_n c3 hR
      refine lv_iconst (v := 1) hx hb d_Code_has_12 (by decide) ?_
      refine lv_goto (tgt := 17) hx hb d_Code_has_13 (by decide) ?_
      obtain ⟨e1, -, e3⟩ := re_e hR
      subst e1; subst e3
      exact W.zret (v := (1 : Int32)) hx hb hr (by first | rfl | decide) (fun t ht hW => ⟨⟨(1 : Int32), (), rfl, rfl, by rw [ht]; exact hP, va_K.moved hW.alike hK, hD⟩, hS.F ht⟩) hS.2.2 d_Code_has_17
set_option maxHeartbeats 4000000 in
set_option maxRecDepth 100000 in
theorem sp_Code_opAt (l : Launch) (dC : Nat → ClassId) (dI : Nat → Nat → Nat) (ea ev ad : Nat → Nat) (km : Nat → ClassId) (F : gF) (nf d : Nat) (h_Code_has : mt_Code_has l dC dI ea ev ad km F d) (T0 : gSt) (p1 : Int32) (r0 : Int32) (rl0 : Int64) (T9 : gSt) (hR : rb_Code_opAt F nf T0 p1 = some (r0, rl0, T9)) : GMi l dC dI LH ad km ea ev y_Code_opAt w_Code_opAt (rmD (d + 1)) [.ref (ad 3), .int p1] T0 r0 T9 := by
  intro sz
  refine Met.ofW (cc := b_Code_opAt) (maxL := 2) (ret := (some .int)) (by decide) rfl ?_
  intro p e s m args below meth c s₁ B hml hv
  obtain ⟨rfl, hsz, hP, hK, hD0, hnw, henv⟩ := hv
  have hx := B.exec
  have hb := B.bytes
  have hr := B.returns
  have hT : ∀ w ∈ lw_good, w.before _ s = true := fun w h => atoms_spec (ws := w_Code_opAt) B.pre w (List.mem_cons_of_mem _ h)
  have hown : s.vm.findClass R_Code = some m.cls := findClass_of_methodNamed B.named
  subst hsz
  have hD := hD0.self (sz := s.heap.size)
  clear hD0
  generalize hAe : va_A (gW LH ad km T0) s.heap.size = A at hD henv ⊢
  have hA : ∀ q : Nat, s.heap.size ≤ q → A q := fun q h => by rw [← hAe]; exact Or.inr h
  have hS : va_S A s.heap s.heap [] := va_S.rf
  have hl := lv_entry ([.ref (ad 3), .int p1]) (n := 2) (Nat.le_of_ble_eq_true rfl)
  rw [lg_entry_eq]
  generalize (lg_sl ([.ref (ad 3), .int p1]) ++ List.replicate (2 - (lg_sl ([.ref (ad 3), .int p1])).length) Slot.unset).toArray = ls at hl ⊢
  have hl : lv_has ls 2 [(0, .ref (ad 3)), (1, .int p1)] := hl
  unfold rb_Code_opAt at hR
  refine lv_aload_n hx hb d_Code_opAt_0 rfl (lv_at hl 0 rfl) ?_
  refine lv_iload_n hx hb d_Code_opAt_1 rfl (lv_at hl 1 rfl) ?_
  replace hR := bi_e hR
  obtain ⟨r1, l1, T1, hc1, hR⟩ := hR
  refine gcV_i (rest := []) ⟨hx, hb, hml, hown, hT⟩ (h_Code_has _ _ _ _ _ hc1) (cwV 1 hT (gV ml_Code_40 im_Code_has se_Code_has ini_Code co_Code_has) rfl rfl rfl pd_Code_has ⟨rm_hi, rm_lo (Nat.le_of_ble_eq_true rfl)⟩) hK hP hD hS hA hnw henv (Nat.le_of_ble_eq_true rfl) rfl rfl hl.1 rfl (Nat.le_of_ble_eq_true rfl) d_Code_opAt_2 ⟨Nat.le_refl _, Nat.le_refl _⟩ (fun H locs hP hD hS => ?_)
  clear hc1
  refine lv_if_eq (tgt := 17) hx hb d_Code_opAt_5 (by decide) (fun c2 => ?_) (fun c2 => ?_)
  · replace hR := if_p c2 hR
    refine lv_bipush (v := 58) hx hb d_Code_opAt_17 (by decide) ?_
    obtain ⟨e1, -, e3⟩ := re_e hR
    subst e1; subst e3
    exact W.iret (v := (58 : Int32)) hx hb hr (fun t ht hW => ⟨⟨(58 : Int32), (), rfl, rfl, by rw [ht]; exact hP, va_K.moved hW.alike hK, hD⟩, hS.F ht⟩) hS.2.2 d_Code_opAt_19
  · replace hR := if_n c2 hR
    refine lv_aload_n hx hb d_Code_opAt_8 rfl (lv_at hl 0 rfl) ?_
    refine rd_Code_11 hx hb hT hown hK hP d_Code_opAt_9 ?_
    refine lv_iload_n hx hb d_Code_opAt_12 rfl (lv_at hl 1 rfl) ?_
    replace hR := gd_e hR
    obtain ⟨b4, hR⟩ := hR
    refine laH_33 hx hb hK hP b4 d_Code_opAt_13 ?_
    refine lv_goto (tgt := 19) hx hb d_Code_opAt_14 (by decide) ?_
    obtain ⟨e1, -, e3⟩ := re_e hR
    subst e1; subst e3
    exact W.iret (v := T1.1 48 p1.toNatClampNeg) hx hb hr (fun t ht hW => ⟨⟨T1.1 48 p1.toNatClampNeg, (), rfl, rfl, by rw [ht]; exact hP, va_K.moved hW.alike hK, hD⟩, hS.F ht⟩) hS.2.2 d_Code_opAt_19
set_option maxHeartbeats 4000000 in
set_option maxRecDepth 100000 in
theorem sp_Code_firstAt (l : Launch) (dC : Nat → ClassId) (dI : Nat → Nat → Nat) (ea ev ad : Nat → Nat) (km : Nat → ClassId) (F : gF) (nf d : Nat) (h_Code_has : mt_Code_has l dC dI ea ev ad km F d) (T0 : gSt) (p1 : Int32) (r0 : Int32) (rl0 : Int64) (T9 : gSt) (hR : rb_Code_firstAt F nf T0 p1 = some (r0, rl0, T9)) : GMi l dC dI LH ad km ea ev y_Code_firstAt w_Code_firstAt (rmD (d + 1)) [.ref (ad 3), .int p1] T0 r0 T9 := by
  intro sz
  refine Met.ofW (cc := b_Code_firstAt) (maxL := 2) (ret := (some .int)) (by decide) rfl ?_
  intro p e s m args below meth c s₁ B hml hv
  obtain ⟨rfl, hsz, hP, hK, hD0, hnw, henv⟩ := hv
  have hx := B.exec
  have hb := B.bytes
  have hr := B.returns
  have hT : ∀ w ∈ lw_good, w.before _ s = true := fun w h => atoms_spec (ws := w_Code_firstAt) B.pre w (List.mem_cons_of_mem _ h)
  have hown : s.vm.findClass R_Code = some m.cls := findClass_of_methodNamed B.named
  subst hsz
  have hD := hD0.self (sz := s.heap.size)
  clear hD0
  generalize hAe : va_A (gW LH ad km T0) s.heap.size = A at hD henv ⊢
  have hA : ∀ q : Nat, s.heap.size ≤ q → A q := fun q h => by rw [← hAe]; exact Or.inr h
  have hS : va_S A s.heap s.heap [] := va_S.rf
  have hl := lv_entry ([.ref (ad 3), .int p1]) (n := 2) (Nat.le_of_ble_eq_true rfl)
  rw [lg_entry_eq]
  generalize (lg_sl ([.ref (ad 3), .int p1]) ++ List.replicate (2 - (lg_sl ([.ref (ad 3), .int p1])).length) Slot.unset).toArray = ls at hl ⊢
  have hl : lv_has ls 2 [(0, .ref (ad 3)), (1, .int p1)] := hl
  unfold rb_Code_firstAt at hR
  refine lv_aload_n hx hb d_Code_firstAt_0 rfl (lv_at hl 0 rfl) ?_
  refine lv_iload_n hx hb d_Code_firstAt_1 rfl (lv_at hl 1 rfl) ?_
  replace hR := bi_e hR
  obtain ⟨r1, l1, T1, hc1, hR⟩ := hR
  refine gcV_i (rest := []) ⟨hx, hb, hml, hown, hT⟩ (h_Code_has _ _ _ _ _ hc1) (cwV 1 hT (gV ml_Code_40 im_Code_has se_Code_has ini_Code co_Code_has) rfl rfl rfl pd_Code_has ⟨rm_hi, rm_lo (Nat.le_of_ble_eq_true rfl)⟩) hK hP hD hS hA hnw henv (Nat.le_of_ble_eq_true rfl) rfl rfl hl.1 rfl (Nat.le_of_ble_eq_true rfl) d_Code_firstAt_2 ⟨Nat.le_refl _, Nat.le_refl _⟩ (fun H locs hP hD hS => ?_)
  clear hc1
  refine lv_if_eq (tgt := 17) hx hb d_Code_firstAt_5 (by decide) (fun c2 => ?_) (fun c2 => ?_)
  · replace hR := if_p c2 hR
    refine lv_iconst (v := 0) hx hb d_Code_firstAt_17 (by decide) ?_
    obtain ⟨e1, -, e3⟩ := re_e hR
    subst e1; subst e3
    exact W.iret (v := (0 : Int32)) hx hb hr (fun t ht hW => ⟨⟨(0 : Int32), (), rfl, rfl, by rw [ht]; exact hP, va_K.moved hW.alike hK, hD⟩, hS.F ht⟩) hS.2.2 d_Code_firstAt_18
  · replace hR := if_n c2 hR
    refine lv_aload_n hx hb d_Code_firstAt_8 rfl (lv_at hl 0 rfl) ?_
    refine rd_Code_15 hx hb hT hown hK hP d_Code_firstAt_9 ?_
    refine lv_iload_n hx hb d_Code_firstAt_12 rfl (lv_at hl 1 rfl) ?_
    replace hR := gd_e hR
    obtain ⟨b4, hR⟩ := hR
    refine laH_34 hx hb hK hP b4 d_Code_firstAt_13 ?_
    refine lv_goto (tgt := 18) hx hb d_Code_firstAt_14 (by decide) ?_
    obtain ⟨e1, -, e3⟩ := re_e hR
    subst e1; subst e3
    exact W.iret (v := T1.1 49 p1.toNatClampNeg) hx hb hr (fun t ht hW => ⟨⟨T1.1 49 p1.toNatClampNeg, (), rfl, rfl, by rw [ht]; exact hP, va_K.moved hW.alike hK, hD⟩, hS.F ht⟩) hS.2.2 d_Code_firstAt_18
set_option maxHeartbeats 4000000 in
set_option maxRecDepth 100000 in
theorem sp_Code_secondAt (l : Launch) (dC : Nat → ClassId) (dI : Nat → Nat → Nat) (ea ev ad : Nat → Nat) (km : Nat → ClassId) (F : gF) (nf d : Nat) (h_Code_has : mt_Code_has l dC dI ea ev ad km F d) (T0 : gSt) (p1 : Int32) (r0 : Int32) (rl0 : Int64) (T9 : gSt) (hR : rb_Code_secondAt F nf T0 p1 = some (r0, rl0, T9)) : GMi l dC dI LH ad km ea ev y_Code_secondAt w_Code_secondAt (rmD (d + 1)) [.ref (ad 3), .int p1] T0 r0 T9 := by
  intro sz
  refine Met.ofW (cc := b_Code_secondAt) (maxL := 2) (ret := (some .int)) (by decide) rfl ?_
  intro p e s m args below meth c s₁ B hml hv
  obtain ⟨rfl, hsz, hP, hK, hD0, hnw, henv⟩ := hv
  have hx := B.exec
  have hb := B.bytes
  have hr := B.returns
  have hT : ∀ w ∈ lw_good, w.before _ s = true := fun w h => atoms_spec (ws := w_Code_secondAt) B.pre w (List.mem_cons_of_mem _ h)
  have hown : s.vm.findClass R_Code = some m.cls := findClass_of_methodNamed B.named
  subst hsz
  have hD := hD0.self (sz := s.heap.size)
  clear hD0
  generalize hAe : va_A (gW LH ad km T0) s.heap.size = A at hD henv ⊢
  have hA : ∀ q : Nat, s.heap.size ≤ q → A q := fun q h => by rw [← hAe]; exact Or.inr h
  have hS : va_S A s.heap s.heap [] := va_S.rf
  have hl := lv_entry ([.ref (ad 3), .int p1]) (n := 2) (Nat.le_of_ble_eq_true rfl)
  rw [lg_entry_eq]
  generalize (lg_sl ([.ref (ad 3), .int p1]) ++ List.replicate (2 - (lg_sl ([.ref (ad 3), .int p1])).length) Slot.unset).toArray = ls at hl ⊢
  have hl : lv_has ls 2 [(0, .ref (ad 3)), (1, .int p1)] := hl
  unfold rb_Code_secondAt at hR
  refine lv_aload_n hx hb d_Code_secondAt_0 rfl (lv_at hl 0 rfl) ?_
  refine lv_iload_n hx hb d_Code_secondAt_1 rfl (lv_at hl 1 rfl) ?_
  replace hR := bi_e hR
  obtain ⟨r1, l1, T1, hc1, hR⟩ := hR
  refine gcV_i (rest := []) ⟨hx, hb, hml, hown, hT⟩ (h_Code_has _ _ _ _ _ hc1) (cwV 1 hT (gV ml_Code_40 im_Code_has se_Code_has ini_Code co_Code_has) rfl rfl rfl pd_Code_has ⟨rm_hi, rm_lo (Nat.le_of_ble_eq_true rfl)⟩) hK hP hD hS hA hnw henv (Nat.le_of_ble_eq_true rfl) rfl rfl hl.1 rfl (Nat.le_of_ble_eq_true rfl) d_Code_secondAt_2 ⟨Nat.le_refl _, Nat.le_refl _⟩ (fun H locs hP hD hS => ?_)
  clear hc1
  refine lv_if_eq (tgt := 17) hx hb d_Code_secondAt_5 (by decide) (fun c2 => ?_) (fun c2 => ?_)
  · replace hR := if_p c2 hR
    refine lv_iconst (v := 0) hx hb d_Code_secondAt_17 (by decide) ?_
    obtain ⟨e1, -, e3⟩ := re_e hR
    subst e1; subst e3
    exact W.iret (v := (0 : Int32)) hx hb hr (fun t ht hW => ⟨⟨(0 : Int32), (), rfl, rfl, by rw [ht]; exact hP, va_K.moved hW.alike hK, hD⟩, hS.F ht⟩) hS.2.2 d_Code_secondAt_18
  · replace hR := if_n c2 hR
    refine lv_aload_n hx hb d_Code_secondAt_8 rfl (lv_at hl 0 rfl) ?_
    refine rd_Code_18 hx hb hT hown hK hP d_Code_secondAt_9 ?_
    refine lv_iload_n hx hb d_Code_secondAt_12 rfl (lv_at hl 1 rfl) ?_
    replace hR := gd_e hR
    obtain ⟨b4, hR⟩ := hR
    refine laH_35 hx hb hK hP b4 d_Code_secondAt_13 ?_
    refine lv_goto (tgt := 18) hx hb d_Code_secondAt_14 (by decide) ?_
    obtain ⟨e1, -, e3⟩ := re_e hR
    subst e1; subst e3
    exact W.iret (v := T1.1 50 p1.toNatClampNeg) hx hb hr (fun t ht hW => ⟨⟨T1.1 50 p1.toNatClampNeg, (), rfl, rfl, by rw [ht]; exact hP, va_K.moved hW.alike hK, hD⟩, hS.F ht⟩) hS.2.2 d_Code_secondAt_18
set_option maxHeartbeats 4000000 in
set_option maxRecDepth 100000 in
theorem sp_Parser_parse (l : Launch) (dC : Nat → ClassId) (dI : Nat → Nat → Nat) (ea ev ad : Nat → Nat) (km : Nat → ClassId) (F : gF) (nf d : Nat) (h_Source_kindAt : mt_Source_kindAt l dC dI ea ev ad km F d) (h_Parser_parseHead : mt_Parser_parseHead l dC dI ea ev ad km F d) (h_Parser_parseFields : mt_Parser_parseFields l dC dI ea ev ad km F d) (h_Parser_parseFun : mt_Parser_parseFun l dC dI ea ev ad km F d) (T0 : gSt) (r0 : Int32) (rl0 : Int64) (T9 : gSt) (hR : rb_Parser_parse F nf T0 = some (r0, rl0, T9)) : GMv l dC dI LH ad km ea ev y_Parser_parse w_Parser_parse (rmD (d + 1)) [.ref (ad 4)] T0 T9 := by
  intro sz
  refine Met.ofW (cc := b_Parser_parse) (maxL := 2) (ret := none) (by decide) rfl ?_
  intro p e s m args below meth c s₁ B hml hv
  obtain ⟨rfl, hsz, hP, hK, hD0, hnw, henv⟩ := hv
  have hx := B.exec
  have hb := B.bytes
  have hr := B.returns
  have hT : ∀ w ∈ lw_good, w.before _ s = true := fun w h => atoms_spec (ws := w_Parser_parse) B.pre w (List.mem_cons_of_mem _ h)
  have hown : s.vm.findClass R_Parser = some m.cls := findClass_of_methodNamed B.named
  subst hsz
  have hD := hD0.self (sz := s.heap.size)
  clear hD0
  generalize hAe : va_A (gW LH ad km T0) s.heap.size = A at hD henv ⊢
  have hA : ∀ q : Nat, s.heap.size ≤ q → A q := fun q h => by rw [← hAe]; exact Or.inr h
  have hS : va_S A s.heap s.heap [] := va_S.rf
  have hl := lv_entry ([.ref (ad 4)]) (n := 2) (Nat.le_of_ble_eq_true rfl)
  rw [lg_entry_eq]
  generalize (lg_sl ([.ref (ad 4)]) ++ List.replicate (2 - (lg_sl ([.ref (ad 4)])).length) Slot.unset).toArray = ls at hl ⊢
  have hl : lv_has ls 2 [(0, .ref (ad 4))] := hl
  obtain ⟨G, hG⟩ : ∃ G : Nat → List (Nat × Value) → List Value → gSt → Prop, G = (fun pc lv stk T => ∀ (H : Heap) (locs : List Loc), va_P (dC, dI) cls_all (gW LH ad km T) H → va_D A (gW LH ad km T) → va_S A s.heap H locs → ∀ (ls : Array Slot), lv_has ls 2 lv → W p l e (headSpec w_Parser_parse (rmD (d + 1))).room s m ([.ref (ad 4)] : List Value).toArray below meth c H locs 0 0 (MQ below (va_Qv (fun (_ : Unit) => True) (fun _ t => gPost dC dI LH ad km T9 A t) A) ([.ref (ad 4)] : List Value).toArray s 0 0 A) (F0 m pc ls stk)) := ⟨_, rfl⟩
  have lb_59 : ∀ (rec_35 : gSt → Int32 → gR) (hrec_35 : ∀ (T : gSt) (x1 : Int32), rec_35 T x1 = some (r0, rl0, T9) → G 35 [(0, .ref (ad 4)), (1, .int x1)] [] T) (T : gSt) (x1 : Int32), rj_Parser_parse_59 F nf rec_35 T x1 = some (r0, rl0, T9) → G 59 [(0, .ref (ad 4)), (1, .int x1)] [] T := by
    intro rec_35 hrec_35 T x1 hR; unfold rj_Parser_parse_59 at hR; rw [hG]; intro H locs hP hD hS ls hl
    refine lv_aload_n hx hb d_Parser_parse_59 rfl (lv_at hl 0 rfl) ?_
    refine lv_iload_n hx hb d_Parser_parse_60 rfl (lv_at hl 1 rfl) ?_
    replace hR := bi_e hR
    obtain ⟨r10, l10, T10, hc10, hR⟩ := hR
    refine gcV_v (rest := []) ⟨hx, hb, hml, hown, hT⟩ (h_Parser_parseHead _ _ _ _ _ hc10) (cwV 1 hT (gV ml_Parser_45 im_Parser_parseHead se_Parser_parseHead ini_Parser co_Parser_parseHead) rfl rfl rfl pd_Parser_parseHead ⟨rm_hi, rm_lo (Nat.le_of_ble_eq_true rfl)⟩) hK hP hD hS hA hnw henv (Nat.le_of_ble_eq_true rfl) rfl rfl hl.1 rfl (Nat.le_of_ble_eq_true rfl) d_Parser_parse_61 ⟨Nat.le_refl _, Nat.le_refl _⟩ (fun H locs hP hD hS => ?_)
    clear hc10
    refine lv_aload_n hx hb d_Parser_parse_64 rfl (lv_at hl 0 rfl) ?_
    refine rd_Parser_36 hx hb hT hown hK hP d_Parser_parse_65 ?_
    refine lv_if_ne (tgt := 93) hx hb d_Parser_parse_68 (by decide) (fun c11 => ?_) (fun c11 => ?_)
    · replace hR := if_n c11 hR
      refine lv_aload_n hx hb d_Parser_parse_93 rfl (lv_at hl 0 rfl) ?_
      refine rd_Parser_36 hx hb hT hown hK hP d_Parser_parse_94 ?_
      refine lv_if_ne (tgt := 105) hx hb d_Parser_parse_97 (by decide) (fun c12 => ?_) (fun c12 => ?_)
      · replace hR := if_n c12 hR
        obtain ⟨z13, e13⟩ : ∃ y : Int32, y = x1 + (1 : Int32) := ⟨_, rfl⟩
        replace hR := vK_e e13 hR
        refine lv_iinc (v := z13) (lv' := [(1, .int z13), (0, .ref (ad 4))]) hx hb d_Parser_parse_105 hl (k := 1) rfl (by rw [e13]; rfl) (by decide) rfl (fun ls hl => ?_)
        refine lv_goto (tgt := 35) hx hb d_Parser_parse_108 (by decide) ?_
        have g := hrec_35 T10 z13 hR
        rw [hG] at g
        exact g _ _ hP hD hS _ (lv_sub hl [1, 0] rfl)
      · replace hR := if_p c12 hR
        refine lv_aload_n hx hb d_Parser_parse_100 rfl (lv_at hl 0 rfl) ?_
        refine lv_iload_n hx hb d_Parser_parse_101 rfl (lv_at hl 1 rfl) ?_
        replace hR := bi_e hR
        obtain ⟨r14, l14, T14, hc14, hR⟩ := hR
        refine gcV_v (rest := []) ⟨hx, hb, hml, hown, hT⟩ (h_Parser_parseFields _ _ _ _ _ hc14) (cwV 1 hT (gV ml_Parser_56 im_Parser_parseFields se_Parser_parseFields ini_Parser co_Parser_parseFields) rfl rfl rfl pd_Parser_parseFields ⟨rm_hi, rm_lo (Nat.le_of_ble_eq_true rfl)⟩) hK hP hD hS hA hnw henv (Nat.le_of_ble_eq_true rfl) rfl rfl hl.1 rfl (Nat.le_of_ble_eq_true rfl) d_Parser_parse_102 ⟨Nat.le_refl _, Nat.le_refl _⟩ (fun H locs hP hD hS => ?_)
        clear hc14
        obtain ⟨z15, e15⟩ : ∃ y : Int32, y = x1 + (1 : Int32) := ⟨_, rfl⟩
        replace hR := vK_e e15 hR
        refine lv_iinc (v := z15) (lv' := [(1, .int z15), (0, .ref (ad 4))]) hx hb d_Parser_parse_105 hl (k := 1) rfl (by rw [e15]; rfl) (by decide) rfl (fun ls hl => ?_)
        refine lv_goto (tgt := 35) hx hb d_Parser_parse_108 (by decide) ?_
        have g := hrec_35 T14 z15 hR
        rw [hG] at g
        exact g _ _ hP hD hS _ (lv_sub hl [1, 0] rfl)
    · replace hR := if_p c11 hR
      refine lv_aload_n hx hb d_Parser_parse_71 rfl (lv_at hl 0 rfl) ?_
      refine rd_Parser_15 hx hb hT hown hK hP d_Parser_parse_72 ?_
      refine rd_Parser_49 hx hb hT hown hK hP d_Parser_parse_75 ?_
      refine lv_iload_n hx hb d_Parser_parse_78 rfl (lv_at hl 1 rfl) ?_
      replace hR := gd_e hR
      obtain ⟨b16, hR⟩ := hR
      refine laH_13 hx hb hK hP b16 d_Parser_parse_79 ?_
      refine lv_bipush (v := 12) hx hb d_Parser_parse_80 (by decide) ?_
      refine lv_icmp_ne (tgt := 93) hx hb d_Parser_parse_82 (by decide) (fun c17 => ?_) (fun c17 => ?_)
      · replace hR := if_n c17 hR
        refine lv_aload_n hx hb d_Parser_parse_93 rfl (lv_at hl 0 rfl) ?_
        refine rd_Parser_36 hx hb hT hown hK hP d_Parser_parse_94 ?_
        refine lv_if_ne (tgt := 105) hx hb d_Parser_parse_97 (by decide) (fun c18 => ?_) (fun c18 => ?_)
        · replace hR := if_n c18 hR
          obtain ⟨z19, e19⟩ : ∃ y : Int32, y = x1 + (1 : Int32) := ⟨_, rfl⟩
          replace hR := vK_e e19 hR
          refine lv_iinc (v := z19) (lv' := [(1, .int z19), (0, .ref (ad 4))]) hx hb d_Parser_parse_105 hl (k := 1) rfl (by rw [e19]; rfl) (by decide) rfl (fun ls hl => ?_)
          refine lv_goto (tgt := 35) hx hb d_Parser_parse_108 (by decide) ?_
          have g := hrec_35 T10 z19 hR
          rw [hG] at g
          exact g _ _ hP hD hS _ (lv_sub hl [1, 0] rfl)
        · replace hR := if_p c18 hR
          refine lv_aload_n hx hb d_Parser_parse_100 rfl (lv_at hl 0 rfl) ?_
          refine lv_iload_n hx hb d_Parser_parse_101 rfl (lv_at hl 1 rfl) ?_
          replace hR := bi_e hR
          obtain ⟨r20, l20, T20, hc20, hR⟩ := hR
          refine gcV_v (rest := []) ⟨hx, hb, hml, hown, hT⟩ (h_Parser_parseFields _ _ _ _ _ hc20) (cwV 1 hT (gV ml_Parser_56 im_Parser_parseFields se_Parser_parseFields ini_Parser co_Parser_parseFields) rfl rfl rfl pd_Parser_parseFields ⟨rm_hi, rm_lo (Nat.le_of_ble_eq_true rfl)⟩) hK hP hD hS hA hnw henv (Nat.le_of_ble_eq_true rfl) rfl rfl hl.1 rfl (Nat.le_of_ble_eq_true rfl) d_Parser_parse_102 ⟨Nat.le_refl _, Nat.le_refl _⟩ (fun H locs hP hD hS => ?_)
          clear hc20
          obtain ⟨z21, e21⟩ : ∃ y : Int32, y = x1 + (1 : Int32) := ⟨_, rfl⟩
          replace hR := vK_e e21 hR
          refine lv_iinc (v := z21) (lv' := [(1, .int z21), (0, .ref (ad 4))]) hx hb d_Parser_parse_105 hl (k := 1) rfl (by rw [e21]; rfl) (by decide) rfl (fun ls hl => ?_)
          refine lv_goto (tgt := 35) hx hb d_Parser_parse_108 (by decide) ?_
          have g := hrec_35 T20 z21 hR
          rw [hG] at g
          exact g _ _ hP hD hS _ (lv_sub hl [1, 0] rfl)
      · replace hR := if_p c17 hR
        refine lv_aload_n hx hb d_Parser_parse_85 rfl (lv_at hl 0 rfl) ?_
        refine lv_iload_n hx hb d_Parser_parse_86 rfl (lv_at hl 1 rfl) ?_
        replace hR := bi_e hR
        obtain ⟨r22, l22, T22, hc22, hR⟩ := hR
        refine gcV_v (rest := []) ⟨hx, hb, hml, hown, hT⟩ (h_Parser_parseFun _ _ _ _ _ hc22) (cwV 1 hT (gV ml_Parser_53 im_Parser_parseFun se_Parser_parseFun ini_Parser co_Parser_parseFun) rfl rfl rfl pd_Parser_parseFun ⟨rm_hi, rm_lo (Nat.le_of_ble_eq_true rfl)⟩) hK hP hD hS hA hnw henv (Nat.le_of_ble_eq_true rfl) rfl rfl hl.1 rfl (Nat.le_of_ble_eq_true rfl) d_Parser_parse_87 ⟨Nat.le_refl _, Nat.le_refl _⟩ (fun H locs hP hD hS => ?_)
        clear hc22
        refine lv_goto (tgt := 105) hx hb d_Parser_parse_90 (by decide) ?_
        obtain ⟨z23, e23⟩ : ∃ y : Int32, y = x1 + (1 : Int32) := ⟨_, rfl⟩
        replace hR := vK_e e23 hR
        refine lv_iinc (v := z23) (lv' := [(1, .int z23), (0, .ref (ad 4))]) hx hb d_Parser_parse_105 hl (k := 1) rfl (by rw [e23]; rfl) (by decide) rfl (fun ls hl => ?_)
        refine lv_goto (tgt := 35) hx hb d_Parser_parse_108 (by decide) ?_
        have g := hrec_35 T22 z23 hR
        rw [hG] at g
        exact g _ _ hP hD hS _ (lv_sub hl [1, 0] rfl)
  have lb_35 : ∀ (n : Nat) (T : gSt) (x1 : Int32), rl_Parser_parse_35 F nf n T x1 = some (r0, rl0, T9) → G 35 [(0, .ref (ad 4)), (1, .int x1)] [] T := by
    intro n
    induction n with
    | zero => intro T x1 hR; rw [rl_Parser_parse_35] at hR; cases hR
    | succ n ih =>
      intro T x1 hR; rw [rl_Parser_parse_35] at hR; rw [hG]; intro H locs hP hD hS ls hl
      refine lv_iload_n hx hb d_Parser_parse_35 rfl (lv_at hl 1 rfl) ?_
      refine lv_bipush (v := 24) hx hb d_Parser_parse_36 (by decide) ?_
      refine lv_icmp_gt (tgt := 111) hx hb d_Parser_parse_38 (by decide) (fun c6 => ?_) (fun c6 => ?_)
      · replace hR := if_p c6 hR
        obtain ⟨-, -, e3⟩ := re_e hR
        subst e3
        exact W.vret hx hb hr (fun t ht hW => ⟨⟨(), rfl, trivial, by rw [ht]; exact hP, va_K.moved hW.alike hK, hD⟩, hS.F ht⟩) hS.2.2 d_Parser_parse_111
      · replace hR := if_n c6 hR
        refine lv_aload_n hx hb d_Parser_parse_41 rfl (lv_at hl 0 rfl) ?_
        refine rd_Parser_36 hx hb hT hown hK hP d_Parser_parse_42 ?_
        refine lv_if_ne (tgt := 111) hx hb d_Parser_parse_45 (by decide) (fun c7 => ?_) (fun c7 => ?_)
        · replace hR := if_n c7 hR
          obtain ⟨-, -, e3⟩ := re_e hR
          subst e3
          exact W.vret hx hb hr (fun t ht hW => ⟨⟨(), rfl, trivial, by rw [ht]; exact hP, va_K.moved hW.alike hK, hD⟩, hS.F ht⟩) hS.2.2 d_Parser_parse_111
        · replace hR := if_p c7 hR
          refine lv_iload_n hx hb d_Parser_parse_48 rfl (lv_at hl 1 rfl) ?_
          refine lv_if_eq (tgt := 59) hx hb d_Parser_parse_49 (by decide) (fun c8 => ?_) (fun c8 => ?_)
          · replace hR := if_p c8 hR
            have g := lb_59 (rl_Parser_parse_35 F nf n) ih T x1 hR
            rw [hG] at g
            exact g _ _ hP hD hS _ (lv_sub hl [0, 1] rfl)
          · replace hR := if_n c8 hR
            refine lv_aload_n hx hb d_Parser_parse_52 rfl (lv_at hl 0 rfl) ?_
            refine rd_Parser_33 hx hb hT hown hK hP d_Parser_parse_53 ?_
            refine lv_if_eq (tgt := 111) hx hb d_Parser_parse_56 (by decide) (fun c9 => ?_) (fun c9 => ?_)
            · replace hR := if_p c9 hR
              obtain ⟨-, -, e3⟩ := re_e hR
              subst e3
              exact W.vret hx hb hr (fun t ht hW => ⟨⟨(), rfl, trivial, by rw [ht]; exact hP, va_K.moved hW.alike hK, hD⟩, hS.F ht⟩) hS.2.2 d_Parser_parse_111
            · replace hR := if_n c9 hR
              have g := lb_59 (rl_Parser_parse_35 F nf n) ih T x1 hR
              rw [hG] at g
              exact g _ _ hP hD hS _ (lv_sub hl [0, 1] rfl)
  unfold rb_Parser_parse at hR
  refine lv_aload_n hx hb d_Parser_parse_0 rfl (lv_at hl 0 rfl) ?_
  refine lv_iconst (v := 0) hx hb d_Parser_parse_1 (by decide) ?_
  refine wr_Parser_23 hx hb hT hown hK hP hD hS d_Parser_parse_2 (fun T1 eT H locs hP hD hS => ?_)
  replace hR := stK_e eT hR
  clear eT
  refine lv_aload_n hx hb d_Parser_parse_5 rfl (lv_at hl 0 rfl) ?_
  refine lv_aload_n hx hb d_Parser_parse_6 rfl (lv_at hl 0 rfl) ?_
  refine rd_Parser_9 hx hb hT hown hK hP d_Parser_parse_7 ?_
  refine lv_aload_n hx hb d_Parser_parse_10 rfl (lv_at hl 0 rfl) ?_
  refine rd_Parser_23 hx hb hT hown hK hP d_Parser_parse_11 ?_
  replace hR := bi_e hR
  obtain ⟨r2, l2, T2, hc2, hR⟩ := hR
  refine gcV_i (rest := [.ref (ad 4)]) ⟨hx, hb, hml, hown, hT⟩ (h_Source_kindAt _ _ _ _ _ hc2) (cwV 1 hT (gV ml_Parser_27 im_Source_kindAt se_Source_kindAt ini_Source co_Source_kindAt) rfl rfl rfl pd_Source_kindAt ⟨rm_hi, rm_lo (Nat.le_of_ble_eq_true rfl)⟩) hK hP hD hS hA hnw henv (Nat.le_of_ble_eq_true rfl) rfl rfl hl.1 rfl (Nat.le_of_ble_eq_true rfl) d_Parser_parse_14 ⟨Nat.le_refl _, Nat.le_refl _⟩ (fun H locs hP hD hS => ?_)
  clear hc2
  refine wr_Parser_33 hx hb hT hown hK hP hD hS d_Parser_parse_17 (fun T3 eT H locs hP hD hS => ?_)
  replace hR := stK_e eT hR
  clear eT
  refine lv_aload_n hx hb d_Parser_parse_20 rfl (lv_at hl 0 rfl) ?_
  refine lv_iconst (v := 0) hx hb d_Parser_parse_21 (by decide) ?_
  refine wr_Parser_36 hx hb hT hown hK hP hD hS (by decide) d_Parser_parse_22 (fun T4 eT H locs hP hD hS => ?_)
  replace hR := stK_e eT hR
  clear eT
  refine lv_aload_n hx hb d_Parser_parse_25 rfl (lv_at hl 0 rfl) ?_
  refine rd_Parser_15 hx hb hT hown hK hP d_Parser_parse_26 ?_
  refine lv_iconst (v := 0) hx hb d_Parser_parse_29 (by decide) ?_
  refine wr_Parser_40 hx hb hT hown hK hP hD hS d_Parser_parse_30 (fun T5 eT H locs hP hD hS => ?_)
  replace hR := stK_e eT hR
  clear eT
  refine lv_iconst (v := 0) hx hb d_Parser_parse_33 (by decide) ?_
  refine lv_istore_n (lv' := [(1, .int (0 : Int32)), (0, .ref (ad 4))]) hx hb d_Parser_parse_34 rfl hl (by decide) rfl (fun ls hl => ?_)
  have g := lb_35 nf T5 (0 : Int32) hR
  rw [hG] at g
  exact g _ _ hP hD hS _ (lv_sub hl [1, 0] rfl)
set_option maxHeartbeats 4000000 in
set_option maxRecDepth 100000 in
theorem sp_Parser_advance (l : Launch) (dC : Nat → ClassId) (dI : Nat → Nat → Nat) (ea ev ad : Nat → Nat) (km : Nat → ClassId) (F : gF) (nf d : Nat) (h_Source_kindAt : mt_Source_kindAt l dC dI ea ev ad km F d) (T0 : gSt) (r0 : Int32) (rl0 : Int64) (T9 : gSt) (hR : rb_Parser_advance F nf T0 = some (r0, rl0, T9)) : GMv l dC dI LH ad km ea ev y_Parser_advance w_Parser_advance (rmD (d + 1)) [.ref (ad 4)] T0 T9 := by
  intro sz
  refine Met.ofW (cc := b_Parser_advance) (maxL := 1) (ret := none) (by decide) rfl ?_
  intro p e s m args below meth c s₁ B hml hv
  obtain ⟨rfl, hsz, hP, hK, hD0, hnw, henv⟩ := hv
  have hx := B.exec
  have hb := B.bytes
  have hr := B.returns
  have hT : ∀ w ∈ lw_good, w.before _ s = true := fun w h => atoms_spec (ws := w_Parser_advance) B.pre w (List.mem_cons_of_mem _ h)
  have hown : s.vm.findClass R_Parser = some m.cls := findClass_of_methodNamed B.named
  subst hsz
  have hD := hD0.self (sz := s.heap.size)
  clear hD0
  generalize hAe : va_A (gW LH ad km T0) s.heap.size = A at hD henv ⊢
  have hA : ∀ q : Nat, s.heap.size ≤ q → A q := fun q h => by rw [← hAe]; exact Or.inr h
  have hS : va_S A s.heap s.heap [] := va_S.rf
  have hl := lv_entry ([.ref (ad 4)]) (n := 1) (Nat.le_of_ble_eq_true rfl)
  rw [lg_entry_eq]
  generalize (lg_sl ([.ref (ad 4)]) ++ List.replicate (1 - (lg_sl ([.ref (ad 4)])).length) Slot.unset).toArray = ls at hl ⊢
  have hl : lv_has ls 1 [(0, .ref (ad 4))] := hl
  unfold rb_Parser_advance at hR
  refine lv_aload_n hx hb d_Parser_advance_0 rfl (lv_at hl 0 rfl) ?_
  refine lv_dup hx hb d_Parser_advance_1 rfl ?_
  refine rd_Parser_23 hx hb hT hown hK hP d_Parser_advance_2 ?_
  refine lv_iconst (v := 1) hx hb d_Parser_advance_5 (by decide) ?_
  refine lv_iadd hx hb d_Parser_advance_6 ?_
  refine wr_Parser_23 hx hb hT hown hK hP hD hS d_Parser_advance_7 (fun T1 eT H locs hP hD hS => ?_)
  replace hR := stK_e eT hR
  clear eT
  refine lv_aload_n hx hb d_Parser_advance_10 rfl (lv_at hl 0 rfl) ?_
  refine lv_aload_n hx hb d_Parser_advance_11 rfl (lv_at hl 0 rfl) ?_
  refine rd_Parser_36 hx hb hT hown hK hP d_Parser_advance_12 ?_
  refine lv_if_eq (tgt := 22) hx hb d_Parser_advance_15 (by decide) (fun c2 => ?_) (fun c2 => ?_)
  · replace hR := if_p c2 hR
    refine lv_aload_n hx hb d_Parser_advance_22 rfl (lv_at hl 0 rfl) ?_
    refine rd_Parser_9 hx hb hT hown hK hP d_Parser_advance_23 ?_
    refine lv_aload_n hx hb d_Parser_advance_26 rfl (lv_at hl 0 rfl) ?_
    refine rd_Parser_23 hx hb hT hown hK hP d_Parser_advance_27 ?_
    replace hR := bi_e hR
    obtain ⟨r3, l3, T3, hc3, hR⟩ := hR
    refine gcV_i (rest := [.ref (ad 4)]) ⟨hx, hb, hml, hown, hT⟩ (h_Source_kindAt _ _ _ _ _ hc3) (cwV 1 hT (gV ml_Parser_27 im_Source_kindAt se_Source_kindAt ini_Source co_Source_kindAt) rfl rfl rfl pd_Source_kindAt ⟨rm_hi, rm_lo (Nat.le_of_ble_eq_true rfl)⟩) hK hP hD hS hA hnw henv (Nat.le_of_ble_eq_true rfl) rfl rfl hl.1 rfl (Nat.le_of_ble_eq_true rfl) d_Parser_advance_30 ⟨Nat.le_refl _, Nat.le_refl _⟩ (fun H locs hP hD hS => ?_)
    clear hc3
    refine wr_Parser_33 hx hb hT hown hK hP hD hS d_Parser_advance_33 (fun T4 eT H locs hP hD hS => ?_)
    replace hR := stK_e eT hR
    clear eT
    obtain ⟨-, -, e3⟩ := re_e hR
    subst e3
    exact W.vret hx hb hr (fun t ht hW => ⟨⟨(), rfl, trivial, by rw [ht]; exact hP, va_K.moved hW.alike hK, hD⟩, hS.F ht⟩) hS.2.2 d_Parser_advance_36
  · replace hR := if_n c2 hR
    refine lv_iconst (v := 0) hx hb d_Parser_advance_18 (by decide) ?_
    refine lv_goto (tgt := 33) hx hb d_Parser_advance_19 (by decide) ?_
    refine wr_Parser_33 hx hb hT hown hK hP hD hS d_Parser_advance_33 (fun T5 eT H locs hP hD hS => ?_)
    replace hR := stK_e eT hR
    clear eT
    obtain ⟨-, -, e3⟩ := re_e hR
    subst e3
    exact W.vret hx hb hr (fun t ht hW => ⟨⟨(), rfl, trivial, by rw [ht]; exact hP, va_K.moved hW.alike hK, hD⟩, hS.F ht⟩) hS.2.2 d_Parser_advance_36
set_option maxHeartbeats 4000000 in
set_option maxRecDepth 100000 in
theorem sp_Parser_accept (l : Launch) (dC : Nat → ClassId) (dI : Nat → Nat → Nat) (ea ev ad : Nat → Nat) (km : Nat → ClassId) (F : gF) (nf d : Nat) (h_Parser_advance : mt_Parser_advance l dC dI ea ev ad km F d) (T0 : gSt) (p1 : Int32) (r0 : Int32) (rl0 : Int64) (T9 : gSt) (hR : rb_Parser_accept F nf T0 p1 = some (r0, rl0, T9)) : GMi l dC dI LH ad km ea ev y_Parser_accept w_Parser_accept (rmD (d + 1)) [.ref (ad 4), .int p1] T0 r0 T9 := by
  intro sz
  refine Met.ofW (cc := b_Parser_accept) (maxL := 2) (ret := (some .boolean)) (by decide) rfl ?_
  intro p e s m args below meth c s₁ B hml hv
  obtain ⟨rfl, hsz, hP, hK, hD0, hnw, henv⟩ := hv
  have hx := B.exec
  have hb := B.bytes
  have hr := B.returns
  have hT : ∀ w ∈ lw_good, w.before _ s = true := fun w h => atoms_spec (ws := w_Parser_accept) B.pre w (List.mem_cons_of_mem _ h)
  have hown : s.vm.findClass R_Parser = some m.cls := findClass_of_methodNamed B.named
  subst hsz
  have hD := hD0.self (sz := s.heap.size)
  clear hD0
  generalize hAe : va_A (gW LH ad km T0) s.heap.size = A at hD henv ⊢
  have hA : ∀ q : Nat, s.heap.size ≤ q → A q := fun q h => by rw [← hAe]; exact Or.inr h
  have hS : va_S A s.heap s.heap [] := va_S.rf
  have hl := lv_entry ([.ref (ad 4), .int p1]) (n := 2) (Nat.le_of_ble_eq_true rfl)
  rw [lg_entry_eq]
  generalize (lg_sl ([.ref (ad 4), .int p1]) ++ List.replicate (2 - (lg_sl ([.ref (ad 4), .int p1])).length) Slot.unset).toArray = ls at hl ⊢
  have hl : lv_has ls 2 [(0, .ref (ad 4)), (1, .int p1)] := hl
  unfold rb_Parser_accept at hR
  refine lv_aload_n hx hb d_Parser_accept_0 rfl (lv_at hl 0 rfl) ?_
  refine rd_Parser_33 hx hb hT hown hK hP d_Parser_accept_1 ?_
  refine lv_iload_n hx hb d_Parser_accept_4 rfl (lv_at hl 1 rfl) ?_
  refine lv_icmp_eq (tgt := 10) hx hb d_Parser_accept_5 (by decide) (fun c1 => ?_) (fun c1 => ?_)
  · replace hR := if_p c1 hR
    refine lv_aload_n hx hb d_Parser_accept_10 rfl (lv_at hl 0 rfl) ?_
    replace hR := bi_e hR
    obtain ⟨r2, l2, T2, hc2, hR⟩ := hR
    refine gcV_v (rest := []) ⟨hx, hb, hml, hown, hT⟩ (h_Parser_advance _ _ _ _ hc2) (cwV 0 hT (gV ml_Parser_59 im_Parser_advance se_Parser_advance ini_Parser co_Parser_advance) rfl rfl rfl pd_Parser_advance ⟨rm_hi, rm_lo (Nat.le_of_ble_eq_true rfl)⟩) hK hP hD hS hA hnw henv (Nat.le_of_ble_eq_true rfl) rfl rfl hl.1 rfl (Nat.le_of_ble_eq_true rfl) d_Parser_accept_11 ⟨Nat.le_refl _, Nat.le_refl _⟩ (fun H locs hP hD hS => ?_)
    clear hc2
    refine lv_iconst (v := 1) hx hb d_Parser_accept_14 (by decide) ?_
    obtain ⟨e1, -, e3⟩ := re_e hR
    subst e1; subst e3
    exact W.zret (v := (1 : Int32)) hx hb hr (by first | rfl | decide) (fun t ht hW => ⟨⟨(1 : Int32), (), rfl, rfl, by rw [ht]; exact hP, va_K.moved hW.alike hK, hD⟩, hS.F ht⟩) hS.2.2 d_Parser_accept_15
  · replace hR := if_n c1 hR
    refine lv_iconst (v := 0) hx hb d_Parser_accept_8 (by decide) ?_
    obtain ⟨e1, -, e3⟩ := re_e hR
    subst e1; subst e3
    exact W.zret (v := (0 : Int32)) hx hb hr (by first | rfl | decide) (fun t ht hW => ⟨⟨(0 : Int32), (), rfl, rfl, by rw [ht]; exact hP, va_K.moved hW.alike hK, hD⟩, hS.F ht⟩) hS.2.2 d_Parser_accept_9
set_option maxHeartbeats 4000000 in
set_option maxRecDepth 100000 in
theorem sp_Parser_need (l : Launch) (dC : Nat → ClassId) (dI : Nat → Nat → Nat) (ea ev ad : Nat → Nat) (km : Nat → ClassId) (F : gF) (nf d : Nat) (h_Parser_stop : mt_Parser_stop l dC dI ea ev ad km F d) (h_Parser_advance : mt_Parser_advance l dC dI ea ev ad km F d) (T0 : gSt) (p1 : Int32) (r0 : Int32) (rl0 : Int64) (T9 : gSt) (hR : rb_Parser_need F nf T0 p1 = some (r0, rl0, T9)) : GMv l dC dI LH ad km ea ev y_Parser_need w_Parser_need (rmD (d + 1)) [.ref (ad 4), .int p1] T0 T9 := by
  intro sz
  refine Met.ofW (cc := b_Parser_need) (maxL := 2) (ret := none) (by decide) rfl ?_
  intro p e s m args below meth c s₁ B hml hv
  obtain ⟨rfl, hsz, hP, hK, hD0, hnw, henv⟩ := hv
  have hx := B.exec
  have hb := B.bytes
  have hr := B.returns
  have hT : ∀ w ∈ lw_good, w.before _ s = true := fun w h => atoms_spec (ws := w_Parser_need) B.pre w (List.mem_cons_of_mem _ h)
  have hown : s.vm.findClass R_Parser = some m.cls := findClass_of_methodNamed B.named
  subst hsz
  have hD := hD0.self (sz := s.heap.size)
  clear hD0
  generalize hAe : va_A (gW LH ad km T0) s.heap.size = A at hD henv ⊢
  have hA : ∀ q : Nat, s.heap.size ≤ q → A q := fun q h => by rw [← hAe]; exact Or.inr h
  have hS : va_S A s.heap s.heap [] := va_S.rf
  have hl := lv_entry ([.ref (ad 4), .int p1]) (n := 2) (Nat.le_of_ble_eq_true rfl)
  rw [lg_entry_eq]
  generalize (lg_sl ([.ref (ad 4), .int p1]) ++ List.replicate (2 - (lg_sl ([.ref (ad 4), .int p1])).length) Slot.unset).toArray = ls at hl ⊢
  have hl : lv_has ls 2 [(0, .ref (ad 4)), (1, .int p1)] := hl
  unfold rb_Parser_need at hR
  refine lv_aload_n hx hb d_Parser_need_0 rfl (lv_at hl 0 rfl) ?_
  refine rd_Parser_33 hx hb hT hown hK hP d_Parser_need_1 ?_
  refine lv_iload_n hx hb d_Parser_need_4 rfl (lv_at hl 1 rfl) ?_
  refine lv_icmp_ne (tgt := 15) hx hb d_Parser_need_5 (by decide) (fun c1 => ?_) (fun c1 => ?_)
  · replace hR := if_n c1 hR
    refine lv_aload_n hx hb d_Parser_need_15 rfl (lv_at hl 0 rfl) ?_
    replace hR := bi_e hR
    obtain ⟨r2, l2, T2, hc2, hR⟩ := hR
    refine gcV_v (rest := []) ⟨hx, hb, hml, hown, hT⟩ (h_Parser_stop _ _ _ _ hc2) (cwV 0 hT (gV ml_Parser_62 im_Parser_stop se_Parser_stop ini_Parser co_Parser_stop) rfl rfl rfl pd_Parser_stop ⟨rm_hi, rm_lo (Nat.le_of_ble_eq_true rfl)⟩) hK hP hD hS hA hnw henv (Nat.le_of_ble_eq_true rfl) rfl rfl hl.1 rfl (Nat.le_of_ble_eq_true rfl) d_Parser_need_16 ⟨Nat.le_refl _, Nat.le_refl _⟩ (fun H locs hP hD hS => ?_)
    clear hc2
    obtain ⟨-, -, e3⟩ := re_e hR
    subst e3
    exact W.vret hx hb hr (fun t ht hW => ⟨⟨(), rfl, trivial, by rw [ht]; exact hP, va_K.moved hW.alike hK, hD⟩, hS.F ht⟩) hS.2.2 d_Parser_need_19
  · replace hR := if_p c1 hR
    refine lv_aload_n hx hb d_Parser_need_8 rfl (lv_at hl 0 rfl) ?_
    replace hR := bi_e hR
    obtain ⟨r3, l3, T3, hc3, hR⟩ := hR
    refine gcV_v (rest := []) ⟨hx, hb, hml, hown, hT⟩ (h_Parser_advance _ _ _ _ hc3) (cwV 0 hT (gV ml_Parser_59 im_Parser_advance se_Parser_advance ini_Parser co_Parser_advance) rfl rfl rfl pd_Parser_advance ⟨rm_hi, rm_lo (Nat.le_of_ble_eq_true rfl)⟩) hK hP hD hS hA hnw henv (Nat.le_of_ble_eq_true rfl) rfl rfl hl.1 rfl (Nat.le_of_ble_eq_true rfl) d_Parser_need_9 ⟨Nat.le_refl _, Nat.le_refl _⟩ (fun H locs hP hD hS => ?_)
    clear hc3
    refine lv_goto (tgt := 19) hx hb d_Parser_need_12 (by decide) ?_
    obtain ⟨-, -, e3⟩ := re_e hR
    subst e3
    exact W.vret hx hb hr (fun t ht hW => ⟨⟨(), rfl, trivial, by rw [ht]; exact hP, va_K.moved hW.alike hK, hD⟩, hS.F ht⟩) hS.2.2 d_Parser_need_19
set_option maxHeartbeats 4000000 in
set_option maxRecDepth 100000 in
theorem sp_Parser_stop (l : Launch) (dC : Nat → ClassId) (dI : Nat → Nat → Nat) (ea ev ad : Nat → Nat) (km : Nat → ClassId) (F : gF) (nf d : Nat) (h_Source_startOf : mt_Source_startOf l dC dI ea ev ad km F d) (h_Code_note : mt_Code_note l dC dI ea ev ad km F d) (T0 : gSt) (r0 : Int32) (rl0 : Int64) (T9 : gSt) (hR : rb_Parser_stop F nf T0 = some (r0, rl0, T9)) : GMv l dC dI LH ad km ea ev y_Parser_stop w_Parser_stop (rmD (d + 1)) [.ref (ad 4)] T0 T9 := by
  intro sz
  refine Met.ofW (cc := b_Parser_stop) (maxL := 1) (ret := none) (by decide) rfl ?_
  intro p e s m args below meth c s₁ B hml hv
  obtain ⟨rfl, hsz, hP, hK, hD0, hnw, henv⟩ := hv
  have hx := B.exec
  have hb := B.bytes
  have hr := B.returns
  have hT : ∀ w ∈ lw_good, w.before _ s = true := fun w h => atoms_spec (ws := w_Parser_stop) B.pre w (List.mem_cons_of_mem _ h)
  have hown : s.vm.findClass R_Parser = some m.cls := findClass_of_methodNamed B.named
  subst hsz
  have hD := hD0.self (sz := s.heap.size)
  clear hD0
  generalize hAe : va_A (gW LH ad km T0) s.heap.size = A at hD henv ⊢
  have hA : ∀ q : Nat, s.heap.size ≤ q → A q := fun q h => by rw [← hAe]; exact Or.inr h
  have hS : va_S A s.heap s.heap [] := va_S.rf
  have hl := lv_entry ([.ref (ad 4)]) (n := 1) (Nat.le_of_ble_eq_true rfl)
  rw [lg_entry_eq]
  generalize (lg_sl ([.ref (ad 4)]) ++ List.replicate (1 - (lg_sl ([.ref (ad 4)])).length) Slot.unset).toArray = ls at hl ⊢
  have hl : lv_has ls 1 [(0, .ref (ad 4))] := hl
  unfold rb_Parser_stop at hR
  refine lv_aload_n hx hb d_Parser_stop_0 rfl (lv_at hl 0 rfl) ?_
  refine lv_iconst (v := 1) hx hb d_Parser_stop_1 (by decide) ?_
  refine wr_Parser_36 hx hb hT hown hK hP hD hS (by decide) d_Parser_stop_2 (fun T1 eT H locs hP hD hS => ?_)
  replace hR := stK_e eT hR
  clear eT
  refine lv_aload_n hx hb d_Parser_stop_5 rfl (lv_at hl 0 rfl) ?_
  refine lv_iconst (v := 0) hx hb d_Parser_stop_6 (by decide) ?_
  refine wr_Parser_33 hx hb hT hown hK hP hD hS d_Parser_stop_7 (fun T2 eT H locs hP hD hS => ?_)
  replace hR := stK_e eT hR
  clear eT
  refine lv_aload_n hx hb d_Parser_stop_10 rfl (lv_at hl 0 rfl) ?_
  refine rd_Parser_19 hx hb hT hown hK hP d_Parser_stop_11 ?_
  refine lv_iconst (v := 1) hx hb d_Parser_stop_14 (by decide) ?_
  refine lv_aload_n hx hb d_Parser_stop_15 rfl (lv_at hl 0 rfl) ?_
  refine rd_Parser_9 hx hb hT hown hK hP d_Parser_stop_16 ?_
  refine lv_aload_n hx hb d_Parser_stop_19 rfl (lv_at hl 0 rfl) ?_
  refine rd_Parser_23 hx hb hT hown hK hP d_Parser_stop_20 ?_
  replace hR := bi_e hR
  obtain ⟨r3, l3, T3, hc3, hR⟩ := hR
  refine gcV_i (rest := [.int (1 : Int32), .ref (ad 3)]) ⟨hx, hb, hml, hown, hT⟩ (h_Source_startOf _ _ _ _ _ hc3) (cwV 1 hT (gV ml_Parser_65 im_Source_startOf se_Source_startOf ini_Source co_Source_startOf) rfl rfl rfl pd_Source_startOf ⟨rm_hi, rm_lo (Nat.le_of_ble_eq_true rfl)⟩) hK hP hD hS hA hnw henv (Nat.le_of_ble_eq_true rfl) rfl rfl hl.1 rfl (Nat.le_of_ble_eq_true rfl) d_Parser_stop_23 ⟨Nat.le_refl _, Nat.le_refl _⟩ (fun H locs hP hD hS => ?_)
  clear hc3
  replace hR := bi_e hR
  obtain ⟨r4, l4, T4, hc4, hR⟩ := hR
  refine gcV_v (rest := []) ⟨hx, hb, hml, hown, hT⟩ (h_Code_note _ _ _ _ _ _ hc4) (cwV 2 hT (gV ml_Parser_68 im_Code_note se_Code_note ini_Code co_Code_note) rfl rfl rfl pd_Code_note ⟨rm_hi, rm_lo (Nat.le_of_ble_eq_true rfl)⟩) hK hP hD hS hA hnw henv (Nat.le_of_ble_eq_true rfl) rfl rfl hl.1 rfl (Nat.le_of_ble_eq_true rfl) d_Parser_stop_26 ⟨Nat.le_refl _, Nat.le_refl _⟩ (fun H locs hP hD hS => ?_)
  clear hc4
  obtain ⟨-, -, e3⟩ := re_e hR
  subst e3
  exact W.vret hx hb hr (fun t ht hW => ⟨⟨(), rfl, trivial, by rw [ht]; exact hP, va_K.moved hW.alike hK, hD⟩, hS.F ht⟩) hS.2.2 d_Parser_stop_29
set_option maxHeartbeats 4000000 in
set_option maxRecDepth 100000 in
theorem sp_Parser_parseHead (l : Launch) (dC : Nat → ClassId) (dI : Nat → Nat → Nat) (ea ev ad : Nat → Nat) (km : Nat → ClassId) (F : gF) (nf d : Nat) (h_Parser_stop : mt_Parser_stop l dC dI ea ev ad km F d) (h_Parser_advance : mt_Parser_advance l dC dI ea ev ad km F d) (h_Source_nameAt : mt_Source_nameAt l dC dI ea ev ad km F d) (h_Parser_need : mt_Parser_need l dC dI ea ev ad km F d) (h_Parser_parseRegions : mt_Parser_parseRegions l dC dI ea ev ad km F d) (T0 : gSt) (p1 : Int32) (r0 : Int32) (rl0 : Int64) (T9 : gSt) (hR : rb_Parser_parseHead F nf T0 p1 = some (r0, rl0, T9)) : GMv l dC dI LH ad km ea ev y_Parser_parseHead w_Parser_parseHead (rmD (d + 1)) [.ref (ad 4), .int p1] T0 T9 := by
  intro sz
  refine Met.ofW (cc := b_Parser_parseHead) (maxL := 3) (ret := none) (by decide) rfl ?_
  intro p e s m args below meth c s₁ B hml hv
  obtain ⟨rfl, hsz, hP, hK, hD0, hnw, henv⟩ := hv
  have hx := B.exec
  have hb := B.bytes
  have hr := B.returns
  have hT : ∀ w ∈ lw_good, w.before _ s = true := fun w h => atoms_spec (ws := w_Parser_parseHead) B.pre w (List.mem_cons_of_mem _ h)
  have hown : s.vm.findClass R_Parser = some m.cls := findClass_of_methodNamed B.named
  subst hsz
  have hD := hD0.self (sz := s.heap.size)
  clear hD0
  generalize hAe : va_A (gW LH ad km T0) s.heap.size = A at hD henv ⊢
  have hA : ∀ q : Nat, s.heap.size ≤ q → A q := fun q h => by rw [← hAe]; exact Or.inr h
  have hS : va_S A s.heap s.heap [] := va_S.rf
  have hl := lv_entry ([.ref (ad 4), .int p1]) (n := 3) (Nat.le_of_ble_eq_true rfl)
  rw [lg_entry_eq]
  generalize (lg_sl ([.ref (ad 4), .int p1]) ++ List.replicate (3 - (lg_sl ([.ref (ad 4), .int p1])).length) Slot.unset).toArray = ls at hl ⊢
  have hl : lv_has ls 3 [(0, .ref (ad 4)), (1, .int p1)] := hl
  obtain ⟨G, hG⟩ : ∃ G : Nat → List (Nat × Value) → List Value → gSt → Prop, G = (fun pc lv stk T => ∀ (H : Heap) (locs : List Loc), va_P (dC, dI) cls_all (gW LH ad km T) H → va_D A (gW LH ad km T) → va_S A s.heap H locs → ∀ (ls : Array Slot), lv_has ls 3 lv → W p l e (headSpec w_Parser_parseHead (rmD (d + 1))).room s m ([.ref (ad 4), .int p1] : List Value).toArray below meth c H locs 0 0 (MQ below (va_Qv (fun (_ : Unit) => True) (fun _ t => gPost dC dI LH ad km T9 A t) A) ([.ref (ad 4), .int p1] : List Value).toArray s 0 0 A) (F0 m pc ls stk)) := ⟨_, rfl⟩
  have lb_108 : ∀ (T : gSt) (x1 : Int32) (y0 : Int32), rj_Parser_parseHead_108 F nf T x1 y0 = some (r0, rl0, T9) → G 108 [(0, .ref (ad 4)), (1, .int x1)] [.int y0, .ref (ad 4)] T := by
    intro T x1 y0 hR; unfold rj_Parser_parseHead_108 at hR; rw [hG]; intro H locs hP hD hS ls hl
    replace hR := bi_e hR
    obtain ⟨r14, l14, T14, hc14, hR⟩ := hR
    refine gcV_v (rest := []) ⟨hx, hb, hml, hown, hT⟩ (h_Parser_need _ _ _ _ _ hc14) (cwV 1 hT (gV ml_Parser_85 im_Parser_need se_Parser_need ini_Parser co_Parser_need) rfl rfl rfl pd_Parser_need ⟨rm_hi, rm_lo (Nat.le_of_ble_eq_true rfl)⟩) hK hP hD hS hA hnw henv (Nat.le_of_ble_eq_true rfl) rfl rfl hl.1 rfl (Nat.le_of_ble_eq_true rfl) d_Parser_parseHead_108 ⟨Nat.le_refl _, Nat.le_refl _⟩ (fun H locs hP hD hS => ?_)
    clear hc14
    refine lv_aload_n hx hb d_Parser_parseHead_111 rfl (lv_at hl 0 rfl) ?_
    refine rd_Parser_15 hx hb hT hown hK hP d_Parser_parseHead_112 ?_
    refine rd_Parser_88 hx hb hT hown hK hP d_Parser_parseHead_115 ?_
    refine lv_iload_n hx hb d_Parser_parseHead_118 rfl (lv_at hl 1 rfl) ?_
    refine lv_aload_n hx hb d_Parser_parseHead_119 rfl (lv_at hl 0 rfl) ?_
    refine lv_iconst (v := 3) hx hb d_Parser_parseHead_120 (by decide) ?_
    replace hR := bi_e hR
    obtain ⟨r15, l15, T15, hc15, hR⟩ := hR
    refine gcV_i (rest := [.int x1, .ref (ad 28)]) ⟨hx, hb, hml, hown, hT⟩ (h_Parser_parseRegions _ _ _ _ _ hc15) (cwV 1 hT (gV ml_Parser_91 im_Parser_parseRegions se_Parser_parseRegions ini_Parser co_Parser_parseRegions) rfl rfl rfl pd_Parser_parseRegions ⟨rm_hi, rm_lo (Nat.le_of_ble_eq_true rfl)⟩) hK hP hD hS hA hnw henv (Nat.le_of_ble_eq_true rfl) rfl rfl hl.1 rfl (Nat.le_of_ble_eq_true rfl) d_Parser_parseHead_121 ⟨Nat.le_refl _, Nat.le_refl _⟩ (fun H locs hP hD hS => ?_)
    clear hc15
    replace hR := gd_e hR
    obtain ⟨b16, hR⟩ := hR
    refine saH_16 hx hb hK hP hD hS b16 d_Parser_parseHead_124 (fun T16 eT H locs hP hD hS => ?_)
    replace hR := stK_e eT hR
    clear eT
    refine lv_aload_n hx hb d_Parser_parseHead_125 rfl (lv_at hl 0 rfl) ?_
    refine rd_Parser_15 hx hb hT hown hK hP d_Parser_parseHead_126 ?_
    refine rd_Parser_94 hx hb hT hown hK hP d_Parser_parseHead_129 ?_
    refine lv_iload_n hx hb d_Parser_parseHead_132 rfl (lv_at hl 1 rfl) ?_
    refine lv_iconst (v := 0) hx hb d_Parser_parseHead_133 (by decide) ?_
    replace hR := gd_e hR
    obtain ⟨b17, hR⟩ := hR
    refine saH_17 hx hb hK hP hD hS b17 d_Parser_parseHead_134 (fun T17 eT H locs hP hD hS => ?_)
    replace hR := stK_e eT hR
    clear eT
    refine lv_aload_n hx hb d_Parser_parseHead_135 rfl (lv_at hl 0 rfl) ?_
    refine rd_Parser_15 hx hb hT hown hK hP d_Parser_parseHead_136 ?_
    refine rd_Parser_97 hx hb hT hown hK hP d_Parser_parseHead_139 ?_
    refine lv_iload_n hx hb d_Parser_parseHead_142 rfl (lv_at hl 1 rfl) ?_
    refine lv_iconst (v := 0) hx hb d_Parser_parseHead_143 (by decide) ?_
    replace hR := gd_e hR
    obtain ⟨b18, hR⟩ := hR
    refine saH_18 hx hb hK hP hD hS b18 d_Parser_parseHead_144 (fun T18 eT H locs hP hD hS => ?_)
    replace hR := stK_e eT hR
    clear eT
    refine lv_aload_n hx hb d_Parser_parseHead_145 rfl (lv_at hl 0 rfl) ?_
    refine rd_Parser_15 hx hb hT hown hK hP d_Parser_parseHead_146 ?_
    refine rd_Parser_100 hx hb hT hown hK hP d_Parser_parseHead_149 ?_
    refine lv_iload_n hx hb d_Parser_parseHead_152 rfl (lv_at hl 1 rfl) ?_
    refine lv_iconst (v := 0) hx hb d_Parser_parseHead_153 (by decide) ?_
    replace hR := gd_e hR
    obtain ⟨b19, hR⟩ := hR
    refine saH_19 hx hb hK hP hD hS b19 d_Parser_parseHead_154 (fun T19 eT H locs hP hD hS => ?_)
    replace hR := stK_e eT hR
    clear eT
    refine lv_aload_n hx hb d_Parser_parseHead_155 rfl (lv_at hl 0 rfl) ?_
    refine rd_Parser_15 hx hb hT hown hK hP d_Parser_parseHead_156 ?_
    refine rd_Parser_103 hx hb hT hown hK hP d_Parser_parseHead_159 ?_
    refine lv_iload_n hx hb d_Parser_parseHead_162 rfl (lv_at hl 1 rfl) ?_
    refine lv_iconst (v := 0) hx hb d_Parser_parseHead_163 (by decide) ?_
    replace hR := gd_e hR
    obtain ⟨b20, hR⟩ := hR
    refine saH_20 hx hb hK hP hD hS b20 d_Parser_parseHead_164 (fun T20 eT H locs hP hD hS => ?_)
    replace hR := stK_e eT hR
    clear eT
    refine lv_aload_n hx hb d_Parser_parseHead_165 rfl (lv_at hl 0 rfl) ?_
    refine rd_Parser_15 hx hb hT hown hK hP d_Parser_parseHead_166 ?_
    refine lv_iload_n hx hb d_Parser_parseHead_169 rfl (lv_at hl 1 rfl) ?_
    refine lv_iconst (v := 1) hx hb d_Parser_parseHead_170 (by decide) ?_
    refine lv_iadd hx hb d_Parser_parseHead_171 ?_
    refine wr_Parser_40 hx hb hT hown hK hP hD hS d_Parser_parseHead_172 (fun T21 eT H locs hP hD hS => ?_)
    replace hR := stK_e eT hR
    clear eT
    obtain ⟨-, -, e3⟩ := re_e hR
    subst e3
    exact W.vret hx hb hr (fun t ht hW => ⟨⟨(), rfl, trivial, by rw [ht]; exact hP, va_K.moved hW.alike hK, hD⟩, hS.F ht⟩) hS.2.2 d_Parser_parseHead_175
  have lb_48 : ∀ (T : gSt) (x1 : Int32) (x2 : Int32), rj_Parser_parseHead_48 F nf T x1 x2 = some (r0, rl0, T9) → G 48 [(0, .ref (ad 4)), (1, .int x1), (2, .int x2)] [] T := by
    intro T x1 x2 hR; unfold rj_Parser_parseHead_48 at hR; rw [hG]; intro H locs hP hD hS ls hl
    refine lv_aload_n hx hb d_Parser_parseHead_48 rfl (lv_at hl 0 rfl) ?_
    refine rd_Parser_15 hx hb hT hown hK hP d_Parser_parseHead_49 ?_
    refine rd_Parser_49 hx hb hT hown hK hP d_Parser_parseHead_52 ?_
    refine lv_iload_n hx hb d_Parser_parseHead_55 rfl (lv_at hl 1 rfl) ?_
    refine lv_aload_n hx hb d_Parser_parseHead_56 rfl (lv_at hl 0 rfl) ?_
    refine rd_Parser_33 hx hb hT hown hK hP d_Parser_parseHead_57 ?_
    replace hR := gd_e hR
    obtain ⟨b8, hR⟩ := hR
    refine saH_13 hx hb hK hP hD hS b8 d_Parser_parseHead_60 (fun T8 eT H locs hP hD hS => ?_)
    replace hR := stK_e eT hR
    clear eT
    refine lv_aload_n hx hb d_Parser_parseHead_61 rfl (lv_at hl 0 rfl) ?_
    replace hR := bi_e hR
    obtain ⟨r9, l9, T9, hc9, hR⟩ := hR
    refine gcV_v (rest := []) ⟨hx, hb, hml, hown, hT⟩ (h_Parser_advance _ _ _ _ hc9) (cwV 0 hT (gV ml_Parser_59 im_Parser_advance se_Parser_advance ini_Parser co_Parser_advance) rfl rfl rfl pd_Parser_advance ⟨rm_hi, rm_lo (Nat.le_of_ble_eq_true rfl)⟩) hK hP hD hS hA hnw henv (Nat.le_of_ble_eq_true rfl) rfl rfl hl.1 rfl (Nat.le_of_ble_eq_true rfl) d_Parser_parseHead_62 ⟨Nat.le_refl _, Nat.le_refl _⟩ (fun H locs hP hD hS => ?_)
    clear hc9
    refine lv_aload_n hx hb d_Parser_parseHead_65 rfl (lv_at hl 0 rfl) ?_
    refine rd_Parser_15 hx hb hT hown hK hP d_Parser_parseHead_66 ?_
    refine rd_Parser_74 hx hb hT hown hK hP d_Parser_parseHead_69 ?_
    refine lv_iload_n hx hb d_Parser_parseHead_72 rfl (lv_at hl 1 rfl) ?_
    refine lv_aload_n hx hb d_Parser_parseHead_73 rfl (lv_at hl 0 rfl) ?_
    refine rd_Parser_23 hx hb hT hown hK hP d_Parser_parseHead_74 ?_
    replace hR := gd_e hR
    obtain ⟨b10, hR⟩ := hR
    refine saH_14 hx hb hK hP hD hS b10 d_Parser_parseHead_77 (fun T10 eT H locs hP hD hS => ?_)
    replace hR := stK_e eT hR
    clear eT
    refine lv_aload_n hx hb d_Parser_parseHead_78 rfl (lv_at hl 0 rfl) ?_
    refine rd_Parser_15 hx hb hT hown hK hP d_Parser_parseHead_79 ?_
    refine rd_Parser_77 hx hb hT hown hK hP d_Parser_parseHead_82 ?_
    refine lv_iload_n hx hb d_Parser_parseHead_85 rfl (lv_at hl 1 rfl) ?_
    refine lv_aload_n hx hb d_Parser_parseHead_86 rfl (lv_at hl 0 rfl) ?_
    refine rd_Parser_9 hx hb hT hown hK hP d_Parser_parseHead_87 ?_
    refine lv_aload_n hx hb d_Parser_parseHead_90 rfl (lv_at hl 0 rfl) ?_
    refine rd_Parser_23 hx hb hT hown hK hP d_Parser_parseHead_91 ?_
    replace hR := bi_e hR
    obtain ⟨r11, l11, T11, hc11, hR⟩ := hR
    refine gcV_l (rest := [.int x1, .ref (ad 27)]) ⟨hx, hb, hml, hown, hT⟩ (h_Source_nameAt _ _ _ _ _ hc11) (cwV 1 hT (gV ml_Parser_81 im_Source_nameAt se_Source_nameAt ini_Source co_Source_nameAt) rfl rfl rfl pd_Source_nameAt ⟨rm_hi, rm_lo (Nat.le_of_ble_eq_true rfl)⟩) hK hP hD hS hA hnw henv (Nat.le_of_ble_eq_true rfl) rfl rfl hl.1 rfl (Nat.le_of_ble_eq_true rfl) d_Parser_parseHead_94 ⟨Nat.le_refl _, Nat.le_refl _⟩ (fun H locs hP hD hS => ?_)
    clear hc11
    replace hR := gd_e hR
    obtain ⟨b12, hR⟩ := hR
    refine saH_15 hx hb hK hP hD hS b12 d_Parser_parseHead_97 (fun T12 eT H locs hP hD hS => ?_)
    replace hR := stK_e eT hR
    clear eT
    refine lv_aload_n hx hb d_Parser_parseHead_98 rfl (lv_at hl 0 rfl) ?_
    refine lv_iload_n hx hb d_Parser_parseHead_99 rfl (lv_at hl 2 rfl) ?_
    refine lv_if_eq (tgt := 107) hx hb d_Parser_parseHead_100 (by decide) (fun c13 => ?_) (fun c13 => ?_)
    · replace hR := if_p c13 hR
      refine lv_iconst (v := 3) hx hb d_Parser_parseHead_107 (by decide) ?_
      have g := lb_108 T12 x1 (3 : Int32) hR
      rw [hG] at g
      exact g _ _ hP hD hS _ (lv_sub hl [0, 1] rfl)
    · replace hR := if_n c13 hR
      refine lv_iconst (v := 2) hx hb d_Parser_parseHead_103 (by decide) ?_
      refine lv_goto (tgt := 108) hx hb d_Parser_parseHead_104 (by decide) ?_
      have g := lb_108 T12 x1 (2 : Int32) hR
      rw [hG] at g
      exact g _ _ hP hD hS _ (lv_sub hl [0, 1] rfl)
  have lb_14 : ∀ (T : gSt) (x1 : Int32) (y0 : Int32), rj_Parser_parseHead_14 F nf T x1 y0 = some (r0, rl0, T9) → G 14 [(0, .ref (ad 4)), (1, .int x1)] [.int y0] T := by
    intro T x1 y0 hR; unfold rj_Parser_parseHead_14 at hR; rw [hG]; intro H locs hP hD hS ls hl
    refine lv_istore_n (lv' := [(2, .int y0), (0, .ref (ad 4)), (1, .int x1)]) hx hb d_Parser_parseHead_14 rfl hl (by decide) rfl (fun ls hl => ?_)
    refine lv_iload_n hx hb d_Parser_parseHead_15 rfl (lv_at hl 2 rfl) ?_
    refine lv_bipush (v := 24) hx hb d_Parser_parseHead_16 (by decide) ?_
    refine lv_icmp_ge (tgt := 43) hx hb d_Parser_parseHead_18 (by decide) (fun c2 => ?_) (fun c2 => ?_)
    · replace hR := if_p c2 hR
      refine lv_aload_n hx hb d_Parser_parseHead_43 rfl (lv_at hl 1 rfl) ?_
      replace hR := bi_e hR
      obtain ⟨r3, l3, T3, hc3, hR⟩ := hR
      refine gcV_v (rest := []) ⟨hx, hb, hml, hown, hT⟩ (h_Parser_stop _ _ _ _ hc3) (cwV 0 hT (gV ml_Parser_62 im_Parser_stop se_Parser_stop ini_Parser co_Parser_stop) rfl rfl rfl pd_Parser_stop ⟨rm_hi, rm_lo (Nat.le_of_ble_eq_true rfl)⟩) hK hP hD hS hA hnw henv (Nat.le_of_ble_eq_true rfl) rfl rfl hl.1 rfl (Nat.le_of_ble_eq_true rfl) d_Parser_parseHead_44 ⟨Nat.le_refl _, Nat.le_refl _⟩ (fun H locs hP hD hS => ?_)
      clear hc3
      obtain ⟨-, -, e3⟩ := re_e hR
      subst e3
      exact W.vret hx hb hr (fun t ht hW => ⟨⟨(), rfl, trivial, by rw [ht]; exact hP, va_K.moved hW.alike hK, hD⟩, hS.F ht⟩) hS.2.2 d_Parser_parseHead_47
    · replace hR := if_n c2 hR
      refine lv_iload_n hx hb d_Parser_parseHead_21 rfl (lv_at hl 0 rfl) ?_
      refine lv_if_ne (tgt := 48) hx hb d_Parser_parseHead_22 (by decide) (fun c4 => ?_) (fun c4 => ?_)
      · replace hR := if_n c4 hR
        have g := lb_48 T x1 y0 hR
        rw [hG] at g
        exact g _ _ hP hD hS _ (lv_sub hl [1, 2, 0] rfl)
      · replace hR := if_p c4 hR
        refine lv_aload_n hx hb d_Parser_parseHead_25 rfl (lv_at hl 1 rfl) ?_
        refine rd_Parser_33 hx hb hT hown hK hP d_Parser_parseHead_26 ?_
        refine lv_bipush (v := 10) hx hb d_Parser_parseHead_29 (by decide) ?_
        refine lv_icmp_eq (tgt := 48) hx hb d_Parser_parseHead_31 (by decide) (fun c5 => ?_) (fun c5 => ?_)
        · replace hR := if_p c5 hR
          have g := lb_48 T x1 y0 hR
          rw [hG] at g
          exact g _ _ hP hD hS _ (lv_sub hl [1, 2, 0] rfl)
        · replace hR := if_n c5 hR
          refine lv_aload_n hx hb d_Parser_parseHead_34 rfl (lv_at hl 1 rfl) ?_
          refine rd_Parser_33 hx hb hT hown hK hP d_Parser_parseHead_35 ?_
          refine lv_bipush (v := 11) hx hb d_Parser_parseHead_38 (by decide) ?_
          refine lv_icmp_eq (tgt := 48) hx hb d_Parser_parseHead_40 (by decide) (fun c6 => ?_) (fun c6 => ?_)
          · replace hR := if_p c6 hR
            have g := lb_48 T x1 y0 hR
            rw [hG] at g
            exact g _ _ hP hD hS _ (lv_sub hl [1, 2, 0] rfl)
          · replace hR := if_n c6 hR
            refine lv_aload_n hx hb d_Parser_parseHead_43 rfl (lv_at hl 1 rfl) ?_
            replace hR := bi_e hR
            obtain ⟨r7, l7, T7, hc7, hR⟩ := hR
            refine gcV_v (rest := []) ⟨hx, hb, hml, hown, hT⟩ (h_Parser_stop _ _ _ _ hc7) (cwV 0 hT (gV ml_Parser_62 im_Parser_stop se_Parser_stop ini_Parser co_Parser_stop) rfl rfl rfl pd_Parser_stop ⟨rm_hi, rm_lo (Nat.le_of_ble_eq_true rfl)⟩) hK hP hD hS hA hnw henv (Nat.le_of_ble_eq_true rfl) rfl rfl hl.1 rfl (Nat.le_of_ble_eq_true rfl) d_Parser_parseHead_44 ⟨Nat.le_refl _, Nat.le_refl _⟩ (fun H locs hP hD hS => ?_)
            clear hc7
            obtain ⟨-, -, e3⟩ := re_e hR
            subst e3
            exact W.vret hx hb hr (fun t ht hW => ⟨⟨(), rfl, trivial, by rw [ht]; exact hP, va_K.moved hW.alike hK, hD⟩, hS.F ht⟩) hS.2.2 d_Parser_parseHead_47
  unfold rb_Parser_parseHead at hR
  refine lv_aload_n hx hb d_Parser_parseHead_0 rfl (lv_at hl 0 rfl) ?_
  refine rd_Parser_33 hx hb hT hown hK hP d_Parser_parseHead_1 ?_
  refine lv_bipush (v := 12) hx hb d_Parser_parseHead_4 (by decide) ?_
  refine lv_icmp_ne (tgt := 13) hx hb d_Parser_parseHead_6 (by decide) (fun c1 => ?_) (fun c1 => ?_)
  · replace hR := if_n c1 hR
    refine lv_iconst (v := 0) hx hb d_Parser_parseHead_13 (by decide) ?_
    have g := lb_14 T0 p1 (0 : Int32) hR
    rw [hG] at g
    exact g _ _ hP hD hS _ (lv_sub hl [0, 1] rfl)
  · replace hR := if_p c1 hR
    refine lv_iconst (v := 1) hx hb d_Parser_parseHead_9 (by decide) ?_
    refine lv_goto (tgt := 14) hx hb d_Parser_parseHead_10 (by decide) ?_
    have g := lb_14 T0 p1 (1 : Int32) hR
    rw [hG] at g
    exact g _ _ hP hD hS _ (lv_sub hl [0, 1] rfl)
set_option maxHeartbeats 4000000 in
set_option maxRecDepth 100000 in
theorem sp_Parser_parseRegions (l : Launch) (dC : Nat → ClassId) (dI : Nat → Nat → Nat) (ea ev ad : Nat → Nat) (km : Nat → ClassId) (F : gF) (nf d : Nat) (h_Parser_advance : mt_Parser_advance l dC dI ea ev ad km F d) (T0 : gSt) (p1 : Int32) (r0 : Int32) (rl0 : Int64) (T9 : gSt) (hR : rb_Parser_parseRegions F nf T0 p1 = some (r0, rl0, T9)) : GMi l dC dI LH ad km ea ev y_Parser_parseRegions w_Parser_parseRegions (rmD (d + 1)) [.ref (ad 4), .int p1] T0 r0 T9 := by
  intro sz
  refine Met.ofW (cc := b_Parser_parseRegions) (maxL := 3) (ret := (some .int)) (by decide) rfl ?_
  intro p e s m args below meth c s₁ B hml hv
  obtain ⟨rfl, hsz, hP, hK, hD0, hnw, henv⟩ := hv
  have hx := B.exec
  have hb := B.bytes
  have hr := B.returns
  have hT : ∀ w ∈ lw_good, w.before _ s = true := fun w h => atoms_spec (ws := w_Parser_parseRegions) B.pre w (List.mem_cons_of_mem _ h)
  have hown : s.vm.findClass R_Parser = some m.cls := findClass_of_methodNamed B.named
  subst hsz
  have hD := hD0.self (sz := s.heap.size)
  clear hD0
  generalize hAe : va_A (gW LH ad km T0) s.heap.size = A at hD henv ⊢
  have hA : ∀ q : Nat, s.heap.size ≤ q → A q := fun q h => by rw [← hAe]; exact Or.inr h
  have hS : va_S A s.heap s.heap [] := va_S.rf
  have hl := lv_entry ([.ref (ad 4), .int p1]) (n := 3) (Nat.le_of_ble_eq_true rfl)
  rw [lg_entry_eq]
  generalize (lg_sl ([.ref (ad 4), .int p1]) ++ List.replicate (3 - (lg_sl ([.ref (ad 4), .int p1])).length) Slot.unset).toArray = ls at hl ⊢
  have hl : lv_has ls 3 [(0, .ref (ad 4)), (1, .int p1)] := hl
  obtain ⟨G, hG⟩ : ∃ G : Nat → List (Nat × Value) → List Value → gSt → Prop, G = (fun pc lv stk T => ∀ (H : Heap) (locs : List Loc), va_P (dC, dI) cls_all (gW LH ad km T) H → va_D A (gW LH ad km T) → va_S A s.heap H locs → ∀ (ls : Array Slot), lv_has ls 3 lv → W p l e (headSpec w_Parser_parseRegions (rmD (d + 1))).room s m ([.ref (ad 4), .int p1] : List Value).toArray below meth c H locs 0 0 (MQ below (va_Qi (fun (z : Int32) (_ : Unit) => z = r0) (fun _ t => gPost dC dI LH ad km T9 A t) A) ([.ref (ad 4), .int p1] : List Value).toArray s 0 0 A) (F0 m pc ls stk)) := ⟨_, rfl⟩
  have lb_2 : ∀ (n : Nat) (T : gSt) (x1 : Int32) (x2 : Int32), rl_Parser_parseRegions_2 F nf n T x1 x2 = some (r0, rl0, T9) → G 2 [(0, .ref (ad 4)), (1, .int x1), (2, .int x2)] [] T := by
    intro n
    induction n with
    | zero => intro T x1 x2 hR; rw [rl_Parser_parseRegions_2] at hR; cases hR
    | succ n ih =>
      intro T x1 x2 hR; rw [rl_Parser_parseRegions_2] at hR; rw [hG]; intro H locs hP hD hS ls hl
      refine lv_iload_n hx hb d_Parser_parseRegions_2 rfl (lv_at hl 2 rfl) ?_
      refine lv_iload_n hx hb d_Parser_parseRegions_3 rfl (lv_at hl 1 rfl) ?_
      refine lv_icmp_ge (tgt := 25) hx hb d_Parser_parseRegions_4 (by decide) (fun c1 => ?_) (fun c1 => ?_)
      · replace hR := if_p c1 hR
        refine lv_iload_n hx hb d_Parser_parseRegions_25 rfl (lv_at hl 2 rfl) ?_
        obtain ⟨e1, -, e3⟩ := re_e hR
        subst e1; subst e3
        exact W.iret (v := x2) hx hb hr (fun t ht hW => ⟨⟨x2, (), rfl, rfl, by rw [ht]; exact hP, va_K.moved hW.alike hK, hD⟩, hS.F ht⟩) hS.2.2 d_Parser_parseRegions_26
      · replace hR := if_n c1 hR
        refine lv_aload_n hx hb d_Parser_parseRegions_7 rfl (lv_at hl 0 rfl) ?_
        refine rd_Parser_33 hx hb hT hown hK hP d_Parser_parseRegions_8 ?_
        refine lv_iconst (v := 4) hx hb d_Parser_parseRegions_11 (by decide) ?_
        refine lv_icmp_ne (tgt := 25) hx hb d_Parser_parseRegions_12 (by decide) (fun c3 => ?_) (fun c3 => ?_)
        · replace hR := if_n c3 hR
          refine lv_iload_n hx hb d_Parser_parseRegions_25 rfl (lv_at hl 2 rfl) ?_
          obtain ⟨e1, -, e3⟩ := re_e hR
          subst e1; subst e3
          exact W.iret (v := x2) hx hb hr (fun t ht hW => ⟨⟨x2, (), rfl, rfl, by rw [ht]; exact hP, va_K.moved hW.alike hK, hD⟩, hS.F ht⟩) hS.2.2 d_Parser_parseRegions_26
        · replace hR := if_p c3 hR
          refine lv_aload_n hx hb d_Parser_parseRegions_15 rfl (lv_at hl 0 rfl) ?_
          replace hR := bi_e hR
          obtain ⟨r5, l5, T5, hc5, hR⟩ := hR
          refine gcV_v (rest := []) ⟨hx, hb, hml, hown, hT⟩ (h_Parser_advance _ _ _ _ hc5) (cwV 0 hT (gV ml_Parser_59 im_Parser_advance se_Parser_advance ini_Parser co_Parser_advance) rfl rfl rfl pd_Parser_advance ⟨rm_hi, rm_lo (Nat.le_of_ble_eq_true rfl)⟩) hK hP hD hS hA hnw henv (Nat.le_of_ble_eq_true rfl) rfl rfl hl.1 rfl (Nat.le_of_ble_eq_true rfl) d_Parser_parseRegions_16 ⟨Nat.le_refl _, Nat.le_refl _⟩ (fun H locs hP hD hS => ?_)
          clear hc5
          obtain ⟨z6, e6⟩ : ∃ y : Int32, y = x2 + (1 : Int32) := ⟨_, rfl⟩
          replace hR := vK_e e6 hR
          refine lv_iinc (v := z6) (lv' := [(2, .int z6), (0, .ref (ad 4)), (1, .int x1)]) hx hb d_Parser_parseRegions_19 hl (k := 2) rfl (by rw [e6]; rfl) (by decide) rfl (fun ls hl => ?_)
          refine lv_goto (tgt := 2) hx hb d_Parser_parseRegions_22 (by decide) ?_
          have g := ih T5 x1 z6 hR
          rw [hG] at g
          exact g _ _ hP hD hS _ (lv_sub hl [1, 2, 0] rfl)
  unfold rb_Parser_parseRegions at hR
  refine lv_iconst (v := 0) hx hb d_Parser_parseRegions_0 (by decide) ?_
  refine lv_istore_n (lv' := [(2, .int (0 : Int32)), (0, .ref (ad 4)), (1, .int p1)]) hx hb d_Parser_parseRegions_1 rfl hl (by decide) rfl (fun ls hl => ?_)
  have g := lb_2 nf T0 p1 (0 : Int32) hR
  rw [hG] at g
  exact g _ _ hP hD hS _ (lv_sub hl [1, 2, 0] rfl)
set_option maxHeartbeats 4000000 in
set_option maxRecDepth 100000 in
theorem sp_Parser_parseFields (l : Launch) (dC : Nat → ClassId) (dI : Nat → Nat → Nat) (ea ev ad : Nat → Nat) (km : Nat → ClassId) (F : gF) (nf d : Nat) (h_Parser_need : mt_Parser_need l dC dI ea ev ad km F d) (h_Parser_parsePart : mt_Parser_parsePart l dC dI ea ev ad km F d) (h_Parser_stop : mt_Parser_stop l dC dI ea ev ad km F d) (T0 : gSt) (p1 : Int32) (r0 : Int32) (rl0 : Int64) (T9 : gSt) (hR : rb_Parser_parseFields F nf T0 p1 = some (r0, rl0, T9)) : GMv l dC dI LH ad km ea ev y_Parser_parseFields w_Parser_parseFields (rmD (d + 1)) [.ref (ad 4), .int p1] T0 T9 := by
  intro sz
  refine Met.ofW (cc := b_Parser_parseFields) (maxL := 3) (ret := none) (by decide) rfl ?_
  intro p e s m args below meth c s₁ B hml hv
  obtain ⟨rfl, hsz, hP, hK, hD0, hnw, henv⟩ := hv
  have hx := B.exec
  have hb := B.bytes
  have hr := B.returns
  have hT : ∀ w ∈ lw_good, w.before _ s = true := fun w h => atoms_spec (ws := w_Parser_parseFields) B.pre w (List.mem_cons_of_mem _ h)
  have hown : s.vm.findClass R_Parser = some m.cls := findClass_of_methodNamed B.named
  subst hsz
  have hD := hD0.self (sz := s.heap.size)
  clear hD0
  generalize hAe : va_A (gW LH ad km T0) s.heap.size = A at hD henv ⊢
  have hA : ∀ q : Nat, s.heap.size ≤ q → A q := fun q h => by rw [← hAe]; exact Or.inr h
  have hS : va_S A s.heap s.heap [] := va_S.rf
  have hl := lv_entry ([.ref (ad 4), .int p1]) (n := 3) (Nat.le_of_ble_eq_true rfl)
  rw [lg_entry_eq]
  generalize (lg_sl ([.ref (ad 4), .int p1]) ++ List.replicate (3 - (lg_sl ([.ref (ad 4), .int p1])).length) Slot.unset).toArray = ls at hl ⊢
  have hl : lv_has ls 3 [(0, .ref (ad 4)), (1, .int p1)] := hl
  obtain ⟨G, hG⟩ : ∃ G : Nat → List (Nat × Value) → List Value → gSt → Prop, G = (fun pc lv stk T => ∀ (H : Heap) (locs : List Loc), va_P (dC, dI) cls_all (gW LH ad km T) H → va_D A (gW LH ad km T) → va_S A s.heap H locs → ∀ (ls : Array Slot), lv_has ls 3 lv → W p l e (headSpec w_Parser_parseFields (rmD (d + 1))).room s m ([.ref (ad 4), .int p1] : List Value).toArray below meth c H locs 0 0 (MQ below (va_Qv (fun (_ : Unit) => True) (fun _ t => gPost dC dI LH ad km T9 A t) A) ([.ref (ad 4), .int p1] : List Value).toArray s 0 0 A) (F0 m pc ls stk)) := ⟨_, rfl⟩
  have lb_34 : ∀ (rec_8 : gSt → Int32 → Int32 → gR) (hrec_8 : ∀ (T : gSt) (x1 : Int32) (x2 : Int32), rec_8 T x1 x2 = some (r0, rl0, T9) → G 8 [(0, .ref (ad 4)), (1, .int x1), (2, .int x2)] [] T) (T : gSt) (x1 : Int32) (x2 : Int32), rj_Parser_parseFields_34 F nf rec_8 T x1 x2 = some (r0, rl0, T9) → G 34 [(0, .ref (ad 4)), (1, .int x1), (2, .int x2)] [] T := by
    intro rec_8 hrec_8 T x1 x2 hR; unfold rj_Parser_parseFields_34 at hR; rw [hG]; intro H locs hP hD hS ls hl
    refine lv_iload_n hx hb d_Parser_parseFields_34 rfl (lv_at hl 2 rfl) ?_
    refine lv_bipush (v := 8) hx hb d_Parser_parseFields_35 (by decide) ?_
    refine lv_icmp_ne (tgt := 44) hx hb d_Parser_parseFields_37 (by decide) (fun c12 => ?_) (fun c12 => ?_)
    · replace hR := if_n c12 hR
      refine lv_aload_n hx hb d_Parser_parseFields_44 rfl (lv_at hl 0 rfl) ?_
      refine lv_iload_n hx hb d_Parser_parseFields_45 rfl (lv_at hl 1 rfl) ?_
      replace hR := bi_e hR
      obtain ⟨r13, l13, T13, hc13, hR⟩ := hR
      refine gcV_v (rest := []) ⟨hx, hb, hml, hown, hT⟩ (h_Parser_parsePart _ _ _ _ _ hc13) (cwV 1 hT (gV ml_Parser_106 im_Parser_parsePart se_Parser_parsePart ini_Parser co_Parser_parsePart) rfl rfl rfl pd_Parser_parsePart ⟨rm_hi, rm_lo (Nat.le_of_ble_eq_true rfl)⟩) hK hP hD hS hA hnw henv (Nat.le_of_ble_eq_true rfl) rfl rfl hl.1 rfl (Nat.le_of_ble_eq_true rfl) d_Parser_parseFields_46 ⟨Nat.le_refl _, Nat.le_refl _⟩ (fun H locs hP hD hS => ?_)
      clear hc13
      refine lv_aload_n hx hb d_Parser_parseFields_49 rfl (lv_at hl 0 rfl) ?_
      refine lv_bipush (v := 46) hx hb d_Parser_parseFields_50 (by decide) ?_
      replace hR := bi_e hR
      obtain ⟨r14, l14, T14, hc14, hR⟩ := hR
      refine gcV_v (rest := []) ⟨hx, hb, hml, hown, hT⟩ (h_Parser_need _ _ _ _ _ hc14) (cwV 1 hT (gV ml_Parser_85 im_Parser_need se_Parser_need ini_Parser co_Parser_need) rfl rfl rfl pd_Parser_need ⟨rm_hi, rm_lo (Nat.le_of_ble_eq_true rfl)⟩) hK hP hD hS hA hnw henv (Nat.le_of_ble_eq_true rfl) rfl rfl hl.1 rfl (Nat.le_of_ble_eq_true rfl) d_Parser_parseFields_52 ⟨Nat.le_refl _, Nat.le_refl _⟩ (fun H locs hP hD hS => ?_)
      clear hc14
      obtain ⟨z15, e15⟩ : ∃ y : Int32, y = x2 + (1 : Int32) := ⟨_, rfl⟩
      replace hR := vK_e e15 hR
      refine lv_iinc (v := z15) (lv' := [(2, .int z15), (0, .ref (ad 4)), (1, .int x1)]) hx hb d_Parser_parseFields_55 hl (k := 2) rfl (by rw [e15]; rfl) (by decide) rfl (fun ls hl => ?_)
      refine lv_goto (tgt := 8) hx hb d_Parser_parseFields_58 (by decide) ?_
      have g := hrec_8 T14 x1 z15 hR
      rw [hG] at g
      exact g _ _ hP hD hS _ (lv_sub hl [1, 2, 0] rfl)
    · replace hR := if_p c12 hR
      refine lv_aload_n hx hb d_Parser_parseFields_40 rfl (lv_at hl 0 rfl) ?_
      replace hR := bi_e hR
      obtain ⟨r16, l16, T16, hc16, hR⟩ := hR
      refine gcV_v (rest := []) ⟨hx, hb, hml, hown, hT⟩ (h_Parser_stop _ _ _ _ hc16) (cwV 0 hT (gV ml_Parser_62 im_Parser_stop se_Parser_stop ini_Parser co_Parser_stop) rfl rfl rfl pd_Parser_stop ⟨rm_hi, rm_lo (Nat.le_of_ble_eq_true rfl)⟩) hK hP hD hS hA hnw henv (Nat.le_of_ble_eq_true rfl) rfl rfl hl.1 rfl (Nat.le_of_ble_eq_true rfl) d_Parser_parseFields_41 ⟨Nat.le_refl _, Nat.le_refl _⟩ (fun H locs hP hD hS => ?_)
      clear hc16
      refine lv_aload_n hx hb d_Parser_parseFields_44 rfl (lv_at hl 0 rfl) ?_
      refine lv_iload_n hx hb d_Parser_parseFields_45 rfl (lv_at hl 1 rfl) ?_
      replace hR := bi_e hR
      obtain ⟨r17, l17, T17, hc17, hR⟩ := hR
      refine gcV_v (rest := []) ⟨hx, hb, hml, hown, hT⟩ (h_Parser_parsePart _ _ _ _ _ hc17) (cwV 1 hT (gV ml_Parser_106 im_Parser_parsePart se_Parser_parsePart ini_Parser co_Parser_parsePart) rfl rfl rfl pd_Parser_parsePart ⟨rm_hi, rm_lo (Nat.le_of_ble_eq_true rfl)⟩) hK hP hD hS hA hnw henv (Nat.le_of_ble_eq_true rfl) rfl rfl hl.1 rfl (Nat.le_of_ble_eq_true rfl) d_Parser_parseFields_46 ⟨Nat.le_refl _, Nat.le_refl _⟩ (fun H locs hP hD hS => ?_)
      clear hc17
      refine lv_aload_n hx hb d_Parser_parseFields_49 rfl (lv_at hl 0 rfl) ?_
      refine lv_bipush (v := 46) hx hb d_Parser_parseFields_50 (by decide) ?_
      replace hR := bi_e hR
      obtain ⟨r18, l18, T18, hc18, hR⟩ := hR
      refine gcV_v (rest := []) ⟨hx, hb, hml, hown, hT⟩ (h_Parser_need _ _ _ _ _ hc18) (cwV 1 hT (gV ml_Parser_85 im_Parser_need se_Parser_need ini_Parser co_Parser_need) rfl rfl rfl pd_Parser_need ⟨rm_hi, rm_lo (Nat.le_of_ble_eq_true rfl)⟩) hK hP hD hS hA hnw henv (Nat.le_of_ble_eq_true rfl) rfl rfl hl.1 rfl (Nat.le_of_ble_eq_true rfl) d_Parser_parseFields_52 ⟨Nat.le_refl _, Nat.le_refl _⟩ (fun H locs hP hD hS => ?_)
      clear hc18
      obtain ⟨z19, e19⟩ : ∃ y : Int32, y = x2 + (1 : Int32) := ⟨_, rfl⟩
      replace hR := vK_e e19 hR
      refine lv_iinc (v := z19) (lv' := [(2, .int z19), (0, .ref (ad 4)), (1, .int x1)]) hx hb d_Parser_parseFields_55 hl (k := 2) rfl (by rw [e19]; rfl) (by decide) rfl (fun ls hl => ?_)
      refine lv_goto (tgt := 8) hx hb d_Parser_parseFields_58 (by decide) ?_
      have g := hrec_8 T18 x1 z19 hR
      rw [hG] at g
      exact g _ _ hP hD hS _ (lv_sub hl [1, 2, 0] rfl)
  have lb_8 : ∀ (n : Nat) (T : gSt) (x1 : Int32) (x2 : Int32), rl_Parser_parseFields_8 F nf n T x1 x2 = some (r0, rl0, T9) → G 8 [(0, .ref (ad 4)), (1, .int x1), (2, .int x2)] [] T := by
    intro n
    induction n with
    | zero => intro T x1 x2 hR; rw [rl_Parser_parseFields_8] at hR; cases hR
    | succ n ih =>
      intro T x1 x2 hR; rw [rl_Parser_parseFields_8] at hR; rw [hG]; intro H locs hP hD hS ls hl
      refine lv_iload_n hx hb d_Parser_parseFields_8 rfl (lv_at hl 2 rfl) ?_
      refine lv_bipush (v := 8) hx hb d_Parser_parseFields_9 (by decide) ?_
      refine lv_icmp_gt (tgt := 61) hx hb d_Parser_parseFields_11 (by decide) (fun c2 => ?_) (fun c2 => ?_)
      · replace hR := if_p c2 hR
        refine lv_aload_n hx hb d_Parser_parseFields_61 rfl (lv_at hl 0 rfl) ?_
        refine lv_bipush (v := 41) hx hb d_Parser_parseFields_62 (by decide) ?_
        replace hR := bi_e hR
        obtain ⟨r3, l3, T3, hc3, hR⟩ := hR
        refine gcV_v (rest := []) ⟨hx, hb, hml, hown, hT⟩ (h_Parser_need _ _ _ _ _ hc3) (cwV 1 hT (gV ml_Parser_85 im_Parser_need se_Parser_need ini_Parser co_Parser_need) rfl rfl rfl pd_Parser_need ⟨rm_hi, rm_lo (Nat.le_of_ble_eq_true rfl)⟩) hK hP hD hS hA hnw henv (Nat.le_of_ble_eq_true rfl) rfl rfl hl.1 rfl (Nat.le_of_ble_eq_true rfl) d_Parser_parseFields_64 ⟨Nat.le_refl _, Nat.le_refl _⟩ (fun H locs hP hD hS => ?_)
        clear hc3
        refine lv_aload_n hx hb d_Parser_parseFields_67 rfl (lv_at hl 0 rfl) ?_
        refine lv_bipush (v := 46) hx hb d_Parser_parseFields_68 (by decide) ?_
        replace hR := bi_e hR
        obtain ⟨r4, l4, T4, hc4, hR⟩ := hR
        refine gcV_v (rest := []) ⟨hx, hb, hml, hown, hT⟩ (h_Parser_need _ _ _ _ _ hc4) (cwV 1 hT (gV ml_Parser_85 im_Parser_need se_Parser_need ini_Parser co_Parser_need) rfl rfl rfl pd_Parser_need ⟨rm_hi, rm_lo (Nat.le_of_ble_eq_true rfl)⟩) hK hP hD hS hA hnw henv (Nat.le_of_ble_eq_true rfl) rfl rfl hl.1 rfl (Nat.le_of_ble_eq_true rfl) d_Parser_parseFields_70 ⟨Nat.le_refl _, Nat.le_refl _⟩ (fun H locs hP hD hS => ?_)
        clear hc4
        obtain ⟨-, -, e3⟩ := re_e hR
        subst e3
        exact W.vret hx hb hr (fun t ht hW => ⟨⟨(), rfl, trivial, by rw [ht]; exact hP, va_K.moved hW.alike hK, hD⟩, hS.F ht⟩) hS.2.2 d_Parser_parseFields_73
      · replace hR := if_n c2 hR
        refine lv_aload_n hx hb d_Parser_parseFields_14 rfl (lv_at hl 0 rfl) ?_
        refine rd_Parser_36 hx hb hT hown hK hP d_Parser_parseFields_15 ?_
        refine lv_if_ne (tgt := 61) hx hb d_Parser_parseFields_18 (by decide) (fun c5 => ?_) (fun c5 => ?_)
        · replace hR := if_n c5 hR
          refine lv_aload_n hx hb d_Parser_parseFields_61 rfl (lv_at hl 0 rfl) ?_
          refine lv_bipush (v := 41) hx hb d_Parser_parseFields_62 (by decide) ?_
          replace hR := bi_e hR
          obtain ⟨r6, l6, T6, hc6, hR⟩ := hR
          refine gcV_v (rest := []) ⟨hx, hb, hml, hown, hT⟩ (h_Parser_need _ _ _ _ _ hc6) (cwV 1 hT (gV ml_Parser_85 im_Parser_need se_Parser_need ini_Parser co_Parser_need) rfl rfl rfl pd_Parser_need ⟨rm_hi, rm_lo (Nat.le_of_ble_eq_true rfl)⟩) hK hP hD hS hA hnw henv (Nat.le_of_ble_eq_true rfl) rfl rfl hl.1 rfl (Nat.le_of_ble_eq_true rfl) d_Parser_parseFields_64 ⟨Nat.le_refl _, Nat.le_refl _⟩ (fun H locs hP hD hS => ?_)
          clear hc6
          refine lv_aload_n hx hb d_Parser_parseFields_67 rfl (lv_at hl 0 rfl) ?_
          refine lv_bipush (v := 46) hx hb d_Parser_parseFields_68 (by decide) ?_
          replace hR := bi_e hR
          obtain ⟨r7, l7, T7, hc7, hR⟩ := hR
          refine gcV_v (rest := []) ⟨hx, hb, hml, hown, hT⟩ (h_Parser_need _ _ _ _ _ hc7) (cwV 1 hT (gV ml_Parser_85 im_Parser_need se_Parser_need ini_Parser co_Parser_need) rfl rfl rfl pd_Parser_need ⟨rm_hi, rm_lo (Nat.le_of_ble_eq_true rfl)⟩) hK hP hD hS hA hnw henv (Nat.le_of_ble_eq_true rfl) rfl rfl hl.1 rfl (Nat.le_of_ble_eq_true rfl) d_Parser_parseFields_70 ⟨Nat.le_refl _, Nat.le_refl _⟩ (fun H locs hP hD hS => ?_)
          clear hc7
          obtain ⟨-, -, e3⟩ := re_e hR
          subst e3
          exact W.vret hx hb hr (fun t ht hW => ⟨⟨(), rfl, trivial, by rw [ht]; exact hP, va_K.moved hW.alike hK, hD⟩, hS.F ht⟩) hS.2.2 d_Parser_parseFields_73
        · replace hR := if_p c5 hR
          refine lv_iload_n hx hb d_Parser_parseFields_21 rfl (lv_at hl 2 rfl) ?_
          refine lv_if_eq (tgt := 34) hx hb d_Parser_parseFields_22 (by decide) (fun c8 => ?_) (fun c8 => ?_)
          · replace hR := if_p c8 hR
            have g := lb_34 (rl_Parser_parseFields_8 F nf n) ih T x1 x2 hR
            rw [hG] at g
            exact g _ _ hP hD hS _ (lv_sub hl [0, 1, 2] rfl)
          · replace hR := if_n c8 hR
            refine lv_aload_n hx hb d_Parser_parseFields_25 rfl (lv_at hl 0 rfl) ?_
            refine rd_Parser_33 hx hb hT hown hK hP d_Parser_parseFields_26 ?_
            refine lv_bipush (v := 41) hx hb d_Parser_parseFields_29 (by decide) ?_
            refine lv_icmp_eq (tgt := 61) hx hb d_Parser_parseFields_31 (by decide) (fun c9 => ?_) (fun c9 => ?_)
            · replace hR := if_p c9 hR
              refine lv_aload_n hx hb d_Parser_parseFields_61 rfl (lv_at hl 0 rfl) ?_
              refine lv_bipush (v := 41) hx hb d_Parser_parseFields_62 (by decide) ?_
              replace hR := bi_e hR
              obtain ⟨r10, l10, T10, hc10, hR⟩ := hR
              refine gcV_v (rest := []) ⟨hx, hb, hml, hown, hT⟩ (h_Parser_need _ _ _ _ _ hc10) (cwV 1 hT (gV ml_Parser_85 im_Parser_need se_Parser_need ini_Parser co_Parser_need) rfl rfl rfl pd_Parser_need ⟨rm_hi, rm_lo (Nat.le_of_ble_eq_true rfl)⟩) hK hP hD hS hA hnw henv (Nat.le_of_ble_eq_true rfl) rfl rfl hl.1 rfl (Nat.le_of_ble_eq_true rfl) d_Parser_parseFields_64 ⟨Nat.le_refl _, Nat.le_refl _⟩ (fun H locs hP hD hS => ?_)
              clear hc10
              refine lv_aload_n hx hb d_Parser_parseFields_67 rfl (lv_at hl 0 rfl) ?_
              refine lv_bipush (v := 46) hx hb d_Parser_parseFields_68 (by decide) ?_
              replace hR := bi_e hR
              obtain ⟨r11, l11, T11, hc11, hR⟩ := hR
              refine gcV_v (rest := []) ⟨hx, hb, hml, hown, hT⟩ (h_Parser_need _ _ _ _ _ hc11) (cwV 1 hT (gV ml_Parser_85 im_Parser_need se_Parser_need ini_Parser co_Parser_need) rfl rfl rfl pd_Parser_need ⟨rm_hi, rm_lo (Nat.le_of_ble_eq_true rfl)⟩) hK hP hD hS hA hnw henv (Nat.le_of_ble_eq_true rfl) rfl rfl hl.1 rfl (Nat.le_of_ble_eq_true rfl) d_Parser_parseFields_70 ⟨Nat.le_refl _, Nat.le_refl _⟩ (fun H locs hP hD hS => ?_)
              clear hc11
              obtain ⟨-, -, e3⟩ := re_e hR
              subst e3
              exact W.vret hx hb hr (fun t ht hW => ⟨⟨(), rfl, trivial, by rw [ht]; exact hP, va_K.moved hW.alike hK, hD⟩, hS.F ht⟩) hS.2.2 d_Parser_parseFields_73
            · replace hR := if_n c9 hR
              have g := lb_34 (rl_Parser_parseFields_8 F nf n) ih T x1 x2 hR
              rw [hG] at g
              exact g _ _ hP hD hS _ (lv_sub hl [0, 1, 2] rfl)
  unfold rb_Parser_parseFields at hR
  refine lv_aload_n hx hb d_Parser_parseFields_0 rfl (lv_at hl 0 rfl) ?_
  refine lv_bipush (v := 40) hx hb d_Parser_parseFields_1 (by decide) ?_
  replace hR := bi_e hR
  obtain ⟨r1, l1, T1, hc1, hR⟩ := hR
  refine gcV_v (rest := []) ⟨hx, hb, hml, hown, hT⟩ (h_Parser_need _ _ _ _ _ hc1) (cwV 1 hT (gV ml_Parser_85 im_Parser_need se_Parser_need ini_Parser co_Parser_need) rfl rfl rfl pd_Parser_need ⟨rm_hi, rm_lo (Nat.le_of_ble_eq_true rfl)⟩) hK hP hD hS hA hnw henv (Nat.le_of_ble_eq_true rfl) rfl rfl hl.1 rfl (Nat.le_of_ble_eq_true rfl) d_Parser_parseFields_3 ⟨Nat.le_refl _, Nat.le_refl _⟩ (fun H locs hP hD hS => ?_)
  clear hc1
  refine lv_iconst (v := 0) hx hb d_Parser_parseFields_6 (by decide) ?_
  refine lv_istore_n (lv' := [(2, .int (0 : Int32)), (0, .ref (ad 4)), (1, .int p1)]) hx hb d_Parser_parseFields_7 rfl hl (by decide) rfl (fun ls hl => ?_)
  have g := lb_8 nf T1 p1 (0 : Int32) hR
  rw [hG] at g
  exact g _ _ hP hD hS _ (lv_sub hl [1, 2, 0] rfl)
set_option maxHeartbeats 4000000 in
set_option maxRecDepth 100000 in
theorem sp_Parser_parsePart (l : Launch) (dC : Nat → ClassId) (dI : Nat → Nat → Nat) (ea ev ad : Nat → Nat) (km : Nat → ClassId) (F : gF) (nf d : Nat) (h_Items_addPart : mt_Items_addPart l dC dI ea ev ad km F d) (h_Parser_need : mt_Parser_need l dC dI ea ev ad km F d) (h_Parser_parseType : mt_Parser_parseType l dC dI ea ev ad km F d) (T0 : gSt) (p1 : Int32) (r0 : Int32) (rl0 : Int64) (T9 : gSt) (hR : rb_Parser_parsePart F nf T0 p1 = some (r0, rl0, T9)) : GMv l dC dI LH ad km ea ev y_Parser_parsePart w_Parser_parsePart (rmD (d + 1)) [.ref (ad 4), .int p1] T0 T9 := by
  intro sz
  refine Met.ofW (cc := b_Parser_parsePart) (maxL := 2) (ret := none) (by decide) rfl ?_
  intro p e s m args below meth c s₁ B hml hv
  obtain ⟨rfl, hsz, hP, hK, hD0, hnw, henv⟩ := hv
  have hx := B.exec
  have hb := B.bytes
  have hr := B.returns
  have hT : ∀ w ∈ lw_good, w.before _ s = true := fun w h => atoms_spec (ws := w_Parser_parsePart) B.pre w (List.mem_cons_of_mem _ h)
  have hown : s.vm.findClass R_Parser = some m.cls := findClass_of_methodNamed B.named
  subst hsz
  have hD := hD0.self (sz := s.heap.size)
  clear hD0
  generalize hAe : va_A (gW LH ad km T0) s.heap.size = A at hD henv ⊢
  have hA : ∀ q : Nat, s.heap.size ≤ q → A q := fun q h => by rw [← hAe]; exact Or.inr h
  have hS : va_S A s.heap s.heap [] := va_S.rf
  have hl := lv_entry ([.ref (ad 4), .int p1]) (n := 2) (Nat.le_of_ble_eq_true rfl)
  rw [lg_entry_eq]
  generalize (lg_sl ([.ref (ad 4), .int p1]) ++ List.replicate (2 - (lg_sl ([.ref (ad 4), .int p1])).length) Slot.unset).toArray = ls at hl ⊢
  have hl : lv_has ls 2 [(0, .ref (ad 4)), (1, .int p1)] := hl
  unfold rb_Parser_parsePart at hR
  refine lv_aload_n hx hb d_Parser_parsePart_0 rfl (lv_at hl 0 rfl) ?_
  refine rd_Parser_15 hx hb hT hown hK hP d_Parser_parsePart_1 ?_
  refine lv_iload_n hx hb d_Parser_parsePart_4 rfl (lv_at hl 1 rfl) ?_
  refine lv_aload_n hx hb d_Parser_parsePart_5 rfl (lv_at hl 0 rfl) ?_
  refine rd_Parser_23 hx hb hT hown hK hP d_Parser_parsePart_6 ?_
  replace hR := bi_e hR
  obtain ⟨r1, l1, T1, hc1, hR⟩ := hR
  refine gcV_v (rest := []) ⟨hx, hb, hml, hown, hT⟩ (h_Items_addPart _ _ _ _ _ _ hc1) (cwV 2 hT (gV ml_Parser_109 im_Items_addPart se_Items_addPart ini_Items co_Items_addPart) rfl rfl rfl pd_Items_addPart ⟨rm_hi, rm_lo (Nat.le_of_ble_eq_true rfl)⟩) hK hP hD hS hA hnw henv (Nat.le_of_ble_eq_true rfl) rfl rfl hl.1 rfl (Nat.le_of_ble_eq_true rfl) d_Parser_parsePart_9 ⟨Nat.le_refl _, Nat.le_refl _⟩ (fun H locs hP hD hS => ?_)
  clear hc1
  refine lv_aload_n hx hb d_Parser_parsePart_12 rfl (lv_at hl 0 rfl) ?_
  refine lv_iconst (v := 2) hx hb d_Parser_parsePart_13 (by decide) ?_
  replace hR := bi_e hR
  obtain ⟨r2, l2, T2, hc2, hR⟩ := hR
  refine gcV_v (rest := []) ⟨hx, hb, hml, hown, hT⟩ (h_Parser_need _ _ _ _ _ hc2) (cwV 1 hT (gV ml_Parser_85 im_Parser_need se_Parser_need ini_Parser co_Parser_need) rfl rfl rfl pd_Parser_need ⟨rm_hi, rm_lo (Nat.le_of_ble_eq_true rfl)⟩) hK hP hD hS hA hnw henv (Nat.le_of_ble_eq_true rfl) rfl rfl hl.1 rfl (Nat.le_of_ble_eq_true rfl) d_Parser_parsePart_14 ⟨Nat.le_refl _, Nat.le_refl _⟩ (fun H locs hP hD hS => ?_)
  clear hc2
  refine lv_aload_n hx hb d_Parser_parsePart_17 rfl (lv_at hl 0 rfl) ?_
  refine lv_bipush (v := 48) hx hb d_Parser_parsePart_18 (by decide) ?_
  replace hR := bi_e hR
  obtain ⟨r3, l3, T3, hc3, hR⟩ := hR
  refine gcV_v (rest := []) ⟨hx, hb, hml, hown, hT⟩ (h_Parser_need _ _ _ _ _ hc3) (cwV 1 hT (gV ml_Parser_85 im_Parser_need se_Parser_need ini_Parser co_Parser_need) rfl rfl rfl pd_Parser_need ⟨rm_hi, rm_lo (Nat.le_of_ble_eq_true rfl)⟩) hK hP hD hS hA hnw henv (Nat.le_of_ble_eq_true rfl) rfl rfl hl.1 rfl (Nat.le_of_ble_eq_true rfl) d_Parser_parsePart_20 ⟨Nat.le_refl _, Nat.le_refl _⟩ (fun H locs hP hD hS => ?_)
  clear hc3
  refine lv_aload_n hx hb d_Parser_parsePart_23 rfl (lv_at hl 0 rfl) ?_
  refine lv_iconst (v := 1) hx hb d_Parser_parsePart_24 (by decide) ?_
  refine lv_iconst (v := 0) hx hb d_Parser_parsePart_25 (by decide) ?_
  replace hR := bi_e hR
  obtain ⟨r4, l4, T4, hc4, hR⟩ := hR
  refine gcV_v (rest := []) ⟨hx, hb, hml, hown, hT⟩ (h_Parser_parseType _ _ _ _ _ _ hc4) (cwV 2 hT (gV ml_Parser_112 im_Parser_parseType se_Parser_parseType ini_Parser co_Parser_parseType) rfl rfl rfl pd_Parser_parseType ⟨rm_hi, rm_lo (Nat.le_of_ble_eq_true rfl)⟩) hK hP hD hS hA hnw henv (Nat.le_of_ble_eq_true rfl) rfl rfl hl.1 rfl (Nat.le_of_ble_eq_true rfl) d_Parser_parsePart_26 ⟨Nat.le_refl _, Nat.le_refl _⟩ (fun H locs hP hD hS => ?_)
  clear hc4
  obtain ⟨-, -, e3⟩ := re_e hR
  subst e3
  exact W.vret hx hb hr (fun t ht hW => ⟨⟨(), rfl, trivial, by rw [ht]; exact hP, va_K.moved hW.alike hK, hD⟩, hS.F ht⟩) hS.2.2 d_Parser_parsePart_29
