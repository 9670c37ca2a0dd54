abbrev b_Pre_checkFromToIndex : ByteArray := prog_23_method_12_code
abbrev y_Pre_checkFromToIndex : MethodName := ⟨R_Pre, "checkFromToIndex", "(IIILjava/util/function/BiFunction;)I"⟩
theorem co_Pre_checkFromToIndex : Cond.code y_Pre_checkFromToIndex b_Pre_checkFromToIndex 4 (some .int) ∈ lw_good := lg_in (tin_1 _ (List.mem_of_getElem? (i := 95) rfl)) rfl
abbrev w_Pre_checkFromToIndex : List Cond := Cond.code y_Pre_checkFromToIndex b_Pre_checkFromToIndex 4 (some .int) :: lw_good
theorem st_Pre_checkFromToIndex : Cond.static y_Pre_checkFromToIndex ∈ lw_good := lg_right (i := 94) (by decide +kernel) rfl
theorem d_Pre_checkFromToIndex_0 : decode b_Pre_checkFromToIndex 0 = .ok (.iload_n 0, 1) := by decide +kernel
theorem d_Pre_checkFromToIndex_1 : decode b_Pre_checkFromToIndex 1 = .ok (.ifCond .lt 13, 3) := by decide +kernel
theorem d_Pre_checkFromToIndex_4 : decode b_Pre_checkFromToIndex 4 = .ok (.iload_n 0, 1) := by decide +kernel
theorem d_Pre_checkFromToIndex_5 : decode b_Pre_checkFromToIndex 5 = .ok (.iload_n 1, 1) := by decide +kernel
theorem d_Pre_checkFromToIndex_6 : decode b_Pre_checkFromToIndex 6 = .ok (.if_icmp .gt 8, 3) := by decide +kernel
theorem d_Pre_checkFromToIndex_9 : decode b_Pre_checkFromToIndex 9 = .ok (.iload_n 1, 1) := by decide +kernel
theorem d_Pre_checkFromToIndex_10 : decode b_Pre_checkFromToIndex 10 = .ok (.iload_n 2, 1) := by decide +kernel
theorem d_Pre_checkFromToIndex_11 : decode b_Pre_checkFromToIndex 11 = .ok (.if_icmp .le 11, 3) := by decide +kernel
theorem d_Pre_checkFromToIndex_22 : decode b_Pre_checkFromToIndex 22 = .ok (.iload_n 0, 1) := by decide +kernel
theorem d_Pre_checkFromToIndex_23 : decode b_Pre_checkFromToIndex 23 = .ok (.ireturn, 1) := by decide +kernel
abbrev b_Str_checkBoundsBeginEnd : ByteArray := prog_18_method_158_code
abbrev y_Str_checkBoundsBeginEnd : MethodName := ⟨R_Str, "checkBoundsBeginEnd", "(III)V"⟩
theorem co_Str_checkBoundsBeginEnd : Cond.code y_Str_checkBoundsBeginEnd b_Str_checkBoundsBeginEnd 3 none ∈ lw_good := lg_in (tin_1 _ (List.mem_of_getElem? (i := 92) rfl)) rfl
abbrev w_Str_checkBoundsBeginEnd : List Cond := Cond.code y_Str_checkBoundsBeginEnd b_Str_checkBoundsBeginEnd 3 none :: lw_good
theorem st_Str_checkBoundsBeginEnd : Cond.static y_Str_checkBoundsBeginEnd ∈ lw_good := lg_right (i := 91) (by decide +kernel) rfl
theorem d_Str_checkBoundsBeginEnd_0 : decode b_Str_checkBoundsBeginEnd 0 = .ok (.iload_n 0, 1) := by decide +kernel
theorem d_Str_checkBoundsBeginEnd_1 : decode b_Str_checkBoundsBeginEnd 1 = .ok (.iload_n 1, 1) := by decide +kernel
theorem d_Str_checkBoundsBeginEnd_2 : decode b_Str_checkBoundsBeginEnd 2 = .ok (.iload_n 2, 1) := by decide +kernel
theorem d_Str_checkBoundsBeginEnd_3 : decode b_Str_checkBoundsBeginEnd 3 = .ok (.getstatic 1053, 3) := by decide +kernel
theorem d_Str_checkBoundsBeginEnd_6 : decode b_Str_checkBoundsBeginEnd 6 = .ok (.invokestatic 1062, 3) := by decide +kernel
theorem ml_Str_1062 : Cond.methodLink R_Str 1062 ⟨"jdk/internal/util/Preconditions", "checkFromToIndex", "(IIILjava/util/function/BiFunction;)I"⟩ ∈ lw_good := lg_right (i := 93) (by decide +kernel) rfl
theorem d_Str_checkBoundsBeginEnd_9 : decode b_Str_checkBoundsBeginEnd 9 = .ok (.pop, 1) := by decide +kernel
theorem d_Str_checkBoundsBeginEnd_10 : decode b_Str_checkBoundsBeginEnd 10 = .ok (.return_, 1) := by decide +kernel
abbrev b_Arr_checkLength : ByteArray := prog_22_method_131_code
abbrev y_Arr_checkLength : MethodName := ⟨R_Arr, "checkLength", "(II)V"⟩
theorem co_Arr_checkLength : Cond.code y_Arr_checkLength b_Arr_checkLength 2 none ∈ lw_good := lg_in (tin_1 _ (List.mem_of_getElem? (i := 110) rfl)) rfl
abbrev w_Arr_checkLength : List Cond := Cond.code y_Arr_checkLength b_Arr_checkLength 2 none :: lw_good
theorem st_Arr_checkLength : Cond.static y_Arr_checkLength ∈ lw_good := lg_right (i := 109) (by decide +kernel) rfl
theorem d_Arr_checkLength_0 : decode b_Arr_checkLength 0 = .ok (.iload_n 1, 1) := by decide +kernel
theorem d_Arr_checkLength_1 : decode b_Arr_checkLength 1 = .ok (.iload_n 0, 1) := by decide +kernel
theorem d_Arr_checkLength_2 : decode b_Arr_checkLength 2 = .ok (.if_icmp .ge 35, 3) := by decide +kernel
theorem d_Arr_checkLength_37 : decode b_Arr_checkLength 37 = .ok (.return_, 1) := by decide +kernel
abbrev b_Arr_copyOfRangeByte : ByteArray := prog_22_method_133_code
abbrev y_Arr_copyOfRangeByte : MethodName := ⟨R_Arr, "copyOfRangeByte", "([BII)[B"⟩
theorem co_Arr_copyOfRangeByte : Cond.code y_Arr_copyOfRangeByte b_Arr_copyOfRangeByte 5 (some (.array .byte)) ∈ lw_good := lg_in (tin_1 _ (List.mem_of_getElem? (i := 107) rfl)) rfl
abbrev w_Arr_copyOfRangeByte : List Cond := Cond.code y_Arr_copyOfRangeByte b_Arr_copyOfRangeByte 5 (some (.array .byte)) :: lw_good
theorem st_Arr_copyOfRangeByte : Cond.static y_Arr_copyOfRangeByte ∈ lw_good := lg_right (i := 106) (by decide +kernel) rfl
theorem d_Arr_copyOfRangeByte_0 : decode b_Arr_copyOfRangeByte 0 = .ok (.iload_n 1, 1) := by decide +kernel
theorem d_Arr_copyOfRangeByte_1 : decode b_Arr_copyOfRangeByte 1 = .ok (.iload_n 2, 1) := by decide +kernel
theorem d_Arr_copyOfRangeByte_2 : decode b_Arr_copyOfRangeByte 2 = .ok (.invokestatic 343, 3) := by decide +kernel
theorem ml_Arr_343 : Cond.methodLink R_Arr 343 ⟨"java/util/Arrays", "checkLength", "(II)V"⟩ ∈ lw_good := lg_right (i := 108) (by decide +kernel) rfl
theorem d_Arr_copyOfRangeByte_5 : decode b_Arr_copyOfRangeByte 5 = .ok (.iload_n 2, 1) := by decide +kernel
theorem d_Arr_copyOfRangeByte_6 : decode b_Arr_copyOfRangeByte 6 = .ok (.iload_n 1, 1) := by decide +kernel
theorem d_Arr_copyOfRangeByte_7 : decode b_Arr_copyOfRangeByte 7 = .ok (.isub, 1) := by decide +kernel
theorem d_Arr_copyOfRangeByte_8 : decode b_Arr_copyOfRangeByte 8 = .ok (.istore_n 3, 1) := by decide +kernel
theorem d_Arr_copyOfRangeByte_9 : decode b_Arr_copyOfRangeByte 9 = .ok (.iload_n 3, 1) := by decide +kernel
theorem d_Arr_copyOfRangeByte_10 : decode b_Arr_copyOfRangeByte 10 = .ok (.newarray .byte, 2) := by decide +kernel
theorem d_Arr_copyOfRangeByte_12 : decode b_Arr_copyOfRangeByte 12 = .ok (.astore 4, 2) := by decide +kernel
theorem d_Arr_copyOfRangeByte_14 : decode b_Arr_copyOfRangeByte 14 = .ok (.aload_n 0, 1) := by decide +kernel
theorem d_Arr_copyOfRangeByte_15 : decode b_Arr_copyOfRangeByte 15 = .ok (.iload_n 1, 1) := by decide +kernel
theorem d_Arr_copyOfRangeByte_16 : decode b_Arr_copyOfRangeByte 16 = .ok (.aload 4, 2) := by decide +kernel
theorem d_Arr_copyOfRangeByte_18 : decode b_Arr_copyOfRangeByte 18 = .ok (.iconst 0, 1) := by decide +kernel
theorem d_Arr_copyOfRangeByte_19 : decode b_Arr_copyOfRangeByte 19 = .ok (.aload_n 0, 1) := by decide +kernel
theorem d_Arr_copyOfRangeByte_20 : decode b_Arr_copyOfRangeByte 20 = .ok (.arraylength, 1) := by decide +kernel
theorem d_Arr_copyOfRangeByte_21 : decode b_Arr_copyOfRangeByte 21 = .ok (.iload_n 1, 1) := by decide +kernel
theorem d_Arr_copyOfRangeByte_22 : decode b_Arr_copyOfRangeByte 22 = .ok (.isub, 1) := by decide +kernel
theorem d_Arr_copyOfRangeByte_23 : decode b_Arr_copyOfRangeByte 23 = .ok (.iload_n 3, 1) := by decide +kernel
theorem d_Arr_copyOfRangeByte_24 : decode b_Arr_copyOfRangeByte 24 = .ok (.invokestatic 304, 3) := by decide +kernel
theorem ml_Arr_304 : Cond.methodLink R_Arr 304 ⟨"java/lang/Math", "min", "(II)I"⟩ ∈ lw_good := lg_right (i := 111) (by decide +kernel) rfl
theorem d_Arr_copyOfRangeByte_27 : decode b_Arr_copyOfRangeByte 27 = .ok (.invokestatic 150, 3) := by decide +kernel
theorem ml_Arr_150 : Cond.methodLink R_Arr 150 ⟨"java/lang/System", "arraycopy", "(Ljava/lang/Object;ILjava/lang/Object;II)V"⟩ ∈ lw_good := lg_right (i := 114) (by decide +kernel) rfl
theorem d_Arr_copyOfRangeByte_30 : decode b_Arr_copyOfRangeByte 30 = .ok (.aload 4, 2) := by decide +kernel
theorem d_Arr_copyOfRangeByte_32 : decode b_Arr_copyOfRangeByte 32 = .ok (.areturn, 1) := by decide +kernel
abbrev b_Arr_copyOfRange : ByteArray := prog_22_method_132_code
abbrev y_Arr_copyOfRange : MethodName := ⟨R_Arr, "copyOfRange", "([BII)[B"⟩
theorem co_Arr_copyOfRange : Cond.code y_Arr_copyOfRange b_Arr_copyOfRange 3 (some (.array .byte)) ∈ lw_good := lg_in (tin_1 _ (List.mem_of_getElem? (i := 104) rfl)) rfl
abbrev w_Arr_copyOfRange : List Cond := Cond.code y_Arr_copyOfRange b_Arr_copyOfRange 3 (some (.array .byte)) :: lw_good
theorem st_Arr_copyOfRange : Cond.static y_Arr_copyOfRange ∈ lw_good := lg_right (i := 103) (by decide +kernel) rfl
theorem d_Arr_copyOfRange_0 : decode b_Arr_copyOfRange 0 = .ok (.iload_n 1, 1) := by decide +kernel
theorem d_Arr_copyOfRange_1 : decode b_Arr_copyOfRange 1 = .ok (.ifCond .ne 9, 3) := by decide +kernel
theorem d_Arr_copyOfRange_4 : decode b_Arr_copyOfRange 4 = .ok (.iload_n 2, 1) := by decide +kernel
theorem d_Arr_copyOfRange_5 : decode b_Arr_copyOfRange 5 = .ok (.aload_n 0, 1) := by decide +kernel
theorem d_Arr_copyOfRange_6 : decode b_Arr_copyOfRange 6 = .ok (.arraylength, 1) := by decide +kernel
theorem d_Arr_copyOfRange_7 : decode b_Arr_copyOfRange 7 = .ok (.if_icmp .eq 10, 3) := by decide +kernel
theorem d_Arr_copyOfRange_10 : decode b_Arr_copyOfRange 10 = .ok (.aload_n 0, 1) := by decide +kernel
theorem d_Arr_copyOfRange_11 : decode b_Arr_copyOfRange 11 = .ok (.iload_n 1, 1) := by decide +kernel
theorem d_Arr_copyOfRange_12 : decode b_Arr_copyOfRange 12 = .ok (.iload_n 2, 1) := by decide +kernel
theorem d_Arr_copyOfRange_13 : decode b_Arr_copyOfRange 13 = .ok (.invokestatic 339, 3) := by decide +kernel
theorem ml_Arr_339 : Cond.methodLink R_Arr 339 ⟨"java/util/Arrays", "copyOfRangeByte", "([BII)[B"⟩ ∈ lw_good := lg_right (i := 105) (by decide +kernel) rfl
theorem d_Arr_copyOfRange_16 : decode b_Arr_copyOfRange 16 = .ok (.areturn, 1) := by decide +kernel
abbrev b_Str_init : ByteArray := prog_18_method_151_code
abbrev y_Str_init : MethodName := ⟨R_Str, "<init>", "([BB)V"⟩
theorem co_Str_init : Cond.code y_Str_init b_Str_init 3 none ∈ lw_good := lg_in (tin_1 _ (List.mem_of_getElem? (i := 126) rfl)) rfl
abbrev w_Str_init : List Cond := Cond.code y_Str_init b_Str_init 3 none :: lw_good
theorem im_Str_init : Cond.instanceMethod y_Str_init ∈ lw_good := lg_right (i := 125) (by decide +kernel) rfl
theorem d_Str_init_0 : decode b_Str_init 0 = .ok (.aload_n 0, 1) := by decide +kernel
theorem d_Str_init_1 : decode b_Str_init 1 = .ok (.invokespecial 1, 3) := by decide +kernel
theorem ml_Str_1 : Cond.methodLink R_Str 1 objectInit ∈ lw_good := lg_right (i := 127) (by decide +kernel) rfl
theorem d_Str_init_4 : decode b_Str_init 4 = .ok (.aload_n 0, 1) := by decide +kernel
theorem d_Str_init_5 : decode b_Str_init 5 = .ok (.aload_n 1, 1) := by decide +kernel
theorem d_Str_init_6 : decode b_Str_init 6 = .ok (.putfield 9, 3) := by decide +kernel
theorem d_Str_init_9 : decode b_Str_init 9 = .ok (.aload_n 0, 1) := by decide +kernel
theorem d_Str_init_10 : decode b_Str_init 10 = .ok (.iload_n 2, 1) := by decide +kernel
theorem d_Str_init_11 : decode b_Str_init 11 = .ok (.putfield 15, 3) := by decide +kernel
theorem d_Str_init_14 : decode b_Str_init 14 = .ok (.return_, 1) := by decide +kernel
abbrev b_Lat_newString : ByteArray := prog_19_method_47_code
abbrev y_Lat_newString : MethodName := ⟨R_Lat, "newString", "([BII)Ljava/lang/String;"⟩
theorem co_Lat_newString : Cond.code y_Lat_newString b_Lat_newString 3 (some (.object "java/lang/String")) ∈ lw_good := lg_in (tin_1 _ (List.mem_of_getElem? (i := 98) rfl)) rfl
abbrev w_Lat_newString : List Cond := Cond.code y_Lat_newString b_Lat_newString 3 (some (.object "java/lang/String")) :: lw_good
theorem st_Lat_newString : Cond.static y_Lat_newString ∈ lw_good := lg_right (i := 97) (by decide +kernel) rfl
theorem d_Lat_newString_0 : decode b_Lat_newString 0 = .ok (.iload_n 2, 1) := by decide +kernel
theorem d_Lat_newString_1 : decode b_Lat_newString 1 = .ok (.ifCond .ne 6, 3) := by decide +kernel
theorem d_Lat_newString_7 : decode b_Lat_newString 7 = .ok (.new 1, 3) := by decide +kernel
theorem cl_Lat_1 : Cond.classLink R_Lat 1 "java/lang/String" ∈ lw_good := lg_right (i := 100) (by decide +kernel) rfl
theorem d_Lat_newString_10 : decode b_Lat_newString 10 = .ok (.dup, 1) := by decide +kernel
theorem d_Lat_newString_11 : decode b_Lat_newString 11 = .ok (.aload_n 0, 1) := by decide +kernel
theorem d_Lat_newString_12 : decode b_Lat_newString 12 = .ok (.iload_n 1, 1) := by decide +kernel
theorem d_Lat_newString_13 : decode b_Lat_newString 13 = .ok (.iload_n 1, 1) := by decide +kernel
theorem d_Lat_newString_14 : decode b_Lat_newString 14 = .ok (.iload_n 2, 1) := by decide +kernel
theorem d_Lat_newString_15 : decode b_Lat_newString 15 = .ok (.iadd, 1) := by decide +kernel
theorem d_Lat_newString_16 : decode b_Lat_newString 16 = .ok (.invokestatic 232, 3) := by decide +kernel
theorem ml_Lat_232 : Cond.methodLink R_Lat 232 ⟨"java/util/Arrays", "copyOfRange", "([BII)[B"⟩ ∈ lw_good := lg_right (i := 102) (by decide +kernel) rfl
theorem d_Lat_newString_19 : decode b_Lat_newString 19 = .ok (.iconst 0, 1) := by decide +kernel
theorem d_Lat_newString_20 : decode b_Lat_newString 20 = .ok (.invokespecial 112, 3) := by decide +kernel
theorem ml_Lat_112 : Cond.methodLink R_Lat 112 ⟨"java/lang/String", "<init>", "([BB)V"⟩ ∈ lw_good := lg_right (i := 124) (by decide +kernel) rfl
theorem d_Lat_newString_23 : decode b_Lat_newString 23 = .ok (.areturn, 1) := by decide +kernel
abbrev b_Str_substring : ByteArray := prog_18_method_92_code
abbrev y_Str_substring : MethodName := ⟨R_Str, "substring", "(II)Ljava/lang/String;"⟩
theorem co_Str_substring : Cond.code y_Str_substring b_Str_substring 5 (some (.object "java/lang/String")) ∈ lw_good := lg_in (tin_1 _ (List.mem_of_getElem? (i := 88) rfl)) rfl
abbrev w_Str_substring : List Cond := Cond.code y_Str_substring b_Str_substring 5 (some (.object "java/lang/String")) :: lw_good
theorem im_Str_substring : Cond.instanceMethod y_Str_substring ∈ lw_good := lg_right (i := 86) (by decide +kernel) rfl
theorem se_Str_substring : Cond.selects R_Str y_Str_substring y_Str_substring ∈ lw_good := lg_right (i := 87) (by decide +kernel) rfl
theorem d_Str_substring_0 : decode b_Str_substring 0 = .ok (.aload_n 0, 1) := by decide +kernel
theorem d_Str_substring_1 : decode b_Str_substring 1 = .ok (.invokevirtual 505, 3) := by decide +kernel
theorem ml_Str_505 : Cond.methodLink R_Str 505 ⟨"java/lang/String", "length", "()I"⟩ ∈ lw_good := lg_right (i := 89) (by decide +kernel) rfl
theorem d_Str_substring_4 : decode b_Str_substring 4 = .ok (.istore_n 3, 1) := by decide +kernel
theorem d_Str_substring_5 : decode b_Str_substring 5 = .ok (.iload_n 1, 1) := by decide +kernel
theorem d_Str_substring_6 : decode b_Str_substring 6 = .ok (.iload_n 2, 1) := by decide +kernel
theorem d_Str_substring_7 : decode b_Str_substring 7 = .ok (.iload_n 3, 1) := by decide +kernel
theorem d_Str_substring_8 : decode b_Str_substring 8 = .ok (.invokestatic 521, 3) := by decide +kernel
theorem ml_Str_521 : Cond.methodLink R_Str 521 ⟨"java/lang/String", "checkBoundsBeginEnd", "(III)V"⟩ ∈ lw_good := lg_right (i := 90) (by decide +kernel) rfl
theorem d_Str_substring_11 : decode b_Str_substring 11 = .ok (.iload_n 1, 1) := by decide +kernel
theorem d_Str_substring_12 : decode b_Str_substring 12 = .ok (.ifCond .ne 10, 3) := by decide +kernel
theorem d_Str_substring_15 : decode b_Str_substring 15 = .ok (.iload_n 2, 1) := by decide +kernel
theorem d_Str_substring_16 : decode b_Str_substring 16 = .ok (.iload_n 3, 1) := by decide +kernel
theorem d_Str_substring_17 : decode b_Str_substring 17 = .ok (.if_icmp .ne 5, 3) := by decide +kernel
theorem d_Str_substring_22 : decode b_Str_substring 22 = .ok (.iload_n 2, 1) := by decide +kernel
theorem d_Str_substring_23 : decode b_Str_substring 23 = .ok (.iload_n 1, 1) := by decide +kernel
theorem d_Str_substring_24 : decode b_Str_substring 24 = .ok (.isub, 1) := by decide +kernel
theorem d_Str_substring_25 : decode b_Str_substring 25 = .ok (.istore 4, 2) := by decide +kernel
theorem d_Str_substring_27 : decode b_Str_substring 27 = .ok (.aload_n 0, 1) := by decide +kernel
theorem d_Str_substring_28 : decode b_Str_substring 28 = .ok (.invokevirtual 492, 3) := by decide +kernel
theorem d_Str_substring_31 : decode b_Str_substring 31 = .ok (.ifCond .eq 16, 3) := by decide +kernel
theorem d_Str_substring_34 : decode b_Str_substring 34 = .ok (.aload_n 0, 1) := by decide +kernel
theorem d_Str_substring_35 : decode b_Str_substring 35 = .ok (.getfield 9, 3) := by decide +kernel
theorem d_Str_substring_38 : decode b_Str_substring 38 = .ok (.iload_n 1, 1) := by decide +kernel
theorem d_Str_substring_39 : decode b_Str_substring 39 = .ok (.iload 4, 2) := by decide +kernel
theorem d_Str_substring_41 : decode b_Str_substring 41 = .ok (.invokestatic 685, 3) := by decide +kernel
theorem ml_Str_685 : Cond.methodLink R_Str 685 ⟨"java/lang/StringLatin1", "newString", "([BII)Ljava/lang/String;"⟩ ∈ lw_good := lg_right (i := 96) (by decide +kernel) rfl
theorem d_Str_substring_44 : decode b_Str_substring 44 = .ok (.goto 13, 3) := by decide +kernel
theorem d_Str_substring_57 : decode b_Str_substring 57 = .ok (.areturn, 1) := by decide +kernel
abbrev b_Lat_inflate : ByteArray := prog_19_method_49_code
abbrev y_Lat_inflate : MethodName := ⟨R_Lat, "inflate", "([BI[CII)V"⟩
theorem co_Lat_inflate : Cond.code y_Lat_inflate b_Lat_inflate 6 none ∈ lw_good := lg_in (tin_1 _ (List.mem_of_getElem? (i := 182) rfl)) rfl
abbrev w_Lat_inflate : List Cond := Cond.code y_Lat_inflate b_Lat_inflate 6 none :: lw_good
theorem st_Lat_inflate : Cond.static y_Lat_inflate ∈ lw_good := lg_right (i := 181) (by decide +kernel) rfl
theorem d_Lat_inflate_0 : decode b_Lat_inflate 0 = .ok (.iconst 0, 1) := by decide +kernel
theorem d_Lat_inflate_1 : decode b_Lat_inflate 1 = .ok (.istore 5, 2) := by decide +kernel
theorem d_Lat_inflate_3 : decode b_Lat_inflate 3 = .ok (.iload 5, 2) := by decide +kernel
theorem d_Lat_inflate_5 : decode b_Lat_inflate 5 = .ok (.iload 4, 2) := by decide +kernel
theorem d_Lat_inflate_7 : decode b_Lat_inflate 7 = .ok (.if_icmp .ge 26, 3) := by decide +kernel
theorem d_Lat_inflate_10 : decode b_Lat_inflate 10 = .ok (.aload_n 2, 1) := by decide +kernel
theorem d_Lat_inflate_11 : decode b_Lat_inflate 11 = .ok (.iload_n 3, 1) := by decide +kernel
theorem d_Lat_inflate_12 : decode b_Lat_inflate 12 = .ok (.iinc 3 1, 3) := by decide +kernel
theorem d_Lat_inflate_15 : decode b_Lat_inflate 15 = .ok (.aload_n 0, 1) := by decide +kernel
theorem d_Lat_inflate_16 : decode b_Lat_inflate 16 = .ok (.iload_n 1, 1) := by decide +kernel
theorem d_Lat_inflate_17 : decode b_Lat_inflate 17 = .ok (.iinc 1 1, 3) := by decide +kernel
theorem d_Lat_inflate_20 : decode b_Lat_inflate 20 = .ok (.baload, 1) := by decide +kernel
theorem d_Lat_inflate_21 : decode b_Lat_inflate 21 = .ok (.sipush 255, 3) := by decide +kernel
theorem d_Lat_inflate_24 : decode b_Lat_inflate 24 = .ok (.iand, 1) := by decide +kernel
theorem d_Lat_inflate_25 : decode b_Lat_inflate 25 = .ok (.i2c, 1) := by decide +kernel
theorem d_Lat_inflate_26 : decode b_Lat_inflate 26 = .ok (.castore, 1) := by decide +kernel
theorem d_Lat_inflate_27 : decode b_Lat_inflate 27 = .ok (.iinc 5 1, 3) := by decide +kernel
theorem d_Lat_inflate_30 : decode b_Lat_inflate 30 = .ok (.goto (-27), 3) := by decide +kernel
theorem d_Lat_inflate_33 : decode b_Lat_inflate 33 = .ok (.return_, 1) := by decide +kernel
abbrev b_Lat_toChars : ByteArray := prog_19_method_9_code
abbrev y_Lat_toChars : MethodName := ⟨R_Lat, "toChars", "([B)[C"⟩
theorem co_Lat_toChars : Cond.code y_Lat_toChars b_Lat_toChars 2 (some (.array .char)) ∈ lw_good := lg_in (tin_1 _ (List.mem_of_getElem? (i := 179) rfl)) rfl
abbrev w_Lat_toChars : List Cond := Cond.code y_Lat_toChars b_Lat_toChars 2 (some (.array .char)) :: lw_good
theorem st_Lat_toChars : Cond.static y_Lat_toChars ∈ lw_good := lg_right (i := 178) (by decide +kernel) rfl
theorem d_Lat_toChars_0 : decode b_Lat_toChars 0 = .ok (.aload_n 0, 1) := by decide +kernel
theorem d_Lat_toChars_1 : decode b_Lat_toChars 1 = .ok (.arraylength, 1) := by decide +kernel
theorem d_Lat_toChars_2 : decode b_Lat_toChars 2 = .ok (.newarray .char, 2) := by decide +kernel
theorem d_Lat_toChars_4 : decode b_Lat_toChars 4 = .ok (.astore_n 1, 1) := by decide +kernel
theorem d_Lat_toChars_5 : decode b_Lat_toChars 5 = .ok (.aload_n 0, 1) := by decide +kernel
theorem d_Lat_toChars_6 : decode b_Lat_toChars 6 = .ok (.iconst 0, 1) := by decide +kernel
theorem d_Lat_toChars_7 : decode b_Lat_toChars 7 = .ok (.aload_n 1, 1) := by decide +kernel
theorem d_Lat_toChars_8 : decode b_Lat_toChars 8 = .ok (.iconst 0, 1) := by decide +kernel
theorem d_Lat_toChars_9 : decode b_Lat_toChars 9 = .ok (.aload_n 0, 1) := by decide +kernel
theorem d_Lat_toChars_10 : decode b_Lat_toChars 10 = .ok (.arraylength, 1) := by decide +kernel
theorem d_Lat_toChars_11 : decode b_Lat_toChars 11 = .ok (.invokestatic 13, 3) := by decide +kernel
theorem ml_Lat_13 : Cond.methodLink R_Lat 13 ⟨"java/lang/StringLatin1", "inflate", "([BI[CII)V"⟩ ∈ lw_good := lg_right (i := 180) (by decide +kernel) rfl
theorem d_Lat_toChars_14 : decode b_Lat_toChars 14 = .ok (.aload_n 1, 1) := by decide +kernel
theorem d_Lat_toChars_15 : decode b_Lat_toChars 15 = .ok (.areturn, 1) := by decide +kernel
abbrev b_Str_toCharArray : ByteArray := prog_18_method_129_code
abbrev y_Str_toCharArray : MethodName := ⟨R_Str, "toCharArray", "()[C"⟩
theorem co_Str_toCharArray : Cond.code y_Str_toCharArray b_Str_toCharArray 1 (some (.array .char)) ∈ lw_good := lg_in (tin_1 _ (List.mem_of_getElem? (i := 176) rfl)) rfl
abbrev w_Str_toCharArray : List Cond := Cond.code y_Str_toCharArray b_Str_toCharArray 1 (some (.array .char)) :: lw_good
theorem im_Str_toCharArray : Cond.instanceMethod y_Str_toCharArray ∈ lw_good := lg_right (i := 174) (by decide +kernel) rfl
theorem se_Str_toCharArray : Cond.selects R_Str y_Str_toCharArray y_Str_toCharArray ∈ lw_good := lg_right (i := 175) (by decide +kernel) rfl
theorem d_Str_toCharArray_0 : decode b_Str_toCharArray 0 = .ok (.aload_n 0, 1) := by decide +kernel
theorem d_Str_toCharArray_1 : decode b_Str_toCharArray 1 = .ok (.invokevirtual 492, 3) := by decide +kernel
theorem d_Str_toCharArray_4 : decode b_Str_toCharArray 4 = .ok (.ifCond .eq 13, 3) := by decide +kernel
theorem d_Str_toCharArray_7 : decode b_Str_toCharArray 7 = .ok (.aload_n 0, 1) := by decide +kernel
theorem d_Str_toCharArray_8 : decode b_Str_toCharArray 8 = .ok (.getfield 9, 3) := by decide +kernel
theorem d_Str_toCharArray_11 : decode b_Str_toCharArray 11 = .ok (.invokestatic 299, 3) := by decide +kernel
theorem ml_Str_299 : Cond.methodLink R_Str 299 ⟨"java/lang/StringLatin1", "toChars", "([B)[C"⟩ ∈ lw_good := lg_right (i := 177) (by decide +kernel) rfl
theorem d_Str_toCharArray_14 : decode b_Str_toCharArray 14 = .ok (.goto 10, 3) := by decide +kernel
theorem d_Str_toCharArray_24 : decode b_Str_toCharArray 24 = .ok (.areturn, 1) := by decide +kernel
theorem na_arraycopy : Cond.native arraycopyName ∈ lw_good := lg_right (i := 116) (by decide +kernel) rfl
theorem st_arraycopy : Cond.static arraycopyName ∈ lw_good := lg_right (i := 115) (by decide +kernel) rfl
theorem s_fit : ∀ i, i < 33 → ∀ j, j < s_len.getD i 0 → fits .byte (.int ((s_byt.getD i []).getD j 0)) = true := by decide +kernel
theorem n_min {a b : Nat} (h : a ≤ b) (hb : b < 2 ^ 31) : (if nI a < nI b then nI a else nI b) = nI a := by
  split
  · rfl
  · next q => exact congrArg nI (by have := (ni_lt (by omega) hb).2 q; omega)
theorem nI_ne {a b : Nat} (h : a ≠ b) (ha : a < 2 ^ 31) (hb : b < 2 ^ 31) : ¬ nI a = nI b := fun q => h (by have := congrArg Int32.toInt q; rw [nI_toInt ha, nI_toInt hb] at this; omega)
set_option maxHeartbeats 1000000 in
set_option maxRecDepth 100000 in
theorem c_Pre_cfti_r (l : Launch) (dC : Nat → ClassId) (dI : Nat → Nat → Nat)  (p1 : Int32) (p2 : Int32) (p3 : Int32) (p4 : Nat) (h1 : ¬ p1 < 0) (h2 : ¬ p2 < p1) (h3 : p2 ≤ p3) : Met l y_Pre_checkFromToIndex w_Pre_checkFromToIndex ({ frames := 0, cells := 0, slots := 0, locals := 0 } : Room) (va_Pc [.int p1, .int p2, .int p3, .ref p4] (fun U => va_P (dC, dI) cls_all [] U.heap ∧ va_K (dC, dI) cls_all [] U)) (vp_Si (fun r : Int32 => (r = p1))) 0 0 (fun _ => False) := by
  refine Met.ofW (cc := b_Pre_checkFromToIndex) (maxL := 4) (ret := (some .int)) (by decide) rfl ?_
  intro p e s m args below meth c s₁ B hml hv
  obtain ⟨rfl, hP, hK⟩ := hv
  have hx := B.exec
  have hb := B.bytes
  have hr := B.returns
  have hT : ∀ w ∈ lw_good, w.before _ s = true := fun w h => atoms_spec (ws := w_Pre_checkFromToIndex) B.pre w (List.mem_cons_of_mem _ h)
  have hown : s.vm.findClass R_Pre = some m.cls := findClass_of_methodNamed B.named
  have hlocks := B.notSynchronized
  have hl := lv_entry ([.int p1, .int p2, .int p3, .ref p4]) (n := 4) (Nat.le_of_ble_eq_true rfl)
  rw [lg_entry_eq]
  generalize (lg_sl ([.int p1, .int p2, .int p3, .ref p4]) ++ List.replicate (4 - (lg_sl ([.int p1, .int p2, .int p3, .ref p4])).length) Slot.unset).toArray = ls at hl ⊢
  have hl : lv_has ls 4 [(0, .int p1), (1, .int p2), (2, .int p3), (3, .ref p4)] := hl
  refine lv_iload_n hx hb d_Pre_checkFromToIndex_0 rfl (lv_at hl 0 rfl) ?_
  refine lv_if_lt (tgt := 14) hx hb d_Pre_checkFromToIndex_1 (by decide) (fun c1 => absurd c1 h1) (fun c1 => ?_)
  refine lv_iload_n hx hb d_Pre_checkFromToIndex_4 rfl (lv_at hl 0 rfl) ?_
  refine lv_iload_n hx hb d_Pre_checkFromToIndex_5 rfl (lv_at hl 1 rfl) ?_
  refine lv_icmp_gt (tgt := 14) hx hb d_Pre_checkFromToIndex_6 (by decide) (fun c2 => absurd c2 h2) (fun c2 => ?_)
  refine lv_iload_n hx hb d_Pre_checkFromToIndex_9 rfl (lv_at hl 1 rfl) ?_
  refine lv_iload_n hx hb d_Pre_checkFromToIndex_10 rfl (lv_at hl 2 rfl) ?_
  refine lv_icmp_le (tgt := 22) hx hb d_Pre_checkFromToIndex_11 (by decide) (fun c3 => ?_) (fun c3 => absurd h3 c3)
  refine lv_iload_n hx hb d_Pre_checkFromToIndex_22 rfl (lv_at hl 0 rfl) ?_
  refine W.iret (v := p1) hx hb hr (fun t ht hW => ⟨p1, rfl, ?_, ht⟩) (fun q h => by cases h) d_Pre_checkFromToIndex_23
  rfl
set_option maxHeartbeats 1000000 in
set_option maxRecDepth 100000 in
theorem c_Pre_cfti_n (l : Launch) (dC : Nat → ClassId) (dI : Nat → Nat → Nat)  (p1 : Int32) (p2 : Int32) (p3 : Int32) (h1 : ¬ p1 < 0) (h2 : ¬ p2 < p1) (h3 : p2 ≤ p3) : Met l y_Pre_checkFromToIndex w_Pre_checkFromToIndex ({ frames := 0, cells := 0, slots := 0, locals := 0 } : Room) (va_Pc [.int p1, .int p2, .int p3, .null] (fun U => va_P (dC, dI) cls_all [] U.heap ∧ va_K (dC, dI) cls_all [] U)) (vp_Si (fun r : Int32 => (r = p1))) 0 0 (fun _ => False) := by
  refine Met.ofW (cc := b_Pre_checkFromToIndex) (maxL := 4) (ret := (some .int)) (by decide) rfl ?_
  intro p e s m args below meth c s₁ B hml hv
  obtain ⟨rfl, hP, hK⟩ := hv
  have hx := B.exec
  have hb := B.bytes
  have hr := B.returns
  have hT : ∀ w ∈ lw_good, w.before _ s = true := fun w h => atoms_spec (ws := w_Pre_checkFromToIndex) B.pre w (List.mem_cons_of_mem _ h)
  have hown : s.vm.findClass R_Pre = some m.cls := findClass_of_methodNamed B.named
  have hlocks := B.notSynchronized
  have hl := lv_entry ([.int p1, .int p2, .int p3, .null]) (n := 4) (Nat.le_of_ble_eq_true rfl)
  rw [lg_entry_eq]
  generalize (lg_sl ([.int p1, .int p2, .int p3, .null]) ++ List.replicate (4 - (lg_sl ([.int p1, .int p2, .int p3, .null])).length) Slot.unset).toArray = ls at hl ⊢
  have hl : lv_has ls 4 [(0, .int p1), (1, .int p2), (2, .int p3), (3, .null)] := hl
  refine lv_iload_n hx hb d_Pre_checkFromToIndex_0 rfl (lv_at hl 0 rfl) ?_
  refine lv_if_lt (tgt := 14) hx hb d_Pre_checkFromToIndex_1 (by decide) (fun c1 => absurd c1 h1) (fun c1 => ?_)
  refine lv_iload_n hx hb d_Pre_checkFromToIndex_4 rfl (lv_at hl 0 rfl) ?_
  refine lv_iload_n hx hb d_Pre_checkFromToIndex_5 rfl (lv_at hl 1 rfl) ?_
  refine lv_icmp_gt (tgt := 14) hx hb d_Pre_checkFromToIndex_6 (by decide) (fun c2 => absurd c2 h2) (fun c2 => ?_)
  refine lv_iload_n hx hb d_Pre_checkFromToIndex_9 rfl (lv_at hl 1 rfl) ?_
  refine lv_iload_n hx hb d_Pre_checkFromToIndex_10 rfl (lv_at hl 2 rfl) ?_
  refine lv_icmp_le (tgt := 22) hx hb d_Pre_checkFromToIndex_11 (by decide) (fun c3 => ?_) (fun c3 => absurd h3 c3)
  refine lv_iload_n hx hb d_Pre_checkFromToIndex_22 rfl (lv_at hl 0 rfl) ?_
  refine W.iret (v := p1) hx hb hr (fun t ht hW => ⟨p1, rfl, ?_, ht⟩) (fun q h => by cases h) d_Pre_checkFromToIndex_23
  rfl
set_option maxHeartbeats 1000000 in
set_option maxRecDepth 100000 in
theorem c_Str_checkBoundsBeginEnd (l : Launch) (dC : Nat → ClassId) (dI : Nat → Nat → Nat)  (ad : Nat → Nat) (av : Nat → Nat) (p1 : Int32) (p2 : Int32) (p3 : Int32) (h1 : ¬ p1 < 0) (h2 : ¬ p2 < p1) (h3 : p2 ≤ p3) : Met l y_Str_checkBoundsBeginEnd w_Str_checkBoundsBeginEnd ({ frames := 1, cells := 0, slots := 0, locals := 23 } : Room) (va_Pc [.int p1, .int p2, .int p3] (fun U => va_P (dC, dI) cls_all [] U.heap ∧ va_K (dC, dI) cls_all [] U ∧ env0 ad av (fun _ => False) U U.heap)) (va_Sv (fun _ => True)) 0 0 (fun _ => False) := by
  refine Met.ofW (cc := b_Str_checkBoundsBeginEnd) (maxL := 3) (ret := none) (by decide) rfl ?_
  intro p e s m args below meth c s₁ B hml hv
  obtain ⟨rfl, hP, hK, henv⟩ := hv
  have hx := B.exec
  have hb := B.bytes
  have hr := B.returns
  have hT : ∀ w ∈ lw_good, w.before _ s = true := fun w h => atoms_spec (ws := w_Str_checkBoundsBeginEnd) B.pre w (List.mem_cons_of_mem _ h)
  have hown : s.vm.findClass R_Str = some m.cls := findClass_of_methodNamed B.named
  have hlocks := B.notSynchronized
  have hS : va_S (fun _ => False) s.heap s.heap [] := va_S.rf
  have hl := lv_entry ([.int p1, .int p2, .int p3]) (n := 3) (Nat.le_of_ble_eq_true rfl)
  rw [lg_entry_eq]
  generalize (lg_sl ([.int p1, .int p2, .int p3]) ++ List.replicate (3 - (lg_sl ([.int p1, .int p2, .int p3])).length) Slot.unset).toArray = ls at hl ⊢
  have hl : lv_has ls 3 [(0, .int p1), (1, .int p2), (2, .int p3)] := hl
  refine lv_iload_n hx hb d_Str_checkBoundsBeginEnd_0 rfl (lv_at hl 0 rfl) ?_
  refine lv_iload_n hx hb d_Str_checkBoundsBeginEnd_1 rfl (lv_at hl 1 rfl) ?_
  refine lv_iload_n hx hb d_Str_checkBoundsBeginEnd_2 rfl (lv_at hl 2 rfl) ?_
  rcases henv.2.1 with hz1 | ⟨t1, hz1⟩
  · refine va_gets hx hb hz1 hS hown (hT _ fl_Str_1053) (fun _ h9 => h9) d_Str_checkBoundsBeginEnd_3 ?_
    have hPc := hP.sub (ws' := []) [] rfl
    have hKc := hK.sub (tys' := []) [] rfl
    refine vp_callSi (va_Run.run (va_runS (As := [.int p1, .int p2, .int p3, .null]) (rest := []) ⟨hx, hb, hml, hown, hT⟩ (c_Pre_cfti_n l dC dI (p1 := p1) (p2 := p2) (p3 := p3) (h1 := h1) (h2 := h2) (h3 := h3)) (va_cwS 4 hT (gS ml_Str_1062 st_Pre_checkFromToIndex ini_Pre co_Pre_checkFromToIndex) rfl rfl rfl (by decide +kernel) ⟨Nat.le_of_ble_eq_true rfl, Nat.le_of_ble_eq_true rfl⟩) ⟨fbS, fun U hU hW => ⟨rfl, by rw [hU]; exact hPc, va_K.moved hW.alike hKc⟩⟩ rfl rfl hl.1 rfl (lv_room (Nat.le_of_ble_eq_true rfl)) d_Str_checkBoundsBeginEnd_6 ⟨Nat.le_of_ble_eq_true rfl, Nat.le_of_ble_eq_true rfl⟩)) (fun r2 hr2 => ?_)
    refine lv_pop hx hb d_Str_checkBoundsBeginEnd_9 rfl ?_
    refine W.vret hx hb hr (fun t ht hW => ⟨rfl, ?_, ht⟩) (fun q h => by cases h) d_Str_checkBoundsBeginEnd_10
    trivial
  · refine va_gets hx hb hz1 hS hown (hT _ fl_Str_1053) (fun _ h9 => h9) d_Str_checkBoundsBeginEnd_3 ?_
    have hPc := hP.sub (ws' := []) [] rfl
    have hKc := hK.sub (tys' := []) [] rfl
    refine vp_callSi (va_Run.run (va_runS (As := [.int p1, .int p2, .int p3, .ref t1]) (rest := []) ⟨hx, hb, hml, hown, hT⟩ (c_Pre_cfti_r l dC dI (p1 := p1) (p2 := p2) (p3 := p3) (p4 := t1) (h1 := h1) (h2 := h2) (h3 := h3)) (va_cwS 4 hT (gS ml_Str_1062 st_Pre_checkFromToIndex ini_Pre co_Pre_checkFromToIndex) rfl rfl rfl (by decide +kernel) ⟨Nat.le_of_ble_eq_true rfl, Nat.le_of_ble_eq_true rfl⟩) ⟨fbS, fun U hU hW => ⟨rfl, by rw [hU]; exact hPc, va_K.moved hW.alike hKc⟩⟩ rfl rfl hl.1 rfl (lv_room (Nat.le_of_ble_eq_true rfl)) d_Str_checkBoundsBeginEnd_6 ⟨Nat.le_of_ble_eq_true rfl, Nat.le_of_ble_eq_true rfl⟩)) (fun r3 hr3 => ?_)
    refine lv_pop hx hb d_Str_checkBoundsBeginEnd_9 rfl ?_
    refine W.vret hx hb hr (fun t ht hW => ⟨rfl, ?_, ht⟩) (fun q h => by cases h) d_Str_checkBoundsBeginEnd_10
    trivial
set_option maxHeartbeats 1000000 in
set_option maxRecDepth 100000 in
theorem c_Arr_checkLength (l : Launch) (dC : Nat → ClassId) (dI : Nat → Nat → Nat)  (p1 : Int32) (p2 : Int32) (h1 : p1 ≤ p2) : Met l y_Arr_checkLength w_Arr_checkLength ({ frames := 0, cells := 0, slots := 0, locals := 0 } : Room) (va_Pc [.int p1, .int p2] (fun U => va_P (dC, dI) cls_all [] U.heap ∧ va_K (dC, dI) cls_all [] U)) (va_Sv (fun _ => True)) 0 0 (fun _ => False) := by
  refine Met.ofW (cc := b_Arr_checkLength) (maxL := 2) (ret := none) (by decide) rfl ?_
  intro p e s m args below meth c s₁ B hml hv
  obtain ⟨rfl, hP, hK⟩ := hv
  have hx := B.exec
  have hb := B.bytes
  have hr := B.returns
  have hT : ∀ w ∈ lw_good, w.before _ s = true := fun w h => atoms_spec (ws := w_Arr_checkLength) B.pre w (List.mem_cons_of_mem _ h)
  have hown : s.vm.findClass R_Arr = some m.cls := findClass_of_methodNamed B.named
  have hlocks := B.notSynchronized
  have hl := lv_entry ([.int p1, .int p2]) (n := 2) (Nat.le_of_ble_eq_true rfl)
  rw [lg_entry_eq]
  generalize (lg_sl ([.int p1, .int p2]) ++ List.replicate (2 - (lg_sl ([.int p1, .int p2])).length) Slot.unset).toArray = ls at hl ⊢
  have hl : lv_has ls 2 [(0, .int p1), (1, .int p2)] := hl
  refine lv_iload_n hx hb d_Arr_checkLength_0 rfl (lv_at hl 1 rfl) ?_
  refine lv_iload_n hx hb d_Arr_checkLength_1 rfl (lv_at hl 0 rfl) ?_
  refine lv_icmp_ge (tgt := 37) hx hb d_Arr_checkLength_2 (by decide) (fun c1 => ?_) (fun c1 => absurd h1 c1)
  refine W.vret hx hb hr (fun t ht hW => ⟨rfl, ?_, ht⟩) (fun q h => by cases h) d_Arr_checkLength_37
  trivial
set_option maxHeartbeats 1000000 in
set_option maxRecDepth 100000 in
theorem c_Arr_corb_l (l : Launch) (dC : Nat → ClassId) (dI : Nat → Nat → Nat) (sz : Nat) (ad : Nat → Nat) (av : Nat → Nat) (i : Nat) (a : Nat) (b : Nat) (hi : i < 33) (z1 : s_len.getD i 0 < 2 ^ 31) (z2 : a < b) (z3 : b ≤ s_len.getD i 0) (z4 : b - a ≤ 8) : Met l y_Arr_copyOfRangeByte w_Arr_copyOfRangeByte ({ frames := 1, cells := 1, slots := 8, locals := 64 } : Room) (va_Pc [.ref (av i), .int (nI a), .int (nI b)] (fun U => U.heap.size = sz ∧ va_P (dC, dI) cls_all [] U.heap ∧ va_K (dC, dI) cls_all [] U ∧ va_D (fun _ => True) [] ∧ env0 ad av (va_A [] sz) U U.heap)) (va_Qr (fun (_ : Unit) => True) (fun _ ra t => ∃ (k_ret' : ClassId), (True) ∧ va_P (dC, dI) cls_all [ic ra k_ret' (b - a) (va_cpy (fun j => (s_byt.getD i []).getD j 0) (fun _ => 0) a 0 (b - a))] t.heap ∧ va_K (dC, dI) cls_all [(k_ret', .byte)] t ∧ va_D (va_A [] sz) [ic ra k_ret' (b - a) (va_cpy (fun j => (s_byt.getD i []).getD j 0) (fun _ => 0) a 0 (b - a))]) (va_A [] sz)) 1 8 (va_A [] sz) := by
  refine Met.ofW (cc := b_Arr_copyOfRangeByte) (maxL := 5) (ret := (some (.array .byte))) (by decide) rfl ?_
  intro p e s m args below meth c s₁ B hml hv
  obtain ⟨rfl, hsz, hP, hK, hD0, henv⟩ := hv
  have hx := B.exec
  have hb := B.bytes
  have hr := B.returns
  have hT : ∀ w ∈ lw_good, w.before _ s = true := fun w h => atoms_spec (ws := w_Arr_copyOfRangeByte) B.pre w (List.mem_cons_of_mem _ h)
  have hown : s.vm.findClass R_Arr = some m.cls := findClass_of_methodNamed B.named
  have hlocks := B.notSynchronized
  subst hsz
  have hD := hD0.self (sz := s.heap.size)
  generalize hAe : va_A [] s.heap.size = A at hD henv ⊢
  have hA : ∀ q : Nat, s.heap.size ≤ q → A q := fun q h => by rw [← hAe]; exact Or.inr h
  have hS : va_S A s.heap s.heap [] := va_S.rf
  have hP : va_P (dC, dI) cls_all [] s.heap := hP
  have hl := lv_entry ([.ref (av i), .int (nI a), .int (nI b)]) (n := 5) (Nat.le_of_ble_eq_true rfl)
  rw [lg_entry_eq]
  generalize (lg_sl ([.ref (av i), .int (nI a), .int (nI b)]) ++ List.replicate (5 - (lg_sl ([.ref (av i), .int (nI a), .int (nI b)])).length) Slot.unset).toArray = ls at hl ⊢
  have hl : lv_has ls 5 [(0, .ref (av i)), (1, .int (nI a)), (2, .int (nI b))] := hl
  refine lv_iload_n hx hb d_Arr_copyOfRangeByte_0 rfl (lv_at hl 1 rfl) ?_
  refine lv_iload_n hx hb d_Arr_copyOfRangeByte_1 rfl (lv_at hl 2 rfl) ?_
  have hPc := hP.sub (ws' := []) [] rfl
  have hKc := hK.sub (tys' := []) [] rfl
  refine va_csv (va_Run.run (va_runS (As := [.int (nI a), .int (nI b)]) (rest := []) ⟨hx, hb, hml, hown, hT⟩ (c_Arr_checkLength l dC dI (p1 := (nI a)) (p2 := (nI b)) (h1 := (nI_le (by omega) (by omega)))) (va_cwS 2 hT (gS ml_Arr_343 st_Arr_checkLength ini_Arr co_Arr_checkLength) rfl rfl rfl (by decide +kernel) ⟨Nat.le_of_ble_eq_true rfl, Nat.le_of_ble_eq_true rfl⟩) ⟨fbS, fun U hU hW => ⟨rfl, by rw [hU]; exact hPc, va_K.moved hW.alike hKc⟩⟩ rfl rfl hl.1 rfl (lv_room (Nat.le_of_ble_eq_true rfl)) d_Arr_copyOfRangeByte_2 ⟨Nat.le_of_ble_eq_true rfl, Nat.le_of_ble_eq_true rfl⟩)) (fun hr1 => ?_)
  refine lv_iload_n hx hb d_Arr_copyOfRangeByte_5 rfl (lv_at hl 2 rfl) ?_
  refine lv_iload_n hx hb d_Arr_copyOfRangeByte_6 rfl (lv_at hl 1 rfl) ?_
  refine lv_isub hx hb d_Arr_copyOfRangeByte_7 ?_
  refine lv_topi (fun x2 e2 => ?_)
  obtain rfl : x2 = nI (b - a) := e2.trans (pk_sub (a := b) (b := a) (by omega))
  refine lv_istore_n (lv' := [(3, .int (nI (b - a))), (0, .ref (av i)), (1, .int (nI a)), (2, .int (nI b))]) hx hb d_Arr_copyOfRangeByte_8 rfl hl (by decide) rfl (fun ls hl => ?_)
  refine lv_iload_n hx hb d_Arr_copyOfRangeByte_9 rfl (lv_at hl 0 rfl) ?_
  have hmxq3 : (b - a) ≤ 8 := by omega
  refine va_newa (atype := .byte) (a0 := ((b - a), .inl (fun _ => 0))) hx hb (hT _ ac_byte) rfl hK hP hD hS hA (fun _ => rfl) (nI_pos (by omega)) (N' := (b - a)) (nI_clamp (by omega)) (show (b - a) * 1 ≤ 536870912 by omega) (Nat.le_of_ble_eq_true rfl) (show 0 + (b - a) ≤ 8 by omega) d_Arr_copyOfRangeByte_10 (fun q3 k3 H hK hP hD hS => ?_)
  have hP : va_P (dC, dI) cls_all [ic q3 k3 (b - a) (fun _ => 0)] H := hP
  have hD : va_D A [ic q3 k3 (b - a) (fun _ => 0)] := hD
  have hK : va_K (dC, dI) cls_all [(k3, .byte)] s := hK
  refine W.widen (k := 1) (n := 8) (Nat.le_refl _) (show 0 + (b - a) ≤ 8 by omega) ?_
  refine lv_astore (lv' := [(4, .ref q3), (3, .int (nI (b - a))), (0, .ref (av i)), (1, .int (nI a)), (2, .int (nI b))]) hx hb d_Arr_copyOfRangeByte_12 hl (by decide) rfl (fun ls hl => ?_)
  refine lv_aload_n hx hb d_Arr_copyOfRangeByte_14 rfl (lv_at hl 2 rfl) ?_
  refine lv_iload_n hx hb d_Arr_copyOfRangeByte_15 rfl (lv_at hl 3 rfl) ?_
  refine lv_aload hx hb d_Arr_copyOfRangeByte_16 (lv_at hl 0 rfl) ?_
  refine lv_iconst (v := 0) hx hb d_Arr_copyOfRangeByte_18 (by decide) ?_
  refine lv_aload_n hx hb d_Arr_copyOfRangeByte_19 rfl (lv_at hl 2 rfl) ?_
  refine va_tlen (v := nI (s_len.getD i 0)) hx hb (env_byt henv hi) hS rfl d_Arr_copyOfRangeByte_20 ?_
  refine lv_iload_n hx hb d_Arr_copyOfRangeByte_21 rfl (lv_at hl 3 rfl) ?_
  refine lv_isub hx hb d_Arr_copyOfRangeByte_22 ?_
  refine lv_topi (fun x4 e4 => ?_)
  obtain rfl : x4 = nI ((s_len.getD i 0) - a) := e4.trans (pk_sub (a := (s_len.getD i 0)) (b := a) (by omega))
  refine lv_iload_n hx hb d_Arr_copyOfRangeByte_23 rfl (lv_at hl 1 rfl) ?_
  refine va_mmin hx hb (hml.trans hl.1.symm) hown (hT _ ml_Arr_304) (hT _ st_Math_min) (hT _ ini_Math) (hT _ co_Math_min) (Nat.le_of_ble_eq_true rfl) (Nat.le_of_ble_eq_true rfl) (Nat.le_of_ble_eq_true rfl) (Nat.le_of_ble_eq_true rfl) d_Arr_copyOfRangeByte_24 ?_
  refine lv_topi (fun x5 e5 => ?_)
  obtain rfl : x5 = nI (b - a) := e5.trans (n_min (by omega) (by omega))
  refine vk_copyt hx hb (hml.trans hl.1.symm) hown (hT _ ml_Arr_150) (hT _ na_arraycopy) (hT _ st_arraycopy) (hT _ ini_Sys) hK hP hD hS (f := (fun j => (s_byt.getD i []).getD j 0)) (env_byt henv hi) 0 0 rfl rfl (nI_pos (by omega)) (by decide) (nI_pos (by omega)) (by rw [nI_clamp (by omega), nI_clamp (by omega)]; omega) (by rw [nI_clamp (by omega)]; exact Nat.le_of_eq (Nat.zero_add _)) (fun k hk => by rw [nI_clamp (by omega)] at hk ⊢; exact s_fit i hi _ (by omega)) (Nat.le_of_ble_eq_true rfl) (by decide +kernel) d_Arr_copyOfRangeByte_27 (fun H locs hP hD hS => ?_)
  have hP : va_P (dC, dI) cls_all [ic q3 k3 (b - a) (va_cpy (fun j => (s_byt.getD i []).getD j 0) (fun _ => 0) ((nI a) : Int32).toNatClampNeg (0 : Int32).toNatClampNeg ((nI (b - a)) : Int32).toNatClampNeg)] H := hP
  have hD : va_D A [ic q3 k3 (b - a) (va_cpy (fun j => (s_byt.getD i []).getD j 0) (fun _ => 0) ((nI a) : Int32).toNatClampNeg (0 : Int32).toNatClampNeg ((nI (b - a)) : Int32).toNatClampNeg)] := hD
  rw [nI_clamp (n := a) (by omega), nI_clamp (n := b - a) (by omega)] at hP hD
  have hP : va_P (dC, dI) cls_all [ic q3 k3 (b - a) (va_cpy (fun j => (s_byt.getD i []).getD j 0) (fun _ => 0) a 0 (b - a))] H := hP
  have hD : va_D A [ic q3 k3 (b - a) (va_cpy (fun j => (s_byt.getD i []).getD j 0) (fun _ => 0) a 0 (b - a))] := hD
  refine lv_aload hx hb d_Arr_copyOfRangeByte_30 (lv_at hl 0 rfl) ?_
  have hP9 := hP.sub (ws' := [ic q3 k3 (b - a) (va_cpy (fun j => (s_byt.getD i []).getD j 0) (fun _ => 0) a 0 (b - a))]) [0] rfl
  have hD9 := hD.sub (ws' := [ic q3 k3 (b - a) (va_cpy (fun j => (s_byt.getD i []).getD j 0) (fun _ => 0) a 0 (b - a))]) [0] (by decide) rfl
  have hK9 := hK.sub (tys' := [(k3, .byte)]) [0] rfl
  refine W.widen (k := 1) (n := 8) (Nat.le_of_ble_eq_true rfl) (Nat.le_of_ble_eq_true rfl) ?_
  exact W.aret (v := .ref q3) hx hb hr (Or.inr ⟨_, rfl⟩) (Or.inr ⟨_, rfl⟩) (fun t ht hW => ⟨⟨(), q3, rfl, trivial, k3, trivial, by rw [ht]; exact hP9, va_K.moved hW.alike hK9, hD9⟩, hS.F ht⟩) hS.2.2 d_Arr_copyOfRangeByte_32
set_option maxHeartbeats 1000000 in
set_option maxRecDepth 100000 in
theorem c_Arr_cor_l (l : Launch) (dC : Nat → ClassId) (dI : Nat → Nat → Nat) (sz : Nat) (ad : Nat → Nat) (av : Nat → Nat) (i : Nat) (a : Nat) (b : Nat) (hi : i < 33) (z1 : s_len.getD i 0 < 2 ^ 31) (z2 : a < b) (z3 : b ≤ s_len.getD i 0) (z4 : b - a ≤ 8) (z5 : a = 0 → b ≠ s_len.getD i 0) : Met l y_Arr_copyOfRange w_Arr_copyOfRange ({ frames := 2, cells := 1, slots := 8, locals := 88 } : Room) (va_Pc [.ref (av i), .int (nI a), .int (nI b)] (fun U => U.heap.size = sz ∧ va_P (dC, dI) cls_all [] U.heap ∧ va_K (dC, dI) cls_all [] U ∧ va_D (fun _ => True) [] ∧ env0 ad av (va_A [] sz) U U.heap)) (va_Qr (fun (_ : Unit) => True) (fun _ ra t => ∃ (k_ret' : ClassId), (True) ∧ va_P (dC, dI) cls_all [ic ra k_ret' (b - a) (va_cpy (fun j => (s_byt.getD i []).getD j 0) (fun _ => 0) a 0 (b - a))] t.heap ∧ va_K (dC, dI) cls_all [(k_ret', .byte)] t ∧ va_D (va_A [] sz) [ic ra k_ret' (b - a) (va_cpy (fun j => (s_byt.getD i []).getD j 0) (fun _ => 0) a 0 (b - a))]) (va_A [] sz)) 1 8 (va_A [] sz) := by
  refine Met.ofW (cc := b_Arr_copyOfRange) (maxL := 3) (ret := (some (.array .byte))) (by decide) rfl ?_
  intro p e s m args below meth c s₁ B hml hv
  obtain ⟨rfl, hsz, hP, hK, hD0, henv⟩ := hv
  have hx := B.exec
  have hb := B.bytes
  have hr := B.returns
  have hT : ∀ w ∈ lw_good, w.before _ s = true := fun w h => atoms_spec (ws := w_Arr_copyOfRange) B.pre w (List.mem_cons_of_mem _ h)
  have hown : s.vm.findClass R_Arr = some m.cls := findClass_of_methodNamed B.named
  have hlocks := B.notSynchronized
  subst hsz
  have hD := hD0.self (sz := s.heap.size)
  generalize hAe : va_A [] s.heap.size = A at hD henv ⊢
  have hA : ∀ q : Nat, s.heap.size ≤ q → A q := fun q h => by rw [← hAe]; exact Or.inr h
  have hS : va_S A s.heap s.heap [] := va_S.rf
  have hP : va_P (dC, dI) cls_all [] s.heap := hP
  have hl := lv_entry ([.ref (av i), .int (nI a), .int (nI b)]) (n := 3) (Nat.le_of_ble_eq_true rfl)
  rw [lg_entry_eq]
  generalize (lg_sl ([.ref (av i), .int (nI a), .int (nI b)]) ++ List.replicate (3 - (lg_sl ([.ref (av i), .int (nI a), .int (nI b)])).length) Slot.unset).toArray = ls at hl ⊢
  have hl : lv_has ls 3 [(0, .ref (av i)), (1, .int (nI a)), (2, .int (nI b))] := hl
  refine lv_iload_n hx hb d_Arr_copyOfRange_0 rfl (lv_at hl 1 rfl) ?_
  refine lv_if_ne (tgt := 10) hx hb d_Arr_copyOfRange_1 (by decide) (fun c1 => ?_) (fun c1 => ?_)
  · refine lv_aload_n hx hb d_Arr_copyOfRange_10 rfl (lv_at hl 0 rfl) ?_
    refine lv_iload_n hx hb d_Arr_copyOfRange_11 rfl (lv_at hl 1 rfl) ?_
    refine lv_iload_n hx hb d_Arr_copyOfRange_12 rfl (lv_at hl 2 rfl) ?_
    have hPc := hP.sub (ws' := []) [] rfl
    have hKc := hK.sub (tys' := []) [] rfl
    have hDc := hD.sub (ws' := []) [] (by decide) rfl
    have hFc := va_free (wc := []) hD hS hA [] rfl
    refine va_callr (va_runS (As := [.ref (av i), .int (nI a), .int (nI b)]) (rest := []) ⟨hx, hb, hml, hown, hT⟩ (c_Arr_corb_l l dC dI (sz := s.heap.size) (ad := ad) (av := av) (i := i) (a := a) (b := b) (hi := hi) (z1 := (by first | assumption | (subst_vars; decide) | omega)) (z2 := (by first | assumption | (subst_vars; decide) | omega)) (z3 := (by first | assumption | (subst_vars; decide) | omega)) (z4 := (by first | assumption | (subst_vars; decide) | omega))) (va_cwS 3 hT (gS ml_Arr_339 st_Arr_copyOfRangeByte ini_Arr co_Arr_copyOfRangeByte) rfl rfl rfl (by decide +kernel) ⟨Nat.le_of_ble_eq_true rfl, Nat.le_of_ble_eq_true rfl⟩) ⟨fbQe, fun U hU hW => ⟨rfl, by rw [hU], by rw [hU]; exact hPc, va_K.moved hW.alike hKc, hDc.weaken (fun _ _ _ _ => trivial), env0.hand henv hS hU hW hFc⟩⟩ rfl rfl hl.1 rfl (lv_room (Nat.le_of_ble_eq_true rfl)) d_Arr_copyOfRange_13 ⟨Nat.le_of_ble_eq_true rfl, Nat.le_of_ble_eq_true rfl⟩) hS (fun q _ h => hFc q h) hFc (fun u ra2  t H1 locs ht hvm hw hB hz1 hk1 hS => ?_)
    obtain ⟨k_ret_2, hw2_0, hP1, hK1, hD1⟩ := hB
    rw [ht] at hP1
    have hK1 := va_K.moved hvm.symm hK1
    obtain ⟨hP, hD⟩ := va_join (wr := []) (w1 := [ic ra2 k_ret_2 (b - a) (va_cpy (fun j => (s_byt.getD i []).getD j 0) (fun _ => 0) a 0 (b - a))]) hP hD [] [] rfl rfl (by decide) (by decide) hk1 hFc hP1 hD1
    generalize H1 = H at hP hS ⊢
    have hP : va_P (dC, dI) cls_all [ic ra2 k_ret_2 (b - a) (va_cpy (fun j => (s_byt.getD i []).getD j 0) (fun _ => 0) a 0 (b - a))] H := hP
    have hD : va_D A [ic ra2 k_ret_2 (b - a) (va_cpy (fun j => (s_byt.getD i []).getD j 0) (fun _ => 0) a 0 (b - a))] := hD
    have hK : va_K (dC, dI) cls_all [(k_ret_2, .byte)] s := hK.app hK1
    refine W.widen (k := 1) (n := 8) (Nat.le_of_ble_eq_true rfl) (Nat.le_of_ble_eq_true rfl) ?_
    have hP9 := hP.sub (ws' := [ic ra2 k_ret_2 (b - a) (va_cpy (fun j => (s_byt.getD i []).getD j 0) (fun _ => 0) a 0 (b - a))]) [0] rfl
    have hD9 := hD.sub (ws' := [ic ra2 k_ret_2 (b - a) (va_cpy (fun j => (s_byt.getD i []).getD j 0) (fun _ => 0) a 0 (b - a))]) [0] (by decide) rfl
    have hK9 := hK.sub (tys' := [(k_ret_2, .byte)]) [0] rfl
    refine W.widen (k := 1) (n := 8) (Nat.le_of_ble_eq_true rfl) (Nat.le_of_ble_eq_true rfl) ?_
    exact W.aret (v := .ref ra2) hx hb hr (Or.inr ⟨_, rfl⟩) (Or.inr ⟨_, rfl⟩) (fun t ht hW => ⟨⟨(), ra2, rfl, trivial, k_ret_2, trivial, by rw [ht]; exact hP9, va_K.moved hW.alike hK9, hD9⟩, hS.F ht⟩) hS.2.2 d_Arr_copyOfRange_16
  · refine lv_iload_n hx hb d_Arr_copyOfRange_4 rfl (lv_at hl 2 rfl) ?_
    refine lv_aload_n hx hb d_Arr_copyOfRange_5 rfl (lv_at hl 0 rfl) ?_
    refine va_tlen (v := nI (s_len.getD i 0)) hx hb (env_byt henv hi) hS rfl d_Arr_copyOfRange_6 ?_
    refine lv_icmp_eq (tgt := 17) hx hb d_Arr_copyOfRange_7 (by decide) (fun c3 => absurd c3 (nI_ne (z5 (Nat.eq_of_beq_eq_true (by have := c1; simp only [i_eq, nI_toInt (show a < 2 ^ 31 by omega), Int32.reduceToInt] at this; simp; omega))) (by omega) (by omega))) (fun c3 => ?_)
    refine lv_aload_n hx hb d_Arr_copyOfRange_10 rfl (lv_at hl 0 rfl) ?_
    refine lv_iload_n hx hb d_Arr_copyOfRange_11 rfl (lv_at hl 1 rfl) ?_
    refine lv_iload_n hx hb d_Arr_copyOfRange_12 rfl (lv_at hl 2 rfl) ?_
    have hPc := hP.sub (ws' := []) [] rfl
    have hKc := hK.sub (tys' := []) [] rfl
    have hDc := hD.sub (ws' := []) [] (by decide) rfl
    have hFc := va_free (wc := []) hD hS hA [] rfl
    refine va_callr (va_runS (As := [.ref (av i), .int (nI a), .int (nI b)]) (rest := []) ⟨hx, hb, hml, hown, hT⟩ (c_Arr_corb_l l dC dI (sz := s.heap.size) (ad := ad) (av := av) (i := i) (a := a) (b := b) (hi := hi) (z1 := (by first | assumption | (subst_vars; decide) | omega)) (z2 := (by first | assumption | (subst_vars; decide) | omega)) (z3 := (by first | assumption | (subst_vars; decide) | omega)) (z4 := (by first | assumption | (subst_vars; decide) | omega))) (va_cwS 3 hT (gS ml_Arr_339 st_Arr_copyOfRangeByte ini_Arr co_Arr_copyOfRangeByte) rfl rfl rfl (by decide +kernel) ⟨Nat.le_of_ble_eq_true rfl, Nat.le_of_ble_eq_true rfl⟩) ⟨fbQe, fun U hU hW => ⟨rfl, by rw [hU], by rw [hU]; exact hPc, va_K.moved hW.alike hKc, hDc.weaken (fun _ _ _ _ => trivial), env0.hand henv hS hU hW hFc⟩⟩ rfl rfl hl.1 rfl (lv_room (Nat.le_of_ble_eq_true rfl)) d_Arr_copyOfRange_13 ⟨Nat.le_of_ble_eq_true rfl, Nat.le_of_ble_eq_true rfl⟩) hS (fun q _ h => hFc q h) hFc (fun u ra4  t H1 locs ht hvm hw hB hz1 hk1 hS => ?_)
    obtain ⟨k_ret_4, hw4_0, hP1, hK1, hD1⟩ := hB
    rw [ht] at hP1
    have hK1 := va_K.moved hvm.symm hK1
    obtain ⟨hP, hD⟩ := va_join (wr := []) (w1 := [ic ra4 k_ret_4 (b - a) (va_cpy (fun j => (s_byt.getD i []).getD j 0) (fun _ => 0) a 0 (b - a))]) hP hD [] [] rfl rfl (by decide) (by decide) hk1 hFc hP1 hD1
    generalize H1 = H at hP hS ⊢
    have hP : va_P (dC, dI) cls_all [ic ra4 k_ret_4 (b - a) (va_cpy (fun j => (s_byt.getD i []).getD j 0) (fun _ => 0) a 0 (b - a))] H := hP
    have hD : va_D A [ic ra4 k_ret_4 (b - a) (va_cpy (fun j => (s_byt.getD i []).getD j 0) (fun _ => 0) a 0 (b - a))] := hD
    have hK : va_K (dC, dI) cls_all [(k_ret_4, .byte)] s := hK.app hK1
    refine W.widen (k := 1) (n := 8) (Nat.le_of_ble_eq_true rfl) (Nat.le_of_ble_eq_true rfl) ?_
    have hP9 := hP.sub (ws' := [ic ra4 k_ret_4 (b - a) (va_cpy (fun j => (s_byt.getD i []).getD j 0) (fun _ => 0) a 0 (b - a))]) [0] rfl
    have hD9 := hD.sub (ws' := [ic ra4 k_ret_4 (b - a) (va_cpy (fun j => (s_byt.getD i []).getD j 0) (fun _ => 0) a 0 (b - a))]) [0] (by decide) rfl
    have hK9 := hK.sub (tys' := [(k_ret_4, .byte)]) [0] rfl
    refine W.widen (k := 1) (n := 8) (Nat.le_of_ble_eq_true rfl) (Nat.le_of_ble_eq_true rfl) ?_
    exact W.aret (v := .ref ra4) hx hb hr (Or.inr ⟨_, rfl⟩) (Or.inr ⟨_, rfl⟩) (fun t ht hW => ⟨⟨(), ra4, rfl, trivial, k_ret_4, trivial, by rw [ht]; exact hP9, va_K.moved hW.alike hK9, hD9⟩, hS.F ht⟩) hS.2.2 d_Arr_copyOfRange_16
set_option maxHeartbeats 1000000 in
set_option maxRecDepth 100000 in
theorem c_Str_init (l : Launch) (dC : Nat → ClassId) (dI : Nat → Nat → Nat) (sz : Nat) (h_this : Nat) (p1 : Nat) : Met l y_Str_init w_Str_init ({ frames := 1, cells := 0, slots := 0, locals := 12 } : Room) (va_Pc [.ref h_this, .ref p1, .int 0] (fun U => U.heap.size = sz ∧ va_P (dC, dI) cls_all [oc h_this 13 ([.null, .int 0, .int 0, .int 0] : List Value)] U.heap ∧ va_K (dC, dI) cls_all [] U ∧ va_D (fun _ => True) [oc h_this 13 ([.null, .int 0, .int 0, .int 0] : List Value)])) (va_Qv (fun (_ : Unit) => True) (fun _ t => (True) ∧ va_P (dC, dI) cls_all [oc h_this 13 ([.ref p1, .int 0, .int 0, .int 0] : List Value)] t.heap ∧ va_K (dC, dI) cls_all [] t ∧ va_D (va_A [oc h_this 13 ([.null, .int 0, .int 0, .int 0] : List Value)] sz) [oc h_this 13 ([.ref p1, .int 0, .int 0, .int 0] : List Value)]) (va_A [oc h_this 13 ([.null, .int 0, .int 0, .int 0] : List Value)] sz)) 0 0 (va_A [oc h_this 13 ([.null, .int 0, .int 0, .int 0] : List Value)] sz) := by
  refine Met.ofW (cc := b_Str_init) (maxL := 3) (ret := none) (by decide) rfl ?_
  intro p e s m args below meth c s₁ B hml hv
  obtain ⟨rfl, hsz, hP, hK, hD0⟩ := hv
  have hx := B.exec
  have hb := B.bytes
  have hr := B.returns
  have hT : ∀ w ∈ lw_good, w.before _ s = true := fun w h => atoms_spec (ws := w_Str_init) B.pre w (List.mem_cons_of_mem _ h)
  have hown : s.vm.findClass R_Str = some m.cls := findClass_of_methodNamed B.named
  have hlocks := B.notSynchronized
  have hin : meth.name = "<init>" := (name_of_methodNamed B.named B.method).1
  subst hsz
  have hD := hD0.self (sz := s.heap.size)
  generalize hAe : va_A [oc h_this 13 ([.null, .int 0, .int 0, .int 0] : List Value)] s.heap.size = A at hD ⊢
  have hA : ∀ q : Nat, s.heap.size ≤ q → A q := fun q h => by rw [← hAe]; exact Or.inr h
  have hS : va_S A s.heap s.heap [] := va_S.rf
  have hP : va_P (dC, dI) cls_all [oc h_this 13 ([.null, .int 0, .int 0, .int 0] : List Value)] s.heap := hP
  have hl := lv_entry ([.ref h_this, .ref p1, .int 0]) (n := 3) (Nat.le_of_ble_eq_true rfl)
  rw [lg_entry_eq]
  generalize (lg_sl ([.ref h_this, .ref p1, .int 0]) ++ List.replicate (3 - (lg_sl ([.ref h_this, .ref p1, .int 0])).length) Slot.unset).toArray = ls at hl ⊢
  have hl : lv_has ls 3 [(0, .ref h_this), (1, .ref p1), (2, .int 0)] := hl
  refine lv_aload_n hx hb d_Str_init_0 rfl (lv_at hl 0 rfl) ?_
  refine W.objInit hx hb hown (hT _ ml_Str_1) (hT _ im_objectInit) (hT _ co_objectInit) rfl (by rw [hml]; exact hl.1) rfl d_Str_init_1 (Nat.le_of_ble_eq_true rfl) (Nat.le_of_ble_eq_true rfl) ?_
  refine W.eq (g2 := F0 m 4 ls []) rfl ?_
  refine lv_aload_n hx hb d_Str_init_4 rfl (lv_at hl 0 rfl) ?_
  refine lv_aload_n hx hb d_Str_init_5 rfl (lv_at hl 1 rfl) ?_
  refine va_putF (D := (dC, dI)) (ci := 13) (v := .ref p1) (ty := .array .byte) (C := R_Str) (T := F_Str) (N := 4) hx hb hT i_Str t_Str t_Str_ok n_Str hown hK hP hD hS 0 rfl rfl 0 (by decide) (hT _ fl_Str_9) (fun _ h9 => h9) rfl hin rfl (by decide +kernel) rfl rfl (Nat.le_of_ble_eq_true rfl) d_Str_init_6 (fun H locs hP hD hS => ?_)
  have hP : va_P (dC, dI) cls_all [oc h_this 13 ([.ref p1, .int 0, .int 0, .int 0] : List Value)] H := hP
  have hD : va_D A [oc h_this 13 ([.ref p1, .int 0, .int 0, .int 0] : List Value)] := hD
  refine lv_aload_n hx hb d_Str_init_9 rfl (lv_at hl 0 rfl) ?_
  refine lv_iload_n hx hb d_Str_init_10 rfl (lv_at hl 2 rfl) ?_
  refine va_putF (D := (dC, dI)) (ci := 13) (v := .int 0) (ty := .byte) (C := R_Str) (T := F_Str) (N := 4) hx hb hT i_Str t_Str t_Str_ok n_Str hown hK hP hD hS 0 rfl rfl 1 (by decide) (hT _ fl_Str_15) (fun _ h9 => h9) rfl hin rfl (by decide +kernel) rfl rfl (Nat.le_of_ble_eq_true rfl) d_Str_init_11 (fun H locs hP hD hS => ?_)
  have hP : va_P (dC, dI) cls_all [oc h_this 13 ([.ref p1, .int 0, .int 0, .int 0] : List Value)] H := hP
  have hD : va_D A [oc h_this 13 ([.ref p1, .int 0, .int 0, .int 0] : List Value)] := hD
  have hP9 := hP.sub (ws' := [oc h_this 13 ([.ref p1, .int 0, .int 0, .int 0] : List Value)]) [0] rfl
  have hD9 := hD.sub (ws' := [oc h_this 13 ([.ref p1, .int 0, .int 0, .int 0] : List Value)]) [0] (by decide) rfl
  have hK9 := hK.sub (tys' := []) [] rfl
  have hv1 : ([.ref p1, .int 0, .int 0, .int 0] : List Value)[0]? = some (.ref p1) := rfl
  have hv2 : ([.ref p1, .int 0, .int 0, .int 0] : List Value)[1]? = some (.int 0) := rfl
  have hv3 : ([.ref p1, .int 0, .int 0, .int 0] : List Value)[2]? = some (.int 0) := rfl
  have hv4 : ([.ref p1, .int 0, .int 0, .int 0] : List Value)[3]? = some (.int 0) := rfl
  exact W.vret hx hb hr (fun t ht hW => ⟨⟨(), rfl, trivial, trivial, by rw [ht]; exact hP9, va_K.moved hW.alike hK9, hD9⟩, hS.F ht⟩) hS.2.2 d_Str_init_14
set_option maxHeartbeats 1000000 in
set_option maxRecDepth 100000 in
theorem c_Lat_new_l (l : Launch) (dC : Nat → ClassId) (dI : Nat → Nat → Nat) (sz : Nat) (ad : Nat → Nat) (av : Nat → Nat) (i : Nat) (a : Nat) (n : Nat) (hi : i < 33) (z1 : s_len.getD i 0 < 2 ^ 31) (z2 : 0 < n) (z3 : a + n ≤ s_len.getD i 0) (z4 : n ≤ 8) (z5 : a = 0 → a + n ≠ s_len.getD i 0) : Met l y_Lat_newString w_Lat_newString ({ frames := 3, cells := 2, slots := 12, locals := 110 } : Room) (va_Pc [.ref (av i), .int (nI a), .int (nI n)] (fun U => U.heap.size = sz ∧ va_P (dC, dI) cls_all [] U.heap ∧ va_K (dC, dI) cls_all [] U ∧ va_D (fun _ => True) [] ∧ env0 ad av (va_A [] sz) U U.heap)) (va_Qr (fun (_ : Unit) => True) (fun _ ra t => ∃ (fs_ret' : List Value) (h_ret_value' : Nat) (k_ret_value' : ClassId), (fs_ret'.length = 4 ∧ fs_ret'[0]? = some (.ref (h_ret_value')) ∧ fs_ret'[1]? = some (.int (0)) ∧ fs_ret'[2]? = some (.int (0)) ∧ fs_ret'[3]? = some (.int (0))) ∧ va_P (dC, dI) cls_all [oc ra 13 fs_ret', ic h_ret_value' k_ret_value' (a + n - a) (va_cpy (fun j => (s_byt.getD i []).getD j 0) (fun _ => 0) a 0 (a + n - a))] t.heap ∧ va_K (dC, dI) cls_all [(k_ret_value', .byte)] t ∧ va_D (va_A [] sz) [oc ra 13 fs_ret', ic h_ret_value' k_ret_value' (a + n - a) (va_cpy (fun j => (s_byt.getD i []).getD j 0) (fun _ => 0) a 0 (a + n - a))]) (va_A [] sz)) 2 12 (va_A [] sz) := by
  refine Met.ofW (cc := b_Lat_newString) (maxL := 3) (ret := (some (.object "java/lang/String"))) (by decide) rfl ?_
  intro p e s m args below meth c s₁ B hml hv
  obtain ⟨rfl, hsz, hP, hK, hD0, henv⟩ := hv
  have hx := B.exec
  have hb := B.bytes
  have hr := B.returns
  have hT : ∀ w ∈ lw_good, w.before _ s = true := fun w h => atoms_spec (ws := w_Lat_newString) B.pre w (List.mem_cons_of_mem _ h)
  have hown : s.vm.findClass R_Lat = some m.cls := findClass_of_methodNamed B.named
  have hlocks := B.notSynchronized
  subst hsz
  have hD := hD0.self (sz := s.heap.size)
  generalize hAe : va_A [] s.heap.size = A at hD henv ⊢
  have hA : ∀ q : Nat, s.heap.size ≤ q → A q := fun q h => by rw [← hAe]; exact Or.inr h
  have hS : va_S A s.heap s.heap [] := va_S.rf
  have hP : va_P (dC, dI) cls_all [] s.heap := hP
  have hl := lv_entry ([.ref (av i), .int (nI a), .int (nI n)]) (n := 3) (Nat.le_of_ble_eq_true rfl)
  rw [lg_entry_eq]
  generalize (lg_sl ([.ref (av i), .int (nI a), .int (nI n)]) ++ List.replicate (3 - (lg_sl ([.ref (av i), .int (nI a), .int (nI n)])).length) Slot.unset).toArray = ls at hl ⊢
  have hl : lv_has ls 3 [(0, .ref (av i)), (1, .int (nI a)), (2, .int (nI n))] := hl
  refine lv_iload_n hx hb d_Lat_newString_0 rfl (lv_at hl 2 rfl) ?_
  refine lv_if_ne (tgt := 7) hx hb d_Lat_newString_1 (by decide) (fun c1 => ?_) (fun c1 => absurd c1 (nI_ne0 z2 (by omega)))
  refine va_new (ci := 13) (fs := ([.null, .int 0, .int 0, .int 0] : List Value)) (C := R_Str) (T := F_Str) (N := 4) hx hb hT i_Str t_Str t_Str_ok hown (hT _ cl_Lat_1) (hT _ ia_Str) (hT _ ini_Str) hK hP hD hS hA rfl (fv_lt (by decide +kernel)) (Nat.le_of_ble_eq_true rfl) (Nat.le_of_ble_eq_true rfl) d_Lat_newString_7 (fun q2 H hP hD hS => ?_)
  have hP : va_P (dC, dI) cls_all [oc q2 13 ([.null, .int 0, .int 0, .int 0] : List Value)] H := hP
  have hD : va_D A [oc q2 13 ([.null, .int 0, .int 0, .int 0] : List Value)] := hD
  refine W.widen (k := 1) (n := 4) (Nat.le_of_ble_eq_true rfl) (Nat.le_of_ble_eq_true rfl) ?_
  refine lv_dup hx hb d_Lat_newString_10 rfl ?_
  refine lv_aload_n hx hb d_Lat_newString_11 rfl (lv_at hl 0 rfl) ?_
  refine lv_iload_n hx hb d_Lat_newString_12 rfl (lv_at hl 1 rfl) ?_
  refine lv_iload_n hx hb d_Lat_newString_13 rfl (lv_at hl 1 rfl) ?_
  refine lv_iload_n hx hb d_Lat_newString_14 rfl (lv_at hl 2 rfl) ?_
  refine lv_iadd hx hb d_Lat_newString_15 ?_
  refine lv_topi (fun x3 e3 => ?_)
  obtain rfl : x3 = nI (a + n) := e3.trans (nI_add a n)
  have hPc := hP.sub (ws' := []) [] rfl
  have hKc := hK.sub (tys' := []) [] rfl
  have hDc := hD.sub (ws' := []) [] (by decide) rfl
  have hFc := va_free (wc := []) hD hS hA [] rfl
  refine va_callr (va_runS (As := [.ref (av i), .int (nI a), .int (nI (a + n))]) (rest := [.ref q2, .ref q2]) ⟨hx, hb, hml, hown, hT⟩ (c_Arr_cor_l l dC dI (sz := H.size) (ad := ad) (av := av) (i := i) (a := a) (b := (a + n)) (hi := hi) (z1 := (by first | assumption | (subst_vars; decide) | omega)) (z2 := (by first | assumption | (subst_vars; decide) | omega)) (z3 := (by first | assumption | (subst_vars; decide) | omega)) (z4 := (by first | assumption | (subst_vars; decide) | omega)) (z5 := (by first | assumption | (subst_vars; decide) | omega))) (va_cwS 3 hT (gS ml_Lat_232 st_Arr_copyOfRange ini_Arr co_Arr_copyOfRange) rfl rfl rfl (by decide +kernel) ⟨Nat.le_of_ble_eq_true rfl, Nat.le_of_ble_eq_true rfl⟩) ⟨fbQe, fun U hU hW => ⟨rfl, by rw [hU], by rw [hU]; exact hPc, va_K.moved hW.alike hKc, hDc.weaken (fun _ _ _ _ => trivial), env0.hand henv hS hU hW hFc⟩⟩ rfl rfl hl.1 rfl (lv_room (Nat.le_of_ble_eq_true rfl)) d_Lat_newString_16 ⟨Nat.le_of_ble_eq_true rfl, Nat.le_of_ble_eq_true rfl⟩) hS (fun q _ h => hFc q h) hFc (fun u ra4  t H1 locs ht hvm hw hB hz1 hk1 hS => ?_)
  obtain ⟨k_ret_4, hw4_0, hP1, hK1, hD1⟩ := hB
  rw [ht] at hP1
  have hK1 := va_K.moved hvm.symm hK1
  obtain ⟨hP, hD⟩ := va_join (wr := [oc q2 13 ([.null, .int 0, .int 0, .int 0] : List Value)]) (w1 := [ic ra4 k_ret_4 ((a + n) - a) (va_cpy (fun j => (s_byt.getD i []).getD j 0) (fun _ => 0) a 0 ((a + n) - a))]) hP hD [] [0] rfl rfl (by decide) (by decide) hk1 hFc hP1 hD1
  generalize H1 = H at hP hS ⊢
  have hP : va_P (dC, dI) cls_all [oc q2 13 ([.null, .int 0, .int 0, .int 0] : List Value), ic ra4 k_ret_4 ((a + n) - a) (va_cpy (fun j => (s_byt.getD i []).getD j 0) (fun _ => 0) a 0 ((a + n) - a))] H := hP
  have hD : va_D A [oc q2 13 ([.null, .int 0, .int 0, .int 0] : List Value), ic ra4 k_ret_4 ((a + n) - a) (va_cpy (fun j => (s_byt.getD i []).getD j 0) (fun _ => 0) a 0 ((a + n) - a))] := hD
  have hK : va_K (dC, dI) cls_all [(k_ret_4, .byte)] s := hK.app hK1
  refine W.widen (k := 2) (n := 12) (Nat.le_of_ble_eq_true rfl) (Nat.le_of_ble_eq_true rfl) ?_
  refine lv_iconst (v := 0) hx hb d_Lat_newString_19 (by decide) ?_
  have hPc := hP.sub (ws' := [oc q2 13 ([.null, .int 0, .int 0, .int 0] : List Value)]) [0] rfl
  have hKc := hK.sub (tys' := []) [] rfl
  have hDc := hD.sub (ws' := [oc q2 13 ([.null, .int 0, .int 0, .int 0] : List Value)]) [0] (by decide) rfl
  have hFc := va_free (wc := [oc q2 13 ([.null, .int 0, .int 0, .int 0] : List Value)]) hD hS hA [0] rfl
  refine va_callv (va_runI (As := [.ref ra4, .int 0]) (rest := [.ref q2]) ⟨hx, hb, hml, hown, hT⟩ (c_Str_init l dC dI (sz := H.size) (h_this := q2) (p1 := ra4) ) (cwI 2 hT (good_c co_Str_init) rfl rfl rfl (hT _ ini_Str) (hT _ ml_Lat_112) (hT _ im_Str_init) rfl (by decide +kernel) ⟨Nat.le_of_ble_eq_true rfl, Nat.le_of_ble_eq_true rfl⟩) ⟨fbQ, fun U hU hW => ⟨rfl, by rw [hU], by rw [hU]; exact hPc, va_K.moved hW.alike hKc, hDc.weaken (fun _ _ _ _ => trivial)⟩⟩ rfl rfl hl.1 rfl (lv_room (Nat.le_of_ble_eq_true rfl)) d_Lat_newString_20 ⟨Nat.le_of_ble_eq_true rfl, Nat.le_of_ble_eq_true rfl⟩) hS (fun q _ h => hFc q h) hFc (fun u t H1 locs ht hvm hw hB hz1 hk1 hS => ?_)
  obtain ⟨hw5_0, hP1, hK1, hD1⟩ := hB
  rw [ht] at hP1
  have hK1 := va_K.moved hvm.symm hK1
  obtain ⟨hP, hD⟩ := va_join (wr := [ic ra4 k_ret_4 ((a + n) - a) (va_cpy (fun j => (s_byt.getD i []).getD j 0) (fun _ => 0) a 0 ((a + n) - a))]) (w1 := [oc q2 13 ([.ref ra4, .int 0, .int 0, .int 0] : List Value)]) hP hD [0] [1] rfl rfl (by decide) (by decide) hk1 hFc hP1 hD1
  generalize H1 = H at hP hS ⊢
  have hP : va_P (dC, dI) cls_all [ic ra4 k_ret_4 ((a + n) - a) (va_cpy (fun j => (s_byt.getD i []).getD j 0) (fun _ => 0) a 0 ((a + n) - a)), oc q2 13 ([.ref ra4, .int 0, .int 0, .int 0] : List Value)] H := hP
  have hD : va_D A [ic ra4 k_ret_4 ((a + n) - a) (va_cpy (fun j => (s_byt.getD i []).getD j 0) (fun _ => 0) a 0 ((a + n) - a)), oc q2 13 ([.ref ra4, .int 0, .int 0, .int 0] : List Value)] := hD
  have hP9 := hP.sub (ws' := [oc q2 13 ([.ref ra4, .int 0, .int 0, .int 0] : List Value), ic ra4 k_ret_4 ((a + n) - a) (va_cpy (fun j => (s_byt.getD i []).getD j 0) (fun _ => 0) a 0 ((a + n) - a))]) [1, 0] rfl
  have hD9 := hD.sub (ws' := [oc q2 13 ([.ref ra4, .int 0, .int 0, .int 0] : List Value), ic ra4 k_ret_4 ((a + n) - a) (va_cpy (fun j => (s_byt.getD i []).getD j 0) (fun _ => 0) a 0 ((a + n) - a))]) [1, 0] (by decide) rfl
  have hK9 := hK.sub (tys' := [(k_ret_4, .byte)]) [0] rfl
  have hv6 : ([.ref ra4, .int 0, .int 0, .int 0] : List Value)[0]? = some (.ref ra4) := rfl
  have hv7 : ([.ref ra4, .int 0, .int 0, .int 0] : List Value)[1]? = some (.int 0) := rfl
  have hv8 : ([.ref ra4, .int 0, .int 0, .int 0] : List Value)[2]? = some (.int 0) := rfl
  have hv9 : ([.ref ra4, .int 0, .int 0, .int 0] : List Value)[3]? = some (.int 0) := rfl
  refine W.widen (k := 2) (n := 12) (Nat.le_of_ble_eq_true rfl) (Nat.le_of_ble_eq_true rfl) ?_
  exact W.aret (v := .ref q2) hx hb hr (Or.inl ⟨_, rfl⟩) (Or.inr ⟨_, rfl⟩) (fun t ht hW => ⟨⟨(), q2, rfl, trivial, ([.ref ra4, .int 0, .int 0, .int 0] : List Value), ra4, k_ret_4, ⟨rfl, (by first | exact hv6 | (rw [hv6]; refine congrArg some (congrArg _ ?_); first | (subst_vars; rfl) | (subst_vars; decide) | (simp_all; done) | omega)), (by first | exact hv7 | (rw [hv7]; refine congrArg some (congrArg _ ?_); first | (subst_vars; rfl) | (subst_vars; decide) | (simp_all; done) | omega)), (by first | exact hv8 | (rw [hv8]; refine congrArg some (congrArg _ ?_); first | (subst_vars; rfl) | (subst_vars; decide) | (simp_all; done) | omega)), (by first | exact hv9 | (rw [hv9]; refine congrArg some (congrArg _ ?_); first | (subst_vars; rfl) | (subst_vars; decide) | (simp_all; done) | omega))⟩, by rw [ht]; exact hP9, va_K.moved hW.alike hK9, hD9⟩, hS.F ht⟩) hS.2.2 d_Lat_newString_23
set_option maxHeartbeats 1000000 in
set_option maxRecDepth 100000 in
theorem c_Str_substring_l (l : Launch) (dC : Nat → ClassId) (dI : Nat → Nat → Nat) (sz : Nat) (ad : Nat → Nat) (av : Nat → Nat) (i : Nat) (a : Nat) (b : Nat) (hi : i < 33) (z1 : s_len.getD i 0 < 2 ^ 31) (z2 : a < b) (z3 : b ≤ s_len.getD i 0) (z4 : b - a ≤ 8) (z5 : b ≠ s_len.getD i 0) : Met l y_Str_substring w_Str_substring ({ frames := 4, cells := 2, slots := 12, locals := 132 } : Room) (va_Pc [.ref (ad i), .int (nI a), .int (nI b)] (fun U => U.heap.size = sz ∧ va_P (dC, dI) cls_all [] U.heap ∧ va_K (dC, dI) cls_all [] U ∧ va_D (fun _ => True) [] ∧ env0 ad av (va_A [] sz) U U.heap)) (va_Qr (fun (_ : Unit) => True) (fun _ ra t => ∃ (fs_ret' : List Value) (h_ret_value' : Nat) (k_ret_value' : ClassId), (fs_ret'.length = 4 ∧ fs_ret'[0]? = some (.ref (h_ret_value')) ∧ fs_ret'[1]? = some (.int (0)) ∧ fs_ret'[2]? = some (.int (0)) ∧ fs_ret'[3]? = some (.int (0))) ∧ va_P (dC, dI) cls_all [oc ra 13 fs_ret', ic h_ret_value' k_ret_value' (a + (b - a) - a) (va_cpy (fun j => (s_byt.getD i []).getD j 0) (fun _ => 0) a 0 (a + (b - a) - a))] t.heap ∧ va_K (dC, dI) cls_all [(k_ret_value', .byte)] t ∧ va_D (va_A [] sz) [oc ra 13 fs_ret', ic h_ret_value' k_ret_value' (a + (b - a) - a) (va_cpy (fun j => (s_byt.getD i []).getD j 0) (fun _ => 0) a 0 (a + (b - a) - a))]) (va_A [] sz)) 2 12 (va_A [] sz) := by
  refine Met.ofW (cc := b_Str_substring) (maxL := 5) (ret := (some (.object "java/lang/String"))) (by decide) rfl ?_
  intro p e s m args below meth c s₁ B hml hv
  obtain ⟨rfl, hsz, hP, hK, hD0, henv⟩ := hv
  have hx := B.exec
  have hb := B.bytes
  have hr := B.returns
  have hT : ∀ w ∈ lw_good, w.before _ s = true := fun w h => atoms_spec (ws := w_Str_substring) B.pre w (List.mem_cons_of_mem _ h)
  have hown : s.vm.findClass R_Str = some m.cls := findClass_of_methodNamed B.named
  have hlocks := B.notSynchronized
  subst hsz
  have hD := hD0.self (sz := s.heap.size)
  generalize hAe : va_A [] s.heap.size = A at hD henv ⊢
  have hA : ∀ q : Nat, s.heap.size ≤ q → A q := fun q h => by rw [← hAe]; exact Or.inr h
  have hS : va_S A s.heap s.heap [] := va_S.rf
  have hP : va_P (dC, dI) cls_all [] s.heap := hP
  have hl := lv_entry ([.ref (ad i), .int (nI a), .int (nI b)]) (n := 5) (Nat.le_of_ble_eq_true rfl)
  rw [lg_entry_eq]
  generalize (lg_sl ([.ref (ad i), .int (nI a), .int (nI b)]) ++ List.replicate (5 - (lg_sl ([.ref (ad i), .int (nI a), .int (nI b)])).length) Slot.unset).toArray = ls at hl ⊢
  have hl : lv_has ls 5 [(0, .ref (ad i)), (1, .int (nI a)), (2, .int (nI b))] := hl
  refine lv_aload_n hx hb d_Str_substring_0 rfl (lv_at hl 0 rfl) ?_
  have hPc := hP.sub (ws' := []) [] rfl
  have hKc := hK.sub (tys' := []) [] rfl
  refine vp_callSi (va_Run.run (va_runV (As := []) (rest := []) ⟨hx, hb, hml, hown, hT⟩ (c_Str_length_l l dC dI (ad := ad) (av := av) (i := i) (hi := hi)) (cwV 0 hT (gV ml_Str_505 im_Str_length se_Str_length ini_Str co_Str_length) rfl rfl rfl (by decide +kernel) ⟨Nat.le_of_ble_eq_true rfl, Nat.le_of_ble_eq_true rfl⟩) ⟨fbSe, (env_recv henv hi hS), fun U hU hW => ⟨rfl, by rw [hU]; exact hPc, va_K.moved hW.alike hKc, env0.hand henv hS hU hW (fun q h => h.elim)⟩⟩ rfl rfl hl.1 rfl (lv_room (Nat.le_of_ble_eq_true rfl)) d_Str_substring_1 ⟨Nat.le_of_ble_eq_true rfl, Nat.le_of_ble_eq_true rfl⟩)) (fun r1 hr1 => ?_)
  obtain rfl := hr1
  refine lv_istore_n (lv' := [(3, .int (nI (s_len.getD i 0))), (0, .ref (ad i)), (1, .int (nI a)), (2, .int (nI b))]) hx hb d_Str_substring_4 rfl hl (by decide) rfl (fun ls hl => ?_)
  refine lv_iload_n hx hb d_Str_substring_5 rfl (lv_at hl 2 rfl) ?_
  refine lv_iload_n hx hb d_Str_substring_6 rfl (lv_at hl 3 rfl) ?_
  refine lv_iload_n hx hb d_Str_substring_7 rfl (lv_at hl 0 rfl) ?_
  have hPc := hP.sub (ws' := []) [] rfl
  have hKc := hK.sub (tys' := []) [] rfl
  refine va_csv (va_Run.run (va_runS (As := [.int (nI a), .int (nI b), .int (nI (s_len.getD i 0))]) (rest := []) ⟨hx, hb, hml, hown, hT⟩ (c_Str_checkBoundsBeginEnd l dC dI (ad := ad) (av := av) (p1 := (nI a)) (p2 := (nI b)) (p3 := (nI (s_len.getD i 0))) (h1 := (nI_pos (by omega))) (h2 := (nI_nlt (by omega) (by omega))) (h3 := (nI_le (by omega) (by omega)))) (va_cwS 3 hT (gS ml_Str_521 st_Str_checkBoundsBeginEnd ini_Str co_Str_checkBoundsBeginEnd) rfl rfl rfl (by decide +kernel) ⟨Nat.le_of_ble_eq_true rfl, Nat.le_of_ble_eq_true rfl⟩) ⟨fbSe, fun U hU hW => ⟨rfl, by rw [hU]; exact hPc, va_K.moved hW.alike hKc, env0.hand henv hS hU hW (fun q h => h.elim)⟩⟩ rfl rfl hl.1 rfl (lv_room (Nat.le_of_ble_eq_true rfl)) d_Str_substring_8 ⟨Nat.le_of_ble_eq_true rfl, Nat.le_of_ble_eq_true rfl⟩)) (fun hr2 => ?_)
  refine lv_iload_n hx hb d_Str_substring_11 rfl (lv_at hl 2 rfl) ?_
  refine lv_if_ne (tgt := 22) hx hb d_Str_substring_12 (by decide) (fun c3 => ?_) (fun c3 => ?_)
  · refine lv_iload_n hx hb d_Str_substring_22 rfl (lv_at hl 3 rfl) ?_
    refine lv_iload_n hx hb d_Str_substring_23 rfl (lv_at hl 2 rfl) ?_
    refine lv_isub hx hb d_Str_substring_24 ?_
    refine lv_topi (fun x4 e4 => ?_)
    obtain rfl : x4 = nI (b - a) := e4.trans (pk_sub (a := b) (b := a) (by omega))
    refine lv_istore (lv' := [(4, .int (nI (b - a))), (3, .int (nI (s_len.getD i 0))), (0, .ref (ad i)), (1, .int (nI a)), (2, .int (nI b))]) hx hb d_Str_substring_25 hl (by decide) rfl (fun ls hl => ?_)
    refine lv_aload_n hx hb d_Str_substring_27 rfl (lv_at hl 2 rfl) ?_
    have hPc := hP.sub (ws' := []) [] rfl
    have hKc := hK.sub (tys' := []) [] rfl
    refine vp_callSi (va_Run.run (va_runV (As := []) (rest := []) ⟨hx, hb, hml, hown, hT⟩ (c_Str_isLatin1_l l dC dI (ad := ad) (av := av) (i := i) (hi := hi)) (cwV 0 hT (gV ml_Str_492 im_Str_isLatin1 se_Str_isLatin1 ini_Str co_Str_isLatin1) rfl rfl rfl (by decide +kernel) ⟨Nat.le_of_ble_eq_true rfl, Nat.le_of_ble_eq_true rfl⟩) ⟨fbSe, (env_recv henv hi hS), fun U hU hW => ⟨rfl, by rw [hU]; exact hPc, va_K.moved hW.alike hKc, env0.hand henv hS hU hW (fun q h => h.elim)⟩⟩ rfl rfl hl.1 rfl (lv_room (Nat.le_of_ble_eq_true rfl)) d_Str_substring_28 ⟨Nat.le_of_ble_eq_true rfl, Nat.le_of_ble_eq_true rfl⟩)) (fun r5 hr5 => ?_)
    refine lv_if_eq (tgt := 47) hx hb d_Str_substring_31 (by decide) (fun c6 => absurd c6 (by rw [hr5]; decide)) (fun c6 => ?_)
    refine lv_aload_n hx hb d_Str_substring_34 rfl (lv_at hl 2 rfl) ?_
    refine vk_getf hx hb (env_val henv hi) hS hown (hT _ fl_Str_9) (fun _ h9 => h9) d_Str_substring_35 ?_
    refine lv_iload_n hx hb d_Str_substring_38 rfl (lv_at hl 3 rfl) ?_
    refine lv_iload hx hb d_Str_substring_39 (lv_at hl 0 rfl) ?_
    have hPc := hP.sub (ws' := []) [] rfl
    have hKc := hK.sub (tys' := []) [] rfl
    have hDc := hD.sub (ws' := []) [] (by decide) rfl
    have hFc := va_free (wc := []) hD hS hA [] rfl
    refine va_callr (va_runS (As := [.ref (av i), .int (nI a), .int (nI (b - a))]) (rest := []) ⟨hx, hb, hml, hown, hT⟩ (c_Lat_new_l l dC dI (sz := s.heap.size) (ad := ad) (av := av) (i := i) (a := a) (n := (b - a)) (hi := hi) (z1 := (by first | assumption | (subst_vars; decide) | omega)) (z2 := (by first | assumption | (subst_vars; decide) | omega)) (z3 := (by first | assumption | (subst_vars; decide) | omega)) (z4 := (by first | assumption | (subst_vars; decide) | omega)) (z5 := (fun _ => by omega))) (va_cwS 3 hT (gS ml_Str_685 st_Lat_newString ini_Lat co_Lat_newString) rfl rfl rfl (by decide +kernel) ⟨Nat.le_of_ble_eq_true rfl, Nat.le_of_ble_eq_true rfl⟩) ⟨fbQe, fun U hU hW => ⟨rfl, by rw [hU], by rw [hU]; exact hPc, va_K.moved hW.alike hKc, hDc.weaken (fun _ _ _ _ => trivial), env0.hand henv hS hU hW hFc⟩⟩ rfl rfl hl.1 rfl (lv_room (Nat.le_of_ble_eq_true rfl)) d_Str_substring_41 ⟨Nat.le_of_ble_eq_true rfl, Nat.le_of_ble_eq_true rfl⟩) hS (fun q _ h => hFc q h) hFc (fun u ra7  t H1 locs ht hvm hw hB hz1 hk1 hS => ?_)
    obtain ⟨fs_ret_7, h_ret_value_7, k_ret_value_7, ⟨hw7_0, hw7_1, hw7_2, hw7_3, hw7_4⟩, hP1, hK1, hD1⟩ := hB
    rw [ht] at hP1
    have hK1 := va_K.moved hvm.symm hK1
    obtain ⟨hP, hD⟩ := va_join (wr := []) (w1 := [oc ra7 13 fs_ret_7, ic h_ret_value_7 k_ret_value_7 (a + (b - a) - a) (va_cpy (fun j => (s_byt.getD i []).getD j 0) (fun _ => 0) a 0 (a + (b - a) - a))]) hP hD [] [] rfl rfl (by decide) (by decide) hk1 hFc hP1 hD1
    generalize H1 = H at hP hS ⊢
    have hP : va_P (dC, dI) cls_all [oc ra7 13 fs_ret_7, ic h_ret_value_7 k_ret_value_7 (a + (b - a) - a) (va_cpy (fun j => (s_byt.getD i []).getD j 0) (fun _ => 0) a 0 (a + (b - a) - a))] H := hP
    have hD : va_D A [oc ra7 13 fs_ret_7, ic h_ret_value_7 k_ret_value_7 (a + (b - a) - a) (va_cpy (fun j => (s_byt.getD i []).getD j 0) (fun _ => 0) a 0 (a + (b - a) - a))] := hD
    have hK : va_K (dC, dI) cls_all [(k_ret_value_7, .byte)] s := hK.app hK1
    refine W.widen (k := 2) (n := 12) (Nat.le_of_ble_eq_true rfl) (Nat.le_of_ble_eq_true rfl) ?_
    refine lv_goto (tgt := 57) hx hb d_Str_substring_44 (by decide) ?_
    have hP9 := hP.sub (ws' := [oc ra7 13 fs_ret_7, ic h_ret_value_7 k_ret_value_7 (a + (b - a) - a) (va_cpy (fun j => (s_byt.getD i []).getD j 0) (fun _ => 0) a 0 (a + (b - a) - a))]) [0, 1] rfl
    have hD9 := hD.sub (ws' := [oc ra7 13 fs_ret_7, ic h_ret_value_7 k_ret_value_7 (a + (b - a) - a) (va_cpy (fun j => (s_byt.getD i []).getD j 0) (fun _ => 0) a 0 (a + (b - a) - a))]) [0, 1] (by decide) rfl
    have hK9 := hK.sub (tys' := [(k_ret_value_7, .byte)]) [0] rfl
    have hv8 : fs_ret_7[0]? = some (.ref h_ret_value_7) := hw7_1
    have hv9 : fs_ret_7[1]? = some (.int 0) := hw7_2
    have hv10 : fs_ret_7[2]? = some (.int 0) := hw7_3
    have hv11 : fs_ret_7[3]? = some (.int 0) := hw7_4
    refine W.widen (k := 2) (n := 12) (Nat.le_of_ble_eq_true rfl) (Nat.le_of_ble_eq_true rfl) ?_
    exact W.aret (v := .ref ra7) hx hb hr (Or.inl ⟨_, rfl⟩) (Or.inr ⟨_, rfl⟩) (fun t ht hW => ⟨⟨(), ra7, rfl, trivial, fs_ret_7, h_ret_value_7, k_ret_value_7, ⟨(by first | exact hw7_0 | (simp only [List.length_set]; exact hw7_0)), (by first | exact hv8 | (rw [hv8]; refine congrArg some (congrArg _ ?_); first | (subst_vars; rfl) | (subst_vars; decide) | (simp_all; done) | omega)), (by first | exact hv9 | (rw [hv9]; refine congrArg some (congrArg _ ?_); first | (subst_vars; rfl) | (subst_vars; decide) | (simp_all; done) | omega)), (by first | exact hv10 | (rw [hv10]; refine congrArg some (congrArg _ ?_); first | (subst_vars; rfl) | (subst_vars; decide) | (simp_all; done) | omega)), (by first | exact hv11 | (rw [hv11]; refine congrArg some (congrArg _ ?_); first | (subst_vars; rfl) | (subst_vars; decide) | (simp_all; done) | omega))⟩, by rw [ht]; exact hP9, va_K.moved hW.alike hK9, hD9⟩, hS.F ht⟩) hS.2.2 d_Str_substring_57
  · refine lv_iload_n hx hb d_Str_substring_15 rfl (lv_at hl 3 rfl) ?_
    refine lv_iload_n hx hb d_Str_substring_16 rfl (lv_at hl 0 rfl) ?_
    refine lv_icmp_ne (tgt := 22) hx hb d_Str_substring_17 (by decide) (fun c12 => ?_) (fun c12 => absurd c12 (nI_ne z5 (by omega) (by omega)))
    refine lv_iload_n hx hb d_Str_substring_22 rfl (lv_at hl 3 rfl) ?_
    refine lv_iload_n hx hb d_Str_substring_23 rfl (lv_at hl 2 rfl) ?_
    refine lv_isub hx hb d_Str_substring_24 ?_
    refine lv_topi (fun x13 e13 => ?_)
    obtain rfl : x13 = nI (b - a) := e13.trans (pk_sub (a := b) (b := a) (by omega))
    refine lv_istore (lv' := [(4, .int (nI (b - a))), (3, .int (nI (s_len.getD i 0))), (0, .ref (ad i)), (1, .int (nI a)), (2, .int (nI b))]) hx hb d_Str_substring_25 hl (by decide) rfl (fun ls hl => ?_)
    refine lv_aload_n hx hb d_Str_substring_27 rfl (lv_at hl 2 rfl) ?_
    have hPc := hP.sub (ws' := []) [] rfl
    have hKc := hK.sub (tys' := []) [] rfl
    refine vp_callSi (va_Run.run (va_runV (As := []) (rest := []) ⟨hx, hb, hml, hown, hT⟩ (c_Str_isLatin1_l l dC dI (ad := ad) (av := av) (i := i) (hi := hi)) (cwV 0 hT (gV ml_Str_492 im_Str_isLatin1 se_Str_isLatin1 ini_Str co_Str_isLatin1) rfl rfl rfl (by decide +kernel) ⟨Nat.le_of_ble_eq_true rfl, Nat.le_of_ble_eq_true rfl⟩) ⟨fbSe, (env_recv henv hi hS), fun U hU hW => ⟨rfl, by rw [hU]; exact hPc, va_K.moved hW.alike hKc, env0.hand henv hS hU hW (fun q h => h.elim)⟩⟩ rfl rfl hl.1 rfl (lv_room (Nat.le_of_ble_eq_true rfl)) d_Str_substring_28 ⟨Nat.le_of_ble_eq_true rfl, Nat.le_of_ble_eq_true rfl⟩)) (fun r14 hr14 => ?_)
    refine lv_if_eq (tgt := 47) hx hb d_Str_substring_31 (by decide) (fun c15 => absurd c15 (by rw [hr14]; decide)) (fun c15 => ?_)
    refine lv_aload_n hx hb d_Str_substring_34 rfl (lv_at hl 2 rfl) ?_
    refine vk_getf hx hb (env_val henv hi) hS hown (hT _ fl_Str_9) (fun _ h9 => h9) d_Str_substring_35 ?_
    refine lv_iload_n hx hb d_Str_substring_38 rfl (lv_at hl 3 rfl) ?_
    refine lv_iload hx hb d_Str_substring_39 (lv_at hl 0 rfl) ?_
    have hPc := hP.sub (ws' := []) [] rfl
    have hKc := hK.sub (tys' := []) [] rfl
    have hDc := hD.sub (ws' := []) [] (by decide) rfl
    have hFc := va_free (wc := []) hD hS hA [] rfl
    refine va_callr (va_runS (As := [.ref (av i), .int (nI a), .int (nI (b - a))]) (rest := []) ⟨hx, hb, hml, hown, hT⟩ (c_Lat_new_l l dC dI (sz := s.heap.size) (ad := ad) (av := av) (i := i) (a := a) (n := (b - a)) (hi := hi) (z1 := (by first | assumption | (subst_vars; decide) | omega)) (z2 := (by first | assumption | (subst_vars; decide) | omega)) (z3 := (by first | assumption | (subst_vars; decide) | omega)) (z4 := (by first | assumption | (subst_vars; decide) | omega)) (z5 := (fun _ => by omega))) (va_cwS 3 hT (gS ml_Str_685 st_Lat_newString ini_Lat co_Lat_newString) rfl rfl rfl (by decide +kernel) ⟨Nat.le_of_ble_eq_true rfl, Nat.le_of_ble_eq_true rfl⟩) ⟨fbQe, fun U hU hW => ⟨rfl, by rw [hU], by rw [hU]; exact hPc, va_K.moved hW.alike hKc, hDc.weaken (fun _ _ _ _ => trivial), env0.hand henv hS hU hW hFc⟩⟩ rfl rfl hl.1 rfl (lv_room (Nat.le_of_ble_eq_true rfl)) d_Str_substring_41 ⟨Nat.le_of_ble_eq_true rfl, Nat.le_of_ble_eq_true rfl⟩) hS (fun q _ h => hFc q h) hFc (fun u ra16  t H1 locs ht hvm hw hB hz1 hk1 hS => ?_)
    obtain ⟨fs_ret_16, h_ret_value_16, k_ret_value_16, ⟨hw16_0, hw16_1, hw16_2, hw16_3, hw16_4⟩, hP1, hK1, hD1⟩ := hB
    rw [ht] at hP1
    have hK1 := va_K.moved hvm.symm hK1
    obtain ⟨hP, hD⟩ := va_join (wr := []) (w1 := [oc ra16 13 fs_ret_16, ic h_ret_value_16 k_ret_value_16 (a + (b - a) - a) (va_cpy (fun j => (s_byt.getD i []).getD j 0) (fun _ => 0) a 0 (a + (b - a) - a))]) hP hD [] [] rfl rfl (by decide) (by decide) hk1 hFc hP1 hD1
    generalize H1 = H at hP hS ⊢
    have hP : va_P (dC, dI) cls_all [oc ra16 13 fs_ret_16, ic h_ret_value_16 k_ret_value_16 (a + (b - a) - a) (va_cpy (fun j => (s_byt.getD i []).getD j 0) (fun _ => 0) a 0 (a + (b - a) - a))] H := hP
    have hD : va_D A [oc ra16 13 fs_ret_16, ic h_ret_value_16 k_ret_value_16 (a + (b - a) - a) (va_cpy (fun j => (s_byt.getD i []).getD j 0) (fun _ => 0) a 0 (a + (b - a) - a))] := hD
    have hK : va_K (dC, dI) cls_all [(k_ret_value_16, .byte)] s := hK.app hK1
    refine W.widen (k := 2) (n := 12) (Nat.le_of_ble_eq_true rfl) (Nat.le_of_ble_eq_true rfl) ?_
    refine lv_goto (tgt := 57) hx hb d_Str_substring_44 (by decide) ?_
    have hP9 := hP.sub (ws' := [oc ra16 13 fs_ret_16, ic h_ret_value_16 k_ret_value_16 (a + (b - a) - a) (va_cpy (fun j => (s_byt.getD i []).getD j 0) (fun _ => 0) a 0 (a + (b - a) - a))]) [0, 1] rfl
    have hD9 := hD.sub (ws' := [oc ra16 13 fs_ret_16, ic h_ret_value_16 k_ret_value_16 (a + (b - a) - a) (va_cpy (fun j => (s_byt.getD i []).getD j 0) (fun _ => 0) a 0 (a + (b - a) - a))]) [0, 1] (by decide) rfl
    have hK9 := hK.sub (tys' := [(k_ret_value_16, .byte)]) [0] rfl
    have hv17 : fs_ret_16[0]? = some (.ref h_ret_value_16) := hw16_1
    have hv18 : fs_ret_16[1]? = some (.int 0) := hw16_2
    have hv19 : fs_ret_16[2]? = some (.int 0) := hw16_3
    have hv20 : fs_ret_16[3]? = some (.int 0) := hw16_4
    refine W.widen (k := 2) (n := 12) (Nat.le_of_ble_eq_true rfl) (Nat.le_of_ble_eq_true rfl) ?_
    exact W.aret (v := .ref ra16) hx hb hr (Or.inl ⟨_, rfl⟩) (Or.inr ⟨_, rfl⟩) (fun t ht hW => ⟨⟨(), ra16, rfl, trivial, fs_ret_16, h_ret_value_16, k_ret_value_16, ⟨(by first | exact hw16_0 | (simp only [List.length_set]; exact hw16_0)), (by first | exact hv17 | (rw [hv17]; refine congrArg some (congrArg _ ?_); first | (subst_vars; rfl) | (subst_vars; decide) | (simp_all; done) | omega)), (by first | exact hv18 | (rw [hv18]; refine congrArg some (congrArg _ ?_); first | (subst_vars; rfl) | (subst_vars; decide) | (simp_all; done) | omega)), (by first | exact hv19 | (rw [hv19]; refine congrArg some (congrArg _ ?_); first | (subst_vars; rfl) | (subst_vars; decide) | (simp_all; done) | omega)), (by first | exact hv20 | (rw [hv20]; refine congrArg some (congrArg _ ?_); first | (subst_vars; rfl) | (subst_vars; decide) | (simp_all; done) | omega))⟩, by rw [ht]; exact hP9, va_K.moved hW.alike hK9, hD9⟩, hS.F ht⟩) hS.2.2 d_Str_substring_57
set_option maxHeartbeats 1000000 in
set_option maxRecDepth 100000 in
theorem c_Str_isLatin1_o (l : Launch) (dC : Nat → ClassId) (dI : Nat → Nat → Nat)  (ad : Nat → Nat) (av : Nat → Nat) (h_this : Nat) (fs_this : List Value) (len_this : fs_this.length = 4) (g_this_coder : fs_this[1]? = some (.int 0)) : Met l y_Str_isLatin1 w_Str_isLatin1 ({ frames := 0, cells := 0, slots := 0, locals := 0 } : Room) (va_Pc [.ref h_this] (fun U => va_P (dC, dI) cls_all [oc h_this 13 fs_this] U.heap ∧ va_K (dC, dI) cls_all [] U ∧ env0 ad av (fun _ => False) U U.heap)) (vp_Si (fun r : Int32 => (r = 1))) 0 0 (fun _ => False) := by
  refine Met.ofW (cc := b_Str_isLatin1) (maxL := 1) (ret := (some .boolean)) (by decide) rfl ?_
  intro p e s m args below meth c s₁ B hml hv
  obtain ⟨rfl, hP, hK, henv⟩ := hv
  have hx := B.exec
  have hb := B.bytes
  have hr := B.returns
  have hT : ∀ w ∈ lw_good, w.before _ s = true := fun w h => atoms_spec (ws := w_Str_isLatin1) B.pre w (List.mem_cons_of_mem _ h)
  have hown : s.vm.findClass R_Str = some m.cls := findClass_of_methodNamed B.named
  have hlocks := B.notSynchronized
  have hS : va_S (fun _ => False) s.heap s.heap [] := va_S.rf
  have hl := lv_entry ([.ref h_this]) (n := 1) (Nat.le_of_ble_eq_true rfl)
  rw [lg_entry_eq]
  generalize (lg_sl ([.ref h_this]) ++ List.replicate (1 - (lg_sl ([.ref h_this])).length) Slot.unset).toArray = ls at hl ⊢
  have hl : lv_has ls 1 [(0, .ref h_this)] := hl
  refine va_gets hx hb henv.1 hS hown (hT _ fl_Str_38) (fun _ h9 => h9) d_Str_isLatin1_0 ?_
  refine lv_if_eq (tgt := 17) hx hb d_Str_isLatin1_3 (by decide) (fun c2 => absurd c2 (by decide)) (fun _ => ?_)
  refine lv_aload_n hx hb d_Str_isLatin1_6 rfl (lv_at hl 0 rfl) ?_
  refine va_get (D := (dC, dI)) (ci := 13) (v := .int 0) (C := R_Str) (T := F_Str) (N := 4) hx hb hT i_Str hown hK hP 0 rfl rfl 1 (by decide) (hT _ fl_Str_15) (fun _ h9 => h9) g_this_coder d_Str_isLatin1_7 ?_
  refine lv_if_ne (tgt := 17) hx hb d_Str_isLatin1_10 (by decide) (fun c3 => absurd c3 (by decide)) (fun _ => ?_)
  refine lv_iconst (v := 1) hx hb d_Str_isLatin1_13 (by decide) ?_
  refine lv_goto (tgt := 18) hx hb d_Str_isLatin1_14 (by decide) ?_
  refine W.zret (v := 1) hx hb hr (by first | rfl | decide | assumption) (fun t ht hW => ⟨1, rfl, ?_, ht⟩) (fun q h => by cases h) d_Str_isLatin1_18
  rfl
set_option maxHeartbeats 1000000 in
set_option maxRecDepth 100000 in
theorem c_Lat_inflate (l : Launch) (dC : Nat → ClassId) (dI : Nat → Nat → Nat) (sz : Nat) (h_a1 : Nat) (h_a3 : Nat) (k_a1 : ClassId) (f_a1 : Nat → Int32) (k_a3 : ClassId) (f_a3 : Nat → Int32) (n : Nat) (z1 : n < 2 ^ 31) : Met l y_Lat_inflate w_Lat_inflate ({ frames := 0, cells := 0, slots := 0, locals := 0 } : Room) (va_Pc [.ref h_a1, .int 0, .ref h_a3, .int 0, .int (nI n)] (fun U => U.heap.size = sz ∧ va_P (dC, dI) cls_all [ic h_a1 k_a1 n f_a1, ic h_a3 k_a3 n f_a3] U.heap ∧ va_K (dC, dI) cls_all [(k_a1, .byte), (k_a3, .char)] U ∧ va_D (fun _ => True) [ic h_a1 k_a1 n f_a1, ic h_a3 k_a3 n f_a3])) (va_Qv (fun (_ : Unit) => True) (fun _ t => ∃ (f_a3' : Nat → Int32), ((f_a3' = infF f_a1 f_a3 n)) ∧ va_P (dC, dI) cls_all [ic h_a1 k_a1 n f_a1, ic h_a3 k_a3 n f_a3'] t.heap ∧ va_K (dC, dI) cls_all [(k_a1, .byte), (k_a3, .char)] t ∧ va_D (va_A [ic h_a1 k_a1 n f_a1, ic h_a3 k_a3 n f_a3] sz) [ic h_a1 k_a1 n f_a1, ic h_a3 k_a3 n f_a3']) (va_A [ic h_a1 k_a1 n f_a1, ic h_a3 k_a3 n f_a3] sz)) 0 0 (va_A [ic h_a1 k_a1 n f_a1, ic h_a3 k_a3 n f_a3] sz) := by
  refine Met.ofW (cc := b_Lat_inflate) (maxL := 6) (ret := none) (by decide) rfl ?_
  intro p e s m args below meth c s₁ B hml hv
  obtain ⟨rfl, hsz, hP, hK, hD0⟩ := hv
  have hx := B.exec
  have hb := B.bytes
  have hr := B.returns
  have hT : ∀ w ∈ lw_good, w.before _ s = true := fun w h => atoms_spec (ws := w_Lat_inflate) B.pre w (List.mem_cons_of_mem _ h)
  have hown : s.vm.findClass R_Lat = some m.cls := findClass_of_methodNamed B.named
  have hlocks := B.notSynchronized
  subst hsz
  have hD := hD0.self (sz := s.heap.size)
  generalize hAe : va_A [ic h_a1 k_a1 n f_a1, ic h_a3 k_a3 n f_a3] s.heap.size = A at hD ⊢
  have hA : ∀ q : Nat, s.heap.size ≤ q → A q := fun q h => by rw [← hAe]; exact Or.inr h
  have hS : va_S A s.heap s.heap [] := va_S.rf
  have hP : va_P (dC, dI) cls_all [ic h_a1 k_a1 n f_a1, ic h_a3 k_a3 n f_a3] s.heap := hP
  have hl := lv_entry ([.ref h_a1, .int 0, .ref h_a3, .int 0, .int (nI n)]) (n := 6) (Nat.le_of_ble_eq_true rfl)
  rw [lg_entry_eq]
  generalize (lg_sl ([.ref h_a1, .int 0, .ref h_a3, .int 0, .int (nI n)]) ++ List.replicate (6 - (lg_sl ([.ref h_a1, .int 0, .ref h_a3, .int 0, .int (nI n)])).length) Slot.unset).toArray = ls at hl ⊢
  have hl : lv_has ls 6 [(0, .ref h_a1), (1, .int 0), (2, .ref h_a3), (3, .int 0), (4, .int (nI n))] := hl
  refine lv_iconst (v := 0) hx hb d_Lat_inflate_0 (by decide) ?_
  refine lv_istore (lv' := [(5, .int 0), (0, .ref h_a1), (1, .int 0), (2, .ref h_a3), (3, .int 0), (4, .int (nI n))]) hx hb d_Lat_inflate_1 hl (by decide) rfl (fun ls hl => ?_)
  have loop : ∀ (nn : Nat) (k : Nat), k ≤ n → n - k < nn → ∀ (H : Heap) (locs : List Loc), va_P (dC, dI) cls_all [ic h_a1 k_a1 n f_a1, ic h_a3 k_a3 n (infF f_a1 f_a3 k)] H → va_D A [ic h_a1 k_a1 n f_a1, ic h_a3 k_a3 n (infF f_a1 f_a3 k)] → va_S A s.heap H locs → ∀ (ls : Array Slot), lv_has ls 6 [(5, .int (nI (k))), (0, .ref h_a1), (1, .int (nI (k))), (2, .ref h_a3), (3, .int (nI (k))), (4, .int (nI n))] → W p l e (headSpec w_Lat_inflate ({ frames := 0, cells := 0, slots := 0, locals := 0 } : Room)).room s m ([.ref h_a1, .int 0, .ref h_a3, .int 0, .int (nI n)] : List Value).toArray below meth c H locs 0 0 (MQ below (va_Qv (fun (_ : Unit) => True) (fun _ t => ∃ (f_a3' : Nat → Int32), ((f_a3' = infF f_a1 f_a3 n)) ∧ va_P (dC, dI) cls_all [ic h_a1 k_a1 n f_a1, ic h_a3 k_a3 n f_a3'] t.heap ∧ va_K (dC, dI) cls_all [(k_a1, .byte), (k_a3, .char)] t ∧ va_D A [ic h_a1 k_a1 n f_a1, ic h_a3 k_a3 n f_a3']) A) ([.ref h_a1, .int 0, .ref h_a3, .int 0, .int (nI n)] : List Value).toArray s 0 0 A) (F0 m 3 ls []) := by
    clear hP hD hS
    clear hl
    intro nn
    induction nn with
    | zero => intro k hk hn H locs hP hD hS ls hl; exfalso; omega
    | succ nn ih =>
      intro k hk hn H locs hP hD hS ls hl
      refine lv_iload hx hb d_Lat_inflate_3 (lv_at hl 0 rfl) ?_
      refine lv_iload hx hb d_Lat_inflate_5 (lv_at hl 5 rfl) ?_
      refine lv_icmp_ge (tgt := 33) hx hb d_Lat_inflate_7 (by decide) (fun c1 => ?_) (fun c1 => ?_)
      · have b1 : (n) ≤ ((k)) := (ni_le (by omega) (by omega)).1 c1
        have hP9 := hP.sub (ws' := [ic h_a1 k_a1 n f_a1, ic h_a3 k_a3 n (infF f_a1 f_a3 k)]) [0, 1] rfl
        have hD9 := hD.sub (ws' := [ic h_a1 k_a1 n f_a1, ic h_a3 k_a3 n (infF f_a1 f_a3 k)]) [0, 1] (by decide) rfl
        have hK9 := hK.sub (tys' := [(k_a1, .byte), (k_a3, .char)]) [0, 1] rfl
        exact W.vret hx hb hr (fun t ht hW => ⟨⟨(), rfl, trivial, (infF f_a1 f_a3 k), (by exact congrArg _ (by omega)), by rw [ht]; exact hP9, va_K.moved hW.alike hK9, hD9⟩, hS.F ht⟩) hS.2.2 d_Lat_inflate_33
      · have b1 : ((k)) < (n) := (ni_le (by omega) (by omega)).2 c1
        refine lv_aload_n hx hb d_Lat_inflate_10 rfl (lv_at hl 3 rfl) ?_
        refine lv_iload_n hx hb d_Lat_inflate_11 rfl (lv_at hl 4 rfl) ?_
        refine lv_iinc (v := (nI (k + 1))) (lv' := [(3, .int (nI (k + 1))), (5, .int (nI (k))), (0, .ref h_a1), (1, .int (nI (k))), (2, .ref h_a3), (4, .int (nI n))]) hx hb d_Lat_inflate_12 hl (k := 4) rfl (nI_add (k) 1) (by decide) rfl (fun ls hl => ?_)
        refine lv_aload_n hx hb d_Lat_inflate_15 rfl (lv_at hl 2 rfl) ?_
        refine lv_iload_n hx hb d_Lat_inflate_16 rfl (lv_at hl 3 rfl) ?_
        refine lv_iinc (v := (nI (k + 1))) (lv' := [(1, .int (nI (k + 1))), (3, .int (nI (k + 1))), (5, .int (nI (k))), (0, .ref h_a1), (2, .ref h_a3), (4, .int (nI n))]) hx hb d_Lat_inflate_17 hl (k := 3) rfl (nI_add (k) 1) (by decide) rfl (fun ls hl => ?_)
        refine va_bald hx hb hK hP 0 0 rfl rfl (vp_in_nI (by omega) z1) d_Lat_inflate_20 ?_
        refine lv_topi (fun x2 e2 => ?_)
        refine lv_sipush (v := 255) hx hb d_Lat_inflate_21 (by decide) ?_
        refine lv_iand hx hb d_Lat_inflate_24 ?_
        refine lv_topi (fun x3 e3 => ?_)
        obtain ⟨x4, e4⟩ : ∃ z : Int32, ((x3 : Int32).toUInt32 % 65536).toInt32 = z := ⟨_, rfl⟩
        refine lv_i2c (v := x4) hx hb d_Lat_inflate_25 e4 ?_
        refine va_cast hx hb hK hP hD hS 1 1 rfl rfl (vp_in_nI (by omega) z1) d_Lat_inflate_26 (fun H locs hP hD hS => ?_)
        have es5 : upd (infF f_a1 f_a3 k) (nI (k)).toNatClampNeg (vp_nar .char x4) = infF f_a1 f_a3 (k + 1) := (by subst_vars; rw [nI_clamp (by omega)]; rfl)
        have hP : va_P (dC, dI) cls_all [ic h_a1 k_a1 n f_a1, ic h_a3 k_a3 n (upd (infF f_a1 f_a3 k) (nI (k)).toNatClampNeg (vp_nar .char x4))] H := hP
        have hD : va_D A [ic h_a1 k_a1 n f_a1, ic h_a3 k_a3 n (upd (infF f_a1 f_a3 k) (nI (k)).toNatClampNeg (vp_nar .char x4))] := hD
        rw [es5] at hP hD
        obtain ⟨f5, ef5⟩ : ∃ g, g = infF f_a1 f_a3 (k + 1) := ⟨_, rfl⟩
        rw [← ef5] at hP hD
        refine lv_iinc (v := (nI (k + 1))) (lv' := [(5, .int (nI (k + 1))), (1, .int (nI (k + 1))), (3, .int (nI (k + 1))), (0, .ref h_a1), (2, .ref h_a3), (4, .int (nI n))]) hx hb d_Lat_inflate_27 hl (k := 2) rfl (nI_add (k) 1) (by decide) rfl (fun ls hl => ?_)
        refine lv_goto (tgt := 3) hx hb d_Lat_inflate_30 (by decide) ?_
        subst ef5
        exact ih (k + 1) (by omega) (by omega) _ _ hP hD hS ls (lv_sub hl [0, 3, 1, 4, 2, 5] rfl)
  exact loop (n + 1) 0 (by omega) (by omega) _ _ hP hD hS ls (lv_sub hl [0, 1, 2, 3, 4, 5] rfl)
set_option maxHeartbeats 1000000 in
set_option maxRecDepth 100000 in
theorem c_Lat_toChars (l : Launch) (dC : Nat → ClassId) (dI : Nat → Nat → Nat) (sz : Nat) (h_a1 : Nat) (k_a1 : ClassId) (f_a1 : Nat → Int32) (n : Nat) (z1 : n ≤ 8) : Met l y_Lat_toChars w_Lat_toChars ({ frames := 1, cells := 1, slots := 8, locals := 25 } : Room) (va_Pc [.ref h_a1] (fun U => U.heap.size = sz ∧ va_P (dC, dI) cls_all [ic h_a1 k_a1 n f_a1] U.heap ∧ va_K (dC, dI) cls_all [(k_a1, .byte)] U ∧ va_D (fun _ => True) [ic h_a1 k_a1 n f_a1])) (va_Qr (fun (_ : Unit) => True) (fun _ ra t => ∃ (k_ret' : ClassId), (True) ∧ va_P (dC, dI) cls_all [ic h_a1 k_a1 n f_a1, ic ra k_ret' n (infF f_a1 (fun _ => 0) n)] t.heap ∧ va_K (dC, dI) cls_all [(k_a1, .byte), (k_ret', .char)] t ∧ va_D (va_A [ic h_a1 k_a1 n f_a1] sz) [ic h_a1 k_a1 n f_a1, ic ra k_ret' n (infF f_a1 (fun _ => 0) n)]) (va_A [ic h_a1 k_a1 n f_a1] sz)) 1 8 (va_A [ic h_a1 k_a1 n f_a1] sz) := by
  refine Met.ofW (cc := b_Lat_toChars) (maxL := 2) (ret := (some (.array .char))) (by decide) rfl ?_
  intro p e s m args below meth c s₁ B hml hv
  obtain ⟨rfl, hsz, hP, hK, hD0⟩ := hv
  have hx := B.exec
  have hb := B.bytes
  have hr := B.returns
  have hT : ∀ w ∈ lw_good, w.before _ s = true := fun w h => atoms_spec (ws := w_Lat_toChars) B.pre w (List.mem_cons_of_mem _ h)
  have hown : s.vm.findClass R_Lat = some m.cls := findClass_of_methodNamed B.named
  have hlocks := B.notSynchronized
  subst hsz
  have hD := hD0.self (sz := s.heap.size)
  generalize hAe : va_A [ic h_a1 k_a1 n f_a1] s.heap.size = A at hD ⊢
  have hA : ∀ q : Nat, s.heap.size ≤ q → A q := fun q h => by rw [← hAe]; exact Or.inr h
  have hS : va_S A s.heap s.heap [] := va_S.rf
  have hP : va_P (dC, dI) cls_all [ic h_a1 k_a1 n f_a1] s.heap := hP
  have hl := lv_entry ([.ref h_a1]) (n := 2) (Nat.le_of_ble_eq_true rfl)
  rw [lg_entry_eq]
  generalize (lg_sl ([.ref h_a1]) ++ List.replicate (2 - (lg_sl ([.ref h_a1])).length) Slot.unset).toArray = ls at hl ⊢
  have hl : lv_has ls 2 [(0, .ref h_a1)] := hl
  refine lv_aload_n hx hb d_Lat_toChars_0 rfl (lv_at hl 0 rfl) ?_
  refine va_alen (v := (nI n)) hx hb hK hP 0 0 rfl rfl rfl d_Lat_toChars_1 ?_
  have hmxq1 : n ≤ 8 := by omega
  refine va_newa (atype := .char) (a0 := (n, .inl (fun _ => 0))) hx hb (hT _ ac_char) rfl hK hP hD hS hA (fun _ => rfl) (nI_pos (by omega)) (N' := n) (nI_clamp (by omega)) (show n * 2 ≤ 536870912 by omega) (Nat.le_of_ble_eq_true rfl) (show 0 + n ≤ 8 by omega) d_Lat_toChars_2 (fun q1 k1 H hK hP hD hS => ?_)
  have hP : va_P (dC, dI) cls_all [ic h_a1 k_a1 n f_a1, ic q1 k1 n (fun _ => 0)] H := hP
  have hD : va_D A [ic h_a1 k_a1 n f_a1, ic q1 k1 n (fun _ => 0)] := hD
  have hK : va_K (dC, dI) cls_all [(k_a1, .byte), (k1, .char)] s := hK
  refine W.widen (k := 1) (n := 8) (Nat.le_refl _) (show 0 + n ≤ 8 by omega) ?_
  refine lv_astore_n (lv' := [(1, .ref q1), (0, .ref h_a1)]) hx hb d_Lat_toChars_4 rfl hl (by decide) rfl (fun ls hl => ?_)
  refine lv_aload_n hx hb d_Lat_toChars_5 rfl (lv_at hl 1 rfl) ?_
  refine lv_iconst (v := 0) hx hb d_Lat_toChars_6 (by decide) ?_
  refine lv_aload_n hx hb d_Lat_toChars_7 rfl (lv_at hl 0 rfl) ?_
  refine lv_iconst (v := 0) hx hb d_Lat_toChars_8 (by decide) ?_
  refine lv_aload_n hx hb d_Lat_toChars_9 rfl (lv_at hl 1 rfl) ?_
  refine va_alen (v := (nI n)) hx hb hK hP 0 0 rfl rfl rfl d_Lat_toChars_10 ?_
  have hPc := hP.sub (ws' := [ic h_a1 k_a1 n f_a1, ic q1 k1 n (fun _ => 0)]) [0, 1] rfl
  have hKc := hK.sub (tys' := [(k_a1, .byte), (k1, .char)]) [0, 1] rfl
  have hDc := hD.sub (ws' := [ic h_a1 k_a1 n f_a1, ic q1 k1 n (fun _ => 0)]) [0, 1] (by decide) rfl
  have hFc := va_free (wc := [ic h_a1 k_a1 n f_a1, ic q1 k1 n (fun _ => 0)]) hD hS hA [0, 1] rfl
  refine va_callv (va_runS (As := [.ref h_a1, .int 0, .ref q1, .int 0, .int (nI n)]) (rest := []) ⟨hx, hb, hml, hown, hT⟩ (c_Lat_inflate l dC dI (sz := H.size) (h_a1 := h_a1) (h_a3 := q1) (k_a1 := k_a1) (f_a1 := f_a1) (k_a3 := k1) (f_a3 := (fun _ => 0)) (n := n) (z1 := (by first | assumption | (subst_vars; decide) | omega))) (va_cwS 5 hT (gS ml_Lat_13 st_Lat_inflate ini_Lat co_Lat_inflate) rfl rfl rfl (by decide +kernel) ⟨Nat.le_of_ble_eq_true rfl, Nat.le_of_ble_eq_true rfl⟩) ⟨fbQ, fun U hU hW => ⟨rfl, by rw [hU], by rw [hU]; exact hPc, va_K.moved hW.alike hKc, hDc.weaken (fun _ _ _ _ => trivial)⟩⟩ rfl rfl hl.1 rfl (lv_room (Nat.le_of_ble_eq_true rfl)) d_Lat_toChars_11 ⟨Nat.le_of_ble_eq_true rfl, Nat.le_of_ble_eq_true rfl⟩) hS (fun q _ h => hFc q h) hFc (fun u t H1 locs ht hvm hw hB hz1 hk1 hS => ?_)
  obtain ⟨f_a3_2, hw2_0, hP1, hK1, hD1⟩ := hB
  rw [ht] at hP1
  have hK1 := va_K.moved hvm.symm hK1
  obtain ⟨hP, hD⟩ := va_join (wr := []) (w1 := [ic h_a1 k_a1 n f_a1, ic q1 k1 n f_a3_2]) hP hD [0, 1] [] rfl rfl (by decide) (by decide) hk1 hFc hP1 hD1
  generalize H1 = H at hP hS ⊢
  have hP : va_P (dC, dI) cls_all [ic h_a1 k_a1 n f_a1, ic q1 k1 n f_a3_2] H := hP
  have hD : va_D A [ic h_a1 k_a1 n f_a1, ic q1 k1 n f_a3_2] := hD
  subst hw2_0
  have hP : va_P (dC, dI) cls_all [ic h_a1 k_a1 n f_a1, ic q1 k1 n (infF f_a1 (fun _ => 0) n)] H := hP
  have hD : va_D A [ic h_a1 k_a1 n f_a1, ic q1 k1 n (infF f_a1 (fun _ => 0) n)] := hD
  refine lv_aload_n hx hb d_Lat_toChars_14 rfl (lv_at hl 0 rfl) ?_
  have hP9 := hP.sub (ws' := [ic h_a1 k_a1 n f_a1, ic q1 k1 n (infF f_a1 (fun _ => 0) n)]) [0, 1] rfl
  have hD9 := hD.sub (ws' := [ic h_a1 k_a1 n f_a1, ic q1 k1 n (infF f_a1 (fun _ => 0) n)]) [0, 1] (by decide) rfl
  have hK9 := hK.sub (tys' := [(k_a1, .byte), (k1, .char)]) [0, 1] rfl
  refine W.widen (k := 1) (n := 8) (Nat.le_of_ble_eq_true rfl) (Nat.le_of_ble_eq_true rfl) ?_
  exact W.aret (v := .ref q1) hx hb hr (Or.inr ⟨_, rfl⟩) (Or.inr ⟨_, rfl⟩) (fun t ht hW => ⟨⟨(), q1, rfl, trivial, k1, trivial, by rw [ht]; exact hP9, va_K.moved hW.alike hK9, hD9⟩, hS.F ht⟩) hS.2.2 d_Lat_toChars_15
set_option maxHeartbeats 1000000 in
set_option maxRecDepth 100000 in
theorem c_Str_toCharArray (l : Launch) (dC : Nat → ClassId) (dI : Nat → Nat → Nat) (sz : Nat) (ad : Nat → Nat) (av : Nat → Nat) (h_this : Nat) (h_value : Nat) (fs_this : List Value) (k_value : ClassId) (f_value : Nat → Int32) (n : Nat) (len_this : fs_this.length = 4) (g_this_value : fs_this[0]? = some (.ref h_value)) (g_this_coder : fs_this[1]? = some (.int 0)) (z1 : n ≤ 8) : Met l y_Str_toCharArray w_Str_toCharArray ({ frames := 2, cells := 1, slots := 8, locals := 46 } : Room) (va_Pc [.ref h_this] (fun U => U.heap.size = sz ∧ va_P (dC, dI) cls_all [oc h_this 13 fs_this, ic h_value k_value n f_value] U.heap ∧ va_K (dC, dI) cls_all [(k_value, .byte)] U ∧ va_D (fun _ => True) [oc h_this 13 fs_this, ic h_value k_value n f_value] ∧ env0 ad av (va_A [oc h_this 13 fs_this, ic h_value k_value n f_value] sz) U U.heap)) (va_Qr (fun (_ : Unit) => True) (fun _ ra t => ∃ (k_ret' : ClassId), (True) ∧ va_P (dC, dI) cls_all [oc h_this 13 fs_this, ic h_value k_value n f_value, ic ra k_ret' n (infF f_value (fun _ => 0) n)] t.heap ∧ va_K (dC, dI) cls_all [(k_value, .byte), (k_ret', .char)] t ∧ va_D (va_A [oc h_this 13 fs_this, ic h_value k_value n f_value] sz) [oc h_this 13 fs_this, ic h_value k_value n f_value, ic ra k_ret' n (infF f_value (fun _ => 0) n)]) (va_A [oc h_this 13 fs_this, ic h_value k_value n f_value] sz)) 1 8 (va_A [oc h_this 13 fs_this, ic h_value k_value n f_value] sz) := by
  refine Met.ofW (cc := b_Str_toCharArray) (maxL := 1) (ret := (some (.array .char))) (by decide) rfl ?_
  intro p e s m args below meth c s₁ B hml hv
  obtain ⟨rfl, hsz, hP, hK, hD0, henv⟩ := hv
  have hx := B.exec
  have hb := B.bytes
  have hr := B.returns
  have hT : ∀ w ∈ lw_good, w.before _ s = true := fun w h => atoms_spec (ws := w_Str_toCharArray) B.pre w (List.mem_cons_of_mem _ h)
  have hown : s.vm.findClass R_Str = some m.cls := findClass_of_methodNamed B.named
  have hlocks := B.notSynchronized
  subst hsz
  have hD := hD0.self (sz := s.heap.size)
  generalize hAe : va_A [oc h_this 13 fs_this, ic h_value k_value n f_value] s.heap.size = A at hD henv ⊢
  have hA : ∀ q : Nat, s.heap.size ≤ q → A q := fun q h => by rw [← hAe]; exact Or.inr h
  have hS : va_S A s.heap s.heap [] := va_S.rf
  have hP : va_P (dC, dI) cls_all [oc h_this 13 fs_this, ic h_value k_value n f_value] s.heap := hP
  have hl := lv_entry ([.ref h_this]) (n := 1) (Nat.le_of_ble_eq_true rfl)
  rw [lg_entry_eq]
  generalize (lg_sl ([.ref h_this]) ++ List.replicate (1 - (lg_sl ([.ref h_this])).length) Slot.unset).toArray = ls at hl ⊢
  have hl : lv_has ls 1 [(0, .ref h_this)] := hl
  refine lv_aload_n hx hb d_Str_toCharArray_0 rfl (lv_at hl 0 rfl) ?_
  have hPc := hP.sub (ws' := [oc h_this 13 fs_this]) [0] rfl
  have hKc := hK.sub (tys' := []) [] rfl
  refine vp_callSi (va_Run.run (va_runV (As := []) (rest := []) ⟨hx, hb, hml, hown, hT⟩ (c_Str_isLatin1_o l dC dI (ad := ad) (av := av) (h_this := h_this) (fs_this := fs_this) (len_this := (by first | exact len_this | (simp only [List.length_set]; exact len_this))) (g_this_coder := g_this_coder)) (cwV 0 hT (gV ml_Str_492 im_Str_isLatin1 se_Str_isLatin1 ini_Str co_Str_isLatin1) rfl rfl rfl (by decide +kernel) ⟨Nat.le_of_ble_eq_true rfl, Nat.le_of_ble_eq_true rfl⟩) ⟨fbSe, va_recv hKc hPc (ci := 13) (q0 := 0) rfl rfl, fun U hU hW => ⟨rfl, by rw [hU]; exact hPc, va_K.moved hW.alike hKc, env0.hand henv hS hU hW (fun q h => h.elim)⟩⟩ rfl rfl hl.1 rfl (lv_room (Nat.le_of_ble_eq_true rfl)) d_Str_toCharArray_1 ⟨Nat.le_of_ble_eq_true rfl, Nat.le_of_ble_eq_true rfl⟩)) (fun r1 hr1 => ?_)
  refine lv_if_eq (tgt := 17) hx hb d_Str_toCharArray_4 (by decide) (fun c2 => absurd c2 (by rw [hr1]; decide)) (fun c2 => ?_)
  refine lv_aload_n hx hb d_Str_toCharArray_7 rfl (lv_at hl 0 rfl) ?_
  refine va_get (D := (dC, dI)) (ci := 13) (v := .ref h_value) (C := R_Str) (T := F_Str) (N := 4) hx hb hT i_Str hown hK hP 0 rfl rfl 0 (by decide) (hT _ fl_Str_9) (fun _ h9 => h9) g_this_value d_Str_toCharArray_8 ?_
  have hPc := hP.sub (ws' := [ic h_value k_value n f_value]) [1] rfl
  have hKc := hK.sub (tys' := [(k_value, .byte)]) [0] rfl
  have hDc := hD.sub (ws' := [ic h_value k_value n f_value]) [1] (by decide) rfl
  have hFc := va_free (wc := [ic h_value k_value n f_value]) hD hS hA [1] rfl
  refine va_callr (va_runS (As := [.ref h_value]) (rest := []) ⟨hx, hb, hml, hown, hT⟩ (c_Lat_toChars l dC dI (sz := s.heap.size) (h_a1 := h_value) (k_a1 := k_value) (f_a1 := f_value) (n := n) (z1 := (by first | assumption | (subst_vars; decide) | omega))) (va_cwS 1 hT (gS ml_Str_299 st_Lat_toChars ini_Lat co_Lat_toChars) rfl rfl rfl (by decide +kernel) ⟨Nat.le_of_ble_eq_true rfl, Nat.le_of_ble_eq_true rfl⟩) ⟨fbQ, fun U hU hW => ⟨rfl, by rw [hU], by rw [hU]; exact hPc, va_K.moved hW.alike hKc, hDc.weaken (fun _ _ _ _ => trivial)⟩⟩ rfl rfl hl.1 rfl (lv_room (Nat.le_of_ble_eq_true rfl)) d_Str_toCharArray_11 ⟨Nat.le_of_ble_eq_true rfl, Nat.le_of_ble_eq_true rfl⟩) hS (fun q _ h => hFc q h) hFc (fun u ra3  t H1 locs ht hvm hw hB hz1 hk1 hS => ?_)
  obtain ⟨k_ret_3, hw3_0, hP1, hK1, hD1⟩ := hB
  rw [ht] at hP1
  have hK1 := va_K.moved hvm.symm hK1
  obtain ⟨hP, hD⟩ := va_join (wr := [oc h_this 13 fs_this]) (w1 := [ic h_value k_value n f_value, ic ra3 k_ret_3 n (infF f_value (fun _ => 0) n)]) hP hD [1] [0] rfl rfl (by decide) (by decide) hk1 hFc hP1 hD1
  generalize H1 = H at hP hS ⊢
  have hP : va_P (dC, dI) cls_all [oc h_this 13 fs_this, ic h_value k_value n f_value, ic ra3 k_ret_3 n (infF f_value (fun _ => 0) n)] H := hP
  have hD : va_D A [oc h_this 13 fs_this, ic h_value k_value n f_value, ic ra3 k_ret_3 n (infF f_value (fun _ => 0) n)] := hD
  have hK : va_K (dC, dI) cls_all [(k_value, .byte), (k_value, .byte), (k_ret_3, .char)] s := hK.app hK1
  refine W.widen (k := 1) (n := 8) (Nat.le_of_ble_eq_true rfl) (Nat.le_of_ble_eq_true rfl) ?_
  refine lv_goto (tgt := 24) hx hb d_Str_toCharArray_14 (by decide) ?_
  have hP9 := hP.sub (ws' := [oc h_this 13 fs_this, ic h_value k_value n f_value, ic ra3 k_ret_3 n (infF f_value (fun _ => 0) n)]) [0, 1, 2] rfl
  have hD9 := hD.sub (ws' := [oc h_this 13 fs_this, ic h_value k_value n f_value, ic ra3 k_ret_3 n (infF f_value (fun _ => 0) n)]) [0, 1, 2] (by decide) rfl
  have hK9 := hK.sub (tys' := [(k_value, .byte), (k_ret_3, .char)]) [0, 2] rfl
  refine W.widen (k := 1) (n := 8) (Nat.le_of_ble_eq_true rfl) (Nat.le_of_ble_eq_true rfl) ?_
  exact W.aret (v := .ref ra3) hx hb hr (Or.inr ⟨_, rfl⟩) (Or.inr ⟨_, rfl⟩) (fun t ht hW => ⟨⟨(), ra3, rfl, trivial, k_ret_3, trivial, by rw [ht]; exact hP9, va_K.moved hW.alike hK9, hD9⟩, hS.F ht⟩) hS.2.2 d_Str_toCharArray_24

