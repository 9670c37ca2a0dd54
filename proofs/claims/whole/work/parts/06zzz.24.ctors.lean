abbrev b_Code_init : ByteArray := prog_2_method_1_code
abbrev y_Code_init : MethodName := ⟨R_Code, "<init>", "()V"⟩
theorem co_Code_init : Cond.code y_Code_init b_Code_init 1 none ∈ lw_good := lg_in (tin_2 _ (List.mem_of_getElem? (i := 143) rfl)) rfl
abbrev w_Code_init : List Cond := Cond.code y_Code_init b_Code_init 1 none :: lw_good
theorem im_Code_init : Cond.instanceMethod y_Code_init ∈ lw_good := lg_right (i := 382) (by decide +kernel) rfl
theorem d_Code_init_0 : decode b_Code_init 0 = .ok (.aload_n 0, 1) := by decide +kernel
theorem d_Code_init_1 : decode b_Code_init 1 = .ok (.invokespecial 3, 3) := by decide +kernel
theorem ml_Code_3 : Cond.methodLink R_Code 3 objectInit ∈ lw_good := lg_right (i := 384) (by decide +kernel) rfl
theorem d_Code_init_4 : decode b_Code_init 4 = .ok (.aload_n 0, 1) := by decide +kernel
theorem d_Code_init_5 : decode b_Code_init 5 = .ok (.sipush 6032, 3) := by decide +kernel
theorem d_Code_init_8 : decode b_Code_init 8 = .ok (.newarray .int, 2) := by decide +kernel
theorem d_Code_init_10 : decode b_Code_init 10 = .ok (.putfield 11, 3) := by decide +kernel
theorem d_Code_init_13 : decode b_Code_init 13 = .ok (.aload_n 0, 1) := by decide +kernel
theorem d_Code_init_14 : decode b_Code_init 14 = .ok (.sipush 6032, 3) := by decide +kernel
theorem d_Code_init_17 : decode b_Code_init 17 = .ok (.newarray .int, 2) := by decide +kernel
theorem d_Code_init_19 : decode b_Code_init 19 = .ok (.putfield 15, 3) := by decide +kernel
theorem d_Code_init_22 : decode b_Code_init 22 = .ok (.aload_n 0, 1) := by decide +kernel
theorem d_Code_init_23 : decode b_Code_init 23 = .ok (.sipush 6032, 3) := by decide +kernel
theorem d_Code_init_26 : decode b_Code_init 26 = .ok (.newarray .int, 2) := by decide +kernel
theorem d_Code_init_28 : decode b_Code_init 28 = .ok (.putfield 18, 3) := by decide +kernel
theorem d_Code_init_31 : decode b_Code_init 31 = .ok (.aload_n 0, 1) := by decide +kernel
theorem d_Code_init_32 : decode b_Code_init 32 = .ok (.bipush 7, 2) := by decide +kernel
theorem d_Code_init_34 : decode b_Code_init 34 = .ok (.newarray .int, 2) := by decide +kernel
theorem d_Code_init_36 : decode b_Code_init 36 = .ok (.putfield 21, 3) := by decide +kernel
theorem d_Code_init_39 : decode b_Code_init 39 = .ok (.aload_n 0, 1) := by decide +kernel
theorem d_Code_init_40 : decode b_Code_init 40 = .ok (.iconst (-1), 1) := by decide +kernel
theorem d_Code_init_41 : decode b_Code_init 41 = .ok (.putfield 24, 3) := by decide +kernel
theorem d_Code_init_44 : decode b_Code_init 44 = .ok (.return_, 1) := by decide +kernel
abbrev b_Types_init : ByteArray := prog_12_method_1_code
abbrev y_Types_init : MethodName := ⟨R_Types, "<init>", "()V"⟩
theorem co_Types_init : Cond.code y_Types_init b_Types_init 1 none ∈ lw_good := lg_in (tin_2 _ (List.mem_of_getElem? (i := 205) rfl)) rfl
abbrev w_Types_init : List Cond := Cond.code y_Types_init b_Types_init 1 none :: lw_good
theorem im_Types_init : Cond.instanceMethod y_Types_init ∈ lw_good := lg_right (i := 444) (by decide +kernel) rfl
theorem d_Types_init_0 : decode b_Types_init 0 = .ok (.aload_n 0, 1) := by decide +kernel
theorem d_Types_init_1 : decode b_Types_init 1 = .ok (.invokespecial 3, 3) := by decide +kernel
theorem ml_Types_3 : Cond.methodLink R_Types 3 objectInit ∈ lw_good := lg_right (i := 446) (by decide +kernel) rfl
theorem d_Types_init_4 : decode b_Types_init 4 = .ok (.aload_n 0, 1) := by decide +kernel
theorem d_Types_init_5 : decode b_Types_init 5 = .ok (.sipush 16384, 3) := by decide +kernel
theorem d_Types_init_8 : decode b_Types_init 8 = .ok (.newarray .long, 2) := by decide +kernel
theorem d_Types_init_10 : decode b_Types_init 10 = .ok (.putfield 11, 3) := by decide +kernel
theorem d_Types_init_13 : decode b_Types_init 13 = .ok (.return_, 1) := by decide +kernel
abbrev b_Parser_init : ByteArray := prog_8_method_1_code
abbrev y_Parser_init : MethodName := ⟨R_Parser, "<init>", "(LPointerHouse$Source;LPointerHouse$Items;LPointerHouse$Code;)V"⟩
theorem co_Parser_init : Cond.code y_Parser_init b_Parser_init 4 none ∈ lw_good := lg_in (tin_2 _ (List.mem_of_getElem? (i := 174) rfl)) rfl
abbrev w_Parser_init : List Cond := Cond.code y_Parser_init b_Parser_init 4 none :: lw_good
theorem im_Parser_init : Cond.instanceMethod y_Parser_init ∈ lw_good := lg_right (i := 413) (by decide +kernel) rfl
theorem d_Parser_init_0 : decode b_Parser_init 0 = .ok (.aload_n 0, 1) := by decide +kernel
theorem d_Parser_init_1 : decode b_Parser_init 1 = .ok (.invokespecial 3, 3) := by decide +kernel
theorem ml_Parser_3 : Cond.methodLink R_Parser 3 objectInit ∈ lw_good := lg_right (i := 415) (by decide +kernel) rfl
theorem d_Parser_init_4 : decode b_Parser_init 4 = .ok (.aload_n 0, 1) := by decide +kernel
theorem d_Parser_init_5 : decode b_Parser_init 5 = .ok (.aload_n 1, 1) := by decide +kernel
theorem d_Parser_init_6 : decode b_Parser_init 6 = .ok (.putfield 9, 3) := by decide +kernel
theorem d_Parser_init_9 : decode b_Parser_init 9 = .ok (.aload_n 0, 1) := by decide +kernel
theorem d_Parser_init_10 : decode b_Parser_init 10 = .ok (.aload_n 2, 1) := by decide +kernel
theorem d_Parser_init_11 : decode b_Parser_init 11 = .ok (.putfield 15, 3) := by decide +kernel
theorem d_Parser_init_14 : decode b_Parser_init 14 = .ok (.aload_n 0, 1) := by decide +kernel
theorem d_Parser_init_15 : decode b_Parser_init 15 = .ok (.aload_n 3, 1) := by decide +kernel
theorem d_Parser_init_16 : decode b_Parser_init 16 = .ok (.putfield 19, 3) := by decide +kernel
theorem d_Parser_init_19 : decode b_Parser_init 19 = .ok (.return_, 1) := by decide +kernel
abbrev b_Scope_init : ByteArray := prog_9_method_1_code
abbrev y_Scope_init : MethodName := ⟨R_Scope, "<init>", "(LPointerHouse$Source;LPointerHouse$Items;LPointerHouse$Types;)V"⟩
theorem co_Scope_init : Cond.code y_Scope_init b_Scope_init 4 none ∈ lw_good := lg_in (tin_2 _ (List.mem_of_getElem? (i := 218) rfl)) rfl
abbrev w_Scope_init : List Cond := Cond.code y_Scope_init b_Scope_init 4 none :: lw_good
theorem im_Scope_init : Cond.instanceMethod y_Scope_init ∈ lw_good := lg_right (i := 457) (by decide +kernel) rfl
theorem d_Scope_init_0 : decode b_Scope_init 0 = .ok (.aload_n 0, 1) := by decide +kernel
theorem d_Scope_init_1 : decode b_Scope_init 1 = .ok (.invokespecial 5, 3) := by decide +kernel
theorem ml_Scope_5 : Cond.methodLink R_Scope 5 objectInit ∈ lw_good := lg_right (i := 459) (by decide +kernel) rfl
theorem d_Scope_init_4 : decode b_Scope_init 4 = .ok (.aload_n 0, 1) := by decide +kernel
theorem d_Scope_init_5 : decode b_Scope_init 5 = .ok (.bipush 20, 2) := by decide +kernel
theorem d_Scope_init_7 : decode b_Scope_init 7 = .ok (.newarray .long, 2) := by decide +kernel
theorem d_Scope_init_9 : decode b_Scope_init 9 = .ok (.putfield 11, 3) := by decide +kernel
theorem d_Scope_init_12 : decode b_Scope_init 12 = .ok (.aload_n 0, 1) := by decide +kernel
theorem d_Scope_init_13 : decode b_Scope_init 13 = .ok (.bipush 20, 2) := by decide +kernel
theorem d_Scope_init_15 : decode b_Scope_init 15 = .ok (.newarray .int, 2) := by decide +kernel
theorem d_Scope_init_17 : decode b_Scope_init 17 = .ok (.putfield 15, 3) := by decide +kernel
theorem d_Scope_init_20 : decode b_Scope_init 20 = .ok (.aload_n 0, 1) := by decide +kernel
theorem d_Scope_init_21 : decode b_Scope_init 21 = .ok (.bipush 21, 2) := by decide +kernel
theorem d_Scope_init_23 : decode b_Scope_init 23 = .ok (.newarray .int, 2) := by decide +kernel
theorem d_Scope_init_25 : decode b_Scope_init 25 = .ok (.putfield 19, 3) := by decide +kernel
theorem d_Scope_init_28 : decode b_Scope_init 28 = .ok (.aload_n 0, 1) := by decide +kernel
theorem d_Scope_init_29 : decode b_Scope_init 29 = .ok (.bipush 12, 2) := by decide +kernel
theorem d_Scope_init_31 : decode b_Scope_init 31 = .ok (.newarray .long, 2) := by decide +kernel
theorem d_Scope_init_33 : decode b_Scope_init 33 = .ok (.putfield 22, 3) := by decide +kernel
theorem d_Scope_init_36 : decode b_Scope_init 36 = .ok (.aload_n 0, 1) := by decide +kernel
theorem d_Scope_init_37 : decode b_Scope_init 37 = .ok (.bipush 12, 2) := by decide +kernel
theorem d_Scope_init_39 : decode b_Scope_init 39 = .ok (.newarray .int, 2) := by decide +kernel
theorem d_Scope_init_41 : decode b_Scope_init 41 = .ok (.putfield 25, 3) := by decide +kernel
theorem d_Scope_init_44 : decode b_Scope_init 44 = .ok (.aload_n 0, 1) := by decide +kernel
theorem d_Scope_init_45 : decode b_Scope_init 45 = .ok (.aload_n 1, 1) := by decide +kernel
theorem d_Scope_init_46 : decode b_Scope_init 46 = .ok (.putfield 28, 3) := by decide +kernel
theorem d_Scope_init_49 : decode b_Scope_init 49 = .ok (.aload_n 0, 1) := by decide +kernel
theorem d_Scope_init_50 : decode b_Scope_init 50 = .ok (.aload_n 2, 1) := by decide +kernel
theorem d_Scope_init_51 : decode b_Scope_init 51 = .ok (.putfield 32, 3) := by decide +kernel
theorem d_Scope_init_54 : decode b_Scope_init 54 = .ok (.aload_n 0, 1) := by decide +kernel
theorem d_Scope_init_55 : decode b_Scope_init 55 = .ok (.aload_n 3, 1) := by decide +kernel
theorem d_Scope_init_56 : decode b_Scope_init 56 = .ok (.putfield 36, 3) := by decide +kernel
theorem d_Scope_init_59 : decode b_Scope_init 59 = .ok (.return_, 1) := by decide +kernel
abbrev b_Heads_init : ByteArray := prog_4_method_1_code
abbrev y_Heads_init : MethodName := ⟨R_Heads, "<init>", "(LPointerHouse$Source;LPointerHouse$Items;LPointerHouse$Types;LPointerHouse$Scope;LPointerHouse$Code;)V"⟩
theorem co_Heads_init : Cond.code y_Heads_init b_Heads_init 6 none ∈ lw_good := lg_in (tin_3 _ (List.mem_of_getElem? (i := 32) rfl)) rfl
abbrev w_Heads_init : List Cond := Cond.code y_Heads_init b_Heads_init 6 none :: lw_good
theorem im_Heads_init : Cond.instanceMethod y_Heads_init ∈ lw_good := lg_right (i := 511) (by decide +kernel) rfl
theorem d_Heads_init_0 : decode b_Heads_init 0 = .ok (.aload_n 0, 1) := by decide +kernel
theorem d_Heads_init_1 : decode b_Heads_init 1 = .ok (.invokespecial 3, 3) := by decide +kernel
theorem ml_Heads_3 : Cond.methodLink R_Heads 3 objectInit ∈ lw_good := lg_right (i := 513) (by decide +kernel) rfl
theorem d_Heads_init_4 : decode b_Heads_init 4 = .ok (.aload_n 0, 1) := by decide +kernel
theorem d_Heads_init_5 : decode b_Heads_init 5 = .ok (.aload_n 1, 1) := by decide +kernel
theorem d_Heads_init_6 : decode b_Heads_init 6 = .ok (.putfield 9, 3) := by decide +kernel
theorem d_Heads_init_9 : decode b_Heads_init 9 = .ok (.aload_n 0, 1) := by decide +kernel
theorem d_Heads_init_10 : decode b_Heads_init 10 = .ok (.aload_n 2, 1) := by decide +kernel
theorem d_Heads_init_11 : decode b_Heads_init 11 = .ok (.putfield 15, 3) := by decide +kernel
theorem d_Heads_init_14 : decode b_Heads_init 14 = .ok (.aload_n 0, 1) := by decide +kernel
theorem d_Heads_init_15 : decode b_Heads_init 15 = .ok (.aload_n 3, 1) := by decide +kernel
theorem d_Heads_init_16 : decode b_Heads_init 16 = .ok (.putfield 19, 3) := by decide +kernel
theorem d_Heads_init_19 : decode b_Heads_init 19 = .ok (.aload_n 0, 1) := by decide +kernel
theorem d_Heads_init_20 : decode b_Heads_init 20 = .ok (.aload 4, 2) := by decide +kernel
theorem d_Heads_init_22 : decode b_Heads_init 22 = .ok (.putfield 23, 3) := by decide +kernel
theorem d_Heads_init_25 : decode b_Heads_init 25 = .ok (.aload_n 0, 1) := by decide +kernel
theorem d_Heads_init_26 : decode b_Heads_init 26 = .ok (.aload 5, 2) := by decide +kernel
theorem d_Heads_init_28 : decode b_Heads_init 28 = .ok (.putfield 27, 3) := by decide +kernel
theorem d_Heads_init_31 : decode b_Heads_init 31 = .ok (.return_, 1) := by decide +kernel
abbrev b_Memory_init : ByteArray := prog_7_method_1_code
abbrev y_Memory_init : MethodName := ⟨R_Memory, "<init>", "()V"⟩
theorem co_Memory_init : Cond.code y_Memory_init b_Memory_init 1 none ∈ lw_good := lg_in (tin_3 _ (List.mem_of_getElem? (i := 117) rfl)) rfl
abbrev w_Memory_init : List Cond := Cond.code y_Memory_init b_Memory_init 1 none :: lw_good
theorem im_Memory_init : Cond.instanceMethod y_Memory_init ∈ lw_good := lg_right (i := 596) (by decide +kernel) rfl
theorem d_Memory_init_0 : decode b_Memory_init 0 = .ok (.aload_n 0, 1) := by decide +kernel
theorem d_Memory_init_1 : decode b_Memory_init 1 = .ok (.invokespecial 5, 3) := by decide +kernel
theorem ml_Memory_5 : Cond.methodLink R_Memory 5 objectInit ∈ lw_good := lg_right (i := 598) (by decide +kernel) rfl
theorem d_Memory_init_4 : decode b_Memory_init 4 = .ok (.aload_n 0, 1) := by decide +kernel
theorem d_Memory_init_5 : decode b_Memory_init 5 = .ok (.sipush 4096, 3) := by decide +kernel
theorem d_Memory_init_8 : decode b_Memory_init 8 = .ok (.newarray .int, 2) := by decide +kernel
theorem d_Memory_init_10 : decode b_Memory_init 10 = .ok (.putfield 13, 3) := by decide +kernel
theorem d_Memory_init_13 : decode b_Memory_init 13 = .ok (.aload_n 0, 1) := by decide +kernel
theorem d_Memory_init_14 : decode b_Memory_init 14 = .ok (.sipush 4096, 3) := by decide +kernel
theorem d_Memory_init_17 : decode b_Memory_init 17 = .ok (.newarray .boolean, 2) := by decide +kernel
theorem d_Memory_init_19 : decode b_Memory_init 19 = .ok (.putfield 17, 3) := by decide +kernel
theorem d_Memory_init_22 : decode b_Memory_init 22 = .ok (.aload_n 0, 1) := by decide +kernel
theorem d_Memory_init_23 : decode b_Memory_init 23 = .ok (.bipush 64, 2) := by decide +kernel
theorem d_Memory_init_25 : decode b_Memory_init 25 = .ok (.newarray .int, 2) := by decide +kernel
theorem d_Memory_init_27 : decode b_Memory_init 27 = .ok (.putfield 21, 3) := by decide +kernel
theorem d_Memory_init_30 : decode b_Memory_init 30 = .ok (.aload_n 0, 1) := by decide +kernel
theorem d_Memory_init_31 : decode b_Memory_init 31 = .ok (.sipush 321, 3) := by decide +kernel
theorem d_Memory_init_34 : decode b_Memory_init 34 = .ok (.newarray .int, 2) := by decide +kernel
theorem d_Memory_init_36 : decode b_Memory_init 36 = .ok (.putfield 24, 3) := by decide +kernel
theorem d_Memory_init_39 : decode b_Memory_init 39 = .ok (.aload_n 0, 1) := by decide +kernel
theorem d_Memory_init_40 : decode b_Memory_init 40 = .ok (.sipush 321, 3) := by decide +kernel
theorem d_Memory_init_43 : decode b_Memory_init 43 = .ok (.newarray .int, 2) := by decide +kernel
theorem d_Memory_init_45 : decode b_Memory_init 45 = .ok (.putfield 27, 3) := by decide +kernel
theorem d_Memory_init_48 : decode b_Memory_init 48 = .ok (.aload_n 0, 1) := by decide +kernel
theorem d_Memory_init_49 : decode b_Memory_init 49 = .ok (.sipush 321, 3) := by decide +kernel
theorem d_Memory_init_52 : decode b_Memory_init 52 = .ok (.newarray .int, 2) := by decide +kernel
theorem d_Memory_init_54 : decode b_Memory_init 54 = .ok (.putfield 30, 3) := by decide +kernel
theorem d_Memory_init_57 : decode b_Memory_init 57 = .ok (.aload_n 0, 1) := by decide +kernel
theorem d_Memory_init_58 : decode b_Memory_init 58 = .ok (.sipush 321, 3) := by decide +kernel
theorem d_Memory_init_61 : decode b_Memory_init 61 = .ok (.newarray .int, 2) := by decide +kernel
theorem d_Memory_init_63 : decode b_Memory_init 63 = .ok (.putfield 33, 3) := by decide +kernel
theorem d_Memory_init_66 : decode b_Memory_init 66 = .ok (.aload_n 0, 1) := by decide +kernel
theorem d_Memory_init_67 : decode b_Memory_init 67 = .ok (.sipush 321, 3) := by decide +kernel
theorem d_Memory_init_70 : decode b_Memory_init 70 = .ok (.newarray .int, 2) := by decide +kernel
theorem d_Memory_init_72 : decode b_Memory_init 72 = .ok (.putfield 36, 3) := by decide +kernel
theorem d_Memory_init_75 : decode b_Memory_init 75 = .ok (.return_, 1) := by decide +kernel
abbrev b_Items_init : ByteArray := prog_5_method_1_code
abbrev y_Items_init : MethodName := ⟨R_Items, "<init>", "()V"⟩
theorem co_Items_init : Cond.code y_Items_init b_Items_init 1 none ∈ lw_good := lg_in (tin_2 _ (List.mem_of_getElem? (i := 27) rfl)) rfl
abbrev w_Items_init : List Cond := Cond.code y_Items_init b_Items_init 1 none :: lw_good
theorem im_Items_init : Cond.instanceMethod y_Items_init ∈ lw_good := lg_right (i := 266) (by decide +kernel) rfl
theorem d_Items_init_0 : decode b_Items_init 0 = .ok (.aload_n 0, 1) := by decide +kernel
theorem d_Items_init_1 : decode b_Items_init 1 = .ok (.invokespecial 3, 3) := by decide +kernel
theorem ml_Items_3 : Cond.methodLink R_Items 3 objectInit ∈ lw_good := lg_right (i := 268) (by decide +kernel) rfl
theorem d_Items_init_4 : decode b_Items_init 4 = .ok (.aload_n 0, 1) := by decide +kernel
theorem d_Items_init_5 : decode b_Items_init 5 = .ok (.bipush 24, 2) := by decide +kernel
theorem d_Items_init_7 : decode b_Items_init 7 = .ok (.newarray .int, 2) := by decide +kernel
theorem d_Items_init_9 : decode b_Items_init 9 = .ok (.putfield 9, 3) := by decide +kernel
theorem d_Items_init_12 : decode b_Items_init 12 = .ok (.aload_n 0, 1) := by decide +kernel
theorem d_Items_init_13 : decode b_Items_init 13 = .ok (.bipush 24, 2) := by decide +kernel
theorem d_Items_init_15 : decode b_Items_init 15 = .ok (.newarray .int, 2) := by decide +kernel
theorem d_Items_init_17 : decode b_Items_init 17 = .ok (.putfield 15, 3) := by decide +kernel
theorem fl_Items_15 : Cond.fieldLink R_Items 15 "PointerHouse$Items" "nameTok" "[I" ∈ lw_good := lg_right (i := 280) (by decide +kernel) rfl
theorem d_Items_init_20 : decode b_Items_init 20 = .ok (.aload_n 0, 1) := by decide +kernel
theorem d_Items_init_21 : decode b_Items_init 21 = .ok (.bipush 24, 2) := by decide +kernel
theorem d_Items_init_23 : decode b_Items_init 23 = .ok (.newarray .long, 2) := by decide +kernel
theorem d_Items_init_25 : decode b_Items_init 25 = .ok (.putfield 18, 3) := by decide +kernel
theorem d_Items_init_28 : decode b_Items_init 28 = .ok (.aload_n 0, 1) := by decide +kernel
theorem d_Items_init_29 : decode b_Items_init 29 = .ok (.bipush 24, 2) := by decide +kernel
theorem d_Items_init_31 : decode b_Items_init 31 = .ok (.newarray .int, 2) := by decide +kernel
theorem d_Items_init_33 : decode b_Items_init 33 = .ok (.putfield 22, 3) := by decide +kernel
theorem fl_Items_22 : Cond.fieldLink R_Items 22 "PointerHouse$Items" "rsCount" "[I" ∈ lw_good := lg_right (i := 287) (by decide +kernel) rfl
theorem d_Items_init_36 : decode b_Items_init 36 = .ok (.aload_n 0, 1) := by decide +kernel
theorem d_Items_init_37 : decode b_Items_init 37 = .ok (.bipush 24, 2) := by decide +kernel
theorem d_Items_init_39 : decode b_Items_init 39 = .ok (.newarray .int, 2) := by decide +kernel
theorem d_Items_init_41 : decode b_Items_init 41 = .ok (.putfield 25, 3) := by decide +kernel
theorem d_Items_init_44 : decode b_Items_init 44 = .ok (.aload_n 0, 1) := by decide +kernel
theorem d_Items_init_45 : decode b_Items_init 45 = .ok (.bipush 24, 2) := by decide +kernel
theorem d_Items_init_47 : decode b_Items_init 47 = .ok (.newarray .int, 2) := by decide +kernel
theorem d_Items_init_49 : decode b_Items_init 49 = .ok (.putfield 28, 3) := by decide +kernel
theorem fl_Items_28 : Cond.fieldLink R_Items 28 "PointerHouse$Items" "typeTok" "[I" ∈ lw_good := lg_right (i := 297) (by decide +kernel) rfl
theorem d_Items_init_52 : decode b_Items_init 52 = .ok (.aload_n 0, 1) := by decide +kernel
theorem d_Items_init_53 : decode b_Items_init 53 = .ok (.bipush 24, 2) := by decide +kernel
theorem d_Items_init_55 : decode b_Items_init 55 = .ok (.newarray .int, 2) := by decide +kernel
theorem d_Items_init_57 : decode b_Items_init 57 = .ok (.putfield 31, 3) := by decide +kernel
theorem fl_Items_31 : Cond.fieldLink R_Items 31 "PointerHouse$Items" "deadTok" "[I" ∈ lw_good := lg_right (i := 300) (by decide +kernel) rfl
theorem d_Items_init_60 : decode b_Items_init 60 = .ok (.aload_n 0, 1) := by decide +kernel
theorem d_Items_init_61 : decode b_Items_init 61 = .ok (.bipush 24, 2) := by decide +kernel
theorem d_Items_init_63 : decode b_Items_init 63 = .ok (.newarray .int, 2) := by decide +kernel
theorem d_Items_init_65 : decode b_Items_init 65 = .ok (.putfield 34, 3) := by decide +kernel
theorem fl_Items_34 : Cond.fieldLink R_Items 34 "PointerHouse$Items" "whereTok" "[I" ∈ lw_good := lg_right (i := 303) (by decide +kernel) rfl
theorem d_Items_init_68 : decode b_Items_init 68 = .ok (.aload_n 0, 1) := by decide +kernel
theorem d_Items_init_69 : decode b_Items_init 69 = .ok (.bipush 24, 2) := by decide +kernel
theorem d_Items_init_71 : decode b_Items_init 71 = .ok (.newarray .int, 2) := by decide +kernel
theorem d_Items_init_73 : decode b_Items_init 73 = .ok (.putfield 37, 3) := by decide +kernel
theorem fl_Items_37 : Cond.fieldLink R_Items 37 "PointerHouse$Items" "body" "[I" ∈ lw_good := lg_right (i := 306) (by decide +kernel) rfl
theorem d_Items_init_76 : decode b_Items_init 76 = .ok (.aload_n 0, 1) := by decide +kernel
theorem d_Items_init_77 : decode b_Items_init 77 = .ok (.bipush 24, 2) := by decide +kernel
theorem d_Items_init_79 : decode b_Items_init 79 = .ok (.newarray .int, 2) := by decide +kernel
theorem d_Items_init_81 : decode b_Items_init 81 = .ok (.putfield 40, 3) := by decide +kernel
theorem fl_Items_40 : Cond.fieldLink R_Items 40 "PointerHouse$Items" "endTok" "[I" ∈ lw_good := lg_right (i := 309) (by decide +kernel) rfl
theorem d_Items_init_84 : decode b_Items_init 84 = .ok (.aload_n 0, 1) := by decide +kernel
theorem d_Items_init_85 : decode b_Items_init 85 = .ok (.bipush 24, 2) := by decide +kernel
theorem d_Items_init_87 : decode b_Items_init 87 = .ok (.newarray .int, 2) := by decide +kernel
theorem d_Items_init_89 : decode b_Items_init 89 = .ok (.putfield 43, 3) := by decide +kernel
theorem fl_Items_43 : Cond.fieldLink R_Items 43 "PointerHouse$Items" "gives" "[I" ∈ lw_good := lg_right (i := 312) (by decide +kernel) rfl
theorem d_Items_init_92 : decode b_Items_init 92 = .ok (.aload_n 0, 1) := by decide +kernel
theorem d_Items_init_93 : decode b_Items_init 93 = .ok (.bipush 24, 2) := by decide +kernel
theorem d_Items_init_95 : decode b_Items_init 95 = .ok (.newarray .int, 2) := by decide +kernel
theorem d_Items_init_97 : decode b_Items_init 97 = .ok (.putfield 46, 3) := by decide +kernel
theorem fl_Items_46 : Cond.fieldLink R_Items 46 "PointerHouse$Items" "dead" "[I" ∈ lw_good := lg_right (i := 316) (by decide +kernel) rfl
theorem d_Items_init_100 : decode b_Items_init 100 = .ok (.aload_n 0, 1) := by decide +kernel
theorem d_Items_init_101 : decode b_Items_init 101 = .ok (.bipush 24, 2) := by decide +kernel
theorem d_Items_init_103 : decode b_Items_init 103 = .ok (.newarray .int, 2) := by decide +kernel
theorem d_Items_init_105 : decode b_Items_init 105 = .ok (.putfield 49, 3) := by decide +kernel
theorem fl_Items_49 : Cond.fieldLink R_Items 49 "PointerHouse$Items" "above" "[I" ∈ lw_good := lg_right (i := 320) (by decide +kernel) rfl
theorem d_Items_init_108 : decode b_Items_init 108 = .ok (.aload_n 0, 1) := by decide +kernel
theorem d_Items_init_109 : decode b_Items_init 109 = .ok (.bipush 24, 2) := by decide +kernel
theorem d_Items_init_111 : decode b_Items_init 111 = .ok (.newarray .int, 2) := by decide +kernel
theorem d_Items_init_113 : decode b_Items_init 113 = .ok (.putfield 52, 3) := by decide +kernel
theorem fl_Items_52 : Cond.fieldLink R_Items 52 "PointerHouse$Items" "words" "[I" ∈ lw_good := lg_right (i := 323) (by decide +kernel) rfl
theorem d_Items_init_116 : decode b_Items_init 116 = .ok (.aload_n 0, 1) := by decide +kernel
theorem d_Items_init_117 : decode b_Items_init 117 = .ok (.bipush 24, 2) := by decide +kernel
theorem d_Items_init_119 : decode b_Items_init 119 = .ok (.newarray .int, 2) := by decide +kernel
theorem d_Items_init_121 : decode b_Items_init 121 = .ok (.putfield 55, 3) := by decide +kernel
theorem fl_Items_55 : Cond.fieldLink R_Items 55 "PointerHouse$Items" "entry" "[I" ∈ lw_good := lg_right (i := 327) (by decide +kernel) rfl
theorem d_Items_init_124 : decode b_Items_init 124 = .ok (.aload_n 0, 1) := by decide +kernel
theorem d_Items_init_125 : decode b_Items_init 125 = .ok (.sipush 192, 3) := by decide +kernel
theorem d_Items_init_128 : decode b_Items_init 128 = .ok (.newarray .int, 2) := by decide +kernel
theorem d_Items_init_130 : decode b_Items_init 130 = .ok (.putfield 58, 3) := by decide +kernel
theorem d_Items_init_133 : decode b_Items_init 133 = .ok (.aload_n 0, 1) := by decide +kernel
theorem d_Items_init_134 : decode b_Items_init 134 = .ok (.sipush 192, 3) := by decide +kernel
theorem d_Items_init_137 : decode b_Items_init 137 = .ok (.newarray .int, 2) := by decide +kernel
theorem d_Items_init_139 : decode b_Items_init 139 = .ok (.putfield 61, 3) := by decide +kernel
theorem d_Items_init_142 : decode b_Items_init 142 = .ok (.aload_n 0, 1) := by decide +kernel
theorem d_Items_init_143 : decode b_Items_init 143 = .ok (.sipush 192, 3) := by decide +kernel
theorem d_Items_init_146 : decode b_Items_init 146 = .ok (.newarray .int, 2) := by decide +kernel
theorem d_Items_init_148 : decode b_Items_init 148 = .ok (.putfield 64, 3) := by decide +kernel
theorem d_Items_init_151 : decode b_Items_init 151 = .ok (.aload_n 0, 1) := by decide +kernel
theorem d_Items_init_152 : decode b_Items_init 152 = .ok (.bipush 24, 2) := by decide +kernel
theorem d_Items_init_154 : decode b_Items_init 154 = .ok (.newarray .int, 2) := by decide +kernel
theorem d_Items_init_156 : decode b_Items_init 156 = .ok (.putfield 67, 3) := by decide +kernel
theorem d_Items_init_159 : decode b_Items_init 159 = .ok (.aload_n 0, 1) := by decide +kernel
theorem d_Items_init_160 : decode b_Items_init 160 = .ok (.bipush 72, 2) := by decide +kernel
theorem d_Items_init_162 : decode b_Items_init 162 = .ok (.newarray .int, 2) := by decide +kernel
theorem d_Items_init_164 : decode b_Items_init 164 = .ok (.putfield 70, 3) := by decide +kernel
theorem d_Items_init_167 : decode b_Items_init 167 = .ok (.return_, 1) := by decide +kernel
abbrev b_Exprs_init : ByteArray := prog_3_method_1_code
abbrev y_Exprs_init : MethodName := ⟨R_Exprs, "<init>", "(LPointerHouse$Source;LPointerHouse$Items;LPointerHouse$Heads;LPointerHouse$Code;)V"⟩
theorem co_Exprs_init : Cond.code y_Exprs_init b_Exprs_init 5 none ∈ lw_good := lg_in (tin_3 _ (List.mem_of_getElem? (i := 58) rfl)) rfl
abbrev w_Exprs_init : List Cond := Cond.code y_Exprs_init b_Exprs_init 5 none :: lw_good
theorem im_Exprs_init : Cond.instanceMethod y_Exprs_init ∈ lw_good := lg_right (i := 537) (by decide +kernel) rfl
theorem d_Exprs_init_0 : decode b_Exprs_init 0 = .ok (.aload_n 0, 1) := by decide +kernel
theorem d_Exprs_init_1 : decode b_Exprs_init 1 = .ok (.invokespecial 3, 3) := by decide +kernel
theorem ml_Exprs_3 : Cond.methodLink R_Exprs 3 objectInit ∈ lw_good := lg_right (i := 539) (by decide +kernel) rfl
theorem d_Exprs_init_4 : decode b_Exprs_init 4 = .ok (.aload_n 0, 1) := by decide +kernel
theorem d_Exprs_init_5 : decode b_Exprs_init 5 = .ok (.aload_n 1, 1) := by decide +kernel
theorem d_Exprs_init_6 : decode b_Exprs_init 6 = .ok (.putfield 9, 3) := by decide +kernel
theorem d_Exprs_init_9 : decode b_Exprs_init 9 = .ok (.aload_n 0, 1) := by decide +kernel
theorem d_Exprs_init_10 : decode b_Exprs_init 10 = .ok (.aload_n 2, 1) := by decide +kernel
theorem d_Exprs_init_11 : decode b_Exprs_init 11 = .ok (.putfield 15, 3) := by decide +kernel
theorem d_Exprs_init_14 : decode b_Exprs_init 14 = .ok (.aload_n 0, 1) := by decide +kernel
theorem d_Exprs_init_15 : decode b_Exprs_init 15 = .ok (.aload_n 3, 1) := by decide +kernel
theorem d_Exprs_init_16 : decode b_Exprs_init 16 = .ok (.putfield 19, 3) := by decide +kernel
theorem d_Exprs_init_19 : decode b_Exprs_init 19 = .ok (.aload_n 0, 1) := by decide +kernel
theorem d_Exprs_init_20 : decode b_Exprs_init 20 = .ok (.aload_n 3, 1) := by decide +kernel
theorem d_Exprs_init_21 : decode b_Exprs_init 21 = .ok (.getfield 23, 3) := by decide +kernel
theorem fl_Exprs_23 : Cond.fieldLink R_Exprs 23 "PointerHouse$Heads" "types" "LPointerHouse$Types;" ∈ lw_good := lg_right (i := 517) (by decide +kernel) rfl
theorem d_Exprs_init_24 : decode b_Exprs_init 24 = .ok (.putfield 29, 3) := by decide +kernel
theorem d_Exprs_init_27 : decode b_Exprs_init 27 = .ok (.aload_n 0, 1) := by decide +kernel
theorem d_Exprs_init_28 : decode b_Exprs_init 28 = .ok (.aload_n 3, 1) := by decide +kernel
theorem d_Exprs_init_29 : decode b_Exprs_init 29 = .ok (.getfield 30, 3) := by decide +kernel
theorem fl_Exprs_30 : Cond.fieldLink R_Exprs 30 "PointerHouse$Heads" "scope" "LPointerHouse$Scope;" ∈ lw_good := lg_right (i := 520) (by decide +kernel) rfl
theorem d_Exprs_init_32 : decode b_Exprs_init 32 = .ok (.putfield 34, 3) := by decide +kernel
theorem d_Exprs_init_35 : decode b_Exprs_init 35 = .ok (.aload_n 0, 1) := by decide +kernel
theorem d_Exprs_init_36 : decode b_Exprs_init 36 = .ok (.aload 4, 2) := by decide +kernel
theorem d_Exprs_init_38 : decode b_Exprs_init 38 = .ok (.putfield 35, 3) := by decide +kernel
theorem d_Exprs_init_41 : decode b_Exprs_init 41 = .ok (.return_, 1) := by decide +kernel
abbrev b_Steps_init : ByteArray := prog_11_method_1_code
abbrev y_Steps_init : MethodName := ⟨R_Steps, "<init>", "(LPointerHouse$Source;LPointerHouse$Items;LPointerHouse$Heads;LPointerHouse$Exprs;LPointerHouse$Code;)V"⟩
theorem co_Steps_init : Cond.code y_Steps_init b_Steps_init 6 none ∈ lw_good := lg_in (tin_3 _ (List.mem_of_getElem? (i := 83) rfl)) rfl
abbrev w_Steps_init : List Cond := Cond.code y_Steps_init b_Steps_init 6 none :: lw_good
theorem im_Steps_init : Cond.instanceMethod y_Steps_init ∈ lw_good := lg_right (i := 562) (by decide +kernel) rfl
theorem d_Steps_init_0 : decode b_Steps_init 0 = .ok (.aload_n 0, 1) := by decide +kernel
theorem d_Steps_init_1 : decode b_Steps_init 1 = .ok (.invokespecial 3, 3) := by decide +kernel
theorem ml_Steps_3 : Cond.methodLink R_Steps 3 objectInit ∈ lw_good := lg_right (i := 564) (by decide +kernel) rfl
theorem d_Steps_init_4 : decode b_Steps_init 4 = .ok (.aload_n 0, 1) := by decide +kernel
theorem d_Steps_init_5 : decode b_Steps_init 5 = .ok (.aload_n 1, 1) := by decide +kernel
theorem d_Steps_init_6 : decode b_Steps_init 6 = .ok (.putfield 9, 3) := by decide +kernel
theorem d_Steps_init_9 : decode b_Steps_init 9 = .ok (.aload_n 0, 1) := by decide +kernel
theorem d_Steps_init_10 : decode b_Steps_init 10 = .ok (.aload_n 2, 1) := by decide +kernel
theorem d_Steps_init_11 : decode b_Steps_init 11 = .ok (.putfield 15, 3) := by decide +kernel
theorem d_Steps_init_14 : decode b_Steps_init 14 = .ok (.aload_n 0, 1) := by decide +kernel
theorem d_Steps_init_15 : decode b_Steps_init 15 = .ok (.aload_n 3, 1) := by decide +kernel
theorem d_Steps_init_16 : decode b_Steps_init 16 = .ok (.putfield 19, 3) := by decide +kernel
theorem d_Steps_init_19 : decode b_Steps_init 19 = .ok (.aload_n 0, 1) := by decide +kernel
theorem d_Steps_init_20 : decode b_Steps_init 20 = .ok (.aload_n 3, 1) := by decide +kernel
theorem d_Steps_init_21 : decode b_Steps_init 21 = .ok (.getfield 23, 3) := by decide +kernel
theorem fl_Steps_23 : Cond.fieldLink R_Steps 23 "PointerHouse$Heads" "types" "LPointerHouse$Types;" ∈ lw_good := lg_right (i := 518) (by decide +kernel) rfl
theorem d_Steps_init_24 : decode b_Steps_init 24 = .ok (.putfield 29, 3) := by decide +kernel
theorem d_Steps_init_27 : decode b_Steps_init 27 = .ok (.aload_n 0, 1) := by decide +kernel
theorem d_Steps_init_28 : decode b_Steps_init 28 = .ok (.aload_n 3, 1) := by decide +kernel
theorem d_Steps_init_29 : decode b_Steps_init 29 = .ok (.getfield 30, 3) := by decide +kernel
theorem fl_Steps_30 : Cond.fieldLink R_Steps 30 "PointerHouse$Heads" "scope" "LPointerHouse$Scope;" ∈ lw_good := lg_right (i := 521) (by decide +kernel) rfl
theorem d_Steps_init_32 : decode b_Steps_init 32 = .ok (.putfield 34, 3) := by decide +kernel
theorem d_Steps_init_35 : decode b_Steps_init 35 = .ok (.aload_n 0, 1) := by decide +kernel
theorem d_Steps_init_36 : decode b_Steps_init 36 = .ok (.aload 4, 2) := by decide +kernel
theorem d_Steps_init_38 : decode b_Steps_init 38 = .ok (.putfield 35, 3) := by decide +kernel
theorem d_Steps_init_41 : decode b_Steps_init 41 = .ok (.aload_n 0, 1) := by decide +kernel
theorem d_Steps_init_42 : decode b_Steps_init 42 = .ok (.aload 5, 2) := by decide +kernel
theorem d_Steps_init_44 : decode b_Steps_init 44 = .ok (.putfield 39, 3) := by decide +kernel
theorem d_Steps_init_47 : decode b_Steps_init 47 = .ok (.return_, 1) := by decide +kernel
abbrev b_Machine_init : ByteArray := prog_6_method_1_code
abbrev y_Machine_init : MethodName := ⟨R_Machine, "<init>", "(LPointerHouse$Code;LPointerHouse$Items;)V"⟩
theorem co_Machine_init : Cond.code y_Machine_init b_Machine_init 3 none ∈ lw_good := lg_in (tin_3 _ (List.mem_of_getElem? (i := 111) rfl)) rfl
abbrev w_Machine_init : List Cond := Cond.code y_Machine_init b_Machine_init 3 none :: lw_good
theorem im_Machine_init : Cond.instanceMethod y_Machine_init ∈ lw_good := lg_right (i := 590) (by decide +kernel) rfl
theorem d_Machine_init_0 : decode b_Machine_init 0 = .ok (.aload_n 0, 1) := by decide +kernel
theorem d_Machine_init_1 : decode b_Machine_init 1 = .ok (.invokespecial 7, 3) := by decide +kernel
theorem ml_Machine_7 : Cond.methodLink R_Machine 7 objectInit ∈ lw_good := lg_right (i := 592) (by decide +kernel) rfl
theorem d_Machine_init_4 : decode b_Machine_init 4 = .ok (.aload_n 0, 1) := by decide +kernel
theorem d_Machine_init_5 : decode b_Machine_init 5 = .ok (.new 13, 3) := by decide +kernel
theorem cl_Machine_13 : Cond.classLink R_Machine 13 "PointerHouse$Memory" ∈ lw_good := lg_right (i := 593) (by decide +kernel) rfl
theorem d_Machine_init_8 : decode b_Machine_init 8 = .ok (.dup, 1) := by decide +kernel
theorem d_Machine_init_9 : decode b_Machine_init 9 = .ok (.invokespecial 15, 3) := by decide +kernel
theorem d_Machine_init_12 : decode b_Machine_init 12 = .ok (.putfield 16, 3) := by decide +kernel
theorem d_Machine_init_15 : decode b_Machine_init 15 = .ok (.aload_n 0, 1) := by decide +kernel
theorem d_Machine_init_16 : decode b_Machine_init 16 = .ok (.sipush 23200, 3) := by decide +kernel
theorem d_Machine_init_19 : decode b_Machine_init 19 = .ok (.newarray .int, 2) := by decide +kernel
theorem d_Machine_init_21 : decode b_Machine_init 21 = .ok (.putfield 20, 3) := by decide +kernel
theorem d_Machine_init_24 : decode b_Machine_init 24 = .ok (.aload_n 0, 1) := by decide +kernel
theorem d_Machine_init_25 : decode b_Machine_init 25 = .ok (.sipush 697, 3) := by decide +kernel
theorem d_Machine_init_28 : decode b_Machine_init 28 = .ok (.newarray .int, 2) := by decide +kernel
theorem d_Machine_init_30 : decode b_Machine_init 30 = .ok (.putfield 24, 3) := by decide +kernel
theorem d_Machine_init_33 : decode b_Machine_init 33 = .ok (.aload_n 0, 1) := by decide +kernel
theorem d_Machine_init_34 : decode b_Machine_init 34 = .ok (.sipush 3200, 3) := by decide +kernel
theorem d_Machine_init_37 : decode b_Machine_init 37 = .ok (.newarray .int, 2) := by decide +kernel
theorem d_Machine_init_39 : decode b_Machine_init 39 = .ok (.putfield 27, 3) := by decide +kernel
theorem d_Machine_init_42 : decode b_Machine_init 42 = .ok (.aload_n 0, 1) := by decide +kernel
theorem d_Machine_init_43 : decode b_Machine_init 43 = .ok (.bipush 100, 2) := by decide +kernel
theorem d_Machine_init_45 : decode b_Machine_init 45 = .ok (.newarray .int, 2) := by decide +kernel
theorem d_Machine_init_47 : decode b_Machine_init 47 = .ok (.putfield 30, 3) := by decide +kernel
theorem d_Machine_init_50 : decode b_Machine_init 50 = .ok (.aload_n 0, 1) := by decide +kernel
theorem d_Machine_init_51 : decode b_Machine_init 51 = .ok (.sipush 300, 3) := by decide +kernel
theorem d_Machine_init_54 : decode b_Machine_init 54 = .ok (.newarray .int, 2) := by decide +kernel
theorem d_Machine_init_56 : decode b_Machine_init 56 = .ok (.putfield 33, 3) := by decide +kernel
theorem d_Machine_init_59 : decode b_Machine_init 59 = .ok (.aload_n 0, 1) := by decide +kernel
theorem d_Machine_init_60 : decode b_Machine_init 60 = .ok (.aload_n 1, 1) := by decide +kernel
theorem d_Machine_init_61 : decode b_Machine_init 61 = .ok (.putfield 36, 3) := by decide +kernel
theorem d_Machine_init_64 : decode b_Machine_init 64 = .ok (.aload_n 0, 1) := by decide +kernel
theorem d_Machine_init_65 : decode b_Machine_init 65 = .ok (.aload_n 2, 1) := by decide +kernel
theorem d_Machine_init_66 : decode b_Machine_init 66 = .ok (.putfield 40, 3) := by decide +kernel
theorem d_Machine_init_69 : decode b_Machine_init 69 = .ok (.return_, 1) := by decide +kernel
set_option maxHeartbeats 1000000 in
set_option maxRecDepth 100000 in
theorem c_Code_init (l : Launch) (dC : Nat → ClassId) (dI : Nat → Nat → Nat) (sz : Nat) (h_this : Nat) : Met l y_Code_init w_Code_init ({ frames := 1, cells := 4, slots := 18103, locals := 12 } : Room) (va_Pc [.ref h_this] (fun U => U.heap.size = sz ∧ va_P (dC, dI) cls_all [oc h_this 0 ([.null, .null, .null, .int 0, .null, .int 0, .int 0] : List Value)] U.heap ∧ va_K (dC, dI) cls_all [] U ∧ va_D (fun _ => True) [oc h_this 0 ([.null, .null, .null, .int 0, .null, .int 0, .int 0] : List Value)])) (va_Qv (fun (_ : Unit) => True) (fun _ t => ∃ (hm' : Nat → Nat) (km' : Nat → ClassId), (True) ∧ va_P (dC, dI) cls_all [oc h_this 0 ([.ref (hm' 0), .ref (hm' 1), .ref (hm' 2), .int 0, .ref (hm' 3), .int 0, .int (-1)] : List Value), ic (hm' 0) (km' 0) 6032 (fun _ => 0), ic (hm' 1) (km' 1) 6032 (fun _ => 0), ic (hm' 2) (km' 2) 6032 (fun _ => 0), ic (hm' 3) (km' 3) 7 (fun _ => 0)] t.heap ∧ va_K (dC, dI) cls_all [((km' 0), .int), ((km' 1), .int), ((km' 2), .int), ((km' 3), .int)] t ∧ va_D (va_A [oc h_this 0 ([.null, .null, .null, .int 0, .null, .int 0, .int 0] : List Value)] sz) [oc h_this 0 ([.ref (hm' 0), .ref (hm' 1), .ref (hm' 2), .int 0, .ref (hm' 3), .int 0, .int (-1)] : List Value), ic (hm' 0) (km' 0) 6032 (fun _ => 0), ic (hm' 1) (km' 1) 6032 (fun _ => 0), ic (hm' 2) (km' 2) 6032 (fun _ => 0), ic (hm' 3) (km' 3) 7 (fun _ => 0)]) (va_A [oc h_this 0 ([.null, .null, .null, .int 0, .null, .int 0, .int 0] : List Value)] sz)) 4 18103 (va_A [oc h_this 0 ([.null, .null, .null, .int 0, .null, .int 0, .int 0] : List Value)] sz) := by
  refine Met.ofW (cc := b_Code_init) (maxL := 1) (ret := none) (by decide) rfl ?_
  intro p e s m args below meth c s₁ B hml hv
  obtain ⟨rfl, hsz, hP, hK, hD0⟩ := hv
  have hx := B.exec
  have hb := B.bytes
  have hr := B.returns
  have hT : ∀ w ∈ lw_good, w.before _ s = true := fun w h => atoms_spec (ws := w_Code_init) B.pre w (List.mem_cons_of_mem _ h)
  have hown : s.vm.findClass R_Code = some m.cls := findClass_of_methodNamed B.named
  have hlocks := B.notSynchronized
  have hin : meth.name = "<init>" := (name_of_methodNamed B.named B.method).1
  subst hsz
  have hD := hD0.self (sz := s.heap.size)
  generalize hAe : va_A [oc h_this 0 ([.null, .null, .null, .int 0, .null, .int 0, .int 0] : List Value)] s.heap.size = A at hD ⊢
  have hA : ∀ q : Nat, s.heap.size ≤ q → A q := fun q h => by rw [← hAe]; exact Or.inr h
  have hS : va_S A s.heap s.heap [] := va_S.rf
  have hP : va_P (dC, dI) cls_all [oc h_this 0 ([.null, .null, .null, .int 0, .null, .int 0, .int 0] : List Value)] s.heap := hP
  have hl := lv_entry ([.ref h_this]) (n := 1) (Nat.le_of_ble_eq_true rfl)
  rw [lg_entry_eq]
  generalize (lg_sl ([.ref h_this]) ++ List.replicate (1 - (lg_sl ([.ref h_this])).length) Slot.unset).toArray = ls at hl ⊢
  have hl : lv_has ls 1 [(0, .ref h_this)] := hl
  refine lv_aload_n hx hb d_Code_init_0 rfl (lv_at hl 0 rfl) ?_
  refine W.objInit hx hb hown (hT _ ml_Code_3) (hT _ im_objectInit) (hT _ co_objectInit) rfl (by rw [hml]; exact hl.1) rfl d_Code_init_1 (Nat.le_of_ble_eq_true rfl) (Nat.le_of_ble_eq_true rfl) ?_
  refine W.eq (g2 := F0 m 4 ls []) rfl ?_
  refine blk_arr (n := 6032) (N' := 6032) (a0 := (6032, .inl (fun _ => 0))) hx hb hT i_Code t_Code t_Code_ok n_Code hown hin hK hP hD hS hA rfl (lv_at hl 0 rfl) 0 (by decide) rfl rfl fl_Code_11 (Nat.le_of_ble_eq_true rfl) ac_int rfl (by decide +kernel) (fun _ => rfl) (by decide +kernel) (by decide +kernel) (by decide +kernel) (Nat.le_of_ble_eq_true rfl) (Nat.le_of_ble_eq_true rfl) d_Code_init_4 (fun h9 => lv_sipush (v := 6032) hx hb d_Code_init_5 (by decide) h9) d_Code_init_8 d_Code_init_10 (fun q1 k1 H locs hK hP hD hS => ?_)
  have hP : va_P (dC, dI) cls_all [oc h_this 0 ([.ref q1, .null, .null, .int 0, .null, .int 0, .int 0] : List Value), ic q1 k1 6032 (fun _ => 0)] H := hP
  have hD : va_D A [oc h_this 0 ([.ref q1, .null, .null, .int 0, .null, .int 0, .int 0] : List Value), ic q1 k1 6032 (fun _ => 0)] := hD
  have hK : va_K (dC, dI) cls_all [(k1, .int)] s := hK
  refine W.widen (k := 1) (n := 6032) (Nat.le_of_ble_eq_true rfl) (Nat.le_of_ble_eq_true rfl) ?_
  refine blk_arr (n := 6032) (N' := 6032) (a0 := (6032, .inl (fun _ => 0))) hx hb hT i_Code t_Code t_Code_ok n_Code hown hin hK hP hD hS hA rfl (lv_at hl 0 rfl) 1 (by decide) rfl rfl fl_Code_15 (Nat.le_of_ble_eq_true rfl) ac_int rfl (by decide +kernel) (fun _ => rfl) (by decide +kernel) (by decide +kernel) (by decide +kernel) (Nat.le_of_ble_eq_true rfl) (Nat.le_of_ble_eq_true rfl) d_Code_init_13 (fun h9 => lv_sipush (v := 6032) hx hb d_Code_init_14 (by decide) h9) d_Code_init_17 d_Code_init_19 (fun q2 k2 H locs hK hP hD hS => ?_)
  have hP : va_P (dC, dI) cls_all [oc h_this 0 ([.ref q1, .ref q2, .null, .int 0, .null, .int 0, .int 0] : List Value), ic q1 k1 6032 (fun _ => 0), ic q2 k2 6032 (fun _ => 0)] H := hP
  have hD : va_D A [oc h_this 0 ([.ref q1, .ref q2, .null, .int 0, .null, .int 0, .int 0] : List Value), ic q1 k1 6032 (fun _ => 0), ic q2 k2 6032 (fun _ => 0)] := hD
  have hK : va_K (dC, dI) cls_all [(k1, .int), (k2, .int)] s := hK
  refine W.widen (k := 2) (n := 12064) (Nat.le_of_ble_eq_true rfl) (Nat.le_of_ble_eq_true rfl) ?_
  refine blk_arr (n := 6032) (N' := 6032) (a0 := (6032, .inl (fun _ => 0))) hx hb hT i_Code t_Code t_Code_ok n_Code hown hin hK hP hD hS hA rfl (lv_at hl 0 rfl) 2 (by decide) rfl rfl fl_Code_18 (Nat.le_of_ble_eq_true rfl) ac_int rfl (by decide +kernel) (fun _ => rfl) (by decide +kernel) (by decide +kernel) (by decide +kernel) (Nat.le_of_ble_eq_true rfl) (Nat.le_of_ble_eq_true rfl) d_Code_init_22 (fun h9 => lv_sipush (v := 6032) hx hb d_Code_init_23 (by decide) h9) d_Code_init_26 d_Code_init_28 (fun q3 k3 H locs hK hP hD hS => ?_)
  have hP : va_P (dC, dI) cls_all [oc h_this 0 ([.ref q1, .ref q2, .ref q3, .int 0, .null, .int 0, .int 0] : List Value), ic q1 k1 6032 (fun _ => 0), ic q2 k2 6032 (fun _ => 0), ic q3 k3 6032 (fun _ => 0)] H := hP
  have hD : va_D A [oc h_this 0 ([.ref q1, .ref q2, .ref q3, .int 0, .null, .int 0, .int 0] : List Value), ic q1 k1 6032 (fun _ => 0), ic q2 k2 6032 (fun _ => 0), ic q3 k3 6032 (fun _ => 0)] := hD
  have hK : va_K (dC, dI) cls_all [(k1, .int), (k2, .int), (k3, .int)] s := hK
  refine W.widen (k := 3) (n := 18096) (Nat.le_of_ble_eq_true rfl) (Nat.le_of_ble_eq_true rfl) ?_
  refine blk_arr (n := 7) (N' := 7) (a0 := (7, .inl (fun _ => 0))) hx hb hT i_Code t_Code t_Code_ok n_Code hown hin hK hP hD hS hA rfl (lv_at hl 0 rfl) 4 (by decide) rfl rfl fl_Code_21 (Nat.le_of_ble_eq_true rfl) ac_int rfl (by decide +kernel) (fun _ => rfl) (by decide +kernel) (by decide +kernel) (by decide +kernel) (Nat.le_of_ble_eq_true rfl) (Nat.le_of_ble_eq_true rfl) d_Code_init_31 (fun h9 => lv_bipush (v := 7) hx hb d_Code_init_32 (by decide) h9) d_Code_init_34 d_Code_init_36 (fun q4 k4 H locs hK hP hD hS => ?_)
  have hP : va_P (dC, dI) cls_all [oc h_this 0 ([.ref q1, .ref q2, .ref q3, .int 0, .ref q4, .int 0, .int 0] : List Value), ic q1 k1 6032 (fun _ => 0), ic q2 k2 6032 (fun _ => 0), ic q3 k3 6032 (fun _ => 0), ic q4 k4 7 (fun _ => 0)] H := hP
  have hD : va_D A [oc h_this 0 ([.ref q1, .ref q2, .ref q3, .int 0, .ref q4, .int 0, .int 0] : List Value), ic q1 k1 6032 (fun _ => 0), ic q2 k2 6032 (fun _ => 0), ic q3 k3 6032 (fun _ => 0), ic q4 k4 7 (fun _ => 0)] := hD
  have hK : va_K (dC, dI) cls_all [(k1, .int), (k2, .int), (k3, .int), (k4, .int)] s := hK
  refine W.widen (k := 4) (n := 18103) (Nat.le_of_ble_eq_true rfl) (Nat.le_of_ble_eq_true rfl) ?_
  refine lv_aload_n hx hb d_Code_init_39 rfl (lv_at hl 0 rfl) ?_
  refine lv_iconst (v := (-1)) hx hb d_Code_init_40 (by decide) ?_
  refine va_put (D := (dC, dI)) (ci := 0) (v := .int (-1)) (ty := .int) (C := R_Code) (T := F_Code) (N := 7) hx hb hT i_Code t_Code t_Code_ok n_Code hown hK hP hD hS 0 rfl rfl 6 (by decide) (hT _ fl_Code_24) (fun _ h9 => h9) rfl (by decide +kernel) rfl rfl (Nat.le_of_ble_eq_true rfl) d_Code_init_41 (fun H locs hP hD hS => ?_)
  have hP : va_P (dC, dI) cls_all [oc h_this 0 ([.ref q1, .ref q2, .ref q3, .int 0, .ref q4, .int 0, .int (-1)] : List Value), ic q1 k1 6032 (fun _ => 0), ic q2 k2 6032 (fun _ => 0), ic q3 k3 6032 (fun _ => 0), ic q4 k4 7 (fun _ => 0)] H := hP
  have hD : va_D A [oc h_this 0 ([.ref q1, .ref q2, .ref q3, .int 0, .ref q4, .int 0, .int (-1)] : List Value), ic q1 k1 6032 (fun _ => 0), ic q2 k2 6032 (fun _ => 0), ic q3 k3 6032 (fun _ => 0), ic q4 k4 7 (fun _ => 0)] := hD
  have hP9 := hP.sub (ws' := [oc h_this 0 ([.ref q1, .ref q2, .ref q3, .int 0, .ref q4, .int 0, .int (-1)] : List Value), ic q1 k1 6032 (fun _ => 0), ic q2 k2 6032 (fun _ => 0), ic q3 k3 6032 (fun _ => 0), ic q4 k4 7 (fun _ => 0)]) [0, 1, 2, 3, 4] rfl
  have hD9 := hD.sub (ws' := [oc h_this 0 ([.ref q1, .ref q2, .ref q3, .int 0, .ref q4, .int 0, .int (-1)] : List Value), ic q1 k1 6032 (fun _ => 0), ic q2 k2 6032 (fun _ => 0), ic q3 k3 6032 (fun _ => 0), ic q4 k4 7 (fun _ => 0)]) [0, 1, 2, 3, 4] (by decide) rfl
  have hK9 := hK.sub (tys' := [(k1, .int), (k2, .int), (k3, .int), (k4, .int)]) [0, 1, 2, 3] rfl
  have hv5 : ([.ref q1, .ref q2, .ref q3, .int 0, .ref q4, .int 0, .int (-1)] : List Value)[0]? = some (.ref q1) := rfl
  have hv6 : ([.ref q1, .ref q2, .ref q3, .int 0, .ref q4, .int 0, .int (-1)] : List Value)[1]? = some (.ref q2) := rfl
  have hv7 : ([.ref q1, .ref q2, .ref q3, .int 0, .ref q4, .int 0, .int (-1)] : List Value)[2]? = some (.ref q3) := rfl
  have hv8 : ([.ref q1, .ref q2, .ref q3, .int 0, .ref q4, .int 0, .int (-1)] : List Value)[3]? = some (.int 0) := rfl
  have hv9 : ([.ref q1, .ref q2, .ref q3, .int 0, .ref q4, .int 0, .int (-1)] : List Value)[4]? = some (.ref q4) := rfl
  have hv10 : ([.ref q1, .ref q2, .ref q3, .int 0, .ref q4, .int 0, .int (-1)] : List Value)[5]? = some (.int 0) := rfl
  have hv11 : ([.ref q1, .ref q2, .ref q3, .int 0, .ref q4, .int 0, .int (-1)] : List Value)[6]? = some (.int (-1)) := rfl
  refine W.widen (k := 4) (n := 18103) (Nat.le_of_ble_eq_true rfl) (Nat.le_of_ble_eq_true rfl) ?_
  exact W.vret hx hb hr (fun t ht hW => ⟨⟨(), rfl, trivial, (fun i => [q1, q2, q3, q4].getD i 0), (fun i => [k1, k2, k3, k4].getD i 0), trivial, by rw [ht]; exact hP9, va_K.moved hW.alike hK9, hD9⟩, hS.F ht⟩) hS.2.2 d_Code_init_44
set_option maxHeartbeats 1000000 in
set_option maxRecDepth 100000 in
theorem c_Types_init (l : Launch) (dC : Nat → ClassId) (dI : Nat → Nat → Nat) (sz : Nat) (h_this : Nat) : Met l y_Types_init w_Types_init ({ frames := 1, cells := 1, slots := 16384, locals := 12 } : Room) (va_Pc [.ref h_this] (fun U => U.heap.size = sz ∧ va_P (dC, dI) cls_all [oc h_this 10 ([.null, .long 0] : List Value)] U.heap ∧ va_K (dC, dI) cls_all [] U ∧ va_D (fun _ => True) [oc h_this 10 ([.null, .long 0] : List Value)])) (va_Qv (fun (_ : Unit) => True) (fun _ t => ∃ (hm' : Nat → Nat) (km' : Nat → ClassId), (True) ∧ va_P (dC, dI) cls_all [oc h_this 10 ([.ref (hm' 0), .long 0] : List Value), jc (hm' 0) (km' 0) 16384 (fun _ => 0)] t.heap ∧ va_K (dC, dI) cls_all [((km' 0), .long)] t ∧ va_D (va_A [oc h_this 10 ([.null, .long 0] : List Value)] sz) [oc h_this 10 ([.ref (hm' 0), .long 0] : List Value), jc (hm' 0) (km' 0) 16384 (fun _ => 0)]) (va_A [oc h_this 10 ([.null, .long 0] : List Value)] sz)) 1 16384 (va_A [oc h_this 10 ([.null, .long 0] : List Value)] sz) := by
  refine Met.ofW (cc := b_Types_init) (maxL := 1) (ret := none) (by decide) rfl ?_
  intro p e s m args below meth c s₁ B hml hv
  obtain ⟨rfl, hsz, hP, hK, hD0⟩ := hv
  have hx := B.exec
  have hb := B.bytes
  have hr := B.returns
  have hT : ∀ w ∈ lw_good, w.before _ s = true := fun w h => atoms_spec (ws := w_Types_init) B.pre w (List.mem_cons_of_mem _ h)
  have hown : s.vm.findClass R_Types = some m.cls := findClass_of_methodNamed B.named
  have hlocks := B.notSynchronized
  have hin : meth.name = "<init>" := (name_of_methodNamed B.named B.method).1
  subst hsz
  have hD := hD0.self (sz := s.heap.size)
  generalize hAe : va_A [oc h_this 10 ([.null, .long 0] : List Value)] s.heap.size = A at hD ⊢
  have hA : ∀ q : Nat, s.heap.size ≤ q → A q := fun q h => by rw [← hAe]; exact Or.inr h
  have hS : va_S A s.heap s.heap [] := va_S.rf
  have hP : va_P (dC, dI) cls_all [oc h_this 10 ([.null, .long 0] : List Value)] s.heap := hP
  have hl := lv_entry ([.ref h_this]) (n := 1) (Nat.le_of_ble_eq_true rfl)
  rw [lg_entry_eq]
  generalize (lg_sl ([.ref h_this]) ++ List.replicate (1 - (lg_sl ([.ref h_this])).length) Slot.unset).toArray = ls at hl ⊢
  have hl : lv_has ls 1 [(0, .ref h_this)] := hl
  refine lv_aload_n hx hb d_Types_init_0 rfl (lv_at hl 0 rfl) ?_
  refine W.objInit hx hb hown (hT _ ml_Types_3) (hT _ im_objectInit) (hT _ co_objectInit) rfl (by rw [hml]; exact hl.1) rfl d_Types_init_1 (Nat.le_of_ble_eq_true rfl) (Nat.le_of_ble_eq_true rfl) ?_
  refine W.eq (g2 := F0 m 4 ls []) rfl ?_
  refine blk_arr (n := 16384) (N' := 16384) (a0 := (16384, .inr (.inl (fun _ => 0)))) hx hb hT i_Types t_Types t_Types_ok n_Types hown hin hK hP hD hS hA rfl (lv_at hl 0 rfl) 0 (by decide) rfl rfl fl_Types_11 (Nat.le_of_ble_eq_true rfl) ac_long rfl (by decide +kernel) (fun _ => rfl) (by decide +kernel) (by decide +kernel) (by decide +kernel) (Nat.le_of_ble_eq_true rfl) (Nat.le_of_ble_eq_true rfl) d_Types_init_4 (fun h9 => lv_sipush (v := 16384) hx hb d_Types_init_5 (by decide) h9) d_Types_init_8 d_Types_init_10 (fun q1 k1 H locs hK hP hD hS => ?_)
  have hP : va_P (dC, dI) cls_all [oc h_this 10 ([.ref q1, .long 0] : List Value), jc q1 k1 16384 (fun _ => 0)] H := hP
  have hD : va_D A [oc h_this 10 ([.ref q1, .long 0] : List Value), jc q1 k1 16384 (fun _ => 0)] := hD
  have hK : va_K (dC, dI) cls_all [(k1, .long)] s := hK
  refine W.widen (k := 1) (n := 16384) (Nat.le_of_ble_eq_true rfl) (Nat.le_of_ble_eq_true rfl) ?_
  have hP9 := hP.sub (ws' := [oc h_this 10 ([.ref q1, .long 0] : List Value), jc q1 k1 16384 (fun _ => 0)]) [0, 1] rfl
  have hD9 := hD.sub (ws' := [oc h_this 10 ([.ref q1, .long 0] : List Value), jc q1 k1 16384 (fun _ => 0)]) [0, 1] (by decide) rfl
  have hK9 := hK.sub (tys' := [(k1, .long)]) [0] rfl
  have hv2 : ([.ref q1, .long 0] : List Value)[0]? = some (.ref q1) := rfl
  have hv3 : ([.ref q1, .long 0] : List Value)[1]? = some (.long 0) := rfl
  refine W.widen (k := 1) (n := 16384) (Nat.le_of_ble_eq_true rfl) (Nat.le_of_ble_eq_true rfl) ?_
  exact W.vret hx hb hr (fun t ht hW => ⟨⟨(), rfl, trivial, (fun i => [q1].getD i 0), (fun i => [k1].getD i 0), trivial, by rw [ht]; exact hP9, va_K.moved hW.alike hK9, hD9⟩, hS.F ht⟩) hS.2.2 d_Types_init_13
set_option maxHeartbeats 1000000 in
set_option maxRecDepth 100000 in
theorem c_Parser_init (l : Launch) (dC : Nat → ClassId) (dI : Nat → Nat → Nat) (sz : Nat) (h_this : Nat) (p1 : Nat) (p2 : Nat) (p3 : Nat) : Met l y_Parser_init w_Parser_init ({ frames := 1, cells := 0, slots := 0, locals := 12 } : Room) (va_Pc [.ref h_this, .ref p1, .ref p2, .ref p3] (fun U => U.heap.size = sz ∧ va_P (dC, dI) cls_all [oc h_this 6 ([.null, .null, .null, .int 0, .int 0, .int 0, .int 0, .int 0] : List Value)] U.heap ∧ va_K (dC, dI) cls_all [] U ∧ va_D (fun _ => True) [oc h_this 6 ([.null, .null, .null, .int 0, .int 0, .int 0, .int 0, .int 0] : List Value)])) (va_Qv (fun (_ : Unit) => True) (fun _ t => (True) ∧ va_P (dC, dI) cls_all [oc h_this 6 ([.ref p1, .ref p2, .ref p3, .int 0, .int 0, .int 0, .int 0, .int 0] : List Value)] t.heap ∧ va_K (dC, dI) cls_all [] t ∧ va_D (va_A [oc h_this 6 ([.null, .null, .null, .int 0, .int 0, .int 0, .int 0, .int 0] : List Value)] sz) [oc h_this 6 ([.ref p1, .ref p2, .ref p3, .int 0, .int 0, .int 0, .int 0, .int 0] : List Value)]) (va_A [oc h_this 6 ([.null, .null, .null, .int 0, .int 0, .int 0, .int 0, .int 0] : List Value)] sz)) 0 0 (va_A [oc h_this 6 ([.null, .null, .null, .int 0, .int 0, .int 0, .int 0, .int 0] : List Value)] sz) := by
  refine Met.ofW (cc := b_Parser_init) (maxL := 4) (ret := none) (by decide) rfl ?_
  intro p e s m args below meth c s₁ B hml hv
  obtain ⟨rfl, hsz, hP, hK, hD0⟩ := hv
  have hx := B.exec
  have hb := B.bytes
  have hr := B.returns
  have hT : ∀ w ∈ lw_good, w.before _ s = true := fun w h => atoms_spec (ws := w_Parser_init) B.pre w (List.mem_cons_of_mem _ h)
  have hown : s.vm.findClass R_Parser = some m.cls := findClass_of_methodNamed B.named
  have hlocks := B.notSynchronized
  have hin : meth.name = "<init>" := (name_of_methodNamed B.named B.method).1
  subst hsz
  have hD := hD0.self (sz := s.heap.size)
  generalize hAe : va_A [oc h_this 6 ([.null, .null, .null, .int 0, .int 0, .int 0, .int 0, .int 0] : List Value)] s.heap.size = A at hD ⊢
  have hA : ∀ q : Nat, s.heap.size ≤ q → A q := fun q h => by rw [← hAe]; exact Or.inr h
  have hS : va_S A s.heap s.heap [] := va_S.rf
  have hP : va_P (dC, dI) cls_all [oc h_this 6 ([.null, .null, .null, .int 0, .int 0, .int 0, .int 0, .int 0] : List Value)] s.heap := hP
  have hl := lv_entry ([.ref h_this, .ref p1, .ref p2, .ref p3]) (n := 4) (Nat.le_of_ble_eq_true rfl)
  rw [lg_entry_eq]
  generalize (lg_sl ([.ref h_this, .ref p1, .ref p2, .ref p3]) ++ List.replicate (4 - (lg_sl ([.ref h_this, .ref p1, .ref p2, .ref p3])).length) Slot.unset).toArray = ls at hl ⊢
  have hl : lv_has ls 4 [(0, .ref h_this), (1, .ref p1), (2, .ref p2), (3, .ref p3)] := hl
  refine lv_aload_n hx hb d_Parser_init_0 rfl (lv_at hl 0 rfl) ?_
  refine W.objInit hx hb hown (hT _ ml_Parser_3) (hT _ im_objectInit) (hT _ co_objectInit) rfl (by rw [hml]; exact hl.1) rfl d_Parser_init_1 (Nat.le_of_ble_eq_true rfl) (Nat.le_of_ble_eq_true rfl) ?_
  refine W.eq (g2 := F0 m 4 ls []) rfl ?_
  refine lv_aload_n hx hb d_Parser_init_4 rfl (lv_at hl 0 rfl) ?_
  refine lv_aload_n hx hb d_Parser_init_5 rfl (lv_at hl 1 rfl) ?_
  refine va_putF (D := (dC, dI)) (ci := 6) (v := .ref p1) (ty := .object "PointerHouse$Source") (C := R_Parser) (T := F_Parser) (N := 8) hx hb hT i_Parser t_Parser t_Parser_ok n_Parser hown hK hP hD hS 0 rfl rfl 0 (by decide) (hT _ fl_Parser_9) (fun _ h9 => h9) rfl hin rfl (by decide +kernel) rfl rfl (Nat.le_of_ble_eq_true rfl) d_Parser_init_6 (fun H locs hP hD hS => ?_)
  have hP : va_P (dC, dI) cls_all [oc h_this 6 ([.ref p1, .null, .null, .int 0, .int 0, .int 0, .int 0, .int 0] : List Value)] H := hP
  have hD : va_D A [oc h_this 6 ([.ref p1, .null, .null, .int 0, .int 0, .int 0, .int 0, .int 0] : List Value)] := hD
  refine lv_aload_n hx hb d_Parser_init_9 rfl (lv_at hl 0 rfl) ?_
  refine lv_aload_n hx hb d_Parser_init_10 rfl (lv_at hl 2 rfl) ?_
  refine va_putF (D := (dC, dI)) (ci := 6) (v := .ref p2) (ty := .object "PointerHouse$Items") (C := R_Parser) (T := F_Parser) (N := 8) hx hb hT i_Parser t_Parser t_Parser_ok n_Parser hown hK hP hD hS 0 rfl rfl 1 (by decide) (hT _ fl_Parser_15) (fun _ h9 => h9) rfl hin rfl (by decide +kernel) rfl rfl (Nat.le_of_ble_eq_true rfl) d_Parser_init_11 (fun H locs hP hD hS => ?_)
  have hP : va_P (dC, dI) cls_all [oc h_this 6 ([.ref p1, .ref p2, .null, .int 0, .int 0, .int 0, .int 0, .int 0] : List Value)] H := hP
  have hD : va_D A [oc h_this 6 ([.ref p1, .ref p2, .null, .int 0, .int 0, .int 0, .int 0, .int 0] : List Value)] := hD
  refine lv_aload_n hx hb d_Parser_init_14 rfl (lv_at hl 0 rfl) ?_
  refine lv_aload_n hx hb d_Parser_init_15 rfl (lv_at hl 3 rfl) ?_
  refine va_putF (D := (dC, dI)) (ci := 6) (v := .ref p3) (ty := .object "PointerHouse$Code") (C := R_Parser) (T := F_Parser) (N := 8) hx hb hT i_Parser t_Parser t_Parser_ok n_Parser hown hK hP hD hS 0 rfl rfl 2 (by decide) (hT _ fl_Parser_19) (fun _ h9 => h9) rfl hin rfl (by decide +kernel) rfl rfl (Nat.le_of_ble_eq_true rfl) d_Parser_init_16 (fun H locs hP hD hS => ?_)
  have hP : va_P (dC, dI) cls_all [oc h_this 6 ([.ref p1, .ref p2, .ref p3, .int 0, .int 0, .int 0, .int 0, .int 0] : List Value)] H := hP
  have hD : va_D A [oc h_this 6 ([.ref p1, .ref p2, .ref p3, .int 0, .int 0, .int 0, .int 0, .int 0] : List Value)] := hD
  have hP9 := hP.sub (ws' := [oc h_this 6 ([.ref p1, .ref p2, .ref p3, .int 0, .int 0, .int 0, .int 0, .int 0] : List Value)]) [0] rfl
  have hD9 := hD.sub (ws' := [oc h_this 6 ([.ref p1, .ref p2, .ref p3, .int 0, .int 0, .int 0, .int 0, .int 0] : List Value)]) [0] (by decide) rfl
  have hK9 := hK.sub (tys' := []) [] rfl
  have hv1 : ([.ref p1, .ref p2, .ref p3, .int 0, .int 0, .int 0, .int 0, .int 0] : List Value)[0]? = some (.ref p1) := rfl
  have hv2 : ([.ref p1, .ref p2, .ref p3, .int 0, .int 0, .int 0, .int 0, .int 0] : List Value)[1]? = some (.ref p2) := rfl
  have hv3 : ([.ref p1, .ref p2, .ref p3, .int 0, .int 0, .int 0, .int 0, .int 0] : List Value)[2]? = some (.ref p3) := rfl
  have hv4 : ([.ref p1, .ref p2, .ref p3, .int 0, .int 0, .int 0, .int 0, .int 0] : List Value)[3]? = some (.int 0) := rfl
  have hv5 : ([.ref p1, .ref p2, .ref p3, .int 0, .int 0, .int 0, .int 0, .int 0] : List Value)[4]? = some (.int 0) := rfl
  have hv6 : ([.ref p1, .ref p2, .ref p3, .int 0, .int 0, .int 0, .int 0, .int 0] : List Value)[5]? = some (.int 0) := rfl
  have hv7 : ([.ref p1, .ref p2, .ref p3, .int 0, .int 0, .int 0, .int 0, .int 0] : List Value)[6]? = some (.int 0) := rfl
  have hv8 : ([.ref p1, .ref p2, .ref p3, .int 0, .int 0, .int 0, .int 0, .int 0] : List Value)[7]? = some (.int 0) := rfl
  exact W.vret hx hb hr (fun t ht hW => ⟨⟨(), rfl, trivial, trivial, by rw [ht]; exact hP9, va_K.moved hW.alike hK9, hD9⟩, hS.F ht⟩) hS.2.2 d_Parser_init_19
set_option maxHeartbeats 1000000 in
set_option maxRecDepth 100000 in
theorem c_Scope_init (l : Launch) (dC : Nat → ClassId) (dI : Nat → Nat → Nat) (sz : Nat) (h_this : Nat) (p1 : Nat) (p2 : Nat) (p3 : Nat) : Met l y_Scope_init w_Scope_init ({ frames := 1, cells := 5, slots := 85, locals := 12 } : Room) (va_Pc [.ref h_this, .ref p1, .ref p2, .ref p3] (fun U => U.heap.size = sz ∧ va_P (dC, dI) cls_all [oc h_this 7 ([.null, .null, .null, .int 0, .int 0, .null, .null, .null, .int 0, .null, .null, .int 0, .int 0, .long 0] : List Value)] U.heap ∧ va_K (dC, dI) cls_all [] U ∧ va_D (fun _ => True) [oc h_this 7 ([.null, .null, .null, .int 0, .int 0, .null, .null, .null, .int 0, .null, .null, .int 0, .int 0, .long 0] : List Value)])) (va_Qv (fun (_ : Unit) => True) (fun _ t => ∃ (hm' : Nat → Nat) (km' : Nat → ClassId), (True) ∧ va_P (dC, dI) cls_all [oc h_this 7 ([.ref p1, .ref p2, .ref p3, .int 0, .int 0, .ref (hm' 0), .ref (hm' 1), .ref (hm' 2), .int 0, .ref (hm' 3), .ref (hm' 4), .int 0, .int 0, .long 0] : List Value), jc (hm' 0) (km' 0) 20 (fun _ => 0), ic (hm' 1) (km' 1) 20 (fun _ => 0), ic (hm' 2) (km' 2) 21 (fun _ => 0), jc (hm' 3) (km' 3) 12 (fun _ => 0), ic (hm' 4) (km' 4) 12 (fun _ => 0)] t.heap ∧ va_K (dC, dI) cls_all [((km' 0), .long), ((km' 1), .int), ((km' 2), .int), ((km' 3), .long), ((km' 4), .int)] t ∧ va_D (va_A [oc h_this 7 ([.null, .null, .null, .int 0, .int 0, .null, .null, .null, .int 0, .null, .null, .int 0, .int 0, .long 0] : List Value)] sz) [oc h_this 7 ([.ref p1, .ref p2, .ref p3, .int 0, .int 0, .ref (hm' 0), .ref (hm' 1), .ref (hm' 2), .int 0, .ref (hm' 3), .ref (hm' 4), .int 0, .int 0, .long 0] : List Value), jc (hm' 0) (km' 0) 20 (fun _ => 0), ic (hm' 1) (km' 1) 20 (fun _ => 0), ic (hm' 2) (km' 2) 21 (fun _ => 0), jc (hm' 3) (km' 3) 12 (fun _ => 0), ic (hm' 4) (km' 4) 12 (fun _ => 0)]) (va_A [oc h_this 7 ([.null, .null, .null, .int 0, .int 0, .null, .null, .null, .int 0, .null, .null, .int 0, .int 0, .long 0] : List Value)] sz)) 5 85 (va_A [oc h_this 7 ([.null, .null, .null, .int 0, .int 0, .null, .null, .null, .int 0, .null, .null, .int 0, .int 0, .long 0] : List Value)] sz) := by
  refine Met.ofW (cc := b_Scope_init) (maxL := 4) (ret := none) (by decide) rfl ?_
  intro p e s m args below meth c s₁ B hml hv
  obtain ⟨rfl, hsz, hP, hK, hD0⟩ := hv
  have hx := B.exec
  have hb := B.bytes
  have hr := B.returns
  have hT : ∀ w ∈ lw_good, w.before _ s = true := fun w h => atoms_spec (ws := w_Scope_init) B.pre w (List.mem_cons_of_mem _ h)
  have hown : s.vm.findClass R_Scope = some m.cls := findClass_of_methodNamed B.named
  have hlocks := B.notSynchronized
  have hin : meth.name = "<init>" := (name_of_methodNamed B.named B.method).1
  subst hsz
  have hD := hD0.self (sz := s.heap.size)
  generalize hAe : va_A [oc h_this 7 ([.null, .null, .null, .int 0, .int 0, .null, .null, .null, .int 0, .null, .null, .int 0, .int 0, .long 0] : List Value)] s.heap.size = A at hD ⊢
  have hA : ∀ q : Nat, s.heap.size ≤ q → A q := fun q h => by rw [← hAe]; exact Or.inr h
  have hS : va_S A s.heap s.heap [] := va_S.rf
  have hP : va_P (dC, dI) cls_all [oc h_this 7 ([.null, .null, .null, .int 0, .int 0, .null, .null, .null, .int 0, .null, .null, .int 0, .int 0, .long 0] : List Value)] s.heap := hP
  have hl := lv_entry ([.ref h_this, .ref p1, .ref p2, .ref p3]) (n := 4) (Nat.le_of_ble_eq_true rfl)
  rw [lg_entry_eq]
  generalize (lg_sl ([.ref h_this, .ref p1, .ref p2, .ref p3]) ++ List.replicate (4 - (lg_sl ([.ref h_this, .ref p1, .ref p2, .ref p3])).length) Slot.unset).toArray = ls at hl ⊢
  have hl : lv_has ls 4 [(0, .ref h_this), (1, .ref p1), (2, .ref p2), (3, .ref p3)] := hl
  refine lv_aload_n hx hb d_Scope_init_0 rfl (lv_at hl 0 rfl) ?_
  refine W.objInit hx hb hown (hT _ ml_Scope_5) (hT _ im_objectInit) (hT _ co_objectInit) rfl (by rw [hml]; exact hl.1) rfl d_Scope_init_1 (Nat.le_of_ble_eq_true rfl) (Nat.le_of_ble_eq_true rfl) ?_
  refine W.eq (g2 := F0 m 4 ls []) rfl ?_
  refine blk_arr (n := 20) (N' := 20) (a0 := (20, .inr (.inl (fun _ => 0)))) hx hb hT i_Scope t_Scope t_Scope_ok n_Scope hown hin hK hP hD hS hA rfl (lv_at hl 0 rfl) 5 (by decide) rfl rfl fl_Scope_11 (Nat.le_of_ble_eq_true rfl) ac_long rfl (by decide +kernel) (fun _ => rfl) (by decide +kernel) (by decide +kernel) (by decide +kernel) (Nat.le_of_ble_eq_true rfl) (Nat.le_of_ble_eq_true rfl) d_Scope_init_4 (fun h9 => lv_bipush (v := 20) hx hb d_Scope_init_5 (by decide) h9) d_Scope_init_7 d_Scope_init_9 (fun q1 k1 H locs hK hP hD hS => ?_)
  have hP : va_P (dC, dI) cls_all [oc h_this 7 ([.null, .null, .null, .int 0, .int 0, .ref q1, .null, .null, .int 0, .null, .null, .int 0, .int 0, .long 0] : List Value), jc q1 k1 20 (fun _ => 0)] H := hP
  have hD : va_D A [oc h_this 7 ([.null, .null, .null, .int 0, .int 0, .ref q1, .null, .null, .int 0, .null, .null, .int 0, .int 0, .long 0] : List Value), jc q1 k1 20 (fun _ => 0)] := hD
  have hK : va_K (dC, dI) cls_all [(k1, .long)] s := hK
  refine W.widen (k := 1) (n := 20) (Nat.le_of_ble_eq_true rfl) (Nat.le_of_ble_eq_true rfl) ?_
  refine blk_arr (n := 20) (N' := 20) (a0 := (20, .inl (fun _ => 0))) hx hb hT i_Scope t_Scope t_Scope_ok n_Scope hown hin hK hP hD hS hA rfl (lv_at hl 0 rfl) 6 (by decide) rfl rfl fl_Scope_15 (Nat.le_of_ble_eq_true rfl) ac_int rfl (by decide +kernel) (fun _ => rfl) (by decide +kernel) (by decide +kernel) (by decide +kernel) (Nat.le_of_ble_eq_true rfl) (Nat.le_of_ble_eq_true rfl) d_Scope_init_12 (fun h9 => lv_bipush (v := 20) hx hb d_Scope_init_13 (by decide) h9) d_Scope_init_15 d_Scope_init_17 (fun q2 k2 H locs hK hP hD hS => ?_)
  have hP : va_P (dC, dI) cls_all [oc h_this 7 ([.null, .null, .null, .int 0, .int 0, .ref q1, .ref q2, .null, .int 0, .null, .null, .int 0, .int 0, .long 0] : List Value), jc q1 k1 20 (fun _ => 0), ic q2 k2 20 (fun _ => 0)] H := hP
  have hD : va_D A [oc h_this 7 ([.null, .null, .null, .int 0, .int 0, .ref q1, .ref q2, .null, .int 0, .null, .null, .int 0, .int 0, .long 0] : List Value), jc q1 k1 20 (fun _ => 0), ic q2 k2 20 (fun _ => 0)] := hD
  have hK : va_K (dC, dI) cls_all [(k1, .long), (k2, .int)] s := hK
  refine W.widen (k := 2) (n := 40) (Nat.le_of_ble_eq_true rfl) (Nat.le_of_ble_eq_true rfl) ?_
  refine blk_arr (n := 21) (N' := 21) (a0 := (21, .inl (fun _ => 0))) hx hb hT i_Scope t_Scope t_Scope_ok n_Scope hown hin hK hP hD hS hA rfl (lv_at hl 0 rfl) 7 (by decide) rfl rfl fl_Scope_19 (Nat.le_of_ble_eq_true rfl) ac_int rfl (by decide +kernel) (fun _ => rfl) (by decide +kernel) (by decide +kernel) (by decide +kernel) (Nat.le_of_ble_eq_true rfl) (Nat.le_of_ble_eq_true rfl) d_Scope_init_20 (fun h9 => lv_bipush (v := 21) hx hb d_Scope_init_21 (by decide) h9) d_Scope_init_23 d_Scope_init_25 (fun q3 k3 H locs hK hP hD hS => ?_)
  have hP : va_P (dC, dI) cls_all [oc h_this 7 ([.null, .null, .null, .int 0, .int 0, .ref q1, .ref q2, .ref q3, .int 0, .null, .null, .int 0, .int 0, .long 0] : List Value), jc q1 k1 20 (fun _ => 0), ic q2 k2 20 (fun _ => 0), ic q3 k3 21 (fun _ => 0)] H := hP
  have hD : va_D A [oc h_this 7 ([.null, .null, .null, .int 0, .int 0, .ref q1, .ref q2, .ref q3, .int 0, .null, .null, .int 0, .int 0, .long 0] : List Value), jc q1 k1 20 (fun _ => 0), ic q2 k2 20 (fun _ => 0), ic q3 k3 21 (fun _ => 0)] := hD
  have hK : va_K (dC, dI) cls_all [(k1, .long), (k2, .int), (k3, .int)] s := hK
  refine W.widen (k := 3) (n := 61) (Nat.le_of_ble_eq_true rfl) (Nat.le_of_ble_eq_true rfl) ?_
  refine blk_arr (n := 12) (N' := 12) (a0 := (12, .inr (.inl (fun _ => 0)))) hx hb hT i_Scope t_Scope t_Scope_ok n_Scope hown hin hK hP hD hS hA rfl (lv_at hl 0 rfl) 9 (by decide) rfl rfl fl_Scope_22 (Nat.le_of_ble_eq_true rfl) ac_long rfl (by decide +kernel) (fun _ => rfl) (by decide +kernel) (by decide +kernel) (by decide +kernel) (Nat.le_of_ble_eq_true rfl) (Nat.le_of_ble_eq_true rfl) d_Scope_init_28 (fun h9 => lv_bipush (v := 12) hx hb d_Scope_init_29 (by decide) h9) d_Scope_init_31 d_Scope_init_33 (fun q4 k4 H locs hK hP hD hS => ?_)
  have hP : va_P (dC, dI) cls_all [oc h_this 7 ([.null, .null, .null, .int 0, .int 0, .ref q1, .ref q2, .ref q3, .int 0, .ref q4, .null, .int 0, .int 0, .long 0] : List Value), jc q1 k1 20 (fun _ => 0), ic q2 k2 20 (fun _ => 0), ic q3 k3 21 (fun _ => 0), jc q4 k4 12 (fun _ => 0)] H := hP
  have hD : va_D A [oc h_this 7 ([.null, .null, .null, .int 0, .int 0, .ref q1, .ref q2, .ref q3, .int 0, .ref q4, .null, .int 0, .int 0, .long 0] : List Value), jc q1 k1 20 (fun _ => 0), ic q2 k2 20 (fun _ => 0), ic q3 k3 21 (fun _ => 0), jc q4 k4 12 (fun _ => 0)] := hD
  have hK : va_K (dC, dI) cls_all [(k1, .long), (k2, .int), (k3, .int), (k4, .long)] s := hK
  refine W.widen (k := 4) (n := 73) (Nat.le_of_ble_eq_true rfl) (Nat.le_of_ble_eq_true rfl) ?_
  refine blk_arr (n := 12) (N' := 12) (a0 := (12, .inl (fun _ => 0))) hx hb hT i_Scope t_Scope t_Scope_ok n_Scope hown hin hK hP hD hS hA rfl (lv_at hl 0 rfl) 10 (by decide) rfl rfl fl_Scope_25 (Nat.le_of_ble_eq_true rfl) ac_int rfl (by decide +kernel) (fun _ => rfl) (by decide +kernel) (by decide +kernel) (by decide +kernel) (Nat.le_of_ble_eq_true rfl) (Nat.le_of_ble_eq_true rfl) d_Scope_init_36 (fun h9 => lv_bipush (v := 12) hx hb d_Scope_init_37 (by decide) h9) d_Scope_init_39 d_Scope_init_41 (fun q5 k5 H locs hK hP hD hS => ?_)
  have hP : va_P (dC, dI) cls_all [oc h_this 7 ([.null, .null, .null, .int 0, .int 0, .ref q1, .ref q2, .ref q3, .int 0, .ref q4, .ref q5, .int 0, .int 0, .long 0] : List Value), jc q1 k1 20 (fun _ => 0), ic q2 k2 20 (fun _ => 0), ic q3 k3 21 (fun _ => 0), jc q4 k4 12 (fun _ => 0), ic q5 k5 12 (fun _ => 0)] H := hP
  have hD : va_D A [oc h_this 7 ([.null, .null, .null, .int 0, .int 0, .ref q1, .ref q2, .ref q3, .int 0, .ref q4, .ref q5, .int 0, .int 0, .long 0] : List Value), jc q1 k1 20 (fun _ => 0), ic q2 k2 20 (fun _ => 0), ic q3 k3 21 (fun _ => 0), jc q4 k4 12 (fun _ => 0), ic q5 k5 12 (fun _ => 0)] := hD
  have hK : va_K (dC, dI) cls_all [(k1, .long), (k2, .int), (k3, .int), (k4, .long), (k5, .int)] s := hK
  refine W.widen (k := 5) (n := 85) (Nat.le_of_ble_eq_true rfl) (Nat.le_of_ble_eq_true rfl) ?_
  refine lv_aload_n hx hb d_Scope_init_44 rfl (lv_at hl 0 rfl) ?_
  refine lv_aload_n hx hb d_Scope_init_45 rfl (lv_at hl 1 rfl) ?_
  refine va_putF (D := (dC, dI)) (ci := 7) (v := .ref p1) (ty := .object "PointerHouse$Source") (C := R_Scope) (T := F_Scope) (N := 14) hx hb hT i_Scope t_Scope t_Scope_ok n_Scope hown hK hP hD hS 0 rfl rfl 0 (by decide) (hT _ fl_Scope_28) (fun _ h9 => h9) rfl hin rfl (by decide +kernel) rfl rfl (Nat.le_of_ble_eq_true rfl) d_Scope_init_46 (fun H locs hP hD hS => ?_)
  have hP : va_P (dC, dI) cls_all [oc h_this 7 ([.ref p1, .null, .null, .int 0, .int 0, .ref q1, .ref q2, .ref q3, .int 0, .ref q4, .ref q5, .int 0, .int 0, .long 0] : List Value), jc q1 k1 20 (fun _ => 0), ic q2 k2 20 (fun _ => 0), ic q3 k3 21 (fun _ => 0), jc q4 k4 12 (fun _ => 0), ic q5 k5 12 (fun _ => 0)] H := hP
  have hD : va_D A [oc h_this 7 ([.ref p1, .null, .null, .int 0, .int 0, .ref q1, .ref q2, .ref q3, .int 0, .ref q4, .ref q5, .int 0, .int 0, .long 0] : List Value), jc q1 k1 20 (fun _ => 0), ic q2 k2 20 (fun _ => 0), ic q3 k3 21 (fun _ => 0), jc q4 k4 12 (fun _ => 0), ic q5 k5 12 (fun _ => 0)] := hD
  refine lv_aload_n hx hb d_Scope_init_49 rfl (lv_at hl 0 rfl) ?_
  refine lv_aload_n hx hb d_Scope_init_50 rfl (lv_at hl 2 rfl) ?_
  refine va_putF (D := (dC, dI)) (ci := 7) (v := .ref p2) (ty := .object "PointerHouse$Items") (C := R_Scope) (T := F_Scope) (N := 14) hx hb hT i_Scope t_Scope t_Scope_ok n_Scope hown hK hP hD hS 0 rfl rfl 1 (by decide) (hT _ fl_Scope_32) (fun _ h9 => h9) rfl hin rfl (by decide +kernel) rfl rfl (Nat.le_of_ble_eq_true rfl) d_Scope_init_51 (fun H locs hP hD hS => ?_)
  have hP : va_P (dC, dI) cls_all [oc h_this 7 ([.ref p1, .ref p2, .null, .int 0, .int 0, .ref q1, .ref q2, .ref q3, .int 0, .ref q4, .ref q5, .int 0, .int 0, .long 0] : List Value), jc q1 k1 20 (fun _ => 0), ic q2 k2 20 (fun _ => 0), ic q3 k3 21 (fun _ => 0), jc q4 k4 12 (fun _ => 0), ic q5 k5 12 (fun _ => 0)] H := hP
  have hD : va_D A [oc h_this 7 ([.ref p1, .ref p2, .null, .int 0, .int 0, .ref q1, .ref q2, .ref q3, .int 0, .ref q4, .ref q5, .int 0, .int 0, .long 0] : List Value), jc q1 k1 20 (fun _ => 0), ic q2 k2 20 (fun _ => 0), ic q3 k3 21 (fun _ => 0), jc q4 k4 12 (fun _ => 0), ic q5 k5 12 (fun _ => 0)] := hD
  refine lv_aload_n hx hb d_Scope_init_54 rfl (lv_at hl 0 rfl) ?_
  refine lv_aload_n hx hb d_Scope_init_55 rfl (lv_at hl 3 rfl) ?_
  refine va_putF (D := (dC, dI)) (ci := 7) (v := .ref p3) (ty := .object "PointerHouse$Types") (C := R_Scope) (T := F_Scope) (N := 14) hx hb hT i_Scope t_Scope t_Scope_ok n_Scope hown hK hP hD hS 0 rfl rfl 2 (by decide) (hT _ fl_Scope_36) (fun _ h9 => h9) rfl hin rfl (by decide +kernel) rfl rfl (Nat.le_of_ble_eq_true rfl) d_Scope_init_56 (fun H locs hP hD hS => ?_)
  have hP : va_P (dC, dI) cls_all [oc h_this 7 ([.ref p1, .ref p2, .ref p3, .int 0, .int 0, .ref q1, .ref q2, .ref q3, .int 0, .ref q4, .ref q5, .int 0, .int 0, .long 0] : List Value), jc q1 k1 20 (fun _ => 0), ic q2 k2 20 (fun _ => 0), ic q3 k3 21 (fun _ => 0), jc q4 k4 12 (fun _ => 0), ic q5 k5 12 (fun _ => 0)] H := hP
  have hD : va_D A [oc h_this 7 ([.ref p1, .ref p2, .ref p3, .int 0, .int 0, .ref q1, .ref q2, .ref q3, .int 0, .ref q4, .ref q5, .int 0, .int 0, .long 0] : List Value), jc q1 k1 20 (fun _ => 0), ic q2 k2 20 (fun _ => 0), ic q3 k3 21 (fun _ => 0), jc q4 k4 12 (fun _ => 0), ic q5 k5 12 (fun _ => 0)] := hD
  have hP9 := hP.sub (ws' := [oc h_this 7 ([.ref p1, .ref p2, .ref p3, .int 0, .int 0, .ref q1, .ref q2, .ref q3, .int 0, .ref q4, .ref q5, .int 0, .int 0, .long 0] : List Value), jc q1 k1 20 (fun _ => 0), ic q2 k2 20 (fun _ => 0), ic q3 k3 21 (fun _ => 0), jc q4 k4 12 (fun _ => 0), ic q5 k5 12 (fun _ => 0)]) [0, 1, 2, 3, 4, 5] rfl
  have hD9 := hD.sub (ws' := [oc h_this 7 ([.ref p1, .ref p2, .ref p3, .int 0, .int 0, .ref q1, .ref q2, .ref q3, .int 0, .ref q4, .ref q5, .int 0, .int 0, .long 0] : List Value), jc q1 k1 20 (fun _ => 0), ic q2 k2 20 (fun _ => 0), ic q3 k3 21 (fun _ => 0), jc q4 k4 12 (fun _ => 0), ic q5 k5 12 (fun _ => 0)]) [0, 1, 2, 3, 4, 5] (by decide) rfl
  have hK9 := hK.sub (tys' := [(k1, .long), (k2, .int), (k3, .int), (k4, .long), (k5, .int)]) [0, 1, 2, 3, 4] rfl
  have hv6 : ([.ref p1, .ref p2, .ref p3, .int 0, .int 0, .ref q1, .ref q2, .ref q3, .int 0, .ref q4, .ref q5, .int 0, .int 0, .long 0] : List Value)[0]? = some (.ref p1) := rfl
  have hv7 : ([.ref p1, .ref p2, .ref p3, .int 0, .int 0, .ref q1, .ref q2, .ref q3, .int 0, .ref q4, .ref q5, .int 0, .int 0, .long 0] : List Value)[1]? = some (.ref p2) := rfl
  have hv8 : ([.ref p1, .ref p2, .ref p3, .int 0, .int 0, .ref q1, .ref q2, .ref q3, .int 0, .ref q4, .ref q5, .int 0, .int 0, .long 0] : List Value)[2]? = some (.ref p3) := rfl
  have hv9 : ([.ref p1, .ref p2, .ref p3, .int 0, .int 0, .ref q1, .ref q2, .ref q3, .int 0, .ref q4, .ref q5, .int 0, .int 0, .long 0] : List Value)[3]? = some (.int 0) := rfl
  have hv10 : ([.ref p1, .ref p2, .ref p3, .int 0, .int 0, .ref q1, .ref q2, .ref q3, .int 0, .ref q4, .ref q5, .int 0, .int 0, .long 0] : List Value)[4]? = some (.int 0) := rfl
  have hv11 : ([.ref p1, .ref p2, .ref p3, .int 0, .int 0, .ref q1, .ref q2, .ref q3, .int 0, .ref q4, .ref q5, .int 0, .int 0, .long 0] : List Value)[5]? = some (.ref q1) := rfl
  have hv12 : ([.ref p1, .ref p2, .ref p3, .int 0, .int 0, .ref q1, .ref q2, .ref q3, .int 0, .ref q4, .ref q5, .int 0, .int 0, .long 0] : List Value)[6]? = some (.ref q2) := rfl
  have hv13 : ([.ref p1, .ref p2, .ref p3, .int 0, .int 0, .ref q1, .ref q2, .ref q3, .int 0, .ref q4, .ref q5, .int 0, .int 0, .long 0] : List Value)[7]? = some (.ref q3) := rfl
  have hv14 : ([.ref p1, .ref p2, .ref p3, .int 0, .int 0, .ref q1, .ref q2, .ref q3, .int 0, .ref q4, .ref q5, .int 0, .int 0, .long 0] : List Value)[8]? = some (.int 0) := rfl
  have hv15 : ([.ref p1, .ref p2, .ref p3, .int 0, .int 0, .ref q1, .ref q2, .ref q3, .int 0, .ref q4, .ref q5, .int 0, .int 0, .long 0] : List Value)[9]? = some (.ref q4) := rfl
  have hv16 : ([.ref p1, .ref p2, .ref p3, .int 0, .int 0, .ref q1, .ref q2, .ref q3, .int 0, .ref q4, .ref q5, .int 0, .int 0, .long 0] : List Value)[10]? = some (.ref q5) := rfl
  have hv17 : ([.ref p1, .ref p2, .ref p3, .int 0, .int 0, .ref q1, .ref q2, .ref q3, .int 0, .ref q4, .ref q5, .int 0, .int 0, .long 0] : List Value)[11]? = some (.int 0) := rfl
  have hv18 : ([.ref p1, .ref p2, .ref p3, .int 0, .int 0, .ref q1, .ref q2, .ref q3, .int 0, .ref q4, .ref q5, .int 0, .int 0, .long 0] : List Value)[12]? = some (.int 0) := rfl
  have hv19 : ([.ref p1, .ref p2, .ref p3, .int 0, .int 0, .ref q1, .ref q2, .ref q3, .int 0, .ref q4, .ref q5, .int 0, .int 0, .long 0] : List Value)[13]? = some (.long 0) := rfl
  refine W.widen (k := 5) (n := 85) (Nat.le_of_ble_eq_true rfl) (Nat.le_of_ble_eq_true rfl) ?_
  exact W.vret hx hb hr (fun t ht hW => ⟨⟨(), rfl, trivial, (fun i => [q1, q2, q3, q4, q5].getD i 0), (fun i => [k1, k2, k3, k4, k5].getD i 0), trivial, by rw [ht]; exact hP9, va_K.moved hW.alike hK9, hD9⟩, hS.F ht⟩) hS.2.2 d_Scope_init_59
set_option maxHeartbeats 1000000 in
set_option maxRecDepth 100000 in
theorem c_Heads_init (l : Launch) (dC : Nat → ClassId) (dI : Nat → Nat → Nat) (sz : Nat) (h_this : Nat) (p1 : Nat) (p2 : Nat) (p3 : Nat) (p4 : Nat) (p5 : Nat) : Met l y_Heads_init w_Heads_init ({ frames := 1, cells := 0, slots := 0, locals := 12 } : Room) (va_Pc [.ref h_this, .ref p1, .ref p2, .ref p3, .ref p4, .ref p5] (fun U => U.heap.size = sz ∧ va_P (dC, dI) cls_all [oc h_this 2 ([.null, .null, .null, .null, .null] : List Value)] U.heap ∧ va_K (dC, dI) cls_all [] U ∧ va_D (fun _ => True) [oc h_this 2 ([.null, .null, .null, .null, .null] : List Value)])) (va_Qv (fun (_ : Unit) => True) (fun _ t => (True) ∧ va_P (dC, dI) cls_all [oc h_this 2 ([.ref p1, .ref p2, .ref p3, .ref p4, .ref p5] : List Value)] t.heap ∧ va_K (dC, dI) cls_all [] t ∧ va_D (va_A [oc h_this 2 ([.null, .null, .null, .null, .null] : List Value)] sz) [oc h_this 2 ([.ref p1, .ref p2, .ref p3, .ref p4, .ref p5] : List Value)]) (va_A [oc h_this 2 ([.null, .null, .null, .null, .null] : List Value)] sz)) 0 0 (va_A [oc h_this 2 ([.null, .null, .null, .null, .null] : List Value)] sz) := by
  refine Met.ofW (cc := b_Heads_init) (maxL := 6) (ret := none) (by decide) rfl ?_
  intro p e s m args below meth c s₁ B hml hv
  obtain ⟨rfl, hsz, hP, hK, hD0⟩ := hv
  have hx := B.exec
  have hb := B.bytes
  have hr := B.returns
  have hT : ∀ w ∈ lw_good, w.before _ s = true := fun w h => atoms_spec (ws := w_Heads_init) B.pre w (List.mem_cons_of_mem _ h)
  have hown : s.vm.findClass R_Heads = some m.cls := findClass_of_methodNamed B.named
  have hlocks := B.notSynchronized
  have hin : meth.name = "<init>" := (name_of_methodNamed B.named B.method).1
  subst hsz
  have hD := hD0.self (sz := s.heap.size)
  generalize hAe : va_A [oc h_this 2 ([.null, .null, .null, .null, .null] : List Value)] s.heap.size = A at hD ⊢
  have hA : ∀ q : Nat, s.heap.size ≤ q → A q := fun q h => by rw [← hAe]; exact Or.inr h
  have hS : va_S A s.heap s.heap [] := va_S.rf
  have hP : va_P (dC, dI) cls_all [oc h_this 2 ([.null, .null, .null, .null, .null] : List Value)] s.heap := hP
  have hl := lv_entry ([.ref h_this, .ref p1, .ref p2, .ref p3, .ref p4, .ref p5]) (n := 6) (Nat.le_of_ble_eq_true rfl)
  rw [lg_entry_eq]
  generalize (lg_sl ([.ref h_this, .ref p1, .ref p2, .ref p3, .ref p4, .ref p5]) ++ List.replicate (6 - (lg_sl ([.ref h_this, .ref p1, .ref p2, .ref p3, .ref p4, .ref p5])).length) Slot.unset).toArray = ls at hl ⊢
  have hl : lv_has ls 6 [(0, .ref h_this), (1, .ref p1), (2, .ref p2), (3, .ref p3), (4, .ref p4), (5, .ref p5)] := hl
  refine lv_aload_n hx hb d_Heads_init_0 rfl (lv_at hl 0 rfl) ?_
  refine W.objInit hx hb hown (hT _ ml_Heads_3) (hT _ im_objectInit) (hT _ co_objectInit) rfl (by rw [hml]; exact hl.1) rfl d_Heads_init_1 (Nat.le_of_ble_eq_true rfl) (Nat.le_of_ble_eq_true rfl) ?_
  refine W.eq (g2 := F0 m 4 ls []) rfl ?_
  refine lv_aload_n hx hb d_Heads_init_4 rfl (lv_at hl 0 rfl) ?_
  refine lv_aload_n hx hb d_Heads_init_5 rfl (lv_at hl 1 rfl) ?_
  refine va_putF (D := (dC, dI)) (ci := 2) (v := .ref p1) (ty := .object "PointerHouse$Source") (C := R_Heads) (T := F_Heads) (N := 5) hx hb hT i_Heads t_Heads t_Heads_ok n_Heads hown hK hP hD hS 0 rfl rfl 0 (by decide) (hT _ fl_Heads_9) (fun _ h9 => h9) rfl hin rfl (by decide +kernel) rfl rfl (Nat.le_of_ble_eq_true rfl) d_Heads_init_6 (fun H locs hP hD hS => ?_)
  have hP : va_P (dC, dI) cls_all [oc h_this 2 ([.ref p1, .null, .null, .null, .null] : List Value)] H := hP
  have hD : va_D A [oc h_this 2 ([.ref p1, .null, .null, .null, .null] : List Value)] := hD
  refine lv_aload_n hx hb d_Heads_init_9 rfl (lv_at hl 0 rfl) ?_
  refine lv_aload_n hx hb d_Heads_init_10 rfl (lv_at hl 2 rfl) ?_
  refine va_putF (D := (dC, dI)) (ci := 2) (v := .ref p2) (ty := .object "PointerHouse$Items") (C := R_Heads) (T := F_Heads) (N := 5) hx hb hT i_Heads t_Heads t_Heads_ok n_Heads hown hK hP hD hS 0 rfl rfl 1 (by decide) (hT _ fl_Heads_15) (fun _ h9 => h9) rfl hin rfl (by decide +kernel) rfl rfl (Nat.le_of_ble_eq_true rfl) d_Heads_init_11 (fun H locs hP hD hS => ?_)
  have hP : va_P (dC, dI) cls_all [oc h_this 2 ([.ref p1, .ref p2, .null, .null, .null] : List Value)] H := hP
  have hD : va_D A [oc h_this 2 ([.ref p1, .ref p2, .null, .null, .null] : List Value)] := hD
  refine lv_aload_n hx hb d_Heads_init_14 rfl (lv_at hl 0 rfl) ?_
  refine lv_aload_n hx hb d_Heads_init_15 rfl (lv_at hl 3 rfl) ?_
  refine va_putF (D := (dC, dI)) (ci := 2) (v := .ref p3) (ty := .object "PointerHouse$Types") (C := R_Heads) (T := F_Heads) (N := 5) hx hb hT i_Heads t_Heads t_Heads_ok n_Heads hown hK hP hD hS 0 rfl rfl 2 (by decide) (hT _ fl_Heads_19) (fun _ h9 => h9) rfl hin rfl (by decide +kernel) rfl rfl (Nat.le_of_ble_eq_true rfl) d_Heads_init_16 (fun H locs hP hD hS => ?_)
  have hP : va_P (dC, dI) cls_all [oc h_this 2 ([.ref p1, .ref p2, .ref p3, .null, .null] : List Value)] H := hP
  have hD : va_D A [oc h_this 2 ([.ref p1, .ref p2, .ref p3, .null, .null] : List Value)] := hD
  refine lv_aload_n hx hb d_Heads_init_19 rfl (lv_at hl 0 rfl) ?_
  refine lv_aload hx hb d_Heads_init_20 (lv_at hl 4 rfl) ?_
  refine va_putF (D := (dC, dI)) (ci := 2) (v := .ref p4) (ty := .object "PointerHouse$Scope") (C := R_Heads) (T := F_Heads) (N := 5) hx hb hT i_Heads t_Heads t_Heads_ok n_Heads hown hK hP hD hS 0 rfl rfl 3 (by decide) (hT _ fl_Heads_23) (fun _ h9 => h9) rfl hin rfl (by decide +kernel) rfl rfl (Nat.le_of_ble_eq_true rfl) d_Heads_init_22 (fun H locs hP hD hS => ?_)
  have hP : va_P (dC, dI) cls_all [oc h_this 2 ([.ref p1, .ref p2, .ref p3, .ref p4, .null] : List Value)] H := hP
  have hD : va_D A [oc h_this 2 ([.ref p1, .ref p2, .ref p3, .ref p4, .null] : List Value)] := hD
  refine lv_aload_n hx hb d_Heads_init_25 rfl (lv_at hl 0 rfl) ?_
  refine lv_aload hx hb d_Heads_init_26 (lv_at hl 5 rfl) ?_
  refine va_putF (D := (dC, dI)) (ci := 2) (v := .ref p5) (ty := .object "PointerHouse$Code") (C := R_Heads) (T := F_Heads) (N := 5) hx hb hT i_Heads t_Heads t_Heads_ok n_Heads hown hK hP hD hS 0 rfl rfl 4 (by decide) (hT _ fl_Heads_27) (fun _ h9 => h9) rfl hin rfl (by decide +kernel) rfl rfl (Nat.le_of_ble_eq_true rfl) d_Heads_init_28 (fun H locs hP hD hS => ?_)
  have hP : va_P (dC, dI) cls_all [oc h_this 2 ([.ref p1, .ref p2, .ref p3, .ref p4, .ref p5] : List Value)] H := hP
  have hD : va_D A [oc h_this 2 ([.ref p1, .ref p2, .ref p3, .ref p4, .ref p5] : List Value)] := hD
  have hP9 := hP.sub (ws' := [oc h_this 2 ([.ref p1, .ref p2, .ref p3, .ref p4, .ref p5] : List Value)]) [0] rfl
  have hD9 := hD.sub (ws' := [oc h_this 2 ([.ref p1, .ref p2, .ref p3, .ref p4, .ref p5] : List Value)]) [0] (by decide) rfl
  have hK9 := hK.sub (tys' := []) [] rfl
  have hv1 : ([.ref p1, .ref p2, .ref p3, .ref p4, .ref p5] : List Value)[0]? = some (.ref p1) := rfl
  have hv2 : ([.ref p1, .ref p2, .ref p3, .ref p4, .ref p5] : List Value)[1]? = some (.ref p2) := rfl
  have hv3 : ([.ref p1, .ref p2, .ref p3, .ref p4, .ref p5] : List Value)[2]? = some (.ref p3) := rfl
  have hv4 : ([.ref p1, .ref p2, .ref p3, .ref p4, .ref p5] : List Value)[3]? = some (.ref p4) := rfl
  have hv5 : ([.ref p1, .ref p2, .ref p3, .ref p4, .ref p5] : List Value)[4]? = some (.ref p5) := rfl
  exact W.vret hx hb hr (fun t ht hW => ⟨⟨(), rfl, trivial, trivial, by rw [ht]; exact hP9, va_K.moved hW.alike hK9, hD9⟩, hS.F ht⟩) hS.2.2 d_Heads_init_31
set_option maxHeartbeats 1000000 in
set_option maxRecDepth 100000 in
theorem c_Memory_init (l : Launch) (dC : Nat → ClassId) (dI : Nat → Nat → Nat) (sz : Nat) (h_this : Nat) : Met l y_Memory_init w_Memory_init ({ frames := 1, cells := 8, slots := 9861, locals := 12 } : Room) (va_Pc [.ref h_this] (fun U => U.heap.size = sz ∧ va_P (dC, dI) cls_all [oc h_this 5 ([.null, .null, .null, .int 0, .int 0, .int 0, .int 0, .int 0, .int 0, .null, .null, .null, .null, .null] : List Value)] U.heap ∧ va_K (dC, dI) cls_all [] U ∧ va_D (fun _ => True) [oc h_this 5 ([.null, .null, .null, .int 0, .int 0, .int 0, .int 0, .int 0, .int 0, .null, .null, .null, .null, .null] : List Value)])) (va_Qv (fun (_ : Unit) => True) (fun _ t => ∃ (hm' : Nat → Nat) (km' : Nat → ClassId), (True) ∧ va_P (dC, dI) cls_all [oc h_this 5 ([.ref (hm' 0), .ref (hm' 1), .ref (hm' 2), .int 0, .int 0, .int 0, .int 0, .int 0, .int 0, .ref (hm' 3), .ref (hm' 4), .ref (hm' 5), .ref (hm' 6), .ref (hm' 7)] : List Value), ic (hm' 0) (km' 0) 4096 (fun _ => 0), ic (hm' 1) (km' 1) 4096 (fun _ => 0), ic (hm' 2) (km' 2) 64 (fun _ => 0), ic (hm' 3) (km' 3) 321 (fun _ => 0), ic (hm' 4) (km' 4) 321 (fun _ => 0), ic (hm' 5) (km' 5) 321 (fun _ => 0), ic (hm' 6) (km' 6) 321 (fun _ => 0), ic (hm' 7) (km' 7) 321 (fun _ => 0)] t.heap ∧ va_K (dC, dI) cls_all [((km' 0), .int), ((km' 1), .boolean), ((km' 2), .int), ((km' 3), .int), ((km' 4), .int), ((km' 5), .int), ((km' 6), .int), ((km' 7), .int)] t ∧ va_D (va_A [oc h_this 5 ([.null, .null, .null, .int 0, .int 0, .int 0, .int 0, .int 0, .int 0, .null, .null, .null, .null, .null] : List Value)] sz) [oc h_this 5 ([.ref (hm' 0), .ref (hm' 1), .ref (hm' 2), .int 0, .int 0, .int 0, .int 0, .int 0, .int 0, .ref (hm' 3), .ref (hm' 4), .ref (hm' 5), .ref (hm' 6), .ref (hm' 7)] : List Value), ic (hm' 0) (km' 0) 4096 (fun _ => 0), ic (hm' 1) (km' 1) 4096 (fun _ => 0), ic (hm' 2) (km' 2) 64 (fun _ => 0), ic (hm' 3) (km' 3) 321 (fun _ => 0), ic (hm' 4) (km' 4) 321 (fun _ => 0), ic (hm' 5) (km' 5) 321 (fun _ => 0), ic (hm' 6) (km' 6) 321 (fun _ => 0), ic (hm' 7) (km' 7) 321 (fun _ => 0)]) (va_A [oc h_this 5 ([.null, .null, .null, .int 0, .int 0, .int 0, .int 0, .int 0, .int 0, .null, .null, .null, .null, .null] : List Value)] sz)) 8 9861 (va_A [oc h_this 5 ([.null, .null, .null, .int 0, .int 0, .int 0, .int 0, .int 0, .int 0, .null, .null, .null, .null, .null] : List Value)] sz) := by
  refine Met.ofW (cc := b_Memory_init) (maxL := 1) (ret := none) (by decide) rfl ?_
  intro p e s m args below meth c s₁ B hml hv
  obtain ⟨rfl, hsz, hP, hK, hD0⟩ := hv
  have hx := B.exec
  have hb := B.bytes
  have hr := B.returns
  have hT : ∀ w ∈ lw_good, w.before _ s = true := fun w h => atoms_spec (ws := w_Memory_init) B.pre w (List.mem_cons_of_mem _ h)
  have hown : s.vm.findClass R_Memory = some m.cls := findClass_of_methodNamed B.named
  have hlocks := B.notSynchronized
  have hin : meth.name = "<init>" := (name_of_methodNamed B.named B.method).1
  subst hsz
  have hD := hD0.self (sz := s.heap.size)
  generalize hAe : va_A [oc h_this 5 ([.null, .null, .null, .int 0, .int 0, .int 0, .int 0, .int 0, .int 0, .null, .null, .null, .null, .null] : List Value)] s.heap.size = A at hD ⊢
  have hA : ∀ q : Nat, s.heap.size ≤ q → A q := fun q h => by rw [← hAe]; exact Or.inr h
  have hS : va_S A s.heap s.heap [] := va_S.rf
  have hP : va_P (dC, dI) cls_all [oc h_this 5 ([.null, .null, .null, .int 0, .int 0, .int 0, .int 0, .int 0, .int 0, .null, .null, .null, .null, .null] : List Value)] s.heap := hP
  have hl := lv_entry ([.ref h_this]) (n := 1) (Nat.le_of_ble_eq_true rfl)
  rw [lg_entry_eq]
  generalize (lg_sl ([.ref h_this]) ++ List.replicate (1 - (lg_sl ([.ref h_this])).length) Slot.unset).toArray = ls at hl ⊢
  have hl : lv_has ls 1 [(0, .ref h_this)] := hl
  refine lv_aload_n hx hb d_Memory_init_0 rfl (lv_at hl 0 rfl) ?_
  refine W.objInit hx hb hown (hT _ ml_Memory_5) (hT _ im_objectInit) (hT _ co_objectInit) rfl (by rw [hml]; exact hl.1) rfl d_Memory_init_1 (Nat.le_of_ble_eq_true rfl) (Nat.le_of_ble_eq_true rfl) ?_
  refine W.eq (g2 := F0 m 4 ls []) rfl ?_
  refine blk_arr (n := 4096) (N' := 4096) (a0 := (4096, .inl (fun _ => 0))) hx hb hT i_Memory t_Memory t_Memory_ok n_Memory hown hin hK hP hD hS hA rfl (lv_at hl 0 rfl) 0 (by decide) rfl rfl fl_Memory_13 (Nat.le_of_ble_eq_true rfl) ac_int rfl (by decide +kernel) (fun _ => rfl) (by decide +kernel) (by decide +kernel) (by decide +kernel) (Nat.le_of_ble_eq_true rfl) (Nat.le_of_ble_eq_true rfl) d_Memory_init_4 (fun h9 => lv_sipush (v := 4096) hx hb d_Memory_init_5 (by decide) h9) d_Memory_init_8 d_Memory_init_10 (fun q1 k1 H locs hK hP hD hS => ?_)
  have hP : va_P (dC, dI) cls_all [oc h_this 5 ([.ref q1, .null, .null, .int 0, .int 0, .int 0, .int 0, .int 0, .int 0, .null, .null, .null, .null, .null] : List Value), ic q1 k1 4096 (fun _ => 0)] H := hP
  have hD : va_D A [oc h_this 5 ([.ref q1, .null, .null, .int 0, .int 0, .int 0, .int 0, .int 0, .int 0, .null, .null, .null, .null, .null] : List Value), ic q1 k1 4096 (fun _ => 0)] := hD
  have hK : va_K (dC, dI) cls_all [(k1, .int)] s := hK
  refine W.widen (k := 1) (n := 4096) (Nat.le_of_ble_eq_true rfl) (Nat.le_of_ble_eq_true rfl) ?_
  refine blk_arr (n := 4096) (N' := 4096) (a0 := (4096, .inl (fun _ => 0))) hx hb hT i_Memory t_Memory t_Memory_ok n_Memory hown hin hK hP hD hS hA rfl (lv_at hl 0 rfl) 1 (by decide) rfl rfl fl_Memory_17 (Nat.le_of_ble_eq_true rfl) ac_boolean rfl (by decide +kernel) (fun _ => rfl) (by decide +kernel) (by decide +kernel) (by decide +kernel) (Nat.le_of_ble_eq_true rfl) (Nat.le_of_ble_eq_true rfl) d_Memory_init_13 (fun h9 => lv_sipush (v := 4096) hx hb d_Memory_init_14 (by decide) h9) d_Memory_init_17 d_Memory_init_19 (fun q2 k2 H locs hK hP hD hS => ?_)
  have hP : va_P (dC, dI) cls_all [oc h_this 5 ([.ref q1, .ref q2, .null, .int 0, .int 0, .int 0, .int 0, .int 0, .int 0, .null, .null, .null, .null, .null] : List Value), ic q1 k1 4096 (fun _ => 0), ic q2 k2 4096 (fun _ => 0)] H := hP
  have hD : va_D A [oc h_this 5 ([.ref q1, .ref q2, .null, .int 0, .int 0, .int 0, .int 0, .int 0, .int 0, .null, .null, .null, .null, .null] : List Value), ic q1 k1 4096 (fun _ => 0), ic q2 k2 4096 (fun _ => 0)] := hD
  have hK : va_K (dC, dI) cls_all [(k1, .int), (k2, .boolean)] s := hK
  refine W.widen (k := 2) (n := 8192) (Nat.le_of_ble_eq_true rfl) (Nat.le_of_ble_eq_true rfl) ?_
  refine blk_arr (n := 64) (N' := 64) (a0 := (64, .inl (fun _ => 0))) hx hb hT i_Memory t_Memory t_Memory_ok n_Memory hown hin hK hP hD hS hA rfl (lv_at hl 0 rfl) 2 (by decide) rfl rfl fl_Memory_21 (Nat.le_of_ble_eq_true rfl) ac_int rfl (by decide +kernel) (fun _ => rfl) (by decide +kernel) (by decide +kernel) (by decide +kernel) (Nat.le_of_ble_eq_true rfl) (Nat.le_of_ble_eq_true rfl) d_Memory_init_22 (fun h9 => lv_bipush (v := 64) hx hb d_Memory_init_23 (by decide) h9) d_Memory_init_25 d_Memory_init_27 (fun q3 k3 H locs hK hP hD hS => ?_)
  have hP : va_P (dC, dI) cls_all [oc h_this 5 ([.ref q1, .ref q2, .ref q3, .int 0, .int 0, .int 0, .int 0, .int 0, .int 0, .null, .null, .null, .null, .null] : List Value), ic q1 k1 4096 (fun _ => 0), ic q2 k2 4096 (fun _ => 0), ic q3 k3 64 (fun _ => 0)] H := hP
  have hD : va_D A [oc h_this 5 ([.ref q1, .ref q2, .ref q3, .int 0, .int 0, .int 0, .int 0, .int 0, .int 0, .null, .null, .null, .null, .null] : List Value), ic q1 k1 4096 (fun _ => 0), ic q2 k2 4096 (fun _ => 0), ic q3 k3 64 (fun _ => 0)] := hD
  have hK : va_K (dC, dI) cls_all [(k1, .int), (k2, .boolean), (k3, .int)] s := hK
  refine W.widen (k := 3) (n := 8256) (Nat.le_of_ble_eq_true rfl) (Nat.le_of_ble_eq_true rfl) ?_
  refine blk_arr (n := 321) (N' := 321) (a0 := (321, .inl (fun _ => 0))) hx hb hT i_Memory t_Memory t_Memory_ok n_Memory hown hin hK hP hD hS hA rfl (lv_at hl 0 rfl) 9 (by decide) rfl rfl fl_Memory_24 (Nat.le_of_ble_eq_true rfl) ac_int rfl (by decide +kernel) (fun _ => rfl) (by decide +kernel) (by decide +kernel) (by decide +kernel) (Nat.le_of_ble_eq_true rfl) (Nat.le_of_ble_eq_true rfl) d_Memory_init_30 (fun h9 => lv_sipush (v := 321) hx hb d_Memory_init_31 (by decide) h9) d_Memory_init_34 d_Memory_init_36 (fun q4 k4 H locs hK hP hD hS => ?_)
  have hP : va_P (dC, dI) cls_all [oc h_this 5 ([.ref q1, .ref q2, .ref q3, .int 0, .int 0, .int 0, .int 0, .int 0, .int 0, .ref q4, .null, .null, .null, .null] : List Value), ic q1 k1 4096 (fun _ => 0), ic q2 k2 4096 (fun _ => 0), ic q3 k3 64 (fun _ => 0), ic q4 k4 321 (fun _ => 0)] H := hP
  have hD : va_D A [oc h_this 5 ([.ref q1, .ref q2, .ref q3, .int 0, .int 0, .int 0, .int 0, .int 0, .int 0, .ref q4, .null, .null, .null, .null] : List Value), ic q1 k1 4096 (fun _ => 0), ic q2 k2 4096 (fun _ => 0), ic q3 k3 64 (fun _ => 0), ic q4 k4 321 (fun _ => 0)] := hD
  have hK : va_K (dC, dI) cls_all [(k1, .int), (k2, .boolean), (k3, .int), (k4, .int)] s := hK
  refine W.widen (k := 4) (n := 8577) (Nat.le_of_ble_eq_true rfl) (Nat.le_of_ble_eq_true rfl) ?_
  refine blk_arr (n := 321) (N' := 321) (a0 := (321, .inl (fun _ => 0))) hx hb hT i_Memory t_Memory t_Memory_ok n_Memory hown hin hK hP hD hS hA rfl (lv_at hl 0 rfl) 10 (by decide) rfl rfl fl_Memory_27 (Nat.le_of_ble_eq_true rfl) ac_int rfl (by decide +kernel) (fun _ => rfl) (by decide +kernel) (by decide +kernel) (by decide +kernel) (Nat.le_of_ble_eq_true rfl) (Nat.le_of_ble_eq_true rfl) d_Memory_init_39 (fun h9 => lv_sipush (v := 321) hx hb d_Memory_init_40 (by decide) h9) d_Memory_init_43 d_Memory_init_45 (fun q5 k5 H locs hK hP hD hS => ?_)
  have hP : va_P (dC, dI) cls_all [oc h_this 5 ([.ref q1, .ref q2, .ref q3, .int 0, .int 0, .int 0, .int 0, .int 0, .int 0, .ref q4, .ref q5, .null, .null, .null] : List Value), ic q1 k1 4096 (fun _ => 0), ic q2 k2 4096 (fun _ => 0), ic q3 k3 64 (fun _ => 0), ic q4 k4 321 (fun _ => 0), ic q5 k5 321 (fun _ => 0)] H := hP
  have hD : va_D A [oc h_this 5 ([.ref q1, .ref q2, .ref q3, .int 0, .int 0, .int 0, .int 0, .int 0, .int 0, .ref q4, .ref q5, .null, .null, .null] : List Value), ic q1 k1 4096 (fun _ => 0), ic q2 k2 4096 (fun _ => 0), ic q3 k3 64 (fun _ => 0), ic q4 k4 321 (fun _ => 0), ic q5 k5 321 (fun _ => 0)] := hD
  have hK : va_K (dC, dI) cls_all [(k1, .int), (k2, .boolean), (k3, .int), (k4, .int), (k5, .int)] s := hK
  refine W.widen (k := 5) (n := 8898) (Nat.le_of_ble_eq_true rfl) (Nat.le_of_ble_eq_true rfl) ?_
  refine blk_arr (n := 321) (N' := 321) (a0 := (321, .inl (fun _ => 0))) hx hb hT i_Memory t_Memory t_Memory_ok n_Memory hown hin hK hP hD hS hA rfl (lv_at hl 0 rfl) 11 (by decide) rfl rfl fl_Memory_30 (Nat.le_of_ble_eq_true rfl) ac_int rfl (by decide +kernel) (fun _ => rfl) (by decide +kernel) (by decide +kernel) (by decide +kernel) (Nat.le_of_ble_eq_true rfl) (Nat.le_of_ble_eq_true rfl) d_Memory_init_48 (fun h9 => lv_sipush (v := 321) hx hb d_Memory_init_49 (by decide) h9) d_Memory_init_52 d_Memory_init_54 (fun q6 k6 H locs hK hP hD hS => ?_)
  have hP : va_P (dC, dI) cls_all [oc h_this 5 ([.ref q1, .ref q2, .ref q3, .int 0, .int 0, .int 0, .int 0, .int 0, .int 0, .ref q4, .ref q5, .ref q6, .null, .null] : List Value), ic q1 k1 4096 (fun _ => 0), ic q2 k2 4096 (fun _ => 0), ic q3 k3 64 (fun _ => 0), ic q4 k4 321 (fun _ => 0), ic q5 k5 321 (fun _ => 0), ic q6 k6 321 (fun _ => 0)] H := hP
  have hD : va_D A [oc h_this 5 ([.ref q1, .ref q2, .ref q3, .int 0, .int 0, .int 0, .int 0, .int 0, .int 0, .ref q4, .ref q5, .ref q6, .null, .null] : List Value), ic q1 k1 4096 (fun _ => 0), ic q2 k2 4096 (fun _ => 0), ic q3 k3 64 (fun _ => 0), ic q4 k4 321 (fun _ => 0), ic q5 k5 321 (fun _ => 0), ic q6 k6 321 (fun _ => 0)] := hD
  have hK : va_K (dC, dI) cls_all [(k1, .int), (k2, .boolean), (k3, .int), (k4, .int), (k5, .int), (k6, .int)] s := hK
  refine W.widen (k := 6) (n := 9219) (Nat.le_of_ble_eq_true rfl) (Nat.le_of_ble_eq_true rfl) ?_
  refine blk_arr (n := 321) (N' := 321) (a0 := (321, .inl (fun _ => 0))) hx hb hT i_Memory t_Memory t_Memory_ok n_Memory hown hin hK hP hD hS hA rfl (lv_at hl 0 rfl) 12 (by decide) rfl rfl fl_Memory_33 (Nat.le_of_ble_eq_true rfl) ac_int rfl (by decide +kernel) (fun _ => rfl) (by decide +kernel) (by decide +kernel) (by decide +kernel) (Nat.le_of_ble_eq_true rfl) (Nat.le_of_ble_eq_true rfl) d_Memory_init_57 (fun h9 => lv_sipush (v := 321) hx hb d_Memory_init_58 (by decide) h9) d_Memory_init_61 d_Memory_init_63 (fun q7 k7 H locs hK hP hD hS => ?_)
  have hP : va_P (dC, dI) cls_all [oc h_this 5 ([.ref q1, .ref q2, .ref q3, .int 0, .int 0, .int 0, .int 0, .int 0, .int 0, .ref q4, .ref q5, .ref q6, .ref q7, .null] : List Value), ic q1 k1 4096 (fun _ => 0), ic q2 k2 4096 (fun _ => 0), ic q3 k3 64 (fun _ => 0), ic q4 k4 321 (fun _ => 0), ic q5 k5 321 (fun _ => 0), ic q6 k6 321 (fun _ => 0), ic q7 k7 321 (fun _ => 0)] H := hP
  have hD : va_D A [oc h_this 5 ([.ref q1, .ref q2, .ref q3, .int 0, .int 0, .int 0, .int 0, .int 0, .int 0, .ref q4, .ref q5, .ref q6, .ref q7, .null] : List Value), ic q1 k1 4096 (fun _ => 0), ic q2 k2 4096 (fun _ => 0), ic q3 k3 64 (fun _ => 0), ic q4 k4 321 (fun _ => 0), ic q5 k5 321 (fun _ => 0), ic q6 k6 321 (fun _ => 0), ic q7 k7 321 (fun _ => 0)] := hD
  have hK : va_K (dC, dI) cls_all [(k1, .int), (k2, .boolean), (k3, .int), (k4, .int), (k5, .int), (k6, .int), (k7, .int)] s := hK
  refine W.widen (k := 7) (n := 9540) (Nat.le_of_ble_eq_true rfl) (Nat.le_of_ble_eq_true rfl) ?_
  refine blk_arr (n := 321) (N' := 321) (a0 := (321, .inl (fun _ => 0))) hx hb hT i_Memory t_Memory t_Memory_ok n_Memory hown hin hK hP hD hS hA rfl (lv_at hl 0 rfl) 13 (by decide) rfl rfl fl_Memory_36 (Nat.le_of_ble_eq_true rfl) ac_int rfl (by decide +kernel) (fun _ => rfl) (by decide +kernel) (by decide +kernel) (by decide +kernel) (Nat.le_of_ble_eq_true rfl) (Nat.le_of_ble_eq_true rfl) d_Memory_init_66 (fun h9 => lv_sipush (v := 321) hx hb d_Memory_init_67 (by decide) h9) d_Memory_init_70 d_Memory_init_72 (fun q8 k8 H locs hK hP hD hS => ?_)
  have hP : va_P (dC, dI) cls_all [oc h_this 5 ([.ref q1, .ref q2, .ref q3, .int 0, .int 0, .int 0, .int 0, .int 0, .int 0, .ref q4, .ref q5, .ref q6, .ref q7, .ref q8] : List Value), ic q1 k1 4096 (fun _ => 0), ic q2 k2 4096 (fun _ => 0), ic q3 k3 64 (fun _ => 0), ic q4 k4 321 (fun _ => 0), ic q5 k5 321 (fun _ => 0), ic q6 k6 321 (fun _ => 0), ic q7 k7 321 (fun _ => 0), ic q8 k8 321 (fun _ => 0)] H := hP
  have hD : va_D A [oc h_this 5 ([.ref q1, .ref q2, .ref q3, .int 0, .int 0, .int 0, .int 0, .int 0, .int 0, .ref q4, .ref q5, .ref q6, .ref q7, .ref q8] : List Value), ic q1 k1 4096 (fun _ => 0), ic q2 k2 4096 (fun _ => 0), ic q3 k3 64 (fun _ => 0), ic q4 k4 321 (fun _ => 0), ic q5 k5 321 (fun _ => 0), ic q6 k6 321 (fun _ => 0), ic q7 k7 321 (fun _ => 0), ic q8 k8 321 (fun _ => 0)] := hD
  have hK : va_K (dC, dI) cls_all [(k1, .int), (k2, .boolean), (k3, .int), (k4, .int), (k5, .int), (k6, .int), (k7, .int), (k8, .int)] s := hK
  refine W.widen (k := 8) (n := 9861) (Nat.le_of_ble_eq_true rfl) (Nat.le_of_ble_eq_true rfl) ?_
  have hP9 := hP.sub (ws' := [oc h_this 5 ([.ref q1, .ref q2, .ref q3, .int 0, .int 0, .int 0, .int 0, .int 0, .int 0, .ref q4, .ref q5, .ref q6, .ref q7, .ref q8] : List Value), ic q1 k1 4096 (fun _ => 0), ic q2 k2 4096 (fun _ => 0), ic q3 k3 64 (fun _ => 0), ic q4 k4 321 (fun _ => 0), ic q5 k5 321 (fun _ => 0), ic q6 k6 321 (fun _ => 0), ic q7 k7 321 (fun _ => 0), ic q8 k8 321 (fun _ => 0)]) [0, 1, 2, 3, 4, 5, 6, 7, 8] rfl
  have hD9 := hD.sub (ws' := [oc h_this 5 ([.ref q1, .ref q2, .ref q3, .int 0, .int 0, .int 0, .int 0, .int 0, .int 0, .ref q4, .ref q5, .ref q6, .ref q7, .ref q8] : List Value), ic q1 k1 4096 (fun _ => 0), ic q2 k2 4096 (fun _ => 0), ic q3 k3 64 (fun _ => 0), ic q4 k4 321 (fun _ => 0), ic q5 k5 321 (fun _ => 0), ic q6 k6 321 (fun _ => 0), ic q7 k7 321 (fun _ => 0), ic q8 k8 321 (fun _ => 0)]) [0, 1, 2, 3, 4, 5, 6, 7, 8] (by decide) rfl
  have hK9 := hK.sub (tys' := [(k1, .int), (k2, .boolean), (k3, .int), (k4, .int), (k5, .int), (k6, .int), (k7, .int), (k8, .int)]) [0, 1, 2, 3, 4, 5, 6, 7] rfl
  have hv9 : ([.ref q1, .ref q2, .ref q3, .int 0, .int 0, .int 0, .int 0, .int 0, .int 0, .ref q4, .ref q5, .ref q6, .ref q7, .ref q8] : List Value)[0]? = some (.ref q1) := rfl
  have hv10 : ([.ref q1, .ref q2, .ref q3, .int 0, .int 0, .int 0, .int 0, .int 0, .int 0, .ref q4, .ref q5, .ref q6, .ref q7, .ref q8] : List Value)[1]? = some (.ref q2) := rfl
  have hv11 : ([.ref q1, .ref q2, .ref q3, .int 0, .int 0, .int 0, .int 0, .int 0, .int 0, .ref q4, .ref q5, .ref q6, .ref q7, .ref q8] : List Value)[2]? = some (.ref q3) := rfl
  have hv12 : ([.ref q1, .ref q2, .ref q3, .int 0, .int 0, .int 0, .int 0, .int 0, .int 0, .ref q4, .ref q5, .ref q6, .ref q7, .ref q8] : List Value)[3]? = some (.int 0) := rfl
  have hv13 : ([.ref q1, .ref q2, .ref q3, .int 0, .int 0, .int 0, .int 0, .int 0, .int 0, .ref q4, .ref q5, .ref q6, .ref q7, .ref q8] : List Value)[4]? = some (.int 0) := rfl
  have hv14 : ([.ref q1, .ref q2, .ref q3, .int 0, .int 0, .int 0, .int 0, .int 0, .int 0, .ref q4, .ref q5, .ref q6, .ref q7, .ref q8] : List Value)[5]? = some (.int 0) := rfl
  have hv15 : ([.ref q1, .ref q2, .ref q3, .int 0, .int 0, .int 0, .int 0, .int 0, .int 0, .ref q4, .ref q5, .ref q6, .ref q7, .ref q8] : List Value)[6]? = some (.int 0) := rfl
  have hv16 : ([.ref q1, .ref q2, .ref q3, .int 0, .int 0, .int 0, .int 0, .int 0, .int 0, .ref q4, .ref q5, .ref q6, .ref q7, .ref q8] : List Value)[7]? = some (.int 0) := rfl
  have hv17 : ([.ref q1, .ref q2, .ref q3, .int 0, .int 0, .int 0, .int 0, .int 0, .int 0, .ref q4, .ref q5, .ref q6, .ref q7, .ref q8] : List Value)[8]? = some (.int 0) := rfl
  have hv18 : ([.ref q1, .ref q2, .ref q3, .int 0, .int 0, .int 0, .int 0, .int 0, .int 0, .ref q4, .ref q5, .ref q6, .ref q7, .ref q8] : List Value)[9]? = some (.ref q4) := rfl
  have hv19 : ([.ref q1, .ref q2, .ref q3, .int 0, .int 0, .int 0, .int 0, .int 0, .int 0, .ref q4, .ref q5, .ref q6, .ref q7, .ref q8] : List Value)[10]? = some (.ref q5) := rfl
  have hv20 : ([.ref q1, .ref q2, .ref q3, .int 0, .int 0, .int 0, .int 0, .int 0, .int 0, .ref q4, .ref q5, .ref q6, .ref q7, .ref q8] : List Value)[11]? = some (.ref q6) := rfl
  have hv21 : ([.ref q1, .ref q2, .ref q3, .int 0, .int 0, .int 0, .int 0, .int 0, .int 0, .ref q4, .ref q5, .ref q6, .ref q7, .ref q8] : List Value)[12]? = some (.ref q7) := rfl
  have hv22 : ([.ref q1, .ref q2, .ref q3, .int 0, .int 0, .int 0, .int 0, .int 0, .int 0, .ref q4, .ref q5, .ref q6, .ref q7, .ref q8] : List Value)[13]? = some (.ref q8) := rfl
  refine W.widen (k := 8) (n := 9861) (Nat.le_of_ble_eq_true rfl) (Nat.le_of_ble_eq_true rfl) ?_
  exact W.vret hx hb hr (fun t ht hW => ⟨⟨(), rfl, trivial, (fun i => [q1, q2, q3, q4, q5, q6, q7, q8].getD i 0), (fun i => [k1, k2, k3, k4, k5, k6, k7, k8].getD i 0), trivial, by rw [ht]; exact hP9, va_K.moved hW.alike hK9, hD9⟩, hS.F ht⟩) hS.2.2 d_Memory_init_75
set_option maxHeartbeats 1000000 in
set_option maxRecDepth 100000 in
theorem c_Items_init (l : Launch) (dC : Nat → ClassId) (dI : Nat → Nat → Nat) (sz : Nat) (h_this : Nat) : Met l y_Items_init w_Items_init ({ frames := 1, cells := 20, slots := 1032, locals := 12 } : Room) (va_Pc [.ref h_this] (fun U => U.heap.size = sz ∧ va_P (dC, dI) cls_all [oc h_this 3 ([.int 0, .null, .null, .null, .null, .null, .null, .null, .null, .null, .null, .null, .null, .null, .null, .null, .null, .null, .null, .null, .null] : List Value)] U.heap ∧ va_K (dC, dI) cls_all [] U ∧ va_D (fun _ => True) [oc h_this 3 ([.int 0, .null, .null, .null, .null, .null, .null, .null, .null, .null, .null, .null, .null, .null, .null, .null, .null, .null, .null, .null, .null] : List Value)])) (va_Qv (fun (_ : Unit) => True) (fun _ t => ∃ (hm' : Nat → Nat) (km' : Nat → ClassId), (True) ∧ va_P (dC, dI) cls_all [oc h_this 3 ([.int 0, .ref (hm' 0), .ref (hm' 1), .ref (hm' 2), .ref (hm' 3), .ref (hm' 4), .ref (hm' 5), .ref (hm' 6), .ref (hm' 7), .ref (hm' 8), .ref (hm' 9), .ref (hm' 10), .ref (hm' 11), .ref (hm' 12), .ref (hm' 13), .ref (hm' 14), .ref (hm' 15), .ref (hm' 16), .ref (hm' 17), .ref (hm' 18), .ref (hm' 19)] : List Value), ic (hm' 0) (km' 0) 24 (fun _ => 0), ic (hm' 1) (km' 1) 24 (fun _ => 0), jc (hm' 2) (km' 2) 24 (fun _ => 0), ic (hm' 3) (km' 3) 24 (fun _ => 0), ic (hm' 4) (km' 4) 24 (fun _ => 0), ic (hm' 5) (km' 5) 24 (fun _ => 0), ic (hm' 6) (km' 6) 24 (fun _ => 0), ic (hm' 7) (km' 7) 24 (fun _ => 0), ic (hm' 8) (km' 8) 24 (fun _ => 0), ic (hm' 9) (km' 9) 24 (fun _ => 0), ic (hm' 10) (km' 10) 24 (fun _ => 0), ic (hm' 11) (km' 11) 24 (fun _ => 0), ic (hm' 12) (km' 12) 24 (fun _ => 0), ic (hm' 13) (km' 13) 24 (fun _ => 0), ic (hm' 14) (km' 14) 24 (fun _ => 0), ic (hm' 15) (km' 15) 192 (fun _ => 0), ic (hm' 16) (km' 16) 192 (fun _ => 0), ic (hm' 17) (km' 17) 192 (fun _ => 0), ic (hm' 18) (km' 18) 24 (fun _ => 0), ic (hm' 19) (km' 19) 72 (fun _ => 0)] t.heap ∧ va_K (dC, dI) cls_all [((km' 0), .int), ((km' 1), .int), ((km' 2), .long), ((km' 3), .int), ((km' 4), .int), ((km' 5), .int), ((km' 6), .int), ((km' 7), .int), ((km' 8), .int), ((km' 9), .int), ((km' 10), .int), ((km' 11), .int), ((km' 12), .int), ((km' 13), .int), ((km' 14), .int), ((km' 15), .int), ((km' 16), .int), ((km' 17), .int), ((km' 18), .int), ((km' 19), .int)] t ∧ va_D (va_A [oc h_this 3 ([.int 0, .null, .null, .null, .null, .null, .null, .null, .null, .null, .null, .null, .null, .null, .null, .null, .null, .null, .null, .null, .null] : List Value)] sz) [oc h_this 3 ([.int 0, .ref (hm' 0), .ref (hm' 1), .ref (hm' 2), .ref (hm' 3), .ref (hm' 4), .ref (hm' 5), .ref (hm' 6), .ref (hm' 7), .ref (hm' 8), .ref (hm' 9), .ref (hm' 10), .ref (hm' 11), .ref (hm' 12), .ref (hm' 13), .ref (hm' 14), .ref (hm' 15), .ref (hm' 16), .ref (hm' 17), .ref (hm' 18), .ref (hm' 19)] : List Value), ic (hm' 0) (km' 0) 24 (fun _ => 0), ic (hm' 1) (km' 1) 24 (fun _ => 0), jc (hm' 2) (km' 2) 24 (fun _ => 0), ic (hm' 3) (km' 3) 24 (fun _ => 0), ic (hm' 4) (km' 4) 24 (fun _ => 0), ic (hm' 5) (km' 5) 24 (fun _ => 0), ic (hm' 6) (km' 6) 24 (fun _ => 0), ic (hm' 7) (km' 7) 24 (fun _ => 0), ic (hm' 8) (km' 8) 24 (fun _ => 0), ic (hm' 9) (km' 9) 24 (fun _ => 0), ic (hm' 10) (km' 10) 24 (fun _ => 0), ic (hm' 11) (km' 11) 24 (fun _ => 0), ic (hm' 12) (km' 12) 24 (fun _ => 0), ic (hm' 13) (km' 13) 24 (fun _ => 0), ic (hm' 14) (km' 14) 24 (fun _ => 0), ic (hm' 15) (km' 15) 192 (fun _ => 0), ic (hm' 16) (km' 16) 192 (fun _ => 0), ic (hm' 17) (km' 17) 192 (fun _ => 0), ic (hm' 18) (km' 18) 24 (fun _ => 0), ic (hm' 19) (km' 19) 72 (fun _ => 0)]) (va_A [oc h_this 3 ([.int 0, .null, .null, .null, .null, .null, .null, .null, .null, .null, .null, .null, .null, .null, .null, .null, .null, .null, .null, .null, .null] : List Value)] sz)) 20 1032 (va_A [oc h_this 3 ([.int 0, .null, .null, .null, .null, .null, .null, .null, .null, .null, .null, .null, .null, .null, .null, .null, .null, .null, .null, .null, .null] : List Value)] sz) := by
  refine Met.ofW (cc := b_Items_init) (maxL := 1) (ret := none) (by decide) rfl ?_
  intro p e s m args below meth c s₁ B hml hv
  obtain ⟨rfl, hsz, hP, hK, hD0⟩ := hv
  have hx := B.exec
  have hb := B.bytes
  have hr := B.returns
  have hT : ∀ w ∈ lw_good, w.before _ s = true := fun w h => atoms_spec (ws := w_Items_init) B.pre w (List.mem_cons_of_mem _ h)
  have hown : s.vm.findClass R_Items = some m.cls := findClass_of_methodNamed B.named
  have hlocks := B.notSynchronized
  have hin : meth.name = "<init>" := (name_of_methodNamed B.named B.method).1
  subst hsz
  have hD := hD0.self (sz := s.heap.size)
  generalize hAe : va_A [oc h_this 3 ([.int 0, .null, .null, .null, .null, .null, .null, .null, .null, .null, .null, .null, .null, .null, .null, .null, .null, .null, .null, .null, .null] : List Value)] s.heap.size = A at hD ⊢
  have hA : ∀ q : Nat, s.heap.size ≤ q → A q := fun q h => by rw [← hAe]; exact Or.inr h
  have hS : va_S A s.heap s.heap [] := va_S.rf
  have hP : va_P (dC, dI) cls_all [oc h_this 3 ([.int 0, .null, .null, .null, .null, .null, .null, .null, .null, .null, .null, .null, .null, .null, .null, .null, .null, .null, .null, .null, .null] : List Value)] s.heap := hP
  have hl := lv_entry ([.ref h_this]) (n := 1) (Nat.le_of_ble_eq_true rfl)
  rw [lg_entry_eq]
  generalize (lg_sl ([.ref h_this]) ++ List.replicate (1 - (lg_sl ([.ref h_this])).length) Slot.unset).toArray = ls at hl ⊢
  have hl : lv_has ls 1 [(0, .ref h_this)] := hl
  refine lv_aload_n hx hb d_Items_init_0 rfl (lv_at hl 0 rfl) ?_
  refine W.objInit hx hb hown (hT _ ml_Items_3) (hT _ im_objectInit) (hT _ co_objectInit) rfl (by rw [hml]; exact hl.1) rfl d_Items_init_1 (Nat.le_of_ble_eq_true rfl) (Nat.le_of_ble_eq_true rfl) ?_
  refine W.eq (g2 := F0 m 4 ls []) rfl ?_
  refine blk_arr (n := 24) (N' := 24) (a0 := (24, .inl (fun _ => 0))) hx hb hT i_Items t_Items t_Items_ok n_Items hown hin hK hP hD hS hA rfl (lv_at hl 0 rfl) 1 (by decide) rfl rfl fl_Items_9 (Nat.le_of_ble_eq_true rfl) ac_int rfl (by decide +kernel) (fun _ => rfl) (by decide +kernel) (by decide +kernel) (by decide +kernel) (Nat.le_of_ble_eq_true rfl) (Nat.le_of_ble_eq_true rfl) d_Items_init_4 (fun h9 => lv_bipush (v := 24) hx hb d_Items_init_5 (by decide) h9) d_Items_init_7 d_Items_init_9 (fun q1 k1 H locs hK hP hD hS => ?_)
  have hP : va_P (dC, dI) cls_all [oc h_this 3 ([.int 0, .ref q1, .null, .null, .null, .null, .null, .null, .null, .null, .null, .null, .null, .null, .null, .null, .null, .null, .null, .null, .null] : List Value), ic q1 k1 24 (fun _ => 0)] H := hP
  have hD : va_D A [oc h_this 3 ([.int 0, .ref q1, .null, .null, .null, .null, .null, .null, .null, .null, .null, .null, .null, .null, .null, .null, .null, .null, .null, .null, .null] : List Value), ic q1 k1 24 (fun _ => 0)] := hD
  have hK : va_K (dC, dI) cls_all [(k1, .int)] s := hK
  refine W.widen (k := 1) (n := 24) (Nat.le_of_ble_eq_true rfl) (Nat.le_of_ble_eq_true rfl) ?_
  refine blk_arr (n := 24) (N' := 24) (a0 := (24, .inl (fun _ => 0))) hx hb hT i_Items t_Items t_Items_ok n_Items hown hin hK hP hD hS hA rfl (lv_at hl 0 rfl) 2 (by decide) rfl rfl fl_Items_15 (Nat.le_of_ble_eq_true rfl) ac_int rfl (by decide +kernel) (fun _ => rfl) (by decide +kernel) (by decide +kernel) (by decide +kernel) (Nat.le_of_ble_eq_true rfl) (Nat.le_of_ble_eq_true rfl) d_Items_init_12 (fun h9 => lv_bipush (v := 24) hx hb d_Items_init_13 (by decide) h9) d_Items_init_15 d_Items_init_17 (fun q2 k2 H locs hK hP hD hS => ?_)
  have hP : va_P (dC, dI) cls_all [oc h_this 3 ([.int 0, .ref q1, .ref q2, .null, .null, .null, .null, .null, .null, .null, .null, .null, .null, .null, .null, .null, .null, .null, .null, .null, .null] : List Value), ic q1 k1 24 (fun _ => 0), ic q2 k2 24 (fun _ => 0)] H := hP
  have hD : va_D A [oc h_this 3 ([.int 0, .ref q1, .ref q2, .null, .null, .null, .null, .null, .null, .null, .null, .null, .null, .null, .null, .null, .null, .null, .null, .null, .null] : List Value), ic q1 k1 24 (fun _ => 0), ic q2 k2 24 (fun _ => 0)] := hD
  have hK : va_K (dC, dI) cls_all [(k1, .int), (k2, .int)] s := hK
  refine W.widen (k := 2) (n := 48) (Nat.le_of_ble_eq_true rfl) (Nat.le_of_ble_eq_true rfl) ?_
  refine blk_arr (n := 24) (N' := 24) (a0 := (24, .inr (.inl (fun _ => 0)))) hx hb hT i_Items t_Items t_Items_ok n_Items hown hin hK hP hD hS hA rfl (lv_at hl 0 rfl) 3 (by decide) rfl rfl fl_Items_18 (Nat.le_of_ble_eq_true rfl) ac_long rfl (by decide +kernel) (fun _ => rfl) (by decide +kernel) (by decide +kernel) (by decide +kernel) (Nat.le_of_ble_eq_true rfl) (Nat.le_of_ble_eq_true rfl) d_Items_init_20 (fun h9 => lv_bipush (v := 24) hx hb d_Items_init_21 (by decide) h9) d_Items_init_23 d_Items_init_25 (fun q3 k3 H locs hK hP hD hS => ?_)
  have hP : va_P (dC, dI) cls_all [oc h_this 3 ([.int 0, .ref q1, .ref q2, .ref q3, .null, .null, .null, .null, .null, .null, .null, .null, .null, .null, .null, .null, .null, .null, .null, .null, .null] : List Value), ic q1 k1 24 (fun _ => 0), ic q2 k2 24 (fun _ => 0), jc q3 k3 24 (fun _ => 0)] H := hP
  have hD : va_D A [oc h_this 3 ([.int 0, .ref q1, .ref q2, .ref q3, .null, .null, .null, .null, .null, .null, .null, .null, .null, .null, .null, .null, .null, .null, .null, .null, .null] : List Value), ic q1 k1 24 (fun _ => 0), ic q2 k2 24 (fun _ => 0), jc q3 k3 24 (fun _ => 0)] := hD
  have hK : va_K (dC, dI) cls_all [(k1, .int), (k2, .int), (k3, .long)] s := hK
  refine W.widen (k := 3) (n := 72) (Nat.le_of_ble_eq_true rfl) (Nat.le_of_ble_eq_true rfl) ?_
  refine blk_arr (n := 24) (N' := 24) (a0 := (24, .inl (fun _ => 0))) hx hb hT i_Items t_Items t_Items_ok n_Items hown hin hK hP hD hS hA rfl (lv_at hl 0 rfl) 4 (by decide) rfl rfl fl_Items_22 (Nat.le_of_ble_eq_true rfl) ac_int rfl (by decide +kernel) (fun _ => rfl) (by decide +kernel) (by decide +kernel) (by decide +kernel) (Nat.le_of_ble_eq_true rfl) (Nat.le_of_ble_eq_true rfl) d_Items_init_28 (fun h9 => lv_bipush (v := 24) hx hb d_Items_init_29 (by decide) h9) d_Items_init_31 d_Items_init_33 (fun q4 k4 H locs hK hP hD hS => ?_)
  have hP : va_P (dC, dI) cls_all [oc h_this 3 ([.int 0, .ref q1, .ref q2, .ref q3, .ref q4, .null, .null, .null, .null, .null, .null, .null, .null, .null, .null, .null, .null, .null, .null, .null, .null] : List Value), ic q1 k1 24 (fun _ => 0), ic q2 k2 24 (fun _ => 0), jc q3 k3 24 (fun _ => 0), ic q4 k4 24 (fun _ => 0)] H := hP
  have hD : va_D A [oc h_this 3 ([.int 0, .ref q1, .ref q2, .ref q3, .ref q4, .null, .null, .null, .null, .null, .null, .null, .null, .null, .null, .null, .null, .null, .null, .null, .null] : List Value), ic q1 k1 24 (fun _ => 0), ic q2 k2 24 (fun _ => 0), jc q3 k3 24 (fun _ => 0), ic q4 k4 24 (fun _ => 0)] := hD
  have hK : va_K (dC, dI) cls_all [(k1, .int), (k2, .int), (k3, .long), (k4, .int)] s := hK
  refine W.widen (k := 4) (n := 96) (Nat.le_of_ble_eq_true rfl) (Nat.le_of_ble_eq_true rfl) ?_
  refine blk_arr (n := 24) (N' := 24) (a0 := (24, .inl (fun _ => 0))) hx hb hT i_Items t_Items t_Items_ok n_Items hown hin hK hP hD hS hA rfl (lv_at hl 0 rfl) 5 (by decide) rfl rfl fl_Items_25 (Nat.le_of_ble_eq_true rfl) ac_int rfl (by decide +kernel) (fun _ => rfl) (by decide +kernel) (by decide +kernel) (by decide +kernel) (Nat.le_of_ble_eq_true rfl) (Nat.le_of_ble_eq_true rfl) d_Items_init_36 (fun h9 => lv_bipush (v := 24) hx hb d_Items_init_37 (by decide) h9) d_Items_init_39 d_Items_init_41 (fun q5 k5 H locs hK hP hD hS => ?_)
  have hP : va_P (dC, dI) cls_all [oc h_this 3 ([.int 0, .ref q1, .ref q2, .ref q3, .ref q4, .ref q5, .null, .null, .null, .null, .null, .null, .null, .null, .null, .null, .null, .null, .null, .null, .null] : List Value), ic q1 k1 24 (fun _ => 0), ic q2 k2 24 (fun _ => 0), jc q3 k3 24 (fun _ => 0), ic q4 k4 24 (fun _ => 0), ic q5 k5 24 (fun _ => 0)] H := hP
  have hD : va_D A [oc h_this 3 ([.int 0, .ref q1, .ref q2, .ref q3, .ref q4, .ref q5, .null, .null, .null, .null, .null, .null, .null, .null, .null, .null, .null, .null, .null, .null, .null] : List Value), ic q1 k1 24 (fun _ => 0), ic q2 k2 24 (fun _ => 0), jc q3 k3 24 (fun _ => 0), ic q4 k4 24 (fun _ => 0), ic q5 k5 24 (fun _ => 0)] := hD
  have hK : va_K (dC, dI) cls_all [(k1, .int), (k2, .int), (k3, .long), (k4, .int), (k5, .int)] s := hK
  refine W.widen (k := 5) (n := 120) (Nat.le_of_ble_eq_true rfl) (Nat.le_of_ble_eq_true rfl) ?_
  refine blk_arr (n := 24) (N' := 24) (a0 := (24, .inl (fun _ => 0))) hx hb hT i_Items t_Items t_Items_ok n_Items hown hin hK hP hD hS hA rfl (lv_at hl 0 rfl) 6 (by decide) rfl rfl fl_Items_28 (Nat.le_of_ble_eq_true rfl) ac_int rfl (by decide +kernel) (fun _ => rfl) (by decide +kernel) (by decide +kernel) (by decide +kernel) (Nat.le_of_ble_eq_true rfl) (Nat.le_of_ble_eq_true rfl) d_Items_init_44 (fun h9 => lv_bipush (v := 24) hx hb d_Items_init_45 (by decide) h9) d_Items_init_47 d_Items_init_49 (fun q6 k6 H locs hK hP hD hS => ?_)
  have hP : va_P (dC, dI) cls_all [oc h_this 3 ([.int 0, .ref q1, .ref q2, .ref q3, .ref q4, .ref q5, .ref q6, .null, .null, .null, .null, .null, .null, .null, .null, .null, .null, .null, .null, .null, .null] : List Value), ic q1 k1 24 (fun _ => 0), ic q2 k2 24 (fun _ => 0), jc q3 k3 24 (fun _ => 0), ic q4 k4 24 (fun _ => 0), ic q5 k5 24 (fun _ => 0), ic q6 k6 24 (fun _ => 0)] H := hP
  have hD : va_D A [oc h_this 3 ([.int 0, .ref q1, .ref q2, .ref q3, .ref q4, .ref q5, .ref q6, .null, .null, .null, .null, .null, .null, .null, .null, .null, .null, .null, .null, .null, .null] : List Value), ic q1 k1 24 (fun _ => 0), ic q2 k2 24 (fun _ => 0), jc q3 k3 24 (fun _ => 0), ic q4 k4 24 (fun _ => 0), ic q5 k5 24 (fun _ => 0), ic q6 k6 24 (fun _ => 0)] := hD
  have hK : va_K (dC, dI) cls_all [(k1, .int), (k2, .int), (k3, .long), (k4, .int), (k5, .int), (k6, .int)] s := hK
  refine W.widen (k := 6) (n := 144) (Nat.le_of_ble_eq_true rfl) (Nat.le_of_ble_eq_true rfl) ?_
  refine blk_arr (n := 24) (N' := 24) (a0 := (24, .inl (fun _ => 0))) hx hb hT i_Items t_Items t_Items_ok n_Items hown hin hK hP hD hS hA rfl (lv_at hl 0 rfl) 7 (by decide) rfl rfl fl_Items_31 (Nat.le_of_ble_eq_true rfl) ac_int rfl (by decide +kernel) (fun _ => rfl) (by decide +kernel) (by decide +kernel) (by decide +kernel) (Nat.le_of_ble_eq_true rfl) (Nat.le_of_ble_eq_true rfl) d_Items_init_52 (fun h9 => lv_bipush (v := 24) hx hb d_Items_init_53 (by decide) h9) d_Items_init_55 d_Items_init_57 (fun q7 k7 H locs hK hP hD hS => ?_)
  have hP : va_P (dC, dI) cls_all [oc h_this 3 ([.int 0, .ref q1, .ref q2, .ref q3, .ref q4, .ref q5, .ref q6, .ref q7, .null, .null, .null, .null, .null, .null, .null, .null, .null, .null, .null, .null, .null] : List Value), ic q1 k1 24 (fun _ => 0), ic q2 k2 24 (fun _ => 0), jc q3 k3 24 (fun _ => 0), ic q4 k4 24 (fun _ => 0), ic q5 k5 24 (fun _ => 0), ic q6 k6 24 (fun _ => 0), ic q7 k7 24 (fun _ => 0)] H := hP
  have hD : va_D A [oc h_this 3 ([.int 0, .ref q1, .ref q2, .ref q3, .ref q4, .ref q5, .ref q6, .ref q7, .null, .null, .null, .null, .null, .null, .null, .null, .null, .null, .null, .null, .null] : List Value), ic q1 k1 24 (fun _ => 0), ic q2 k2 24 (fun _ => 0), jc q3 k3 24 (fun _ => 0), ic q4 k4 24 (fun _ => 0), ic q5 k5 24 (fun _ => 0), ic q6 k6 24 (fun _ => 0), ic q7 k7 24 (fun _ => 0)] := hD
  have hK : va_K (dC, dI) cls_all [(k1, .int), (k2, .int), (k3, .long), (k4, .int), (k5, .int), (k6, .int), (k7, .int)] s := hK
  refine W.widen (k := 7) (n := 168) (Nat.le_of_ble_eq_true rfl) (Nat.le_of_ble_eq_true rfl) ?_
  refine blk_arr (n := 24) (N' := 24) (a0 := (24, .inl (fun _ => 0))) hx hb hT i_Items t_Items t_Items_ok n_Items hown hin hK hP hD hS hA rfl (lv_at hl 0 rfl) 8 (by decide) rfl rfl fl_Items_34 (Nat.le_of_ble_eq_true rfl) ac_int rfl (by decide +kernel) (fun _ => rfl) (by decide +kernel) (by decide +kernel) (by decide +kernel) (Nat.le_of_ble_eq_true rfl) (Nat.le_of_ble_eq_true rfl) d_Items_init_60 (fun h9 => lv_bipush (v := 24) hx hb d_Items_init_61 (by decide) h9) d_Items_init_63 d_Items_init_65 (fun q8 k8 H locs hK hP hD hS => ?_)
  have hP : va_P (dC, dI) cls_all [oc h_this 3 ([.int 0, .ref q1, .ref q2, .ref q3, .ref q4, .ref q5, .ref q6, .ref q7, .ref q8, .null, .null, .null, .null, .null, .null, .null, .null, .null, .null, .null, .null] : List Value), ic q1 k1 24 (fun _ => 0), ic q2 k2 24 (fun _ => 0), jc q3 k3 24 (fun _ => 0), ic q4 k4 24 (fun _ => 0), ic q5 k5 24 (fun _ => 0), ic q6 k6 24 (fun _ => 0), ic q7 k7 24 (fun _ => 0), ic q8 k8 24 (fun _ => 0)] H := hP
  have hD : va_D A [oc h_this 3 ([.int 0, .ref q1, .ref q2, .ref q3, .ref q4, .ref q5, .ref q6, .ref q7, .ref q8, .null, .null, .null, .null, .null, .null, .null, .null, .null, .null, .null, .null] : List Value), ic q1 k1 24 (fun _ => 0), ic q2 k2 24 (fun _ => 0), jc q3 k3 24 (fun _ => 0), ic q4 k4 24 (fun _ => 0), ic q5 k5 24 (fun _ => 0), ic q6 k6 24 (fun _ => 0), ic q7 k7 24 (fun _ => 0), ic q8 k8 24 (fun _ => 0)] := hD
  have hK : va_K (dC, dI) cls_all [(k1, .int), (k2, .int), (k3, .long), (k4, .int), (k5, .int), (k6, .int), (k7, .int), (k8, .int)] s := hK
  refine W.widen (k := 8) (n := 192) (Nat.le_of_ble_eq_true rfl) (Nat.le_of_ble_eq_true rfl) ?_
  refine blk_arr (n := 24) (N' := 24) (a0 := (24, .inl (fun _ => 0))) hx hb hT i_Items t_Items t_Items_ok n_Items hown hin hK hP hD hS hA rfl (lv_at hl 0 rfl) 9 (by decide) rfl rfl fl_Items_37 (Nat.le_of_ble_eq_true rfl) ac_int rfl (by decide +kernel) (fun _ => rfl) (by decide +kernel) (by decide +kernel) (by decide +kernel) (Nat.le_of_ble_eq_true rfl) (Nat.le_of_ble_eq_true rfl) d_Items_init_68 (fun h9 => lv_bipush (v := 24) hx hb d_Items_init_69 (by decide) h9) d_Items_init_71 d_Items_init_73 (fun q9 k9 H locs hK hP hD hS => ?_)
  have hP : va_P (dC, dI) cls_all [oc h_this 3 ([.int 0, .ref q1, .ref q2, .ref q3, .ref q4, .ref q5, .ref q6, .ref q7, .ref q8, .ref q9, .null, .null, .null, .null, .null, .null, .null, .null, .null, .null, .null] : List Value), ic q1 k1 24 (fun _ => 0), ic q2 k2 24 (fun _ => 0), jc q3 k3 24 (fun _ => 0), ic q4 k4 24 (fun _ => 0), ic q5 k5 24 (fun _ => 0), ic q6 k6 24 (fun _ => 0), ic q7 k7 24 (fun _ => 0), ic q8 k8 24 (fun _ => 0), ic q9 k9 24 (fun _ => 0)] H := hP
  have hD : va_D A [oc h_this 3 ([.int 0, .ref q1, .ref q2, .ref q3, .ref q4, .ref q5, .ref q6, .ref q7, .ref q8, .ref q9, .null, .null, .null, .null, .null, .null, .null, .null, .null, .null, .null] : List Value), ic q1 k1 24 (fun _ => 0), ic q2 k2 24 (fun _ => 0), jc q3 k3 24 (fun _ => 0), ic q4 k4 24 (fun _ => 0), ic q5 k5 24 (fun _ => 0), ic q6 k6 24 (fun _ => 0), ic q7 k7 24 (fun _ => 0), ic q8 k8 24 (fun _ => 0), ic q9 k9 24 (fun _ => 0)] := hD
  have hK : va_K (dC, dI) cls_all [(k1, .int), (k2, .int), (k3, .long), (k4, .int), (k5, .int), (k6, .int), (k7, .int), (k8, .int), (k9, .int)] s := hK
  refine W.widen (k := 9) (n := 216) (Nat.le_of_ble_eq_true rfl) (Nat.le_of_ble_eq_true rfl) ?_
  refine blk_arr (n := 24) (N' := 24) (a0 := (24, .inl (fun _ => 0))) hx hb hT i_Items t_Items t_Items_ok n_Items hown hin hK hP hD hS hA rfl (lv_at hl 0 rfl) 10 (by decide) rfl rfl fl_Items_40 (Nat.le_of_ble_eq_true rfl) ac_int rfl (by decide +kernel) (fun _ => rfl) (by decide +kernel) (by decide +kernel) (by decide +kernel) (Nat.le_of_ble_eq_true rfl) (Nat.le_of_ble_eq_true rfl) d_Items_init_76 (fun h9 => lv_bipush (v := 24) hx hb d_Items_init_77 (by decide) h9) d_Items_init_79 d_Items_init_81 (fun q10 k10 H locs hK hP hD hS => ?_)
  have hP : va_P (dC, dI) cls_all [oc h_this 3 ([.int 0, .ref q1, .ref q2, .ref q3, .ref q4, .ref q5, .ref q6, .ref q7, .ref q8, .ref q9, .ref q10, .null, .null, .null, .null, .null, .null, .null, .null, .null, .null] : List Value), ic q1 k1 24 (fun _ => 0), ic q2 k2 24 (fun _ => 0), jc q3 k3 24 (fun _ => 0), ic q4 k4 24 (fun _ => 0), ic q5 k5 24 (fun _ => 0), ic q6 k6 24 (fun _ => 0), ic q7 k7 24 (fun _ => 0), ic q8 k8 24 (fun _ => 0), ic q9 k9 24 (fun _ => 0), ic q10 k10 24 (fun _ => 0)] H := hP
  have hD : va_D A [oc h_this 3 ([.int 0, .ref q1, .ref q2, .ref q3, .ref q4, .ref q5, .ref q6, .ref q7, .ref q8, .ref q9, .ref q10, .null, .null, .null, .null, .null, .null, .null, .null, .null, .null] : List Value), ic q1 k1 24 (fun _ => 0), ic q2 k2 24 (fun _ => 0), jc q3 k3 24 (fun _ => 0), ic q4 k4 24 (fun _ => 0), ic q5 k5 24 (fun _ => 0), ic q6 k6 24 (fun _ => 0), ic q7 k7 24 (fun _ => 0), ic q8 k8 24 (fun _ => 0), ic q9 k9 24 (fun _ => 0), ic q10 k10 24 (fun _ => 0)] := hD
  have hK : va_K (dC, dI) cls_all [(k1, .int), (k2, .int), (k3, .long), (k4, .int), (k5, .int), (k6, .int), (k7, .int), (k8, .int), (k9, .int), (k10, .int)] s := hK
  refine W.widen (k := 10) (n := 240) (Nat.le_of_ble_eq_true rfl) (Nat.le_of_ble_eq_true rfl) ?_
  refine blk_arr (n := 24) (N' := 24) (a0 := (24, .inl (fun _ => 0))) hx hb hT i_Items t_Items t_Items_ok n_Items hown hin hK hP hD hS hA rfl (lv_at hl 0 rfl) 11 (by decide) rfl rfl fl_Items_43 (Nat.le_of_ble_eq_true rfl) ac_int rfl (by decide +kernel) (fun _ => rfl) (by decide +kernel) (by decide +kernel) (by decide +kernel) (Nat.le_of_ble_eq_true rfl) (Nat.le_of_ble_eq_true rfl) d_Items_init_84 (fun h9 => lv_bipush (v := 24) hx hb d_Items_init_85 (by decide) h9) d_Items_init_87 d_Items_init_89 (fun q11 k11 H locs hK hP hD hS => ?_)
  have hP : va_P (dC, dI) cls_all [oc h_this 3 ([.int 0, .ref q1, .ref q2, .ref q3, .ref q4, .ref q5, .ref q6, .ref q7, .ref q8, .ref q9, .ref q10, .ref q11, .null, .null, .null, .null, .null, .null, .null, .null, .null] : List Value), ic q1 k1 24 (fun _ => 0), ic q2 k2 24 (fun _ => 0), jc q3 k3 24 (fun _ => 0), ic q4 k4 24 (fun _ => 0), ic q5 k5 24 (fun _ => 0), ic q6 k6 24 (fun _ => 0), ic q7 k7 24 (fun _ => 0), ic q8 k8 24 (fun _ => 0), ic q9 k9 24 (fun _ => 0), ic q10 k10 24 (fun _ => 0), ic q11 k11 24 (fun _ => 0)] H := hP
  have hD : va_D A [oc h_this 3 ([.int 0, .ref q1, .ref q2, .ref q3, .ref q4, .ref q5, .ref q6, .ref q7, .ref q8, .ref q9, .ref q10, .ref q11, .null, .null, .null, .null, .null, .null, .null, .null, .null] : List Value), ic q1 k1 24 (fun _ => 0), ic q2 k2 24 (fun _ => 0), jc q3 k3 24 (fun _ => 0), ic q4 k4 24 (fun _ => 0), ic q5 k5 24 (fun _ => 0), ic q6 k6 24 (fun _ => 0), ic q7 k7 24 (fun _ => 0), ic q8 k8 24 (fun _ => 0), ic q9 k9 24 (fun _ => 0), ic q10 k10 24 (fun _ => 0), ic q11 k11 24 (fun _ => 0)] := hD
  have hK : va_K (dC, dI) cls_all [(k1, .int), (k2, .int), (k3, .long), (k4, .int), (k5, .int), (k6, .int), (k7, .int), (k8, .int), (k9, .int), (k10, .int), (k11, .int)] s := hK
  refine W.widen (k := 11) (n := 264) (Nat.le_of_ble_eq_true rfl) (Nat.le_of_ble_eq_true rfl) ?_
  refine blk_arr (n := 24) (N' := 24) (a0 := (24, .inl (fun _ => 0))) hx hb hT i_Items t_Items t_Items_ok n_Items hown hin hK hP hD hS hA rfl (lv_at hl 0 rfl) 12 (by decide) rfl rfl fl_Items_46 (Nat.le_of_ble_eq_true rfl) ac_int rfl (by decide +kernel) (fun _ => rfl) (by decide +kernel) (by decide +kernel) (by decide +kernel) (Nat.le_of_ble_eq_true rfl) (Nat.le_of_ble_eq_true rfl) d_Items_init_92 (fun h9 => lv_bipush (v := 24) hx hb d_Items_init_93 (by decide) h9) d_Items_init_95 d_Items_init_97 (fun q12 k12 H locs hK hP hD hS => ?_)
  have hP : va_P (dC, dI) cls_all [oc h_this 3 ([.int 0, .ref q1, .ref q2, .ref q3, .ref q4, .ref q5, .ref q6, .ref q7, .ref q8, .ref q9, .ref q10, .ref q11, .ref q12, .null, .null, .null, .null, .null, .null, .null, .null] : List Value), ic q1 k1 24 (fun _ => 0), ic q2 k2 24 (fun _ => 0), jc q3 k3 24 (fun _ => 0), ic q4 k4 24 (fun _ => 0), ic q5 k5 24 (fun _ => 0), ic q6 k6 24 (fun _ => 0), ic q7 k7 24 (fun _ => 0), ic q8 k8 24 (fun _ => 0), ic q9 k9 24 (fun _ => 0), ic q10 k10 24 (fun _ => 0), ic q11 k11 24 (fun _ => 0), ic q12 k12 24 (fun _ => 0)] H := hP
  have hD : va_D A [oc h_this 3 ([.int 0, .ref q1, .ref q2, .ref q3, .ref q4, .ref q5, .ref q6, .ref q7, .ref q8, .ref q9, .ref q10, .ref q11, .ref q12, .null, .null, .null, .null, .null, .null, .null, .null] : List Value), ic q1 k1 24 (fun _ => 0), ic q2 k2 24 (fun _ => 0), jc q3 k3 24 (fun _ => 0), ic q4 k4 24 (fun _ => 0), ic q5 k5 24 (fun _ => 0), ic q6 k6 24 (fun _ => 0), ic q7 k7 24 (fun _ => 0), ic q8 k8 24 (fun _ => 0), ic q9 k9 24 (fun _ => 0), ic q10 k10 24 (fun _ => 0), ic q11 k11 24 (fun _ => 0), ic q12 k12 24 (fun _ => 0)] := hD
  have hK : va_K (dC, dI) cls_all [(k1, .int), (k2, .int), (k3, .long), (k4, .int), (k5, .int), (k6, .int), (k7, .int), (k8, .int), (k9, .int), (k10, .int), (k11, .int), (k12, .int)] s := hK
  refine W.widen (k := 12) (n := 288) (Nat.le_of_ble_eq_true rfl) (Nat.le_of_ble_eq_true rfl) ?_
  refine blk_arr (n := 24) (N' := 24) (a0 := (24, .inl (fun _ => 0))) hx hb hT i_Items t_Items t_Items_ok n_Items hown hin hK hP hD hS hA rfl (lv_at hl 0 rfl) 13 (by decide) rfl rfl fl_Items_49 (Nat.le_of_ble_eq_true rfl) ac_int rfl (by decide +kernel) (fun _ => rfl) (by decide +kernel) (by decide +kernel) (by decide +kernel) (Nat.le_of_ble_eq_true rfl) (Nat.le_of_ble_eq_true rfl) d_Items_init_100 (fun h9 => lv_bipush (v := 24) hx hb d_Items_init_101 (by decide) h9) d_Items_init_103 d_Items_init_105 (fun q13 k13 H locs hK hP hD hS => ?_)
  have hP : va_P (dC, dI) cls_all [oc h_this 3 ([.int 0, .ref q1, .ref q2, .ref q3, .ref q4, .ref q5, .ref q6, .ref q7, .ref q8, .ref q9, .ref q10, .ref q11, .ref q12, .ref q13, .null, .null, .null, .null, .null, .null, .null] : List Value), ic q1 k1 24 (fun _ => 0), ic q2 k2 24 (fun _ => 0), jc q3 k3 24 (fun _ => 0), ic q4 k4 24 (fun _ => 0), ic q5 k5 24 (fun _ => 0), ic q6 k6 24 (fun _ => 0), ic q7 k7 24 (fun _ => 0), ic q8 k8 24 (fun _ => 0), ic q9 k9 24 (fun _ => 0), ic q10 k10 24 (fun _ => 0), ic q11 k11 24 (fun _ => 0), ic q12 k12 24 (fun _ => 0), ic q13 k13 24 (fun _ => 0)] H := hP
  have hD : va_D A [oc h_this 3 ([.int 0, .ref q1, .ref q2, .ref q3, .ref q4, .ref q5, .ref q6, .ref q7, .ref q8, .ref q9, .ref q10, .ref q11, .ref q12, .ref q13, .null, .null, .null, .null, .null, .null, .null] : List Value), ic q1 k1 24 (fun _ => 0), ic q2 k2 24 (fun _ => 0), jc q3 k3 24 (fun _ => 0), ic q4 k4 24 (fun _ => 0), ic q5 k5 24 (fun _ => 0), ic q6 k6 24 (fun _ => 0), ic q7 k7 24 (fun _ => 0), ic q8 k8 24 (fun _ => 0), ic q9 k9 24 (fun _ => 0), ic q10 k10 24 (fun _ => 0), ic q11 k11 24 (fun _ => 0), ic q12 k12 24 (fun _ => 0), ic q13 k13 24 (fun _ => 0)] := hD
  have hK : va_K (dC, dI) cls_all [(k1, .int), (k2, .int), (k3, .long), (k4, .int), (k5, .int), (k6, .int), (k7, .int), (k8, .int), (k9, .int), (k10, .int), (k11, .int), (k12, .int), (k13, .int)] s := hK
  refine W.widen (k := 13) (n := 312) (Nat.le_of_ble_eq_true rfl) (Nat.le_of_ble_eq_true rfl) ?_
  refine blk_arr (n := 24) (N' := 24) (a0 := (24, .inl (fun _ => 0))) hx hb hT i_Items t_Items t_Items_ok n_Items hown hin hK hP hD hS hA rfl (lv_at hl 0 rfl) 14 (by decide) rfl rfl fl_Items_52 (Nat.le_of_ble_eq_true rfl) ac_int rfl (by decide +kernel) (fun _ => rfl) (by decide +kernel) (by decide +kernel) (by decide +kernel) (Nat.le_of_ble_eq_true rfl) (Nat.le_of_ble_eq_true rfl) d_Items_init_108 (fun h9 => lv_bipush (v := 24) hx hb d_Items_init_109 (by decide) h9) d_Items_init_111 d_Items_init_113 (fun q14 k14 H locs hK hP hD hS => ?_)
  have hP : va_P (dC, dI) cls_all [oc h_this 3 ([.int 0, .ref q1, .ref q2, .ref q3, .ref q4, .ref q5, .ref q6, .ref q7, .ref q8, .ref q9, .ref q10, .ref q11, .ref q12, .ref q13, .ref q14, .null, .null, .null, .null, .null, .null] : List Value), ic q1 k1 24 (fun _ => 0), ic q2 k2 24 (fun _ => 0), jc q3 k3 24 (fun _ => 0), ic q4 k4 24 (fun _ => 0), ic q5 k5 24 (fun _ => 0), ic q6 k6 24 (fun _ => 0), ic q7 k7 24 (fun _ => 0), ic q8 k8 24 (fun _ => 0), ic q9 k9 24 (fun _ => 0), ic q10 k10 24 (fun _ => 0), ic q11 k11 24 (fun _ => 0), ic q12 k12 24 (fun _ => 0), ic q13 k13 24 (fun _ => 0), ic q14 k14 24 (fun _ => 0)] H := hP
  have hD : va_D A [oc h_this 3 ([.int 0, .ref q1, .ref q2, .ref q3, .ref q4, .ref q5, .ref q6, .ref q7, .ref q8, .ref q9, .ref q10, .ref q11, .ref q12, .ref q13, .ref q14, .null, .null, .null, .null, .null, .null] : List Value), ic q1 k1 24 (fun _ => 0), ic q2 k2 24 (fun _ => 0), jc q3 k3 24 (fun _ => 0), ic q4 k4 24 (fun _ => 0), ic q5 k5 24 (fun _ => 0), ic q6 k6 24 (fun _ => 0), ic q7 k7 24 (fun _ => 0), ic q8 k8 24 (fun _ => 0), ic q9 k9 24 (fun _ => 0), ic q10 k10 24 (fun _ => 0), ic q11 k11 24 (fun _ => 0), ic q12 k12 24 (fun _ => 0), ic q13 k13 24 (fun _ => 0), ic q14 k14 24 (fun _ => 0)] := hD
  have hK : va_K (dC, dI) cls_all [(k1, .int), (k2, .int), (k3, .long), (k4, .int), (k5, .int), (k6, .int), (k7, .int), (k8, .int), (k9, .int), (k10, .int), (k11, .int), (k12, .int), (k13, .int), (k14, .int)] s := hK
  refine W.widen (k := 14) (n := 336) (Nat.le_of_ble_eq_true rfl) (Nat.le_of_ble_eq_true rfl) ?_
  refine blk_arr (n := 24) (N' := 24) (a0 := (24, .inl (fun _ => 0))) hx hb hT i_Items t_Items t_Items_ok n_Items hown hin hK hP hD hS hA rfl (lv_at hl 0 rfl) 15 (by decide) rfl rfl fl_Items_55 (Nat.le_of_ble_eq_true rfl) ac_int rfl (by decide +kernel) (fun _ => rfl) (by decide +kernel) (by decide +kernel) (by decide +kernel) (Nat.le_of_ble_eq_true rfl) (Nat.le_of_ble_eq_true rfl) d_Items_init_116 (fun h9 => lv_bipush (v := 24) hx hb d_Items_init_117 (by decide) h9) d_Items_init_119 d_Items_init_121 (fun q15 k15 H locs hK hP hD hS => ?_)
  have hP : va_P (dC, dI) cls_all [oc h_this 3 ([.int 0, .ref q1, .ref q2, .ref q3, .ref q4, .ref q5, .ref q6, .ref q7, .ref q8, .ref q9, .ref q10, .ref q11, .ref q12, .ref q13, .ref q14, .ref q15, .null, .null, .null, .null, .null] : List Value), ic q1 k1 24 (fun _ => 0), ic q2 k2 24 (fun _ => 0), jc q3 k3 24 (fun _ => 0), ic q4 k4 24 (fun _ => 0), ic q5 k5 24 (fun _ => 0), ic q6 k6 24 (fun _ => 0), ic q7 k7 24 (fun _ => 0), ic q8 k8 24 (fun _ => 0), ic q9 k9 24 (fun _ => 0), ic q10 k10 24 (fun _ => 0), ic q11 k11 24 (fun _ => 0), ic q12 k12 24 (fun _ => 0), ic q13 k13 24 (fun _ => 0), ic q14 k14 24 (fun _ => 0), ic q15 k15 24 (fun _ => 0)] H := hP
  have hD : va_D A [oc h_this 3 ([.int 0, .ref q1, .ref q2, .ref q3, .ref q4, .ref q5, .ref q6, .ref q7, .ref q8, .ref q9, .ref q10, .ref q11, .ref q12, .ref q13, .ref q14, .ref q15, .null, .null, .null, .null, .null] : List Value), ic q1 k1 24 (fun _ => 0), ic q2 k2 24 (fun _ => 0), jc q3 k3 24 (fun _ => 0), ic q4 k4 24 (fun _ => 0), ic q5 k5 24 (fun _ => 0), ic q6 k6 24 (fun _ => 0), ic q7 k7 24 (fun _ => 0), ic q8 k8 24 (fun _ => 0), ic q9 k9 24 (fun _ => 0), ic q10 k10 24 (fun _ => 0), ic q11 k11 24 (fun _ => 0), ic q12 k12 24 (fun _ => 0), ic q13 k13 24 (fun _ => 0), ic q14 k14 24 (fun _ => 0), ic q15 k15 24 (fun _ => 0)] := hD
  have hK : va_K (dC, dI) cls_all [(k1, .int), (k2, .int), (k3, .long), (k4, .int), (k5, .int), (k6, .int), (k7, .int), (k8, .int), (k9, .int), (k10, .int), (k11, .int), (k12, .int), (k13, .int), (k14, .int), (k15, .int)] s := hK
  refine W.widen (k := 15) (n := 360) (Nat.le_of_ble_eq_true rfl) (Nat.le_of_ble_eq_true rfl) ?_
  refine blk_arr (n := 192) (N' := 192) (a0 := (192, .inl (fun _ => 0))) hx hb hT i_Items t_Items t_Items_ok n_Items hown hin hK hP hD hS hA rfl (lv_at hl 0 rfl) 16 (by decide) rfl rfl fl_Items_58 (Nat.le_of_ble_eq_true rfl) ac_int rfl (by decide +kernel) (fun _ => rfl) (by decide +kernel) (by decide +kernel) (by decide +kernel) (Nat.le_of_ble_eq_true rfl) (Nat.le_of_ble_eq_true rfl) d_Items_init_124 (fun h9 => lv_sipush (v := 192) hx hb d_Items_init_125 (by decide) h9) d_Items_init_128 d_Items_init_130 (fun q16 k16 H locs hK hP hD hS => ?_)
  have hP : va_P (dC, dI) cls_all [oc h_this 3 ([.int 0, .ref q1, .ref q2, .ref q3, .ref q4, .ref q5, .ref q6, .ref q7, .ref q8, .ref q9, .ref q10, .ref q11, .ref q12, .ref q13, .ref q14, .ref q15, .ref q16, .null, .null, .null, .null] : List Value), ic q1 k1 24 (fun _ => 0), ic q2 k2 24 (fun _ => 0), jc q3 k3 24 (fun _ => 0), ic q4 k4 24 (fun _ => 0), ic q5 k5 24 (fun _ => 0), ic q6 k6 24 (fun _ => 0), ic q7 k7 24 (fun _ => 0), ic q8 k8 24 (fun _ => 0), ic q9 k9 24 (fun _ => 0), ic q10 k10 24 (fun _ => 0), ic q11 k11 24 (fun _ => 0), ic q12 k12 24 (fun _ => 0), ic q13 k13 24 (fun _ => 0), ic q14 k14 24 (fun _ => 0), ic q15 k15 24 (fun _ => 0), ic q16 k16 192 (fun _ => 0)] H := hP
  have hD : va_D A [oc h_this 3 ([.int 0, .ref q1, .ref q2, .ref q3, .ref q4, .ref q5, .ref q6, .ref q7, .ref q8, .ref q9, .ref q10, .ref q11, .ref q12, .ref q13, .ref q14, .ref q15, .ref q16, .null, .null, .null, .null] : List Value), ic q1 k1 24 (fun _ => 0), ic q2 k2 24 (fun _ => 0), jc q3 k3 24 (fun _ => 0), ic q4 k4 24 (fun _ => 0), ic q5 k5 24 (fun _ => 0), ic q6 k6 24 (fun _ => 0), ic q7 k7 24 (fun _ => 0), ic q8 k8 24 (fun _ => 0), ic q9 k9 24 (fun _ => 0), ic q10 k10 24 (fun _ => 0), ic q11 k11 24 (fun _ => 0), ic q12 k12 24 (fun _ => 0), ic q13 k13 24 (fun _ => 0), ic q14 k14 24 (fun _ => 0), ic q15 k15 24 (fun _ => 0), ic q16 k16 192 (fun _ => 0)] := hD
  have hK : va_K (dC, dI) cls_all [(k1, .int), (k2, .int), (k3, .long), (k4, .int), (k5, .int), (k6, .int), (k7, .int), (k8, .int), (k9, .int), (k10, .int), (k11, .int), (k12, .int), (k13, .int), (k14, .int), (k15, .int), (k16, .int)] s := hK
  refine W.widen (k := 16) (n := 552) (Nat.le_of_ble_eq_true rfl) (Nat.le_of_ble_eq_true rfl) ?_
  refine blk_arr (n := 192) (N' := 192) (a0 := (192, .inl (fun _ => 0))) hx hb hT i_Items t_Items t_Items_ok n_Items hown hin hK hP hD hS hA rfl (lv_at hl 0 rfl) 17 (by decide) rfl rfl fl_Items_61 (Nat.le_of_ble_eq_true rfl) ac_int rfl (by decide +kernel) (fun _ => rfl) (by decide +kernel) (by decide +kernel) (by decide +kernel) (Nat.le_of_ble_eq_true rfl) (Nat.le_of_ble_eq_true rfl) d_Items_init_133 (fun h9 => lv_sipush (v := 192) hx hb d_Items_init_134 (by decide) h9) d_Items_init_137 d_Items_init_139 (fun q17 k17 H locs hK hP hD hS => ?_)
  have hP : va_P (dC, dI) cls_all [oc h_this 3 ([.int 0, .ref q1, .ref q2, .ref q3, .ref q4, .ref q5, .ref q6, .ref q7, .ref q8, .ref q9, .ref q10, .ref q11, .ref q12, .ref q13, .ref q14, .ref q15, .ref q16, .ref q17, .null, .null, .null] : List Value), ic q1 k1 24 (fun _ => 0), ic q2 k2 24 (fun _ => 0), jc q3 k3 24 (fun _ => 0), ic q4 k4 24 (fun _ => 0), ic q5 k5 24 (fun _ => 0), ic q6 k6 24 (fun _ => 0), ic q7 k7 24 (fun _ => 0), ic q8 k8 24 (fun _ => 0), ic q9 k9 24 (fun _ => 0), ic q10 k10 24 (fun _ => 0), ic q11 k11 24 (fun _ => 0), ic q12 k12 24 (fun _ => 0), ic q13 k13 24 (fun _ => 0), ic q14 k14 24 (fun _ => 0), ic q15 k15 24 (fun _ => 0), ic q16 k16 192 (fun _ => 0), ic q17 k17 192 (fun _ => 0)] H := hP
  have hD : va_D A [oc h_this 3 ([.int 0, .ref q1, .ref q2, .ref q3, .ref q4, .ref q5, .ref q6, .ref q7, .ref q8, .ref q9, .ref q10, .ref q11, .ref q12, .ref q13, .ref q14, .ref q15, .ref q16, .ref q17, .null, .null, .null] : List Value), ic q1 k1 24 (fun _ => 0), ic q2 k2 24 (fun _ => 0), jc q3 k3 24 (fun _ => 0), ic q4 k4 24 (fun _ => 0), ic q5 k5 24 (fun _ => 0), ic q6 k6 24 (fun _ => 0), ic q7 k7 24 (fun _ => 0), ic q8 k8 24 (fun _ => 0), ic q9 k9 24 (fun _ => 0), ic q10 k10 24 (fun _ => 0), ic q11 k11 24 (fun _ => 0), ic q12 k12 24 (fun _ => 0), ic q13 k13 24 (fun _ => 0), ic q14 k14 24 (fun _ => 0), ic q15 k15 24 (fun _ => 0), ic q16 k16 192 (fun _ => 0), ic q17 k17 192 (fun _ => 0)] := hD
  have hK : va_K (dC, dI) cls_all [(k1, .int), (k2, .int), (k3, .long), (k4, .int), (k5, .int), (k6, .int), (k7, .int), (k8, .int), (k9, .int), (k10, .int), (k11, .int), (k12, .int), (k13, .int), (k14, .int), (k15, .int), (k16, .int), (k17, .int)] s := hK
  refine W.widen (k := 17) (n := 744) (Nat.le_of_ble_eq_true rfl) (Nat.le_of_ble_eq_true rfl) ?_
  refine blk_arr (n := 192) (N' := 192) (a0 := (192, .inl (fun _ => 0))) hx hb hT i_Items t_Items t_Items_ok n_Items hown hin hK hP hD hS hA rfl (lv_at hl 0 rfl) 18 (by decide) rfl rfl fl_Items_64 (Nat.le_of_ble_eq_true rfl) ac_int rfl (by decide +kernel) (fun _ => rfl) (by decide +kernel) (by decide +kernel) (by decide +kernel) (Nat.le_of_ble_eq_true rfl) (Nat.le_of_ble_eq_true rfl) d_Items_init_142 (fun h9 => lv_sipush (v := 192) hx hb d_Items_init_143 (by decide) h9) d_Items_init_146 d_Items_init_148 (fun q18 k18 H locs hK hP hD hS => ?_)
  have hP : va_P (dC, dI) cls_all [oc h_this 3 ([.int 0, .ref q1, .ref q2, .ref q3, .ref q4, .ref q5, .ref q6, .ref q7, .ref q8, .ref q9, .ref q10, .ref q11, .ref q12, .ref q13, .ref q14, .ref q15, .ref q16, .ref q17, .ref q18, .null, .null] : List Value), ic q1 k1 24 (fun _ => 0), ic q2 k2 24 (fun _ => 0), jc q3 k3 24 (fun _ => 0), ic q4 k4 24 (fun _ => 0), ic q5 k5 24 (fun _ => 0), ic q6 k6 24 (fun _ => 0), ic q7 k7 24 (fun _ => 0), ic q8 k8 24 (fun _ => 0), ic q9 k9 24 (fun _ => 0), ic q10 k10 24 (fun _ => 0), ic q11 k11 24 (fun _ => 0), ic q12 k12 24 (fun _ => 0), ic q13 k13 24 (fun _ => 0), ic q14 k14 24 (fun _ => 0), ic q15 k15 24 (fun _ => 0), ic q16 k16 192 (fun _ => 0), ic q17 k17 192 (fun _ => 0), ic q18 k18 192 (fun _ => 0)] H := hP
  have hD : va_D A [oc h_this 3 ([.int 0, .ref q1, .ref q2, .ref q3, .ref q4, .ref q5, .ref q6, .ref q7, .ref q8, .ref q9, .ref q10, .ref q11, .ref q12, .ref q13, .ref q14, .ref q15, .ref q16, .ref q17, .ref q18, .null, .null] : List Value), ic q1 k1 24 (fun _ => 0), ic q2 k2 24 (fun _ => 0), jc q3 k3 24 (fun _ => 0), ic q4 k4 24 (fun _ => 0), ic q5 k5 24 (fun _ => 0), ic q6 k6 24 (fun _ => 0), ic q7 k7 24 (fun _ => 0), ic q8 k8 24 (fun _ => 0), ic q9 k9 24 (fun _ => 0), ic q10 k10 24 (fun _ => 0), ic q11 k11 24 (fun _ => 0), ic q12 k12 24 (fun _ => 0), ic q13 k13 24 (fun _ => 0), ic q14 k14 24 (fun _ => 0), ic q15 k15 24 (fun _ => 0), ic q16 k16 192 (fun _ => 0), ic q17 k17 192 (fun _ => 0), ic q18 k18 192 (fun _ => 0)] := hD
  have hK : va_K (dC, dI) cls_all [(k1, .int), (k2, .int), (k3, .long), (k4, .int), (k5, .int), (k6, .int), (k7, .int), (k8, .int), (k9, .int), (k10, .int), (k11, .int), (k12, .int), (k13, .int), (k14, .int), (k15, .int), (k16, .int), (k17, .int), (k18, .int)] s := hK
  refine W.widen (k := 18) (n := 936) (Nat.le_of_ble_eq_true rfl) (Nat.le_of_ble_eq_true rfl) ?_
  refine blk_arr (n := 24) (N' := 24) (a0 := (24, .inl (fun _ => 0))) hx hb hT i_Items t_Items t_Items_ok n_Items hown hin hK hP hD hS hA rfl (lv_at hl 0 rfl) 19 (by decide) rfl rfl fl_Items_67 (Nat.le_of_ble_eq_true rfl) ac_int rfl (by decide +kernel) (fun _ => rfl) (by decide +kernel) (by decide +kernel) (by decide +kernel) (Nat.le_of_ble_eq_true rfl) (Nat.le_of_ble_eq_true rfl) d_Items_init_151 (fun h9 => lv_bipush (v := 24) hx hb d_Items_init_152 (by decide) h9) d_Items_init_154 d_Items_init_156 (fun q19 k19 H locs hK hP hD hS => ?_)
  have hP : va_P (dC, dI) cls_all [oc h_this 3 ([.int 0, .ref q1, .ref q2, .ref q3, .ref q4, .ref q5, .ref q6, .ref q7, .ref q8, .ref q9, .ref q10, .ref q11, .ref q12, .ref q13, .ref q14, .ref q15, .ref q16, .ref q17, .ref q18, .ref q19, .null] : List Value), ic q1 k1 24 (fun _ => 0), ic q2 k2 24 (fun _ => 0), jc q3 k3 24 (fun _ => 0), ic q4 k4 24 (fun _ => 0), ic q5 k5 24 (fun _ => 0), ic q6 k6 24 (fun _ => 0), ic q7 k7 24 (fun _ => 0), ic q8 k8 24 (fun _ => 0), ic q9 k9 24 (fun _ => 0), ic q10 k10 24 (fun _ => 0), ic q11 k11 24 (fun _ => 0), ic q12 k12 24 (fun _ => 0), ic q13 k13 24 (fun _ => 0), ic q14 k14 24 (fun _ => 0), ic q15 k15 24 (fun _ => 0), ic q16 k16 192 (fun _ => 0), ic q17 k17 192 (fun _ => 0), ic q18 k18 192 (fun _ => 0), ic q19 k19 24 (fun _ => 0)] H := hP
  have hD : va_D A [oc h_this 3 ([.int 0, .ref q1, .ref q2, .ref q3, .ref q4, .ref q5, .ref q6, .ref q7, .ref q8, .ref q9, .ref q10, .ref q11, .ref q12, .ref q13, .ref q14, .ref q15, .ref q16, .ref q17, .ref q18, .ref q19, .null] : List Value), ic q1 k1 24 (fun _ => 0), ic q2 k2 24 (fun _ => 0), jc q3 k3 24 (fun _ => 0), ic q4 k4 24 (fun _ => 0), ic q5 k5 24 (fun _ => 0), ic q6 k6 24 (fun _ => 0), ic q7 k7 24 (fun _ => 0), ic q8 k8 24 (fun _ => 0), ic q9 k9 24 (fun _ => 0), ic q10 k10 24 (fun _ => 0), ic q11 k11 24 (fun _ => 0), ic q12 k12 24 (fun _ => 0), ic q13 k13 24 (fun _ => 0), ic q14 k14 24 (fun _ => 0), ic q15 k15 24 (fun _ => 0), ic q16 k16 192 (fun _ => 0), ic q17 k17 192 (fun _ => 0), ic q18 k18 192 (fun _ => 0), ic q19 k19 24 (fun _ => 0)] := hD
  have hK : va_K (dC, dI) cls_all [(k1, .int), (k2, .int), (k3, .long), (k4, .int), (k5, .int), (k6, .int), (k7, .int), (k8, .int), (k9, .int), (k10, .int), (k11, .int), (k12, .int), (k13, .int), (k14, .int), (k15, .int), (k16, .int), (k17, .int), (k18, .int), (k19, .int)] s := hK
  refine W.widen (k := 19) (n := 960) (Nat.le_of_ble_eq_true rfl) (Nat.le_of_ble_eq_true rfl) ?_
  refine blk_arr (n := 72) (N' := 72) (a0 := (72, .inl (fun _ => 0))) hx hb hT i_Items t_Items t_Items_ok n_Items hown hin hK hP hD hS hA rfl (lv_at hl 0 rfl) 20 (by decide) rfl rfl fl_Items_70 (Nat.le_of_ble_eq_true rfl) ac_int rfl (by decide +kernel) (fun _ => rfl) (by decide +kernel) (by decide +kernel) (by decide +kernel) (Nat.le_of_ble_eq_true rfl) (Nat.le_of_ble_eq_true rfl) d_Items_init_159 (fun h9 => lv_bipush (v := 72) hx hb d_Items_init_160 (by decide) h9) d_Items_init_162 d_Items_init_164 (fun q20 k20 H locs hK hP hD hS => ?_)
  have hP : va_P (dC, dI) cls_all [oc h_this 3 ([.int 0, .ref q1, .ref q2, .ref q3, .ref q4, .ref q5, .ref q6, .ref q7, .ref q8, .ref q9, .ref q10, .ref q11, .ref q12, .ref q13, .ref q14, .ref q15, .ref q16, .ref q17, .ref q18, .ref q19, .ref q20] : List Value), ic q1 k1 24 (fun _ => 0), ic q2 k2 24 (fun _ => 0), jc q3 k3 24 (fun _ => 0), ic q4 k4 24 (fun _ => 0), ic q5 k5 24 (fun _ => 0), ic q6 k6 24 (fun _ => 0), ic q7 k7 24 (fun _ => 0), ic q8 k8 24 (fun _ => 0), ic q9 k9 24 (fun _ => 0), ic q10 k10 24 (fun _ => 0), ic q11 k11 24 (fun _ => 0), ic q12 k12 24 (fun _ => 0), ic q13 k13 24 (fun _ => 0), ic q14 k14 24 (fun _ => 0), ic q15 k15 24 (fun _ => 0), ic q16 k16 192 (fun _ => 0), ic q17 k17 192 (fun _ => 0), ic q18 k18 192 (fun _ => 0), ic q19 k19 24 (fun _ => 0), ic q20 k20 72 (fun _ => 0)] H := hP
  have hD : va_D A [oc h_this 3 ([.int 0, .ref q1, .ref q2, .ref q3, .ref q4, .ref q5, .ref q6, .ref q7, .ref q8, .ref q9, .ref q10, .ref q11, .ref q12, .ref q13, .ref q14, .ref q15, .ref q16, .ref q17, .ref q18, .ref q19, .ref q20] : List Value), ic q1 k1 24 (fun _ => 0), ic q2 k2 24 (fun _ => 0), jc q3 k3 24 (fun _ => 0), ic q4 k4 24 (fun _ => 0), ic q5 k5 24 (fun _ => 0), ic q6 k6 24 (fun _ => 0), ic q7 k7 24 (fun _ => 0), ic q8 k8 24 (fun _ => 0), ic q9 k9 24 (fun _ => 0), ic q10 k10 24 (fun _ => 0), ic q11 k11 24 (fun _ => 0), ic q12 k12 24 (fun _ => 0), ic q13 k13 24 (fun _ => 0), ic q14 k14 24 (fun _ => 0), ic q15 k15 24 (fun _ => 0), ic q16 k16 192 (fun _ => 0), ic q17 k17 192 (fun _ => 0), ic q18 k18 192 (fun _ => 0), ic q19 k19 24 (fun _ => 0), ic q20 k20 72 (fun _ => 0)] := hD
  have hK : va_K (dC, dI) cls_all [(k1, .int), (k2, .int), (k3, .long), (k4, .int), (k5, .int), (k6, .int), (k7, .int), (k8, .int), (k9, .int), (k10, .int), (k11, .int), (k12, .int), (k13, .int), (k14, .int), (k15, .int), (k16, .int), (k17, .int), (k18, .int), (k19, .int), (k20, .int)] s := hK
  refine W.widen (k := 20) (n := 1032) (Nat.le_of_ble_eq_true rfl) (Nat.le_of_ble_eq_true rfl) ?_
  have hP9 := hP.sub (ws' := [oc h_this 3 ([.int 0, .ref q1, .ref q2, .ref q3, .ref q4, .ref q5, .ref q6, .ref q7, .ref q8, .ref q9, .ref q10, .ref q11, .ref q12, .ref q13, .ref q14, .ref q15, .ref q16, .ref q17, .ref q18, .ref q19, .ref q20] : List Value), ic q1 k1 24 (fun _ => 0), ic q2 k2 24 (fun _ => 0), jc q3 k3 24 (fun _ => 0), ic q4 k4 24 (fun _ => 0), ic q5 k5 24 (fun _ => 0), ic q6 k6 24 (fun _ => 0), ic q7 k7 24 (fun _ => 0), ic q8 k8 24 (fun _ => 0), ic q9 k9 24 (fun _ => 0), ic q10 k10 24 (fun _ => 0), ic q11 k11 24 (fun _ => 0), ic q12 k12 24 (fun _ => 0), ic q13 k13 24 (fun _ => 0), ic q14 k14 24 (fun _ => 0), ic q15 k15 24 (fun _ => 0), ic q16 k16 192 (fun _ => 0), ic q17 k17 192 (fun _ => 0), ic q18 k18 192 (fun _ => 0), ic q19 k19 24 (fun _ => 0), ic q20 k20 72 (fun _ => 0)]) [0, 1, 2, 3, 4, 5, 6, 7, 8, 9, 10, 11, 12, 13, 14, 15, 16, 17, 18, 19, 20] rfl
  have hD9 := hD.sub (ws' := [oc h_this 3 ([.int 0, .ref q1, .ref q2, .ref q3, .ref q4, .ref q5, .ref q6, .ref q7, .ref q8, .ref q9, .ref q10, .ref q11, .ref q12, .ref q13, .ref q14, .ref q15, .ref q16, .ref q17, .ref q18, .ref q19, .ref q20] : List Value), ic q1 k1 24 (fun _ => 0), ic q2 k2 24 (fun _ => 0), jc q3 k3 24 (fun _ => 0), ic q4 k4 24 (fun _ => 0), ic q5 k5 24 (fun _ => 0), ic q6 k6 24 (fun _ => 0), ic q7 k7 24 (fun _ => 0), ic q8 k8 24 (fun _ => 0), ic q9 k9 24 (fun _ => 0), ic q10 k10 24 (fun _ => 0), ic q11 k11 24 (fun _ => 0), ic q12 k12 24 (fun _ => 0), ic q13 k13 24 (fun _ => 0), ic q14 k14 24 (fun _ => 0), ic q15 k15 24 (fun _ => 0), ic q16 k16 192 (fun _ => 0), ic q17 k17 192 (fun _ => 0), ic q18 k18 192 (fun _ => 0), ic q19 k19 24 (fun _ => 0), ic q20 k20 72 (fun _ => 0)]) [0, 1, 2, 3, 4, 5, 6, 7, 8, 9, 10, 11, 12, 13, 14, 15, 16, 17, 18, 19, 20] (by decide) rfl
  have hK9 := hK.sub (tys' := [(k1, .int), (k2, .int), (k3, .long), (k4, .int), (k5, .int), (k6, .int), (k7, .int), (k8, .int), (k9, .int), (k10, .int), (k11, .int), (k12, .int), (k13, .int), (k14, .int), (k15, .int), (k16, .int), (k17, .int), (k18, .int), (k19, .int), (k20, .int)]) [0, 1, 2, 3, 4, 5, 6, 7, 8, 9, 10, 11, 12, 13, 14, 15, 16, 17, 18, 19] rfl
  have hv21 : ([.int 0, .ref q1, .ref q2, .ref q3, .ref q4, .ref q5, .ref q6, .ref q7, .ref q8, .ref q9, .ref q10, .ref q11, .ref q12, .ref q13, .ref q14, .ref q15, .ref q16, .ref q17, .ref q18, .ref q19, .ref q20] : List Value)[0]? = some (.int 0) := rfl
  have hv22 : ([.int 0, .ref q1, .ref q2, .ref q3, .ref q4, .ref q5, .ref q6, .ref q7, .ref q8, .ref q9, .ref q10, .ref q11, .ref q12, .ref q13, .ref q14, .ref q15, .ref q16, .ref q17, .ref q18, .ref q19, .ref q20] : List Value)[1]? = some (.ref q1) := rfl
  have hv23 : ([.int 0, .ref q1, .ref q2, .ref q3, .ref q4, .ref q5, .ref q6, .ref q7, .ref q8, .ref q9, .ref q10, .ref q11, .ref q12, .ref q13, .ref q14, .ref q15, .ref q16, .ref q17, .ref q18, .ref q19, .ref q20] : List Value)[2]? = some (.ref q2) := rfl
  have hv24 : ([.int 0, .ref q1, .ref q2, .ref q3, .ref q4, .ref q5, .ref q6, .ref q7, .ref q8, .ref q9, .ref q10, .ref q11, .ref q12, .ref q13, .ref q14, .ref q15, .ref q16, .ref q17, .ref q18, .ref q19, .ref q20] : List Value)[3]? = some (.ref q3) := rfl
  have hv25 : ([.int 0, .ref q1, .ref q2, .ref q3, .ref q4, .ref q5, .ref q6, .ref q7, .ref q8, .ref q9, .ref q10, .ref q11, .ref q12, .ref q13, .ref q14, .ref q15, .ref q16, .ref q17, .ref q18, .ref q19, .ref q20] : List Value)[4]? = some (.ref q4) := rfl
  have hv26 : ([.int 0, .ref q1, .ref q2, .ref q3, .ref q4, .ref q5, .ref q6, .ref q7, .ref q8, .ref q9, .ref q10, .ref q11, .ref q12, .ref q13, .ref q14, .ref q15, .ref q16, .ref q17, .ref q18, .ref q19, .ref q20] : List Value)[5]? = some (.ref q5) := rfl
  have hv27 : ([.int 0, .ref q1, .ref q2, .ref q3, .ref q4, .ref q5, .ref q6, .ref q7, .ref q8, .ref q9, .ref q10, .ref q11, .ref q12, .ref q13, .ref q14, .ref q15, .ref q16, .ref q17, .ref q18, .ref q19, .ref q20] : List Value)[6]? = some (.ref q6) := rfl
  have hv28 : ([.int 0, .ref q1, .ref q2, .ref q3, .ref q4, .ref q5, .ref q6, .ref q7, .ref q8, .ref q9, .ref q10, .ref q11, .ref q12, .ref q13, .ref q14, .ref q15, .ref q16, .ref q17, .ref q18, .ref q19, .ref q20] : List Value)[7]? = some (.ref q7) := rfl
  have hv29 : ([.int 0, .ref q1, .ref q2, .ref q3, .ref q4, .ref q5, .ref q6, .ref q7, .ref q8, .ref q9, .ref q10, .ref q11, .ref q12, .ref q13, .ref q14, .ref q15, .ref q16, .ref q17, .ref q18, .ref q19, .ref q20] : List Value)[8]? = some (.ref q8) := rfl
  have hv30 : ([.int 0, .ref q1, .ref q2, .ref q3, .ref q4, .ref q5, .ref q6, .ref q7, .ref q8, .ref q9, .ref q10, .ref q11, .ref q12, .ref q13, .ref q14, .ref q15, .ref q16, .ref q17, .ref q18, .ref q19, .ref q20] : List Value)[9]? = some (.ref q9) := rfl
  have hv31 : ([.int 0, .ref q1, .ref q2, .ref q3, .ref q4, .ref q5, .ref q6, .ref q7, .ref q8, .ref q9, .ref q10, .ref q11, .ref q12, .ref q13, .ref q14, .ref q15, .ref q16, .ref q17, .ref q18, .ref q19, .ref q20] : List Value)[10]? = some (.ref q10) := rfl
  have hv32 : ([.int 0, .ref q1, .ref q2, .ref q3, .ref q4, .ref q5, .ref q6, .ref q7, .ref q8, .ref q9, .ref q10, .ref q11, .ref q12, .ref q13, .ref q14, .ref q15, .ref q16, .ref q17, .ref q18, .ref q19, .ref q20] : List Value)[11]? = some (.ref q11) := rfl
  have hv33 : ([.int 0, .ref q1, .ref q2, .ref q3, .ref q4, .ref q5, .ref q6, .ref q7, .ref q8, .ref q9, .ref q10, .ref q11, .ref q12, .ref q13, .ref q14, .ref q15, .ref q16, .ref q17, .ref q18, .ref q19, .ref q20] : List Value)[12]? = some (.ref q12) := rfl
  have hv34 : ([.int 0, .ref q1, .ref q2, .ref q3, .ref q4, .ref q5, .ref q6, .ref q7, .ref q8, .ref q9, .ref q10, .ref q11, .ref q12, .ref q13, .ref q14, .ref q15, .ref q16, .ref q17, .ref q18, .ref q19, .ref q20] : List Value)[13]? = some (.ref q13) := rfl
  have hv35 : ([.int 0, .ref q1, .ref q2, .ref q3, .ref q4, .ref q5, .ref q6, .ref q7, .ref q8, .ref q9, .ref q10, .ref q11, .ref q12, .ref q13, .ref q14, .ref q15, .ref q16, .ref q17, .ref q18, .ref q19, .ref q20] : List Value)[14]? = some (.ref q14) := rfl
  have hv36 : ([.int 0, .ref q1, .ref q2, .ref q3, .ref q4, .ref q5, .ref q6, .ref q7, .ref q8, .ref q9, .ref q10, .ref q11, .ref q12, .ref q13, .ref q14, .ref q15, .ref q16, .ref q17, .ref q18, .ref q19, .ref q20] : List Value)[15]? = some (.ref q15) := rfl
  have hv37 : ([.int 0, .ref q1, .ref q2, .ref q3, .ref q4, .ref q5, .ref q6, .ref q7, .ref q8, .ref q9, .ref q10, .ref q11, .ref q12, .ref q13, .ref q14, .ref q15, .ref q16, .ref q17, .ref q18, .ref q19, .ref q20] : List Value)[16]? = some (.ref q16) := rfl
  have hv38 : ([.int 0, .ref q1, .ref q2, .ref q3, .ref q4, .ref q5, .ref q6, .ref q7, .ref q8, .ref q9, .ref q10, .ref q11, .ref q12, .ref q13, .ref q14, .ref q15, .ref q16, .ref q17, .ref q18, .ref q19, .ref q20] : List Value)[17]? = some (.ref q17) := rfl
  have hv39 : ([.int 0, .ref q1, .ref q2, .ref q3, .ref q4, .ref q5, .ref q6, .ref q7, .ref q8, .ref q9, .ref q10, .ref q11, .ref q12, .ref q13, .ref q14, .ref q15, .ref q16, .ref q17, .ref q18, .ref q19, .ref q20] : List Value)[18]? = some (.ref q18) := rfl
  have hv40 : ([.int 0, .ref q1, .ref q2, .ref q3, .ref q4, .ref q5, .ref q6, .ref q7, .ref q8, .ref q9, .ref q10, .ref q11, .ref q12, .ref q13, .ref q14, .ref q15, .ref q16, .ref q17, .ref q18, .ref q19, .ref q20] : List Value)[19]? = some (.ref q19) := rfl
  have hv41 : ([.int 0, .ref q1, .ref q2, .ref q3, .ref q4, .ref q5, .ref q6, .ref q7, .ref q8, .ref q9, .ref q10, .ref q11, .ref q12, .ref q13, .ref q14, .ref q15, .ref q16, .ref q17, .ref q18, .ref q19, .ref q20] : List Value)[20]? = some (.ref q20) := rfl
  refine W.widen (k := 20) (n := 1032) (Nat.le_of_ble_eq_true rfl) (Nat.le_of_ble_eq_true rfl) ?_
  exact W.vret hx hb hr (fun t ht hW => ⟨⟨(), rfl, trivial, (fun i => [q1, q2, q3, q4, q5, q6, q7, q8, q9, q10, q11, q12, q13, q14, q15, q16, q17, q18, q19, q20].getD i 0), (fun i => [k1, k2, k3, k4, k5, k6, k7, k8, k9, k10, k11, k12, k13, k14, k15, k16, k17, k18, k19, k20].getD i 0), trivial, by rw [ht]; exact hP9, va_K.moved hW.alike hK9, hD9⟩, hS.F ht⟩) hS.2.2 d_Items_init_167
set_option maxHeartbeats 1000000 in
set_option maxRecDepth 100000 in
theorem c_Exprs_init (l : Launch) (dC : Nat → ClassId) (dI : Nat → Nat → Nat) (sz : Nat) (h_this : Nat) (h_a3 : Nat) (fs_a3 : List Value) (r_a3_types : Nat) (r_a3_scope : Nat) (p1 : Nat) (p2 : Nat) (p4 : Nat) (len_a3 : fs_a3.length = 5) (g_a3_types : fs_a3[2]? = some (.ref r_a3_types)) (g_a3_scope : fs_a3[3]? = some (.ref r_a3_scope)) : Met l y_Exprs_init w_Exprs_init ({ frames := 1, cells := 0, slots := 0, locals := 12 } : Room) (va_Pc [.ref h_this, .ref p1, .ref p2, .ref h_a3, .ref p4] (fun U => U.heap.size = sz ∧ va_P (dC, dI) cls_all [oc h_this 1 ([.null, .null, .null, .null, .null, .null] : List Value), oc h_a3 2 fs_a3] U.heap ∧ va_K (dC, dI) cls_all [] U ∧ va_D (fun _ => True) [oc h_this 1 ([.null, .null, .null, .null, .null, .null] : List Value), oc h_a3 2 fs_a3])) (va_Qv (fun (_ : Unit) => True) (fun _ t => (True) ∧ va_P (dC, dI) cls_all [oc h_this 1 ([.ref p1, .ref p2, .ref h_a3, .ref r_a3_types, .ref r_a3_scope, .ref p4] : List Value), oc h_a3 2 fs_a3] t.heap ∧ va_K (dC, dI) cls_all [] t ∧ va_D (va_A [oc h_this 1 ([.null, .null, .null, .null, .null, .null] : List Value), oc h_a3 2 fs_a3] sz) [oc h_this 1 ([.ref p1, .ref p2, .ref h_a3, .ref r_a3_types, .ref r_a3_scope, .ref p4] : List Value), oc h_a3 2 fs_a3]) (va_A [oc h_this 1 ([.null, .null, .null, .null, .null, .null] : List Value), oc h_a3 2 fs_a3] sz)) 0 0 (va_A [oc h_this 1 ([.null, .null, .null, .null, .null, .null] : List Value), oc h_a3 2 fs_a3] sz) := by
  refine Met.ofW (cc := b_Exprs_init) (maxL := 5) (ret := none) (by decide) rfl ?_
  intro p e s m args below meth c s₁ B hml hv
  obtain ⟨rfl, hsz, hP, hK, hD0⟩ := hv
  have hx := B.exec
  have hb := B.bytes
  have hr := B.returns
  have hT : ∀ w ∈ lw_good, w.before _ s = true := fun w h => atoms_spec (ws := w_Exprs_init) B.pre w (List.mem_cons_of_mem _ h)
  have hown : s.vm.findClass R_Exprs = some m.cls := findClass_of_methodNamed B.named
  have hlocks := B.notSynchronized
  have hin : meth.name = "<init>" := (name_of_methodNamed B.named B.method).1
  subst hsz
  have hD := hD0.self (sz := s.heap.size)
  generalize hAe : va_A [oc h_this 1 ([.null, .null, .null, .null, .null, .null] : List Value), oc h_a3 2 fs_a3] s.heap.size = A at hD ⊢
  have hA : ∀ q : Nat, s.heap.size ≤ q → A q := fun q h => by rw [← hAe]; exact Or.inr h
  have hS : va_S A s.heap s.heap [] := va_S.rf
  have hP : va_P (dC, dI) cls_all [oc h_this 1 ([.null, .null, .null, .null, .null, .null] : List Value), oc h_a3 2 fs_a3] s.heap := hP
  have hl := lv_entry ([.ref h_this, .ref p1, .ref p2, .ref h_a3, .ref p4]) (n := 5) (Nat.le_of_ble_eq_true rfl)
  rw [lg_entry_eq]
  generalize (lg_sl ([.ref h_this, .ref p1, .ref p2, .ref h_a3, .ref p4]) ++ List.replicate (5 - (lg_sl ([.ref h_this, .ref p1, .ref p2, .ref h_a3, .ref p4])).length) Slot.unset).toArray = ls at hl ⊢
  have hl : lv_has ls 5 [(0, .ref h_this), (1, .ref p1), (2, .ref p2), (3, .ref h_a3), (4, .ref p4)] := hl
  refine lv_aload_n hx hb d_Exprs_init_0 rfl (lv_at hl 0 rfl) ?_
  refine W.objInit hx hb hown (hT _ ml_Exprs_3) (hT _ im_objectInit) (hT _ co_objectInit) rfl (by rw [hml]; exact hl.1) rfl d_Exprs_init_1 (Nat.le_of_ble_eq_true rfl) (Nat.le_of_ble_eq_true rfl) ?_
  refine W.eq (g2 := F0 m 4 ls []) rfl ?_
  refine lv_aload_n hx hb d_Exprs_init_4 rfl (lv_at hl 0 rfl) ?_
  refine lv_aload_n hx hb d_Exprs_init_5 rfl (lv_at hl 1 rfl) ?_
  refine va_putF (D := (dC, dI)) (ci := 1) (v := .ref p1) (ty := .object "PointerHouse$Source") (C := R_Exprs) (T := F_Exprs) (N := 6) hx hb hT i_Exprs t_Exprs t_Exprs_ok n_Exprs hown hK hP hD hS 0 rfl rfl 0 (by decide) (hT _ fl_Exprs_9) (fun _ h9 => h9) rfl hin rfl (by decide +kernel) rfl rfl (Nat.le_of_ble_eq_true rfl) d_Exprs_init_6 (fun H locs hP hD hS => ?_)
  have hP : va_P (dC, dI) cls_all [oc h_this 1 ([.ref p1, .null, .null, .null, .null, .null] : List Value), oc h_a3 2 fs_a3] H := hP
  have hD : va_D A [oc h_this 1 ([.ref p1, .null, .null, .null, .null, .null] : List Value), oc h_a3 2 fs_a3] := hD
  refine lv_aload_n hx hb d_Exprs_init_9 rfl (lv_at hl 0 rfl) ?_
  refine lv_aload_n hx hb d_Exprs_init_10 rfl (lv_at hl 2 rfl) ?_
  refine va_putF (D := (dC, dI)) (ci := 1) (v := .ref p2) (ty := .object "PointerHouse$Items") (C := R_Exprs) (T := F_Exprs) (N := 6) hx hb hT i_Exprs t_Exprs t_Exprs_ok n_Exprs hown hK hP hD hS 0 rfl rfl 1 (by decide) (hT _ fl_Exprs_15) (fun _ h9 => h9) rfl hin rfl (by decide +kernel) rfl rfl (Nat.le_of_ble_eq_true rfl) d_Exprs_init_11 (fun H locs hP hD hS => ?_)
  have hP : va_P (dC, dI) cls_all [oc h_this 1 ([.ref p1, .ref p2, .null, .null, .null, .null] : List Value), oc h_a3 2 fs_a3] H := hP
  have hD : va_D A [oc h_this 1 ([.ref p1, .ref p2, .null, .null, .null, .null] : List Value), oc h_a3 2 fs_a3] := hD
  refine lv_aload_n hx hb d_Exprs_init_14 rfl (lv_at hl 0 rfl) ?_
  refine lv_aload_n hx hb d_Exprs_init_15 rfl (lv_at hl 3 rfl) ?_
  refine va_putF (D := (dC, dI)) (ci := 1) (v := .ref h_a3) (ty := .object "PointerHouse$Heads") (C := R_Exprs) (T := F_Exprs) (N := 6) hx hb hT i_Exprs t_Exprs t_Exprs_ok n_Exprs hown hK hP hD hS 0 rfl rfl 2 (by decide) (hT _ fl_Exprs_19) (fun _ h9 => h9) rfl hin rfl (by decide +kernel) rfl rfl (Nat.le_of_ble_eq_true rfl) d_Exprs_init_16 (fun H locs hP hD hS => ?_)
  have hP : va_P (dC, dI) cls_all [oc h_this 1 ([.ref p1, .ref p2, .ref h_a3, .null, .null, .null] : List Value), oc h_a3 2 fs_a3] H := hP
  have hD : va_D A [oc h_this 1 ([.ref p1, .ref p2, .ref h_a3, .null, .null, .null] : List Value), oc h_a3 2 fs_a3] := hD
  refine lv_aload_n hx hb d_Exprs_init_19 rfl (lv_at hl 0 rfl) ?_
  refine lv_aload_n hx hb d_Exprs_init_20 rfl (lv_at hl 3 rfl) ?_
  refine va_get (D := (dC, dI)) (ci := 2) (v := .ref r_a3_types) (C := R_Heads) (T := F_Heads) (N := 5) hx hb hT i_Heads hown hK hP 1 rfl rfl 2 (by decide) (hT _ fl_Exprs_23) (fun _ h9 => h9) g_a3_types d_Exprs_init_21 ?_
  refine va_putF (D := (dC, dI)) (ci := 1) (v := .ref r_a3_types) (ty := .object "PointerHouse$Types") (C := R_Exprs) (T := F_Exprs) (N := 6) hx hb hT i_Exprs t_Exprs t_Exprs_ok n_Exprs hown hK hP hD hS 0 rfl rfl 3 (by decide) (hT _ fl_Exprs_29) (fun _ h9 => h9) rfl hin rfl (by decide +kernel) rfl rfl (Nat.le_of_ble_eq_true rfl) d_Exprs_init_24 (fun H locs hP hD hS => ?_)
  have hP : va_P (dC, dI) cls_all [oc h_this 1 ([.ref p1, .ref p2, .ref h_a3, .ref r_a3_types, .null, .null] : List Value), oc h_a3 2 fs_a3] H := hP
  have hD : va_D A [oc h_this 1 ([.ref p1, .ref p2, .ref h_a3, .ref r_a3_types, .null, .null] : List Value), oc h_a3 2 fs_a3] := hD
  refine lv_aload_n hx hb d_Exprs_init_27 rfl (lv_at hl 0 rfl) ?_
  refine lv_aload_n hx hb d_Exprs_init_28 rfl (lv_at hl 3 rfl) ?_
  refine va_get (D := (dC, dI)) (ci := 2) (v := .ref r_a3_scope) (C := R_Heads) (T := F_Heads) (N := 5) hx hb hT i_Heads hown hK hP 1 rfl rfl 3 (by decide) (hT _ fl_Exprs_30) (fun _ h9 => h9) g_a3_scope d_Exprs_init_29 ?_
  refine va_putF (D := (dC, dI)) (ci := 1) (v := .ref r_a3_scope) (ty := .object "PointerHouse$Scope") (C := R_Exprs) (T := F_Exprs) (N := 6) hx hb hT i_Exprs t_Exprs t_Exprs_ok n_Exprs hown hK hP hD hS 0 rfl rfl 4 (by decide) (hT _ fl_Exprs_34) (fun _ h9 => h9) rfl hin rfl (by decide +kernel) rfl rfl (Nat.le_of_ble_eq_true rfl) d_Exprs_init_32 (fun H locs hP hD hS => ?_)
  have hP : va_P (dC, dI) cls_all [oc h_this 1 ([.ref p1, .ref p2, .ref h_a3, .ref r_a3_types, .ref r_a3_scope, .null] : List Value), oc h_a3 2 fs_a3] H := hP
  have hD : va_D A [oc h_this 1 ([.ref p1, .ref p2, .ref h_a3, .ref r_a3_types, .ref r_a3_scope, .null] : List Value), oc h_a3 2 fs_a3] := hD
  refine lv_aload_n hx hb d_Exprs_init_35 rfl (lv_at hl 0 rfl) ?_
  refine lv_aload hx hb d_Exprs_init_36 (lv_at hl 4 rfl) ?_
  refine va_putF (D := (dC, dI)) (ci := 1) (v := .ref p4) (ty := .object "PointerHouse$Code") (C := R_Exprs) (T := F_Exprs) (N := 6) hx hb hT i_Exprs t_Exprs t_Exprs_ok n_Exprs hown hK hP hD hS 0 rfl rfl 5 (by decide) (hT _ fl_Exprs_35) (fun _ h9 => h9) rfl hin rfl (by decide +kernel) rfl rfl (Nat.le_of_ble_eq_true rfl) d_Exprs_init_38 (fun H locs hP hD hS => ?_)
  have hP : va_P (dC, dI) cls_all [oc h_this 1 ([.ref p1, .ref p2, .ref h_a3, .ref r_a3_types, .ref r_a3_scope, .ref p4] : List Value), oc h_a3 2 fs_a3] H := hP
  have hD : va_D A [oc h_this 1 ([.ref p1, .ref p2, .ref h_a3, .ref r_a3_types, .ref r_a3_scope, .ref p4] : List Value), oc h_a3 2 fs_a3] := hD
  have hP9 := hP.sub (ws' := [oc h_this 1 ([.ref p1, .ref p2, .ref h_a3, .ref r_a3_types, .ref r_a3_scope, .ref p4] : List Value), oc h_a3 2 fs_a3]) [0, 1] rfl
  have hD9 := hD.sub (ws' := [oc h_this 1 ([.ref p1, .ref p2, .ref h_a3, .ref r_a3_types, .ref r_a3_scope, .ref p4] : List Value), oc h_a3 2 fs_a3]) [0, 1] (by decide) rfl
  have hK9 := hK.sub (tys' := []) [] rfl
  have hv1 : ([.ref p1, .ref p2, .ref h_a3, .ref r_a3_types, .ref r_a3_scope, .ref p4] : List Value)[0]? = some (.ref p1) := rfl
  have hv2 : ([.ref p1, .ref p2, .ref h_a3, .ref r_a3_types, .ref r_a3_scope, .ref p4] : List Value)[1]? = some (.ref p2) := rfl
  have hv3 : ([.ref p1, .ref p2, .ref h_a3, .ref r_a3_types, .ref r_a3_scope, .ref p4] : List Value)[2]? = some (.ref h_a3) := rfl
  have hv4 : ([.ref p1, .ref p2, .ref h_a3, .ref r_a3_types, .ref r_a3_scope, .ref p4] : List Value)[5]? = some (.ref p4) := rfl
  have hv5 : ([.ref p1, .ref p2, .ref h_a3, .ref r_a3_types, .ref r_a3_scope, .ref p4] : List Value)[3]? = some (.ref r_a3_types) := rfl
  have hv6 : ([.ref p1, .ref p2, .ref h_a3, .ref r_a3_types, .ref r_a3_scope, .ref p4] : List Value)[4]? = some (.ref r_a3_scope) := rfl
  exact W.vret hx hb hr (fun t ht hW => ⟨⟨(), rfl, trivial, trivial, by rw [ht]; exact hP9, va_K.moved hW.alike hK9, hD9⟩, hS.F ht⟩) hS.2.2 d_Exprs_init_41
set_option maxHeartbeats 1000000 in
set_option maxRecDepth 100000 in
theorem c_Steps_init (l : Launch) (dC : Nat → ClassId) (dI : Nat → Nat → Nat) (sz : Nat) (h_this : Nat) (h_a3 : Nat) (fs_a3 : List Value) (r_a3_types : Nat) (r_a3_scope : Nat) (p1 : Nat) (p2 : Nat) (p4 : Nat) (p5 : Nat) (len_a3 : fs_a3.length = 5) (g_a3_types : fs_a3[2]? = some (.ref r_a3_types)) (g_a3_scope : fs_a3[3]? = some (.ref r_a3_scope)) : Met l y_Steps_init w_Steps_init ({ frames := 1, cells := 0, slots := 0, locals := 12 } : Room) (va_Pc [.ref h_this, .ref p1, .ref p2, .ref h_a3, .ref p4, .ref p5] (fun U => U.heap.size = sz ∧ va_P (dC, dI) cls_all [oc h_this 9 ([.null, .null, .null, .null, .null, .null, .null] : List Value), oc h_a3 2 fs_a3] U.heap ∧ va_K (dC, dI) cls_all [] U ∧ va_D (fun _ => True) [oc h_this 9 ([.null, .null, .null, .null, .null, .null, .null] : List Value), oc h_a3 2 fs_a3])) (va_Qv (fun (_ : Unit) => True) (fun _ t => (True) ∧ va_P (dC, dI) cls_all [oc h_this 9 ([.ref p1, .ref p2, .ref h_a3, .ref r_a3_types, .ref r_a3_scope, .ref p4, .ref p5] : List Value), oc h_a3 2 fs_a3] t.heap ∧ va_K (dC, dI) cls_all [] t ∧ va_D (va_A [oc h_this 9 ([.null, .null, .null, .null, .null, .null, .null] : List Value), oc h_a3 2 fs_a3] sz) [oc h_this 9 ([.ref p1, .ref p2, .ref h_a3, .ref r_a3_types, .ref r_a3_scope, .ref p4, .ref p5] : List Value), oc h_a3 2 fs_a3]) (va_A [oc h_this 9 ([.null, .null, .null, .null, .null, .null, .null] : List Value), oc h_a3 2 fs_a3] sz)) 0 0 (va_A [oc h_this 9 ([.null, .null, .null, .null, .null, .null, .null] : List Value), oc h_a3 2 fs_a3] sz) := by
  refine Met.ofW (cc := b_Steps_init) (maxL := 6) (ret := none) (by decide) rfl ?_
  intro p e s m args below meth c s₁ B hml hv
  obtain ⟨rfl, hsz, hP, hK, hD0⟩ := hv
  have hx := B.exec
  have hb := B.bytes
  have hr := B.returns
  have hT : ∀ w ∈ lw_good, w.before _ s = true := fun w h => atoms_spec (ws := w_Steps_init) B.pre w (List.mem_cons_of_mem _ h)
  have hown : s.vm.findClass R_Steps = some m.cls := findClass_of_methodNamed B.named
  have hlocks := B.notSynchronized
  have hin : meth.name = "<init>" := (name_of_methodNamed B.named B.method).1
  subst hsz
  have hD := hD0.self (sz := s.heap.size)
  generalize hAe : va_A [oc h_this 9 ([.null, .null, .null, .null, .null, .null, .null] : List Value), oc h_a3 2 fs_a3] s.heap.size = A at hD ⊢
  have hA : ∀ q : Nat, s.heap.size ≤ q → A q := fun q h => by rw [← hAe]; exact Or.inr h
  have hS : va_S A s.heap s.heap [] := va_S.rf
  have hP : va_P (dC, dI) cls_all [oc h_this 9 ([.null, .null, .null, .null, .null, .null, .null] : List Value), oc h_a3 2 fs_a3] s.heap := hP
  have hl := lv_entry ([.ref h_this, .ref p1, .ref p2, .ref h_a3, .ref p4, .ref p5]) (n := 6) (Nat.le_of_ble_eq_true rfl)
  rw [lg_entry_eq]
  generalize (lg_sl ([.ref h_this, .ref p1, .ref p2, .ref h_a3, .ref p4, .ref p5]) ++ List.replicate (6 - (lg_sl ([.ref h_this, .ref p1, .ref p2, .ref h_a3, .ref p4, .ref p5])).length) Slot.unset).toArray = ls at hl ⊢
  have hl : lv_has ls 6 [(0, .ref h_this), (1, .ref p1), (2, .ref p2), (3, .ref h_a3), (4, .ref p4), (5, .ref p5)] := hl
  refine lv_aload_n hx hb d_Steps_init_0 rfl (lv_at hl 0 rfl) ?_
  refine W.objInit hx hb hown (hT _ ml_Steps_3) (hT _ im_objectInit) (hT _ co_objectInit) rfl (by rw [hml]; exact hl.1) rfl d_Steps_init_1 (Nat.le_of_ble_eq_true rfl) (Nat.le_of_ble_eq_true rfl) ?_
  refine W.eq (g2 := F0 m 4 ls []) rfl ?_
  refine lv_aload_n hx hb d_Steps_init_4 rfl (lv_at hl 0 rfl) ?_
  refine lv_aload_n hx hb d_Steps_init_5 rfl (lv_at hl 1 rfl) ?_
  refine va_putF (D := (dC, dI)) (ci := 9) (v := .ref p1) (ty := .object "PointerHouse$Source") (C := R_Steps) (T := F_Steps) (N := 7) hx hb hT i_Steps t_Steps t_Steps_ok n_Steps hown hK hP hD hS 0 rfl rfl 0 (by decide) (hT _ fl_Steps_9) (fun _ h9 => h9) rfl hin rfl (by decide +kernel) rfl rfl (Nat.le_of_ble_eq_true rfl) d_Steps_init_6 (fun H locs hP hD hS => ?_)
  have hP : va_P (dC, dI) cls_all [oc h_this 9 ([.ref p1, .null, .null, .null, .null, .null, .null] : List Value), oc h_a3 2 fs_a3] H := hP
  have hD : va_D A [oc h_this 9 ([.ref p1, .null, .null, .null, .null, .null, .null] : List Value), oc h_a3 2 fs_a3] := hD
  refine lv_aload_n hx hb d_Steps_init_9 rfl (lv_at hl 0 rfl) ?_
  refine lv_aload_n hx hb d_Steps_init_10 rfl (lv_at hl 2 rfl) ?_
  refine va_putF (D := (dC, dI)) (ci := 9) (v := .ref p2) (ty := .object "PointerHouse$Items") (C := R_Steps) (T := F_Steps) (N := 7) hx hb hT i_Steps t_Steps t_Steps_ok n_Steps hown hK hP hD hS 0 rfl rfl 1 (by decide) (hT _ fl_Steps_15) (fun _ h9 => h9) rfl hin rfl (by decide +kernel) rfl rfl (Nat.le_of_ble_eq_true rfl) d_Steps_init_11 (fun H locs hP hD hS => ?_)
  have hP : va_P (dC, dI) cls_all [oc h_this 9 ([.ref p1, .ref p2, .null, .null, .null, .null, .null] : List Value), oc h_a3 2 fs_a3] H := hP
  have hD : va_D A [oc h_this 9 ([.ref p1, .ref p2, .null, .null, .null, .null, .null] : List Value), oc h_a3 2 fs_a3] := hD
  refine lv_aload_n hx hb d_Steps_init_14 rfl (lv_at hl 0 rfl) ?_
  refine lv_aload_n hx hb d_Steps_init_15 rfl (lv_at hl 3 rfl) ?_
  refine va_putF (D := (dC, dI)) (ci := 9) (v := .ref h_a3) (ty := .object "PointerHouse$Heads") (C := R_Steps) (T := F_Steps) (N := 7) hx hb hT i_Steps t_Steps t_Steps_ok n_Steps hown hK hP hD hS 0 rfl rfl 2 (by decide) (hT _ fl_Steps_19) (fun _ h9 => h9) rfl hin rfl (by decide +kernel) rfl rfl (Nat.le_of_ble_eq_true rfl) d_Steps_init_16 (fun H locs hP hD hS => ?_)
  have hP : va_P (dC, dI) cls_all [oc h_this 9 ([.ref p1, .ref p2, .ref h_a3, .null, .null, .null, .null] : List Value), oc h_a3 2 fs_a3] H := hP
  have hD : va_D A [oc h_this 9 ([.ref p1, .ref p2, .ref h_a3, .null, .null, .null, .null] : List Value), oc h_a3 2 fs_a3] := hD
  refine lv_aload_n hx hb d_Steps_init_19 rfl (lv_at hl 0 rfl) ?_
  refine lv_aload_n hx hb d_Steps_init_20 rfl (lv_at hl 3 rfl) ?_
  refine va_get (D := (dC, dI)) (ci := 2) (v := .ref r_a3_types) (C := R_Heads) (T := F_Heads) (N := 5) hx hb hT i_Heads hown hK hP 1 rfl rfl 2 (by decide) (hT _ fl_Steps_23) (fun _ h9 => h9) g_a3_types d_Steps_init_21 ?_
  refine va_putF (D := (dC, dI)) (ci := 9) (v := .ref r_a3_types) (ty := .object "PointerHouse$Types") (C := R_Steps) (T := F_Steps) (N := 7) hx hb hT i_Steps t_Steps t_Steps_ok n_Steps hown hK hP hD hS 0 rfl rfl 3 (by decide) (hT _ fl_Steps_29) (fun _ h9 => h9) rfl hin rfl (by decide +kernel) rfl rfl (Nat.le_of_ble_eq_true rfl) d_Steps_init_24 (fun H locs hP hD hS => ?_)
  have hP : va_P (dC, dI) cls_all [oc h_this 9 ([.ref p1, .ref p2, .ref h_a3, .ref r_a3_types, .null, .null, .null] : List Value), oc h_a3 2 fs_a3] H := hP
  have hD : va_D A [oc h_this 9 ([.ref p1, .ref p2, .ref h_a3, .ref r_a3_types, .null, .null, .null] : List Value), oc h_a3 2 fs_a3] := hD
  refine lv_aload_n hx hb d_Steps_init_27 rfl (lv_at hl 0 rfl) ?_
  refine lv_aload_n hx hb d_Steps_init_28 rfl (lv_at hl 3 rfl) ?_
  refine va_get (D := (dC, dI)) (ci := 2) (v := .ref r_a3_scope) (C := R_Heads) (T := F_Heads) (N := 5) hx hb hT i_Heads hown hK hP 1 rfl rfl 3 (by decide) (hT _ fl_Steps_30) (fun _ h9 => h9) g_a3_scope d_Steps_init_29 ?_
  refine va_putF (D := (dC, dI)) (ci := 9) (v := .ref r_a3_scope) (ty := .object "PointerHouse$Scope") (C := R_Steps) (T := F_Steps) (N := 7) hx hb hT i_Steps t_Steps t_Steps_ok n_Steps hown hK hP hD hS 0 rfl rfl 4 (by decide) (hT _ fl_Steps_34) (fun _ h9 => h9) rfl hin rfl (by decide +kernel) rfl rfl (Nat.le_of_ble_eq_true rfl) d_Steps_init_32 (fun H locs hP hD hS => ?_)
  have hP : va_P (dC, dI) cls_all [oc h_this 9 ([.ref p1, .ref p2, .ref h_a3, .ref r_a3_types, .ref r_a3_scope, .null, .null] : List Value), oc h_a3 2 fs_a3] H := hP
  have hD : va_D A [oc h_this 9 ([.ref p1, .ref p2, .ref h_a3, .ref r_a3_types, .ref r_a3_scope, .null, .null] : List Value), oc h_a3 2 fs_a3] := hD
  refine lv_aload_n hx hb d_Steps_init_35 rfl (lv_at hl 0 rfl) ?_
  refine lv_aload hx hb d_Steps_init_36 (lv_at hl 4 rfl) ?_
  refine va_putF (D := (dC, dI)) (ci := 9) (v := .ref p4) (ty := .object "PointerHouse$Exprs") (C := R_Steps) (T := F_Steps) (N := 7) hx hb hT i_Steps t_Steps t_Steps_ok n_Steps hown hK hP hD hS 0 rfl rfl 5 (by decide) (hT _ fl_Steps_35) (fun _ h9 => h9) rfl hin rfl (by decide +kernel) rfl rfl (Nat.le_of_ble_eq_true rfl) d_Steps_init_38 (fun H locs hP hD hS => ?_)
  have hP : va_P (dC, dI) cls_all [oc h_this 9 ([.ref p1, .ref p2, .ref h_a3, .ref r_a3_types, .ref r_a3_scope, .ref p4, .null] : List Value), oc h_a3 2 fs_a3] H := hP
  have hD : va_D A [oc h_this 9 ([.ref p1, .ref p2, .ref h_a3, .ref r_a3_types, .ref r_a3_scope, .ref p4, .null] : List Value), oc h_a3 2 fs_a3] := hD
  refine lv_aload_n hx hb d_Steps_init_41 rfl (lv_at hl 0 rfl) ?_
  refine lv_aload hx hb d_Steps_init_42 (lv_at hl 5 rfl) ?_
  refine va_putF (D := (dC, dI)) (ci := 9) (v := .ref p5) (ty := .object "PointerHouse$Code") (C := R_Steps) (T := F_Steps) (N := 7) hx hb hT i_Steps t_Steps t_Steps_ok n_Steps hown hK hP hD hS 0 rfl rfl 6 (by decide) (hT _ fl_Steps_39) (fun _ h9 => h9) rfl hin rfl (by decide +kernel) rfl rfl (Nat.le_of_ble_eq_true rfl) d_Steps_init_44 (fun H locs hP hD hS => ?_)
  have hP : va_P (dC, dI) cls_all [oc h_this 9 ([.ref p1, .ref p2, .ref h_a3, .ref r_a3_types, .ref r_a3_scope, .ref p4, .ref p5] : List Value), oc h_a3 2 fs_a3] H := hP
  have hD : va_D A [oc h_this 9 ([.ref p1, .ref p2, .ref h_a3, .ref r_a3_types, .ref r_a3_scope, .ref p4, .ref p5] : List Value), oc h_a3 2 fs_a3] := hD
  have hP9 := hP.sub (ws' := [oc h_this 9 ([.ref p1, .ref p2, .ref h_a3, .ref r_a3_types, .ref r_a3_scope, .ref p4, .ref p5] : List Value), oc h_a3 2 fs_a3]) [0, 1] rfl
  have hD9 := hD.sub (ws' := [oc h_this 9 ([.ref p1, .ref p2, .ref h_a3, .ref r_a3_types, .ref r_a3_scope, .ref p4, .ref p5] : List Value), oc h_a3 2 fs_a3]) [0, 1] (by decide) rfl
  have hK9 := hK.sub (tys' := []) [] rfl
  have hv1 : ([.ref p1, .ref p2, .ref h_a3, .ref r_a3_types, .ref r_a3_scope, .ref p4, .ref p5] : List Value)[0]? = some (.ref p1) := rfl
  have hv2 : ([.ref p1, .ref p2, .ref h_a3, .ref r_a3_types, .ref r_a3_scope, .ref p4, .ref p5] : List Value)[1]? = some (.ref p2) := rfl
  have hv3 : ([.ref p1, .ref p2, .ref h_a3, .ref r_a3_types, .ref r_a3_scope, .ref p4, .ref p5] : List Value)[2]? = some (.ref h_a3) := rfl
  have hv4 : ([.ref p1, .ref p2, .ref h_a3, .ref r_a3_types, .ref r_a3_scope, .ref p4, .ref p5] : List Value)[5]? = some (.ref p4) := rfl
  have hv5 : ([.ref p1, .ref p2, .ref h_a3, .ref r_a3_types, .ref r_a3_scope, .ref p4, .ref p5] : List Value)[6]? = some (.ref p5) := rfl
  have hv6 : ([.ref p1, .ref p2, .ref h_a3, .ref r_a3_types, .ref r_a3_scope, .ref p4, .ref p5] : List Value)[3]? = some (.ref r_a3_types) := rfl
  have hv7 : ([.ref p1, .ref p2, .ref h_a3, .ref r_a3_types, .ref r_a3_scope, .ref p4, .ref p5] : List Value)[4]? = some (.ref r_a3_scope) := rfl
  exact W.vret hx hb hr (fun t ht hW => ⟨⟨(), rfl, trivial, trivial, by rw [ht]; exact hP9, va_K.moved hW.alike hK9, hD9⟩, hS.F ht⟩) hS.2.2 d_Steps_init_47
set_option maxHeartbeats 1000000 in
set_option maxRecDepth 100000 in
theorem c_Machine_init (l : Launch) (dC : Nat → ClassId) (dI : Nat → Nat → Nat) (sz : Nat) (h_this : Nat) (p1 : Nat) (p2 : Nat) : Met l y_Machine_init w_Machine_init ({ frames := 2, cells := 14, slots := 37372, locals := 32 } : Room) (va_Pc [.ref h_this, .ref p1, .ref p2] (fun U => U.heap.size = sz ∧ va_P (dC, dI) cls_all [oc h_this 4 ([.null, .null, .null, .null, .int 0, .null, .int 0, .null, .int 0, .int 0, .int 0, .int 0, .int 0, .int 0, .null, .int 0, .null, .int 0] : List Value)] U.heap ∧ va_K (dC, dI) cls_all [] U ∧ va_D (fun _ => True) [oc h_this 4 ([.null, .null, .null, .null, .int 0, .null, .int 0, .null, .int 0, .int 0, .int 0, .int 0, .int 0, .int 0, .null, .int 0, .null, .int 0] : List Value)] ∧ nw_all U)) (va_Qv (fun (_ : Unit) => True) (fun _ t => ∃ (hm' : Nat → Nat) (km' : Nat → ClassId), (True) ∧ va_P (dC, dI) cls_all [oc h_this 4 ([.ref p1, .ref p2, .ref (hm' 5), .ref (hm' 0), .int 0, .ref (hm' 1), .int 0, .ref (hm' 2), .int 0, .int 0, .int 0, .int 0, .int 0, .int 0, .ref (hm' 3), .int 0, .ref (hm' 4), .int 0] : List Value), ic (hm' 0) (km' 0) 23200 (fun _ => 0), ic (hm' 1) (km' 1) 697 (fun _ => 0), ic (hm' 2) (km' 2) 3200 (fun _ => 0), ic (hm' 3) (km' 3) 100 (fun _ => 0), ic (hm' 4) (km' 4) 300 (fun _ => 0), oc (hm' 5) 5 ([.ref (hm' 6), .ref (hm' 7), .ref (hm' 8), .int 0, .int 0, .int 0, .int 0, .int 0, .int 0, .ref (hm' 9), .ref (hm' 10), .ref (hm' 11), .ref (hm' 12), .ref (hm' 13)] : List Value), ic (hm' 6) (km' 6) 4096 (fun _ => 0), ic (hm' 7) (km' 7) 4096 (fun _ => 0), ic (hm' 8) (km' 8) 64 (fun _ => 0), ic (hm' 9) (km' 9) 321 (fun _ => 0), ic (hm' 10) (km' 10) 321 (fun _ => 0), ic (hm' 11) (km' 11) 321 (fun _ => 0), ic (hm' 12) (km' 12) 321 (fun _ => 0), ic (hm' 13) (km' 13) 321 (fun _ => 0)] t.heap ∧ va_K (dC, dI) cls_all [((km' 0), .int), ((km' 1), .int), ((km' 2), .int), ((km' 3), .int), ((km' 4), .int), ((km' 6), .int), ((km' 7), .boolean), ((km' 8), .int), ((km' 9), .int), ((km' 10), .int), ((km' 11), .int), ((km' 12), .int), ((km' 13), .int)] t ∧ va_D (va_A [oc h_this 4 ([.null, .null, .null, .null, .int 0, .null, .int 0, .null, .int 0, .int 0, .int 0, .int 0, .int 0, .int 0, .null, .int 0, .null, .int 0] : List Value)] sz) [oc h_this 4 ([.ref p1, .ref p2, .ref (hm' 5), .ref (hm' 0), .int 0, .ref (hm' 1), .int 0, .ref (hm' 2), .int 0, .int 0, .int 0, .int 0, .int 0, .int 0, .ref (hm' 3), .int 0, .ref (hm' 4), .int 0] : List Value), ic (hm' 0) (km' 0) 23200 (fun _ => 0), ic (hm' 1) (km' 1) 697 (fun _ => 0), ic (hm' 2) (km' 2) 3200 (fun _ => 0), ic (hm' 3) (km' 3) 100 (fun _ => 0), ic (hm' 4) (km' 4) 300 (fun _ => 0), oc (hm' 5) 5 ([.ref (hm' 6), .ref (hm' 7), .ref (hm' 8), .int 0, .int 0, .int 0, .int 0, .int 0, .int 0, .ref (hm' 9), .ref (hm' 10), .ref (hm' 11), .ref (hm' 12), .ref (hm' 13)] : List Value), ic (hm' 6) (km' 6) 4096 (fun _ => 0), ic (hm' 7) (km' 7) 4096 (fun _ => 0), ic (hm' 8) (km' 8) 64 (fun _ => 0), ic (hm' 9) (km' 9) 321 (fun _ => 0), ic (hm' 10) (km' 10) 321 (fun _ => 0), ic (hm' 11) (km' 11) 321 (fun _ => 0), ic (hm' 12) (km' 12) 321 (fun _ => 0), ic (hm' 13) (km' 13) 321 (fun _ => 0)]) (va_A [oc h_this 4 ([.null, .null, .null, .null, .int 0, .null, .int 0, .null, .int 0, .int 0, .int 0, .int 0, .int 0, .int 0, .null, .int 0, .null, .int 0] : List Value)] sz)) 14 37372 (va_A [oc h_this 4 ([.null, .null, .null, .null, .int 0, .null, .int 0, .null, .int 0, .int 0, .int 0, .int 0, .int 0, .int 0, .null, .int 0, .null, .int 0] : List Value)] sz) := by
  refine Met.ofW (cc := b_Machine_init) (maxL := 3) (ret := none) (by decide) rfl ?_
  intro p e s m args below meth c s₁ B hml hv
  obtain ⟨rfl, hsz, hP, hK, hD0, hnw⟩ := hv
  have hx := B.exec
  have hb := B.bytes
  have hr := B.returns
  have hT : ∀ w ∈ lw_good, w.before _ s = true := fun w h => atoms_spec (ws := w_Machine_init) B.pre w (List.mem_cons_of_mem _ h)
  have hown : s.vm.findClass R_Machine = some m.cls := findClass_of_methodNamed B.named
  have hlocks := B.notSynchronized
  have hin : meth.name = "<init>" := (name_of_methodNamed B.named B.method).1
  subst hsz
  have hD := hD0.self (sz := s.heap.size)
  generalize hAe : va_A [oc h_this 4 ([.null, .null, .null, .null, .int 0, .null, .int 0, .null, .int 0, .int 0, .int 0, .int 0, .int 0, .int 0, .null, .int 0, .null, .int 0] : List Value)] s.heap.size = A at hD ⊢
  have hA : ∀ q : Nat, s.heap.size ≤ q → A q := fun q h => by rw [← hAe]; exact Or.inr h
  have hS : va_S A s.heap s.heap [] := va_S.rf
  have hP : va_P (dC, dI) cls_all [oc h_this 4 ([.null, .null, .null, .null, .int 0, .null, .int 0, .null, .int 0, .int 0, .int 0, .int 0, .int 0, .int 0, .null, .int 0, .null, .int 0] : List Value)] s.heap := hP
  have hl := lv_entry ([.ref h_this, .ref p1, .ref p2]) (n := 3) (Nat.le_of_ble_eq_true rfl)
  rw [lg_entry_eq]
  generalize (lg_sl ([.ref h_this, .ref p1, .ref p2]) ++ List.replicate (3 - (lg_sl ([.ref h_this, .ref p1, .ref p2])).length) Slot.unset).toArray = ls at hl ⊢
  have hl : lv_has ls 3 [(0, .ref h_this), (1, .ref p1), (2, .ref p2)] := hl
  refine lv_aload_n hx hb d_Machine_init_0 rfl (lv_at hl 0 rfl) ?_
  refine W.objInit hx hb hown (hT _ ml_Machine_7) (hT _ im_objectInit) (hT _ co_objectInit) rfl (by rw [hml]; exact hl.1) rfl d_Machine_init_1 (Nat.le_of_ble_eq_true rfl) (Nat.le_of_ble_eq_true rfl) ?_
  refine W.eq (g2 := F0 m 4 ls []) rfl ?_
  refine lv_aload_n hx hb d_Machine_init_4 rfl (lv_at hl 0 rfl) ?_
  refine va_new (ci := 5) (fs := ([.null, .null, .null, .int 0, .int 0, .int 0, .int 0, .int 0, .int 0, .null, .null, .null, .null, .null] : List Value)) (C := R_Memory) (T := F_Memory) (N := 14) hx hb hT i_Memory t_Memory t_Memory_ok hown (hT _ cl_Machine_13) (hT _ ia_Memory) (hT _ ini_Memory) hK hP hD hS hA rfl (fv_lt (by decide +kernel)) (Nat.le_of_ble_eq_true rfl) (Nat.le_of_ble_eq_true rfl) d_Machine_init_5 (fun q1 H hP hD hS => ?_)
  have hP : va_P (dC, dI) cls_all [oc h_this 4 ([.null, .null, .null, .null, .int 0, .null, .int 0, .null, .int 0, .int 0, .int 0, .int 0, .int 0, .int 0, .null, .int 0, .null, .int 0] : List Value), oc q1 5 ([.null, .null, .null, .int 0, .int 0, .int 0, .int 0, .int 0, .int 0, .null, .null, .null, .null, .null] : List Value)] H := hP
  have hD : va_D A [oc h_this 4 ([.null, .null, .null, .null, .int 0, .null, .int 0, .null, .int 0, .int 0, .int 0, .int 0, .int 0, .int 0, .null, .int 0, .null, .int 0] : List Value), oc q1 5 ([.null, .null, .null, .int 0, .int 0, .int 0, .int 0, .int 0, .int 0, .null, .null, .null, .null, .null] : List Value)] := hD
  refine W.widen (k := 1) (n := 14) (Nat.le_of_ble_eq_true rfl) (Nat.le_of_ble_eq_true rfl) ?_
  refine lv_dup hx hb d_Machine_init_8 rfl ?_
  have hPc := hP.sub (ws' := [oc q1 5 ([.null, .null, .null, .int 0, .int 0, .int 0, .int 0, .int 0, .int 0, .null, .null, .null, .null, .null] : List Value)]) [1] rfl
  have hKc := hK.sub (tys' := []) [] rfl
  have hDc := hD.sub (ws' := [oc q1 5 ([.null, .null, .null, .int 0, .int 0, .int 0, .int 0, .int 0, .int 0, .null, .null, .null, .null, .null] : List Value)]) [1] (by decide) rfl
  have hFc := va_free (wc := [oc q1 5 ([.null, .null, .null, .int 0, .int 0, .int 0, .int 0, .int 0, .int 0, .null, .null, .null, .null, .null] : List Value)]) hD hS hA [1] rfl
  refine va_callv (va_runIN (As := []) (rest := [.ref q1, .ref h_this]) ⟨hx, hb, hml, hown, hT⟩ (c_Memory_init l dC dI (sz := H.size) (h_this := q1) ) ⟨va_cnB 0 hT (good_c co_Memory_init) rfl rfl rfl hnw.2.2.2.2.2 (hT _ ini_Memory) (by decide +kernel) ⟨Nat.le_of_ble_eq_true rfl, Nat.le_of_ble_eq_true rfl⟩, rfl, hT _ im_Memory_init⟩ ⟨fbQ, fun U hU hW => ⟨rfl, by rw [hU], by rw [hU]; exact hPc, va_K.moved hW.alike hKc, hDc.weaken (fun _ _ _ _ => trivial)⟩⟩ rfl rfl hl.1 rfl (lv_room (Nat.le_of_ble_eq_true rfl)) d_Machine_init_9 ⟨Nat.le_of_ble_eq_true rfl, Nat.le_of_ble_eq_true rfl⟩) hS (fun q _ h => hFc q h) hFc (fun u t H1 locs ht hvm hw hB hz1 hk1 hS => ?_)
  obtain ⟨hm_2, km_2, hw2_0, hP1, hK1, hD1⟩ := hB
  rw [ht] at hP1
  have hK1 := va_K.moved hvm.symm hK1
  obtain ⟨hP, hD⟩ := va_join (wr := [oc h_this 4 ([.null, .null, .null, .null, .int 0, .null, .int 0, .null, .int 0, .int 0, .int 0, .int 0, .int 0, .int 0, .null, .int 0, .null, .int 0] : List Value)]) (w1 := [oc q1 5 ([.ref (hm_2 0), .ref (hm_2 1), .ref (hm_2 2), .int 0, .int 0, .int 0, .int 0, .int 0, .int 0, .ref (hm_2 3), .ref (hm_2 4), .ref (hm_2 5), .ref (hm_2 6), .ref (hm_2 7)] : List Value), ic (hm_2 0) (km_2 0) 4096 (fun _ => 0), ic (hm_2 1) (km_2 1) 4096 (fun _ => 0), ic (hm_2 2) (km_2 2) 64 (fun _ => 0), ic (hm_2 3) (km_2 3) 321 (fun _ => 0), ic (hm_2 4) (km_2 4) 321 (fun _ => 0), ic (hm_2 5) (km_2 5) 321 (fun _ => 0), ic (hm_2 6) (km_2 6) 321 (fun _ => 0), ic (hm_2 7) (km_2 7) 321 (fun _ => 0)]) hP hD [1] [0] rfl rfl (by decide) (by decide) hk1 hFc hP1 hD1
  generalize H1 = H at hP hS ⊢
  have hP : va_P (dC, dI) cls_all [oc h_this 4 ([.null, .null, .null, .null, .int 0, .null, .int 0, .null, .int 0, .int 0, .int 0, .int 0, .int 0, .int 0, .null, .int 0, .null, .int 0] : List Value), oc q1 5 ([.ref (hm_2 0), .ref (hm_2 1), .ref (hm_2 2), .int 0, .int 0, .int 0, .int 0, .int 0, .int 0, .ref (hm_2 3), .ref (hm_2 4), .ref (hm_2 5), .ref (hm_2 6), .ref (hm_2 7)] : List Value), ic (hm_2 0) (km_2 0) 4096 (fun _ => 0), ic (hm_2 1) (km_2 1) 4096 (fun _ => 0), ic (hm_2 2) (km_2 2) 64 (fun _ => 0), ic (hm_2 3) (km_2 3) 321 (fun _ => 0), ic (hm_2 4) (km_2 4) 321 (fun _ => 0), ic (hm_2 5) (km_2 5) 321 (fun _ => 0), ic (hm_2 6) (km_2 6) 321 (fun _ => 0), ic (hm_2 7) (km_2 7) 321 (fun _ => 0)] H := hP
  have hD : va_D A [oc h_this 4 ([.null, .null, .null, .null, .int 0, .null, .int 0, .null, .int 0, .int 0, .int 0, .int 0, .int 0, .int 0, .null, .int 0, .null, .int 0] : List Value), oc q1 5 ([.ref (hm_2 0), .ref (hm_2 1), .ref (hm_2 2), .int 0, .int 0, .int 0, .int 0, .int 0, .int 0, .ref (hm_2 3), .ref (hm_2 4), .ref (hm_2 5), .ref (hm_2 6), .ref (hm_2 7)] : List Value), ic (hm_2 0) (km_2 0) 4096 (fun _ => 0), ic (hm_2 1) (km_2 1) 4096 (fun _ => 0), ic (hm_2 2) (km_2 2) 64 (fun _ => 0), ic (hm_2 3) (km_2 3) 321 (fun _ => 0), ic (hm_2 4) (km_2 4) 321 (fun _ => 0), ic (hm_2 5) (km_2 5) 321 (fun _ => 0), ic (hm_2 6) (km_2 6) 321 (fun _ => 0), ic (hm_2 7) (km_2 7) 321 (fun _ => 0)] := hD
  have hK : va_K (dC, dI) cls_all [((km_2 0), .int), ((km_2 1), .boolean), ((km_2 2), .int), ((km_2 3), .int), ((km_2 4), .int), ((km_2 5), .int), ((km_2 6), .int), ((km_2 7), .int)] s := hK.app hK1
  refine W.widen (k := 9) (n := 9875) (Nat.le_of_ble_eq_true rfl) (Nat.le_of_ble_eq_true rfl) ?_
  refine va_putF (D := (dC, dI)) (ci := 4) (v := .ref q1) (ty := .object "PointerHouse$Memory") (C := R_Machine) (T := F_Machine) (N := 18) hx hb hT i_Machine t_Machine t_Machine_ok n_Machine hown hK hP hD hS 0 rfl rfl 2 (by decide) (hT _ fl_Machine_16) (fun _ h9 => h9) rfl hin rfl (by decide +kernel) rfl rfl (Nat.le_of_ble_eq_true rfl) d_Machine_init_12 (fun H locs hP hD hS => ?_)
  have hP : va_P (dC, dI) cls_all [oc h_this 4 ([.null, .null, .ref q1, .null, .int 0, .null, .int 0, .null, .int 0, .int 0, .int 0, .int 0, .int 0, .int 0, .null, .int 0, .null, .int 0] : List Value), oc q1 5 ([.ref (hm_2 0), .ref (hm_2 1), .ref (hm_2 2), .int 0, .int 0, .int 0, .int 0, .int 0, .int 0, .ref (hm_2 3), .ref (hm_2 4), .ref (hm_2 5), .ref (hm_2 6), .ref (hm_2 7)] : List Value), ic (hm_2 0) (km_2 0) 4096 (fun _ => 0), ic (hm_2 1) (km_2 1) 4096 (fun _ => 0), ic (hm_2 2) (km_2 2) 64 (fun _ => 0), ic (hm_2 3) (km_2 3) 321 (fun _ => 0), ic (hm_2 4) (km_2 4) 321 (fun _ => 0), ic (hm_2 5) (km_2 5) 321 (fun _ => 0), ic (hm_2 6) (km_2 6) 321 (fun _ => 0), ic (hm_2 7) (km_2 7) 321 (fun _ => 0)] H := hP
  have hD : va_D A [oc h_this 4 ([.null, .null, .ref q1, .null, .int 0, .null, .int 0, .null, .int 0, .int 0, .int 0, .int 0, .int 0, .int 0, .null, .int 0, .null, .int 0] : List Value), oc q1 5 ([.ref (hm_2 0), .ref (hm_2 1), .ref (hm_2 2), .int 0, .int 0, .int 0, .int 0, .int 0, .int 0, .ref (hm_2 3), .ref (hm_2 4), .ref (hm_2 5), .ref (hm_2 6), .ref (hm_2 7)] : List Value), ic (hm_2 0) (km_2 0) 4096 (fun _ => 0), ic (hm_2 1) (km_2 1) 4096 (fun _ => 0), ic (hm_2 2) (km_2 2) 64 (fun _ => 0), ic (hm_2 3) (km_2 3) 321 (fun _ => 0), ic (hm_2 4) (km_2 4) 321 (fun _ => 0), ic (hm_2 5) (km_2 5) 321 (fun _ => 0), ic (hm_2 6) (km_2 6) 321 (fun _ => 0), ic (hm_2 7) (km_2 7) 321 (fun _ => 0)] := hD
  refine blk_arr (n := 23200) (N' := 23200) (a0 := (23200, .inl (fun _ => 0))) hx hb hT i_Machine t_Machine t_Machine_ok n_Machine hown hin hK hP hD hS hA rfl (lv_at hl 0 rfl) 3 (by decide) rfl rfl fl_Machine_20 (Nat.le_of_ble_eq_true rfl) ac_int rfl (by decide +kernel) (fun _ => rfl) (by decide +kernel) (by decide +kernel) (by decide +kernel) (Nat.le_of_ble_eq_true rfl) (Nat.le_of_ble_eq_true rfl) d_Machine_init_15 (fun h9 => lv_sipush (v := 23200) hx hb d_Machine_init_16 (by decide) h9) d_Machine_init_19 d_Machine_init_21 (fun q3 k3 H locs hK hP hD hS => ?_)
  have hP : va_P (dC, dI) cls_all [oc h_this 4 ([.null, .null, .ref q1, .ref q3, .int 0, .null, .int 0, .null, .int 0, .int 0, .int 0, .int 0, .int 0, .int 0, .null, .int 0, .null, .int 0] : List Value), oc q1 5 ([.ref (hm_2 0), .ref (hm_2 1), .ref (hm_2 2), .int 0, .int 0, .int 0, .int 0, .int 0, .int 0, .ref (hm_2 3), .ref (hm_2 4), .ref (hm_2 5), .ref (hm_2 6), .ref (hm_2 7)] : List Value), ic (hm_2 0) (km_2 0) 4096 (fun _ => 0), ic (hm_2 1) (km_2 1) 4096 (fun _ => 0), ic (hm_2 2) (km_2 2) 64 (fun _ => 0), ic (hm_2 3) (km_2 3) 321 (fun _ => 0), ic (hm_2 4) (km_2 4) 321 (fun _ => 0), ic (hm_2 5) (km_2 5) 321 (fun _ => 0), ic (hm_2 6) (km_2 6) 321 (fun _ => 0), ic (hm_2 7) (km_2 7) 321 (fun _ => 0), ic q3 k3 23200 (fun _ => 0)] H := hP
  have hD : va_D A [oc h_this 4 ([.null, .null, .ref q1, .ref q3, .int 0, .null, .int 0, .null, .int 0, .int 0, .int 0, .int 0, .int 0, .int 0, .null, .int 0, .null, .int 0] : List Value), oc q1 5 ([.ref (hm_2 0), .ref (hm_2 1), .ref (hm_2 2), .int 0, .int 0, .int 0, .int 0, .int 0, .int 0, .ref (hm_2 3), .ref (hm_2 4), .ref (hm_2 5), .ref (hm_2 6), .ref (hm_2 7)] : List Value), ic (hm_2 0) (km_2 0) 4096 (fun _ => 0), ic (hm_2 1) (km_2 1) 4096 (fun _ => 0), ic (hm_2 2) (km_2 2) 64 (fun _ => 0), ic (hm_2 3) (km_2 3) 321 (fun _ => 0), ic (hm_2 4) (km_2 4) 321 (fun _ => 0), ic (hm_2 5) (km_2 5) 321 (fun _ => 0), ic (hm_2 6) (km_2 6) 321 (fun _ => 0), ic (hm_2 7) (km_2 7) 321 (fun _ => 0), ic q3 k3 23200 (fun _ => 0)] := hD
  have hK : va_K (dC, dI) cls_all [((km_2 0), .int), ((km_2 1), .boolean), ((km_2 2), .int), ((km_2 3), .int), ((km_2 4), .int), ((km_2 5), .int), ((km_2 6), .int), ((km_2 7), .int), (k3, .int)] s := hK
  refine W.widen (k := 10) (n := 33075) (Nat.le_of_ble_eq_true rfl) (Nat.le_of_ble_eq_true rfl) ?_
  refine blk_arr (n := 697) (N' := 697) (a0 := (697, .inl (fun _ => 0))) hx hb hT i_Machine t_Machine t_Machine_ok n_Machine hown hin hK hP hD hS hA rfl (lv_at hl 0 rfl) 5 (by decide) rfl rfl fl_Machine_24 (Nat.le_of_ble_eq_true rfl) ac_int rfl (by decide +kernel) (fun _ => rfl) (by decide +kernel) (by decide +kernel) (by decide +kernel) (Nat.le_of_ble_eq_true rfl) (Nat.le_of_ble_eq_true rfl) d_Machine_init_24 (fun h9 => lv_sipush (v := 697) hx hb d_Machine_init_25 (by decide) h9) d_Machine_init_28 d_Machine_init_30 (fun q4 k4 H locs hK hP hD hS => ?_)
  have hP : va_P (dC, dI) cls_all [oc h_this 4 ([.null, .null, .ref q1, .ref q3, .int 0, .ref q4, .int 0, .null, .int 0, .int 0, .int 0, .int 0, .int 0, .int 0, .null, .int 0, .null, .int 0] : List Value), oc q1 5 ([.ref (hm_2 0), .ref (hm_2 1), .ref (hm_2 2), .int 0, .int 0, .int 0, .int 0, .int 0, .int 0, .ref (hm_2 3), .ref (hm_2 4), .ref (hm_2 5), .ref (hm_2 6), .ref (hm_2 7)] : List Value), ic (hm_2 0) (km_2 0) 4096 (fun _ => 0), ic (hm_2 1) (km_2 1) 4096 (fun _ => 0), ic (hm_2 2) (km_2 2) 64 (fun _ => 0), ic (hm_2 3) (km_2 3) 321 (fun _ => 0), ic (hm_2 4) (km_2 4) 321 (fun _ => 0), ic (hm_2 5) (km_2 5) 321 (fun _ => 0), ic (hm_2 6) (km_2 6) 321 (fun _ => 0), ic (hm_2 7) (km_2 7) 321 (fun _ => 0), ic q3 k3 23200 (fun _ => 0), ic q4 k4 697 (fun _ => 0)] H := hP
  have hD : va_D A [oc h_this 4 ([.null, .null, .ref q1, .ref q3, .int 0, .ref q4, .int 0, .null, .int 0, .int 0, .int 0, .int 0, .int 0, .int 0, .null, .int 0, .null, .int 0] : List Value), oc q1 5 ([.ref (hm_2 0), .ref (hm_2 1), .ref (hm_2 2), .int 0, .int 0, .int 0, .int 0, .int 0, .int 0, .ref (hm_2 3), .ref (hm_2 4), .ref (hm_2 5), .ref (hm_2 6), .ref (hm_2 7)] : List Value), ic (hm_2 0) (km_2 0) 4096 (fun _ => 0), ic (hm_2 1) (km_2 1) 4096 (fun _ => 0), ic (hm_2 2) (km_2 2) 64 (fun _ => 0), ic (hm_2 3) (km_2 3) 321 (fun _ => 0), ic (hm_2 4) (km_2 4) 321 (fun _ => 0), ic (hm_2 5) (km_2 5) 321 (fun _ => 0), ic (hm_2 6) (km_2 6) 321 (fun _ => 0), ic (hm_2 7) (km_2 7) 321 (fun _ => 0), ic q3 k3 23200 (fun _ => 0), ic q4 k4 697 (fun _ => 0)] := hD
  have hK : va_K (dC, dI) cls_all [((km_2 0), .int), ((km_2 1), .boolean), ((km_2 2), .int), ((km_2 3), .int), ((km_2 4), .int), ((km_2 5), .int), ((km_2 6), .int), ((km_2 7), .int), (k3, .int), (k4, .int)] s := hK
  refine W.widen (k := 11) (n := 33772) (Nat.le_of_ble_eq_true rfl) (Nat.le_of_ble_eq_true rfl) ?_
  refine blk_arr (n := 3200) (N' := 3200) (a0 := (3200, .inl (fun _ => 0))) hx hb hT i_Machine t_Machine t_Machine_ok n_Machine hown hin hK hP hD hS hA rfl (lv_at hl 0 rfl) 7 (by decide) rfl rfl fl_Machine_27 (Nat.le_of_ble_eq_true rfl) ac_int rfl (by decide +kernel) (fun _ => rfl) (by decide +kernel) (by decide +kernel) (by decide +kernel) (Nat.le_of_ble_eq_true rfl) (Nat.le_of_ble_eq_true rfl) d_Machine_init_33 (fun h9 => lv_sipush (v := 3200) hx hb d_Machine_init_34 (by decide) h9) d_Machine_init_37 d_Machine_init_39 (fun q5 k5 H locs hK hP hD hS => ?_)
  have hP : va_P (dC, dI) cls_all [oc h_this 4 ([.null, .null, .ref q1, .ref q3, .int 0, .ref q4, .int 0, .ref q5, .int 0, .int 0, .int 0, .int 0, .int 0, .int 0, .null, .int 0, .null, .int 0] : List Value), oc q1 5 ([.ref (hm_2 0), .ref (hm_2 1), .ref (hm_2 2), .int 0, .int 0, .int 0, .int 0, .int 0, .int 0, .ref (hm_2 3), .ref (hm_2 4), .ref (hm_2 5), .ref (hm_2 6), .ref (hm_2 7)] : List Value), ic (hm_2 0) (km_2 0) 4096 (fun _ => 0), ic (hm_2 1) (km_2 1) 4096 (fun _ => 0), ic (hm_2 2) (km_2 2) 64 (fun _ => 0), ic (hm_2 3) (km_2 3) 321 (fun _ => 0), ic (hm_2 4) (km_2 4) 321 (fun _ => 0), ic (hm_2 5) (km_2 5) 321 (fun _ => 0), ic (hm_2 6) (km_2 6) 321 (fun _ => 0), ic (hm_2 7) (km_2 7) 321 (fun _ => 0), ic q3 k3 23200 (fun _ => 0), ic q4 k4 697 (fun _ => 0), ic q5 k5 3200 (fun _ => 0)] H := hP
  have hD : va_D A [oc h_this 4 ([.null, .null, .ref q1, .ref q3, .int 0, .ref q4, .int 0, .ref q5, .int 0, .int 0, .int 0, .int 0, .int 0, .int 0, .null, .int 0, .null, .int 0] : List Value), oc q1 5 ([.ref (hm_2 0), .ref (hm_2 1), .ref (hm_2 2), .int 0, .int 0, .int 0, .int 0, .int 0, .int 0, .ref (hm_2 3), .ref (hm_2 4), .ref (hm_2 5), .ref (hm_2 6), .ref (hm_2 7)] : List Value), ic (hm_2 0) (km_2 0) 4096 (fun _ => 0), ic (hm_2 1) (km_2 1) 4096 (fun _ => 0), ic (hm_2 2) (km_2 2) 64 (fun _ => 0), ic (hm_2 3) (km_2 3) 321 (fun _ => 0), ic (hm_2 4) (km_2 4) 321 (fun _ => 0), ic (hm_2 5) (km_2 5) 321 (fun _ => 0), ic (hm_2 6) (km_2 6) 321 (fun _ => 0), ic (hm_2 7) (km_2 7) 321 (fun _ => 0), ic q3 k3 23200 (fun _ => 0), ic q4 k4 697 (fun _ => 0), ic q5 k5 3200 (fun _ => 0)] := hD
  have hK : va_K (dC, dI) cls_all [((km_2 0), .int), ((km_2 1), .boolean), ((km_2 2), .int), ((km_2 3), .int), ((km_2 4), .int), ((km_2 5), .int), ((km_2 6), .int), ((km_2 7), .int), (k3, .int), (k4, .int), (k5, .int)] s := hK
  refine W.widen (k := 12) (n := 36972) (Nat.le_of_ble_eq_true rfl) (Nat.le_of_ble_eq_true rfl) ?_
  refine blk_arr (n := 100) (N' := 100) (a0 := (100, .inl (fun _ => 0))) hx hb hT i_Machine t_Machine t_Machine_ok n_Machine hown hin hK hP hD hS hA rfl (lv_at hl 0 rfl) 14 (by decide) rfl rfl fl_Machine_30 (Nat.le_of_ble_eq_true rfl) ac_int rfl (by decide +kernel) (fun _ => rfl) (by decide +kernel) (by decide +kernel) (by decide +kernel) (Nat.le_of_ble_eq_true rfl) (Nat.le_of_ble_eq_true rfl) d_Machine_init_42 (fun h9 => lv_bipush (v := 100) hx hb d_Machine_init_43 (by decide) h9) d_Machine_init_45 d_Machine_init_47 (fun q6 k6 H locs hK hP hD hS => ?_)
  have hP : va_P (dC, dI) cls_all [oc h_this 4 ([.null, .null, .ref q1, .ref q3, .int 0, .ref q4, .int 0, .ref q5, .int 0, .int 0, .int 0, .int 0, .int 0, .int 0, .ref q6, .int 0, .null, .int 0] : List Value), oc q1 5 ([.ref (hm_2 0), .ref (hm_2 1), .ref (hm_2 2), .int 0, .int 0, .int 0, .int 0, .int 0, .int 0, .ref (hm_2 3), .ref (hm_2 4), .ref (hm_2 5), .ref (hm_2 6), .ref (hm_2 7)] : List Value), ic (hm_2 0) (km_2 0) 4096 (fun _ => 0), ic (hm_2 1) (km_2 1) 4096 (fun _ => 0), ic (hm_2 2) (km_2 2) 64 (fun _ => 0), ic (hm_2 3) (km_2 3) 321 (fun _ => 0), ic (hm_2 4) (km_2 4) 321 (fun _ => 0), ic (hm_2 5) (km_2 5) 321 (fun _ => 0), ic (hm_2 6) (km_2 6) 321 (fun _ => 0), ic (hm_2 7) (km_2 7) 321 (fun _ => 0), ic q3 k3 23200 (fun _ => 0), ic q4 k4 697 (fun _ => 0), ic q5 k5 3200 (fun _ => 0), ic q6 k6 100 (fun _ => 0)] H := hP
  have hD : va_D A [oc h_this 4 ([.null, .null, .ref q1, .ref q3, .int 0, .ref q4, .int 0, .ref q5, .int 0, .int 0, .int 0, .int 0, .int 0, .int 0, .ref q6, .int 0, .null, .int 0] : List Value), oc q1 5 ([.ref (hm_2 0), .ref (hm_2 1), .ref (hm_2 2), .int 0, .int 0, .int 0, .int 0, .int 0, .int 0, .ref (hm_2 3), .ref (hm_2 4), .ref (hm_2 5), .ref (hm_2 6), .ref (hm_2 7)] : List Value), ic (hm_2 0) (km_2 0) 4096 (fun _ => 0), ic (hm_2 1) (km_2 1) 4096 (fun _ => 0), ic (hm_2 2) (km_2 2) 64 (fun _ => 0), ic (hm_2 3) (km_2 3) 321 (fun _ => 0), ic (hm_2 4) (km_2 4) 321 (fun _ => 0), ic (hm_2 5) (km_2 5) 321 (fun _ => 0), ic (hm_2 6) (km_2 6) 321 (fun _ => 0), ic (hm_2 7) (km_2 7) 321 (fun _ => 0), ic q3 k3 23200 (fun _ => 0), ic q4 k4 697 (fun _ => 0), ic q5 k5 3200 (fun _ => 0), ic q6 k6 100 (fun _ => 0)] := hD
  have hK : va_K (dC, dI) cls_all [((km_2 0), .int), ((km_2 1), .boolean), ((km_2 2), .int), ((km_2 3), .int), ((km_2 4), .int), ((km_2 5), .int), ((km_2 6), .int), ((km_2 7), .int), (k3, .int), (k4, .int), (k5, .int), (k6, .int)] s := hK
  refine W.widen (k := 13) (n := 37072) (Nat.le_of_ble_eq_true rfl) (Nat.le_of_ble_eq_true rfl) ?_
  refine blk_arr (n := 300) (N' := 300) (a0 := (300, .inl (fun _ => 0))) hx hb hT i_Machine t_Machine t_Machine_ok n_Machine hown hin hK hP hD hS hA rfl (lv_at hl 0 rfl) 16 (by decide) rfl rfl fl_Machine_33 (Nat.le_of_ble_eq_true rfl) ac_int rfl (by decide +kernel) (fun _ => rfl) (by decide +kernel) (by decide +kernel) (by decide +kernel) (Nat.le_of_ble_eq_true rfl) (Nat.le_of_ble_eq_true rfl) d_Machine_init_50 (fun h9 => lv_sipush (v := 300) hx hb d_Machine_init_51 (by decide) h9) d_Machine_init_54 d_Machine_init_56 (fun q7 k7 H locs hK hP hD hS => ?_)
  have hP : va_P (dC, dI) cls_all [oc h_this 4 ([.null, .null, .ref q1, .ref q3, .int 0, .ref q4, .int 0, .ref q5, .int 0, .int 0, .int 0, .int 0, .int 0, .int 0, .ref q6, .int 0, .ref q7, .int 0] : List Value), oc q1 5 ([.ref (hm_2 0), .ref (hm_2 1), .ref (hm_2 2), .int 0, .int 0, .int 0, .int 0, .int 0, .int 0, .ref (hm_2 3), .ref (hm_2 4), .ref (hm_2 5), .ref (hm_2 6), .ref (hm_2 7)] : List Value), ic (hm_2 0) (km_2 0) 4096 (fun _ => 0), ic (hm_2 1) (km_2 1) 4096 (fun _ => 0), ic (hm_2 2) (km_2 2) 64 (fun _ => 0), ic (hm_2 3) (km_2 3) 321 (fun _ => 0), ic (hm_2 4) (km_2 4) 321 (fun _ => 0), ic (hm_2 5) (km_2 5) 321 (fun _ => 0), ic (hm_2 6) (km_2 6) 321 (fun _ => 0), ic (hm_2 7) (km_2 7) 321 (fun _ => 0), ic q3 k3 23200 (fun _ => 0), ic q4 k4 697 (fun _ => 0), ic q5 k5 3200 (fun _ => 0), ic q6 k6 100 (fun _ => 0), ic q7 k7 300 (fun _ => 0)] H := hP
  have hD : va_D A [oc h_this 4 ([.null, .null, .ref q1, .ref q3, .int 0, .ref q4, .int 0, .ref q5, .int 0, .int 0, .int 0, .int 0, .int 0, .int 0, .ref q6, .int 0, .ref q7, .int 0] : List Value), oc q1 5 ([.ref (hm_2 0), .ref (hm_2 1), .ref (hm_2 2), .int 0, .int 0, .int 0, .int 0, .int 0, .int 0, .ref (hm_2 3), .ref (hm_2 4), .ref (hm_2 5), .ref (hm_2 6), .ref (hm_2 7)] : List Value), ic (hm_2 0) (km_2 0) 4096 (fun _ => 0), ic (hm_2 1) (km_2 1) 4096 (fun _ => 0), ic (hm_2 2) (km_2 2) 64 (fun _ => 0), ic (hm_2 3) (km_2 3) 321 (fun _ => 0), ic (hm_2 4) (km_2 4) 321 (fun _ => 0), ic (hm_2 5) (km_2 5) 321 (fun _ => 0), ic (hm_2 6) (km_2 6) 321 (fun _ => 0), ic (hm_2 7) (km_2 7) 321 (fun _ => 0), ic q3 k3 23200 (fun _ => 0), ic q4 k4 697 (fun _ => 0), ic q5 k5 3200 (fun _ => 0), ic q6 k6 100 (fun _ => 0), ic q7 k7 300 (fun _ => 0)] := hD
  have hK : va_K (dC, dI) cls_all [((km_2 0), .int), ((km_2 1), .boolean), ((km_2 2), .int), ((km_2 3), .int), ((km_2 4), .int), ((km_2 5), .int), ((km_2 6), .int), ((km_2 7), .int), (k3, .int), (k4, .int), (k5, .int), (k6, .int), (k7, .int)] s := hK
  refine W.widen (k := 14) (n := 37372) (Nat.le_of_ble_eq_true rfl) (Nat.le_of_ble_eq_true rfl) ?_
  refine lv_aload_n hx hb d_Machine_init_59 rfl (lv_at hl 0 rfl) ?_
  refine lv_aload_n hx hb d_Machine_init_60 rfl (lv_at hl 1 rfl) ?_
  refine va_putF (D := (dC, dI)) (ci := 4) (v := .ref p1) (ty := .object "PointerHouse$Code") (C := R_Machine) (T := F_Machine) (N := 18) hx hb hT i_Machine t_Machine t_Machine_ok n_Machine hown hK hP hD hS 0 rfl rfl 0 (by decide) (hT _ fl_Machine_36) (fun _ h9 => h9) rfl hin rfl (by decide +kernel) rfl rfl (Nat.le_of_ble_eq_true rfl) d_Machine_init_61 (fun H locs hP hD hS => ?_)
  have hP : va_P (dC, dI) cls_all [oc h_this 4 ([.ref p1, .null, .ref q1, .ref q3, .int 0, .ref q4, .int 0, .ref q5, .int 0, .int 0, .int 0, .int 0, .int 0, .int 0, .ref q6, .int 0, .ref q7, .int 0] : List Value), oc q1 5 ([.ref (hm_2 0), .ref (hm_2 1), .ref (hm_2 2), .int 0, .int 0, .int 0, .int 0, .int 0, .int 0, .ref (hm_2 3), .ref (hm_2 4), .ref (hm_2 5), .ref (hm_2 6), .ref (hm_2 7)] : List Value), ic (hm_2 0) (km_2 0) 4096 (fun _ => 0), ic (hm_2 1) (km_2 1) 4096 (fun _ => 0), ic (hm_2 2) (km_2 2) 64 (fun _ => 0), ic (hm_2 3) (km_2 3) 321 (fun _ => 0), ic (hm_2 4) (km_2 4) 321 (fun _ => 0), ic (hm_2 5) (km_2 5) 321 (fun _ => 0), ic (hm_2 6) (km_2 6) 321 (fun _ => 0), ic (hm_2 7) (km_2 7) 321 (fun _ => 0), ic q3 k3 23200 (fun _ => 0), ic q4 k4 697 (fun _ => 0), ic q5 k5 3200 (fun _ => 0), ic q6 k6 100 (fun _ => 0), ic q7 k7 300 (fun _ => 0)] H := hP
  have hD : va_D A [oc h_this 4 ([.ref p1, .null, .ref q1, .ref q3, .int 0, .ref q4, .int 0, .ref q5, .int 0, .int 0, .int 0, .int 0, .int 0, .int 0, .ref q6, .int 0, .ref q7, .int 0] : List Value), oc q1 5 ([.ref (hm_2 0), .ref (hm_2 1), .ref (hm_2 2), .int 0, .int 0, .int 0, .int 0, .int 0, .int 0, .ref (hm_2 3), .ref (hm_2 4), .ref (hm_2 5), .ref (hm_2 6), .ref (hm_2 7)] : List Value), ic (hm_2 0) (km_2 0) 4096 (fun _ => 0), ic (hm_2 1) (km_2 1) 4096 (fun _ => 0), ic (hm_2 2) (km_2 2) 64 (fun _ => 0), ic (hm_2 3) (km_2 3) 321 (fun _ => 0), ic (hm_2 4) (km_2 4) 321 (fun _ => 0), ic (hm_2 5) (km_2 5) 321 (fun _ => 0), ic (hm_2 6) (km_2 6) 321 (fun _ => 0), ic (hm_2 7) (km_2 7) 321 (fun _ => 0), ic q3 k3 23200 (fun _ => 0), ic q4 k4 697 (fun _ => 0), ic q5 k5 3200 (fun _ => 0), ic q6 k6 100 (fun _ => 0), ic q7 k7 300 (fun _ => 0)] := hD
  refine lv_aload_n hx hb d_Machine_init_64 rfl (lv_at hl 0 rfl) ?_
  refine lv_aload_n hx hb d_Machine_init_65 rfl (lv_at hl 2 rfl) ?_
  refine va_putF (D := (dC, dI)) (ci := 4) (v := .ref p2) (ty := .object "PointerHouse$Items") (C := R_Machine) (T := F_Machine) (N := 18) hx hb hT i_Machine t_Machine t_Machine_ok n_Machine hown hK hP hD hS 0 rfl rfl 1 (by decide) (hT _ fl_Machine_40) (fun _ h9 => h9) rfl hin rfl (by decide +kernel) rfl rfl (Nat.le_of_ble_eq_true rfl) d_Machine_init_66 (fun H locs hP hD hS => ?_)
  have hP : va_P (dC, dI) cls_all [oc h_this 4 ([.ref p1, .ref p2, .ref q1, .ref q3, .int 0, .ref q4, .int 0, .ref q5, .int 0, .int 0, .int 0, .int 0, .int 0, .int 0, .ref q6, .int 0, .ref q7, .int 0] : List Value), oc q1 5 ([.ref (hm_2 0), .ref (hm_2 1), .ref (hm_2 2), .int 0, .int 0, .int 0, .int 0, .int 0, .int 0, .ref (hm_2 3), .ref (hm_2 4), .ref (hm_2 5), .ref (hm_2 6), .ref (hm_2 7)] : List Value), ic (hm_2 0) (km_2 0) 4096 (fun _ => 0), ic (hm_2 1) (km_2 1) 4096 (fun _ => 0), ic (hm_2 2) (km_2 2) 64 (fun _ => 0), ic (hm_2 3) (km_2 3) 321 (fun _ => 0), ic (hm_2 4) (km_2 4) 321 (fun _ => 0), ic (hm_2 5) (km_2 5) 321 (fun _ => 0), ic (hm_2 6) (km_2 6) 321 (fun _ => 0), ic (hm_2 7) (km_2 7) 321 (fun _ => 0), ic q3 k3 23200 (fun _ => 0), ic q4 k4 697 (fun _ => 0), ic q5 k5 3200 (fun _ => 0), ic q6 k6 100 (fun _ => 0), ic q7 k7 300 (fun _ => 0)] H := hP
  have hD : va_D A [oc h_this 4 ([.ref p1, .ref p2, .ref q1, .ref q3, .int 0, .ref q4, .int 0, .ref q5, .int 0, .int 0, .int 0, .int 0, .int 0, .int 0, .ref q6, .int 0, .ref q7, .int 0] : List Value), oc q1 5 ([.ref (hm_2 0), .ref (hm_2 1), .ref (hm_2 2), .int 0, .int 0, .int 0, .int 0, .int 0, .int 0, .ref (hm_2 3), .ref (hm_2 4), .ref (hm_2 5), .ref (hm_2 6), .ref (hm_2 7)] : List Value), ic (hm_2 0) (km_2 0) 4096 (fun _ => 0), ic (hm_2 1) (km_2 1) 4096 (fun _ => 0), ic (hm_2 2) (km_2 2) 64 (fun _ => 0), ic (hm_2 3) (km_2 3) 321 (fun _ => 0), ic (hm_2 4) (km_2 4) 321 (fun _ => 0), ic (hm_2 5) (km_2 5) 321 (fun _ => 0), ic (hm_2 6) (km_2 6) 321 (fun _ => 0), ic (hm_2 7) (km_2 7) 321 (fun _ => 0), ic q3 k3 23200 (fun _ => 0), ic q4 k4 697 (fun _ => 0), ic q5 k5 3200 (fun _ => 0), ic q6 k6 100 (fun _ => 0), ic q7 k7 300 (fun _ => 0)] := hD
  have hP9 := hP.sub (ws' := [oc h_this 4 ([.ref p1, .ref p2, .ref q1, .ref q3, .int 0, .ref q4, .int 0, .ref q5, .int 0, .int 0, .int 0, .int 0, .int 0, .int 0, .ref q6, .int 0, .ref q7, .int 0] : List Value), ic q3 k3 23200 (fun _ => 0), ic q4 k4 697 (fun _ => 0), ic q5 k5 3200 (fun _ => 0), ic q6 k6 100 (fun _ => 0), ic q7 k7 300 (fun _ => 0), oc q1 5 ([.ref (hm_2 0), .ref (hm_2 1), .ref (hm_2 2), .int 0, .int 0, .int 0, .int 0, .int 0, .int 0, .ref (hm_2 3), .ref (hm_2 4), .ref (hm_2 5), .ref (hm_2 6), .ref (hm_2 7)] : List Value), ic (hm_2 0) (km_2 0) 4096 (fun _ => 0), ic (hm_2 1) (km_2 1) 4096 (fun _ => 0), ic (hm_2 2) (km_2 2) 64 (fun _ => 0), ic (hm_2 3) (km_2 3) 321 (fun _ => 0), ic (hm_2 4) (km_2 4) 321 (fun _ => 0), ic (hm_2 5) (km_2 5) 321 (fun _ => 0), ic (hm_2 6) (km_2 6) 321 (fun _ => 0), ic (hm_2 7) (km_2 7) 321 (fun _ => 0)]) [0, 10, 11, 12, 13, 14, 1, 2, 3, 4, 5, 6, 7, 8, 9] rfl
  have hD9 := hD.sub (ws' := [oc h_this 4 ([.ref p1, .ref p2, .ref q1, .ref q3, .int 0, .ref q4, .int 0, .ref q5, .int 0, .int 0, .int 0, .int 0, .int 0, .int 0, .ref q6, .int 0, .ref q7, .int 0] : List Value), ic q3 k3 23200 (fun _ => 0), ic q4 k4 697 (fun _ => 0), ic q5 k5 3200 (fun _ => 0), ic q6 k6 100 (fun _ => 0), ic q7 k7 300 (fun _ => 0), oc q1 5 ([.ref (hm_2 0), .ref (hm_2 1), .ref (hm_2 2), .int 0, .int 0, .int 0, .int 0, .int 0, .int 0, .ref (hm_2 3), .ref (hm_2 4), .ref (hm_2 5), .ref (hm_2 6), .ref (hm_2 7)] : List Value), ic (hm_2 0) (km_2 0) 4096 (fun _ => 0), ic (hm_2 1) (km_2 1) 4096 (fun _ => 0), ic (hm_2 2) (km_2 2) 64 (fun _ => 0), ic (hm_2 3) (km_2 3) 321 (fun _ => 0), ic (hm_2 4) (km_2 4) 321 (fun _ => 0), ic (hm_2 5) (km_2 5) 321 (fun _ => 0), ic (hm_2 6) (km_2 6) 321 (fun _ => 0), ic (hm_2 7) (km_2 7) 321 (fun _ => 0)]) [0, 10, 11, 12, 13, 14, 1, 2, 3, 4, 5, 6, 7, 8, 9] (by decide) rfl
  have hK9 := hK.sub (tys' := [(k3, .int), (k4, .int), (k5, .int), (k6, .int), (k7, .int), ((km_2 0), .int), ((km_2 1), .boolean), ((km_2 2), .int), ((km_2 3), .int), ((km_2 4), .int), ((km_2 5), .int), ((km_2 6), .int), ((km_2 7), .int)]) [8, 9, 10, 11, 12, 0, 1, 2, 3, 4, 5, 6, 7] rfl
  have hv8 : ([.ref p1, .ref p2, .ref q1, .ref q3, .int 0, .ref q4, .int 0, .ref q5, .int 0, .int 0, .int 0, .int 0, .int 0, .int 0, .ref q6, .int 0, .ref q7, .int 0] : List Value)[0]? = some (.ref p1) := rfl
  have hv9 : ([.ref p1, .ref p2, .ref q1, .ref q3, .int 0, .ref q4, .int 0, .ref q5, .int 0, .int 0, .int 0, .int 0, .int 0, .int 0, .ref q6, .int 0, .ref q7, .int 0] : List Value)[1]? = some (.ref p2) := rfl
  have hv10 : ([.ref p1, .ref p2, .ref q1, .ref q3, .int 0, .ref q4, .int 0, .ref q5, .int 0, .int 0, .int 0, .int 0, .int 0, .int 0, .ref q6, .int 0, .ref q7, .int 0] : List Value)[3]? = some (.ref q3) := rfl
  have hv11 : ([.ref p1, .ref p2, .ref q1, .ref q3, .int 0, .ref q4, .int 0, .ref q5, .int 0, .int 0, .int 0, .int 0, .int 0, .int 0, .ref q6, .int 0, .ref q7, .int 0] : List Value)[4]? = some (.int 0) := rfl
  have hv12 : ([.ref p1, .ref p2, .ref q1, .ref q3, .int 0, .ref q4, .int 0, .ref q5, .int 0, .int 0, .int 0, .int 0, .int 0, .int 0, .ref q6, .int 0, .ref q7, .int 0] : List Value)[5]? = some (.ref q4) := rfl
  have hv13 : ([.ref p1, .ref p2, .ref q1, .ref q3, .int 0, .ref q4, .int 0, .ref q5, .int 0, .int 0, .int 0, .int 0, .int 0, .int 0, .ref q6, .int 0, .ref q7, .int 0] : List Value)[6]? = some (.int 0) := rfl
  have hv14 : ([.ref p1, .ref p2, .ref q1, .ref q3, .int 0, .ref q4, .int 0, .ref q5, .int 0, .int 0, .int 0, .int 0, .int 0, .int 0, .ref q6, .int 0, .ref q7, .int 0] : List Value)[7]? = some (.ref q5) := rfl
  have hv15 : ([.ref p1, .ref p2, .ref q1, .ref q3, .int 0, .ref q4, .int 0, .ref q5, .int 0, .int 0, .int 0, .int 0, .int 0, .int 0, .ref q6, .int 0, .ref q7, .int 0] : List Value)[8]? = some (.int 0) := rfl
  have hv16 : ([.ref p1, .ref p2, .ref q1, .ref q3, .int 0, .ref q4, .int 0, .ref q5, .int 0, .int 0, .int 0, .int 0, .int 0, .int 0, .ref q6, .int 0, .ref q7, .int 0] : List Value)[9]? = some (.int 0) := rfl
  have hv17 : ([.ref p1, .ref p2, .ref q1, .ref q3, .int 0, .ref q4, .int 0, .ref q5, .int 0, .int 0, .int 0, .int 0, .int 0, .int 0, .ref q6, .int 0, .ref q7, .int 0] : List Value)[10]? = some (.int 0) := rfl
  have hv18 : ([.ref p1, .ref p2, .ref q1, .ref q3, .int 0, .ref q4, .int 0, .ref q5, .int 0, .int 0, .int 0, .int 0, .int 0, .int 0, .ref q6, .int 0, .ref q7, .int 0] : List Value)[11]? = some (.int 0) := rfl
  have hv19 : ([.ref p1, .ref p2, .ref q1, .ref q3, .int 0, .ref q4, .int 0, .ref q5, .int 0, .int 0, .int 0, .int 0, .int 0, .int 0, .ref q6, .int 0, .ref q7, .int 0] : List Value)[12]? = some (.int 0) := rfl
  have hv20 : ([.ref p1, .ref p2, .ref q1, .ref q3, .int 0, .ref q4, .int 0, .ref q5, .int 0, .int 0, .int 0, .int 0, .int 0, .int 0, .ref q6, .int 0, .ref q7, .int 0] : List Value)[13]? = some (.int 0) := rfl
  have hv21 : ([.ref p1, .ref p2, .ref q1, .ref q3, .int 0, .ref q4, .int 0, .ref q5, .int 0, .int 0, .int 0, .int 0, .int 0, .int 0, .ref q6, .int 0, .ref q7, .int 0] : List Value)[14]? = some (.ref q6) := rfl
  have hv22 : ([.ref p1, .ref p2, .ref q1, .ref q3, .int 0, .ref q4, .int 0, .ref q5, .int 0, .int 0, .int 0, .int 0, .int 0, .int 0, .ref q6, .int 0, .ref q7, .int 0] : List Value)[15]? = some (.int 0) := rfl
  have hv23 : ([.ref p1, .ref p2, .ref q1, .ref q3, .int 0, .ref q4, .int 0, .ref q5, .int 0, .int 0, .int 0, .int 0, .int 0, .int 0, .ref q6, .int 0, .ref q7, .int 0] : List Value)[16]? = some (.ref q7) := rfl
  have hv24 : ([.ref p1, .ref p2, .ref q1, .ref q3, .int 0, .ref q4, .int 0, .ref q5, .int 0, .int 0, .int 0, .int 0, .int 0, .int 0, .ref q6, .int 0, .ref q7, .int 0] : List Value)[17]? = some (.int 0) := rfl
  have hv25 : ([.ref p1, .ref p2, .ref q1, .ref q3, .int 0, .ref q4, .int 0, .ref q5, .int 0, .int 0, .int 0, .int 0, .int 0, .int 0, .ref q6, .int 0, .ref q7, .int 0] : List Value)[2]? = some (.ref q1) := rfl
  have hv26 : ([.ref (hm_2 0), .ref (hm_2 1), .ref (hm_2 2), .int 0, .int 0, .int 0, .int 0, .int 0, .int 0, .ref (hm_2 3), .ref (hm_2 4), .ref (hm_2 5), .ref (hm_2 6), .ref (hm_2 7)] : List Value)[0]? = some (.ref (hm_2 0)) := rfl
  have hv27 : ([.ref (hm_2 0), .ref (hm_2 1), .ref (hm_2 2), .int 0, .int 0, .int 0, .int 0, .int 0, .int 0, .ref (hm_2 3), .ref (hm_2 4), .ref (hm_2 5), .ref (hm_2 6), .ref (hm_2 7)] : List Value)[1]? = some (.ref (hm_2 1)) := rfl
  have hv28 : ([.ref (hm_2 0), .ref (hm_2 1), .ref (hm_2 2), .int 0, .int 0, .int 0, .int 0, .int 0, .int 0, .ref (hm_2 3), .ref (hm_2 4), .ref (hm_2 5), .ref (hm_2 6), .ref (hm_2 7)] : List Value)[2]? = some (.ref (hm_2 2)) := rfl
  have hv29 : ([.ref (hm_2 0), .ref (hm_2 1), .ref (hm_2 2), .int 0, .int 0, .int 0, .int 0, .int 0, .int 0, .ref (hm_2 3), .ref (hm_2 4), .ref (hm_2 5), .ref (hm_2 6), .ref (hm_2 7)] : List Value)[3]? = some (.int 0) := rfl
  have hv30 : ([.ref (hm_2 0), .ref (hm_2 1), .ref (hm_2 2), .int 0, .int 0, .int 0, .int 0, .int 0, .int 0, .ref (hm_2 3), .ref (hm_2 4), .ref (hm_2 5), .ref (hm_2 6), .ref (hm_2 7)] : List Value)[4]? = some (.int 0) := rfl
  have hv31 : ([.ref (hm_2 0), .ref (hm_2 1), .ref (hm_2 2), .int 0, .int 0, .int 0, .int 0, .int 0, .int 0, .ref (hm_2 3), .ref (hm_2 4), .ref (hm_2 5), .ref (hm_2 6), .ref (hm_2 7)] : List Value)[5]? = some (.int 0) := rfl
  have hv32 : ([.ref (hm_2 0), .ref (hm_2 1), .ref (hm_2 2), .int 0, .int 0, .int 0, .int 0, .int 0, .int 0, .ref (hm_2 3), .ref (hm_2 4), .ref (hm_2 5), .ref (hm_2 6), .ref (hm_2 7)] : List Value)[6]? = some (.int 0) := rfl
  have hv33 : ([.ref (hm_2 0), .ref (hm_2 1), .ref (hm_2 2), .int 0, .int 0, .int 0, .int 0, .int 0, .int 0, .ref (hm_2 3), .ref (hm_2 4), .ref (hm_2 5), .ref (hm_2 6), .ref (hm_2 7)] : List Value)[7]? = some (.int 0) := rfl
  have hv34 : ([.ref (hm_2 0), .ref (hm_2 1), .ref (hm_2 2), .int 0, .int 0, .int 0, .int 0, .int 0, .int 0, .ref (hm_2 3), .ref (hm_2 4), .ref (hm_2 5), .ref (hm_2 6), .ref (hm_2 7)] : List Value)[8]? = some (.int 0) := rfl
  have hv35 : ([.ref (hm_2 0), .ref (hm_2 1), .ref (hm_2 2), .int 0, .int 0, .int 0, .int 0, .int 0, .int 0, .ref (hm_2 3), .ref (hm_2 4), .ref (hm_2 5), .ref (hm_2 6), .ref (hm_2 7)] : List Value)[9]? = some (.ref (hm_2 3)) := rfl
  have hv36 : ([.ref (hm_2 0), .ref (hm_2 1), .ref (hm_2 2), .int 0, .int 0, .int 0, .int 0, .int 0, .int 0, .ref (hm_2 3), .ref (hm_2 4), .ref (hm_2 5), .ref (hm_2 6), .ref (hm_2 7)] : List Value)[10]? = some (.ref (hm_2 4)) := rfl
  have hv37 : ([.ref (hm_2 0), .ref (hm_2 1), .ref (hm_2 2), .int 0, .int 0, .int 0, .int 0, .int 0, .int 0, .ref (hm_2 3), .ref (hm_2 4), .ref (hm_2 5), .ref (hm_2 6), .ref (hm_2 7)] : List Value)[11]? = some (.ref (hm_2 5)) := rfl
  have hv38 : ([.ref (hm_2 0), .ref (hm_2 1), .ref (hm_2 2), .int 0, .int 0, .int 0, .int 0, .int 0, .int 0, .ref (hm_2 3), .ref (hm_2 4), .ref (hm_2 5), .ref (hm_2 6), .ref (hm_2 7)] : List Value)[12]? = some (.ref (hm_2 6)) := rfl
  have hv39 : ([.ref (hm_2 0), .ref (hm_2 1), .ref (hm_2 2), .int 0, .int 0, .int 0, .int 0, .int 0, .int 0, .ref (hm_2 3), .ref (hm_2 4), .ref (hm_2 5), .ref (hm_2 6), .ref (hm_2 7)] : List Value)[13]? = some (.ref (hm_2 7)) := rfl
  refine W.widen (k := 14) (n := 37372) (Nat.le_of_ble_eq_true rfl) (Nat.le_of_ble_eq_true rfl) ?_
  exact W.vret hx hb hr (fun t ht hW => ⟨⟨(), rfl, trivial, (fun i => [q3, q4, q5, q6, q7, q1, (hm_2 0), (hm_2 1), (hm_2 2), (hm_2 3), (hm_2 4), (hm_2 5), (hm_2 6), (hm_2 7)].getD i 0), (fun i => [k3, k4, k5, k6, k7, 0, (km_2 0), (km_2 1), (km_2 2), (km_2 3), (km_2 4), (km_2 5), (km_2 6), (km_2 7)].getD i 0), trivial, by rw [ht]; exact hP9, va_K.moved hW.alike hK9, hD9⟩, hS.F ht⟩) hS.2.2 d_Machine_init_69
