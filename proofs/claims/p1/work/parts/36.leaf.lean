abbrev b_Machine_halt : ByteArray := prog_6_method_2_code
abbrev y_Machine_halt : MethodName := ⟨R_Machine, "halt", "()V"⟩
theorem co_Machine_halt : Cond.code y_Machine_halt b_Machine_halt 1 none ∈ lw_good := lg_in (tin_4 _ (List.mem_of_getElem? (i := 31) rfl)) rfl
abbrev w_Machine_halt : List Cond := Cond.code y_Machine_halt b_Machine_halt 1 none :: lw_good
theorem im_Machine_halt : Cond.instanceMethod y_Machine_halt ∈ lw_good := lg_right (i := 749) (by decide +kernel) rfl
theorem se_Machine_halt : Cond.selects R_Machine y_Machine_halt y_Machine_halt ∈ lw_good := lg_right (i := 750) (by decide +kernel) rfl
theorem d_Machine_halt_0 : decode b_Machine_halt 0 = .ok (.aload_n 0, 1) := by decide +kernel
theorem d_Machine_halt_1 : decode b_Machine_halt 1 = .ok (.iconst 0, 1) := by decide +kernel
theorem d_Machine_halt_2 : decode b_Machine_halt 2 = .ok (.putfield 44, 3) := by decide +kernel
theorem d_Machine_halt_5 : decode b_Machine_halt 5 = .ok (.return_, 1) := by decide +kernel
abbrev b_Source_kindAt : ByteArray := prog_10_method_14_code
abbrev y_Source_kindAt : MethodName := ⟨R_Source, "kindAt", "(I)I"⟩
theorem co_Source_kindAt : Cond.code y_Source_kindAt b_Source_kindAt 2 (some .int) ∈ lw_good := lg_in (tin_4 _ (List.mem_of_getElem? (i := 150) rfl)) rfl
abbrev w_Source_kindAt : List Cond := Cond.code y_Source_kindAt b_Source_kindAt 2 (some .int) :: lw_good
theorem im_Source_kindAt : Cond.instanceMethod y_Source_kindAt ∈ lw_good := lg_right (i := 868) (by decide +kernel) rfl
theorem se_Source_kindAt : Cond.selects R_Source y_Source_kindAt y_Source_kindAt ∈ lw_good := lg_right (i := 869) (by decide +kernel) rfl
theorem d_Source_kindAt_0 : decode b_Source_kindAt 0 = .ok (.iload_n 1, 1) := by decide +kernel
theorem d_Source_kindAt_1 : decode b_Source_kindAt 1 = .ok (.ifCond .lt 11, 3) := by decide +kernel
theorem d_Source_kindAt_4 : decode b_Source_kindAt 4 = .ok (.iload_n 1, 1) := by decide +kernel
theorem d_Source_kindAt_5 : decode b_Source_kindAt 5 = .ok (.aload_n 0, 1) := by decide +kernel
theorem d_Source_kindAt_6 : decode b_Source_kindAt 6 = .ok (.getfield 86, 3) := by decide +kernel
theorem fl_Source_86 : Cond.fieldLink R_Source 86 "PointerHouse$Source" "tokens" "I" ∈ lw_good := lg_right (i := 228) (by decide +kernel) rfl
theorem d_Source_kindAt_9 : decode b_Source_kindAt 9 = .ok (.if_icmp .lt 7, 3) := by decide +kernel
theorem d_Source_kindAt_12 : decode b_Source_kindAt 12 = .ok (.iconst 0, 1) := by decide +kernel
theorem d_Source_kindAt_13 : decode b_Source_kindAt 13 = .ok (.goto 9, 3) := by decide +kernel
theorem d_Source_kindAt_16 : decode b_Source_kindAt 16 = .ok (.aload_n 0, 1) := by decide +kernel
theorem d_Source_kindAt_17 : decode b_Source_kindAt 17 = .ok (.getfield 36, 3) := by decide +kernel
theorem fl_Source_36 : Cond.fieldLink R_Source 36 "PointerHouse$Source" "tokenKind" "[I" ∈ lw_good := lg_right (i := 225) (by decide +kernel) rfl
theorem d_Source_kindAt_20 : decode b_Source_kindAt 20 = .ok (.iload_n 1, 1) := by decide +kernel
theorem d_Source_kindAt_21 : decode b_Source_kindAt 21 = .ok (.iaload, 1) := by decide +kernel
theorem d_Source_kindAt_22 : decode b_Source_kindAt 22 = .ok (.ireturn, 1) := by decide +kernel
abbrev b_Source_startOf : ByteArray := prog_10_method_15_code
abbrev y_Source_startOf : MethodName := ⟨R_Source, "startOf", "(I)I"⟩
theorem co_Source_startOf : Cond.code y_Source_startOf b_Source_startOf 2 (some .int) ∈ lw_good := lg_in (tin_4 _ (List.mem_of_getElem? (i := 162) rfl)) rfl
abbrev w_Source_startOf : List Cond := Cond.code y_Source_startOf b_Source_startOf 2 (some .int) :: lw_good
theorem im_Source_startOf : Cond.instanceMethod y_Source_startOf ∈ lw_good := lg_right (i := 880) (by decide +kernel) rfl
theorem se_Source_startOf : Cond.selects R_Source y_Source_startOf y_Source_startOf ∈ lw_good := lg_right (i := 881) (by decide +kernel) rfl
theorem d_Source_startOf_0 : decode b_Source_startOf 0 = .ok (.iload_n 1, 1) := by decide +kernel
theorem d_Source_startOf_1 : decode b_Source_startOf 1 = .ok (.ifCond .lt 11, 3) := by decide +kernel
theorem d_Source_startOf_4 : decode b_Source_startOf 4 = .ok (.iload_n 1, 1) := by decide +kernel
theorem d_Source_startOf_5 : decode b_Source_startOf 5 = .ok (.aload_n 0, 1) := by decide +kernel
theorem d_Source_startOf_6 : decode b_Source_startOf 6 = .ok (.getfield 86, 3) := by decide +kernel
theorem d_Source_startOf_9 : decode b_Source_startOf 9 = .ok (.if_icmp .lt 10, 3) := by decide +kernel
theorem d_Source_startOf_12 : decode b_Source_startOf 12 = .ok (.aload_n 0, 1) := by decide +kernel
theorem d_Source_startOf_13 : decode b_Source_startOf 13 = .ok (.getfield 83, 3) := by decide +kernel
theorem fl_Source_83 : Cond.fieldLink R_Source 83 "PointerHouse$Source" "length" "I" ∈ lw_good := lg_right (i := 224) (by decide +kernel) rfl
theorem d_Source_startOf_16 : decode b_Source_startOf 16 = .ok (.goto 9, 3) := by decide +kernel
theorem d_Source_startOf_19 : decode b_Source_startOf 19 = .ok (.aload_n 0, 1) := by decide +kernel
theorem d_Source_startOf_20 : decode b_Source_startOf 20 = .ok (.getfield 39, 3) := by decide +kernel
theorem fl_Source_39 : Cond.fieldLink R_Source 39 "PointerHouse$Source" "tokenStart" "[I" ∈ lw_good := lg_right (i := 226) (by decide +kernel) rfl
theorem d_Source_startOf_23 : decode b_Source_startOf 23 = .ok (.iload_n 1, 1) := by decide +kernel
theorem d_Source_startOf_24 : decode b_Source_startOf 24 = .ok (.iaload, 1) := by decide +kernel
theorem d_Source_startOf_25 : decode b_Source_startOf 25 = .ok (.ireturn, 1) := by decide +kernel
abbrev b_Source_addNode : ByteArray := prog_10_method_17_code
abbrev y_Source_addNode : MethodName := ⟨R_Source, "addNode", "(II)I"⟩
theorem co_Source_addNode : Cond.code y_Source_addNode b_Source_addNode 3 (some .int) ∈ lw_good := lg_in (tin_4 _ (List.mem_of_getElem? (i := 138) rfl)) rfl
abbrev w_Source_addNode : List Cond := Cond.code y_Source_addNode b_Source_addNode 3 (some .int) :: lw_good
theorem im_Source_addNode : Cond.instanceMethod y_Source_addNode ∈ lw_good := lg_right (i := 856) (by decide +kernel) rfl
theorem se_Source_addNode : Cond.selects R_Source y_Source_addNode y_Source_addNode ∈ lw_good := lg_right (i := 857) (by decide +kernel) rfl
theorem d_Source_addNode_0 : decode b_Source_addNode 0 = .ok (.aload_n 0, 1) := by decide +kernel
theorem d_Source_addNode_1 : decode b_Source_addNode 1 = .ok (.getfield 96, 3) := by decide +kernel
theorem fl_Source_96 : Cond.fieldLink R_Source 96 "PointerHouse$Source" "nodes" "I" ∈ lw_good := lg_right (i := 221) (by decide +kernel) rfl
theorem d_Source_addNode_4 : decode b_Source_addNode 4 = .ok (.sipush 4008, 3) := by decide +kernel
theorem d_Source_addNode_7 : decode b_Source_addNode 7 = .ok (.if_icmp .lt 5, 3) := by decide +kernel
theorem d_Source_addNode_10 : decode b_Source_addNode 10 = .ok (.iconst 0, 1) := by decide +kernel
theorem d_Source_addNode_11 : decode b_Source_addNode 11 = .ok (.ireturn, 1) := by decide +kernel
theorem d_Source_addNode_12 : decode b_Source_addNode 12 = .ok (.aload_n 0, 1) := by decide +kernel
theorem d_Source_addNode_13 : decode b_Source_addNode 13 = .ok (.getfield 11, 3) := by decide +kernel
theorem fl_Source_11 : Cond.fieldLink R_Source 11 "PointerHouse$Source" "kind" "[I" ∈ lw_good := lg_right (i := 192) (by decide +kernel) rfl
theorem d_Source_addNode_16 : decode b_Source_addNode 16 = .ok (.aload_n 0, 1) := by decide +kernel
theorem d_Source_addNode_17 : decode b_Source_addNode 17 = .ok (.getfield 96, 3) := by decide +kernel
theorem d_Source_addNode_20 : decode b_Source_addNode 20 = .ok (.iload_n 1, 1) := by decide +kernel
theorem d_Source_addNode_21 : decode b_Source_addNode 21 = .ok (.iastore, 1) := by decide +kernel
theorem d_Source_addNode_22 : decode b_Source_addNode 22 = .ok (.aload_n 0, 1) := by decide +kernel
theorem d_Source_addNode_23 : decode b_Source_addNode 23 = .ok (.getfield 15, 3) := by decide +kernel
theorem fl_Source_15 : Cond.fieldLink R_Source 15 "PointerHouse$Source" "tok" "[I" ∈ lw_good := lg_right (i := 196) (by decide +kernel) rfl
theorem d_Source_addNode_26 : decode b_Source_addNode 26 = .ok (.aload_n 0, 1) := by decide +kernel
theorem d_Source_addNode_27 : decode b_Source_addNode 27 = .ok (.getfield 96, 3) := by decide +kernel
theorem d_Source_addNode_30 : decode b_Source_addNode 30 = .ok (.iload_n 2, 1) := by decide +kernel
theorem d_Source_addNode_31 : decode b_Source_addNode 31 = .ok (.iastore, 1) := by decide +kernel
theorem d_Source_addNode_32 : decode b_Source_addNode 32 = .ok (.aload_n 0, 1) := by decide +kernel
theorem d_Source_addNode_33 : decode b_Source_addNode 33 = .ok (.getfield 18, 3) := by decide +kernel
theorem fl_Source_18 : Cond.fieldLink R_Source 18 "PointerHouse$Source" "next" "[I" ∈ lw_good := lg_right (i := 199) (by decide +kernel) rfl
theorem d_Source_addNode_36 : decode b_Source_addNode 36 = .ok (.aload_n 0, 1) := by decide +kernel
theorem d_Source_addNode_37 : decode b_Source_addNode 37 = .ok (.getfield 96, 3) := by decide +kernel
theorem d_Source_addNode_40 : decode b_Source_addNode 40 = .ok (.iconst 0, 1) := by decide +kernel
theorem d_Source_addNode_41 : decode b_Source_addNode 41 = .ok (.iastore, 1) := by decide +kernel
theorem d_Source_addNode_42 : decode b_Source_addNode 42 = .ok (.aload_n 0, 1) := by decide +kernel
theorem d_Source_addNode_43 : decode b_Source_addNode 43 = .ok (.getfield 21, 3) := by decide +kernel
theorem fl_Source_21 : Cond.fieldLink R_Source 21 "PointerHouse$Source" "peer" "[I" ∈ lw_good := lg_right (i := 203) (by decide +kernel) rfl
theorem d_Source_addNode_46 : decode b_Source_addNode 46 = .ok (.aload_n 0, 1) := by decide +kernel
theorem d_Source_addNode_47 : decode b_Source_addNode 47 = .ok (.getfield 96, 3) := by decide +kernel
theorem d_Source_addNode_50 : decode b_Source_addNode 50 = .ok (.iconst 0, 1) := by decide +kernel
theorem d_Source_addNode_51 : decode b_Source_addNode 51 = .ok (.iastore, 1) := by decide +kernel
theorem d_Source_addNode_52 : decode b_Source_addNode 52 = .ok (.aload_n 0, 1) := by decide +kernel
theorem d_Source_addNode_53 : decode b_Source_addNode 53 = .ok (.getfield 24, 3) := by decide +kernel
theorem fl_Source_24 : Cond.fieldLink R_Source 24 "PointerHouse$Source" "op" "[I" ∈ lw_good := lg_right (i := 206) (by decide +kernel) rfl
theorem d_Source_addNode_56 : decode b_Source_addNode 56 = .ok (.aload_n 0, 1) := by decide +kernel
theorem d_Source_addNode_57 : decode b_Source_addNode 57 = .ok (.getfield 96, 3) := by decide +kernel
theorem d_Source_addNode_60 : decode b_Source_addNode 60 = .ok (.iconst 0, 1) := by decide +kernel
theorem d_Source_addNode_61 : decode b_Source_addNode 61 = .ok (.iastore, 1) := by decide +kernel
theorem d_Source_addNode_62 : decode b_Source_addNode 62 = .ok (.aload_n 0, 1) := by decide +kernel
theorem d_Source_addNode_63 : decode b_Source_addNode 63 = .ok (.getfield 27, 3) := by decide +kernel
theorem fl_Source_27 : Cond.fieldLink R_Source 27 "PointerHouse$Source" "left" "[I" ∈ lw_good := lg_right (i := 209) (by decide +kernel) rfl
theorem d_Source_addNode_66 : decode b_Source_addNode 66 = .ok (.aload_n 0, 1) := by decide +kernel
theorem d_Source_addNode_67 : decode b_Source_addNode 67 = .ok (.getfield 96, 3) := by decide +kernel
theorem d_Source_addNode_70 : decode b_Source_addNode 70 = .ok (.iconst 0, 1) := by decide +kernel
theorem d_Source_addNode_71 : decode b_Source_addNode 71 = .ok (.iastore, 1) := by decide +kernel
theorem d_Source_addNode_72 : decode b_Source_addNode 72 = .ok (.aload_n 0, 1) := by decide +kernel
theorem d_Source_addNode_73 : decode b_Source_addNode 73 = .ok (.getfield 30, 3) := by decide +kernel
theorem fl_Source_30 : Cond.fieldLink R_Source 30 "PointerHouse$Source" "right" "[I" ∈ lw_good := lg_right (i := 213) (by decide +kernel) rfl
theorem d_Source_addNode_76 : decode b_Source_addNode 76 = .ok (.aload_n 0, 1) := by decide +kernel
theorem d_Source_addNode_77 : decode b_Source_addNode 77 = .ok (.getfield 96, 3) := by decide +kernel
theorem d_Source_addNode_80 : decode b_Source_addNode 80 = .ok (.iconst 0, 1) := by decide +kernel
theorem d_Source_addNode_81 : decode b_Source_addNode 81 = .ok (.iastore, 1) := by decide +kernel
theorem d_Source_addNode_82 : decode b_Source_addNode 82 = .ok (.aload_n 0, 1) := by decide +kernel
theorem d_Source_addNode_83 : decode b_Source_addNode 83 = .ok (.getfield 33, 3) := by decide +kernel
theorem fl_Source_33 : Cond.fieldLink R_Source 33 "PointerHouse$Source" "tail" "[I" ∈ lw_good := lg_right (i := 217) (by decide +kernel) rfl
theorem d_Source_addNode_86 : decode b_Source_addNode 86 = .ok (.aload_n 0, 1) := by decide +kernel
theorem d_Source_addNode_87 : decode b_Source_addNode 87 = .ok (.getfield 96, 3) := by decide +kernel
theorem d_Source_addNode_90 : decode b_Source_addNode 90 = .ok (.iconst 0, 1) := by decide +kernel
theorem d_Source_addNode_91 : decode b_Source_addNode 91 = .ok (.iastore, 1) := by decide +kernel
theorem d_Source_addNode_92 : decode b_Source_addNode 92 = .ok (.aload_n 0, 1) := by decide +kernel
theorem d_Source_addNode_93 : decode b_Source_addNode 93 = .ok (.dup, 1) := by decide +kernel
theorem d_Source_addNode_94 : decode b_Source_addNode 94 = .ok (.getfield 96, 3) := by decide +kernel
theorem d_Source_addNode_97 : decode b_Source_addNode 97 = .ok (.iconst 1, 1) := by decide +kernel
theorem d_Source_addNode_98 : decode b_Source_addNode 98 = .ok (.iadd, 1) := by decide +kernel
theorem d_Source_addNode_99 : decode b_Source_addNode 99 = .ok (.putfield 96, 3) := by decide +kernel
theorem d_Source_addNode_102 : decode b_Source_addNode 102 = .ok (.aload_n 0, 1) := by decide +kernel
theorem d_Source_addNode_103 : decode b_Source_addNode 103 = .ok (.getfield 96, 3) := by decide +kernel
theorem d_Source_addNode_106 : decode b_Source_addNode 106 = .ok (.iconst 1, 1) := by decide +kernel
theorem d_Source_addNode_107 : decode b_Source_addNode 107 = .ok (.isub, 1) := by decide +kernel
theorem d_Source_addNode_108 : decode b_Source_addNode 108 = .ok (.ireturn, 1) := by decide +kernel
abbrev b_Parser_sees : ByteArray := prog_8_method_3_code
abbrev y_Parser_sees : MethodName := ⟨R_Parser, "sees", "(I)Z"⟩
theorem co_Parser_sees : Cond.code y_Parser_sees b_Parser_sees 2 (some .boolean) ∈ lw_good := lg_in (tin_4 _ (List.mem_of_getElem? (i := 146) rfl)) rfl
abbrev w_Parser_sees : List Cond := Cond.code y_Parser_sees b_Parser_sees 2 (some .boolean) :: lw_good
theorem im_Parser_sees : Cond.instanceMethod y_Parser_sees ∈ lw_good := lg_right (i := 865) (by decide +kernel) rfl
theorem se_Parser_sees : Cond.selects R_Parser y_Parser_sees y_Parser_sees ∈ lw_good := lg_left (i := 8) (by decide +kernel) rfl
theorem d_Parser_sees_0 : decode b_Parser_sees 0 = .ok (.aload_n 0, 1) := by decide +kernel
theorem d_Parser_sees_1 : decode b_Parser_sees 1 = .ok (.getfield 27, 3) := by decide +kernel
theorem fl_Parser_27 : Cond.fieldLink R_Parser 27 "PointerHouse$Parser" "stopped" "Z" ∈ lw_good := lg_right (i := 420) (by decide +kernel) rfl
theorem d_Parser_sees_4 : decode b_Parser_sees 4 = .ok (.ifCond .ne 22, 3) := by decide +kernel
theorem d_Parser_sees_7 : decode b_Parser_sees 7 = .ok (.aload_n 0, 1) := by decide +kernel
theorem d_Parser_sees_8 : decode b_Parser_sees 8 = .ok (.getfield 9, 3) := by decide +kernel
theorem d_Parser_sees_11 : decode b_Parser_sees 11 = .ok (.aload_n 0, 1) := by decide +kernel
theorem d_Parser_sees_12 : decode b_Parser_sees 12 = .ok (.getfield 23, 3) := by decide +kernel
theorem fl_Parser_23 : Cond.fieldLink R_Parser 23 "PointerHouse$Parser" "at" "I" ∈ lw_good := lg_right (i := 419) (by decide +kernel) rfl
theorem d_Parser_sees_15 : decode b_Parser_sees 15 = .ok (.invokevirtual 44, 3) := by decide +kernel
theorem ml_Parser_44 : Cond.methodLink R_Parser 44 ⟨"PointerHouse$Source", "kindAt", "(I)I"⟩ ∈ lw_good := lg_right (i := 867) (by decide +kernel) rfl
theorem d_Parser_sees_18 : decode b_Parser_sees 18 = .ok (.iload_n 1, 1) := by decide +kernel
theorem d_Parser_sees_19 : decode b_Parser_sees 19 = .ok (.if_icmp .ne 7, 3) := by decide +kernel
theorem d_Parser_sees_22 : decode b_Parser_sees 22 = .ok (.iconst 1, 1) := by decide +kernel
theorem d_Parser_sees_23 : decode b_Parser_sees 23 = .ok (.goto 4, 3) := by decide +kernel
theorem d_Parser_sees_26 : decode b_Parser_sees 26 = .ok (.iconst 0, 1) := by decide +kernel
theorem d_Parser_sees_27 : decode b_Parser_sees 27 = .ok (.ireturn, 1) := by decide +kernel
abbrev b_Parser_stop : ByteArray := prog_8_method_6_code
abbrev y_Parser_stop : MethodName := ⟨R_Parser, "stop", "()V"⟩
theorem co_Parser_stop : Cond.code y_Parser_stop b_Parser_stop 1 none ∈ lw_good := lg_in (tin_4 _ (List.mem_of_getElem? (i := 158) rfl)) rfl
abbrev w_Parser_stop : List Cond := Cond.code y_Parser_stop b_Parser_stop 1 none :: lw_good
theorem im_Parser_stop : Cond.instanceMethod y_Parser_stop ∈ lw_good := lg_right (i := 877) (by decide +kernel) rfl
theorem se_Parser_stop : Cond.selects R_Parser y_Parser_stop y_Parser_stop ∈ lw_good := lg_left (i := 10) (by decide +kernel) rfl
theorem d_Parser_stop_0 : decode b_Parser_stop 0 = .ok (.aload_n 0, 1) := by decide +kernel
theorem d_Parser_stop_1 : decode b_Parser_stop 1 = .ok (.iconst 1, 1) := by decide +kernel
theorem d_Parser_stop_2 : decode b_Parser_stop 2 = .ok (.putfield 27, 3) := by decide +kernel
theorem d_Parser_stop_5 : decode b_Parser_stop 5 = .ok (.aload_n 0, 1) := by decide +kernel
theorem d_Parser_stop_6 : decode b_Parser_stop 6 = .ok (.getfield 19, 3) := by decide +kernel
theorem d_Parser_stop_9 : decode b_Parser_stop 9 = .ok (.iconst 1, 1) := by decide +kernel
theorem d_Parser_stop_10 : decode b_Parser_stop 10 = .ok (.aload_n 0, 1) := by decide +kernel
theorem d_Parser_stop_11 : decode b_Parser_stop 11 = .ok (.getfield 9, 3) := by decide +kernel
theorem d_Parser_stop_14 : decode b_Parser_stop 14 = .ok (.aload_n 0, 1) := by decide +kernel
theorem d_Parser_stop_15 : decode b_Parser_stop 15 = .ok (.getfield 23, 3) := by decide +kernel
theorem d_Parser_stop_18 : decode b_Parser_stop 18 = .ok (.invokevirtual 56, 3) := by decide +kernel
theorem ml_Parser_56 : Cond.methodLink R_Parser 56 ⟨"PointerHouse$Source", "startOf", "(I)I"⟩ ∈ lw_good := lg_right (i := 879) (by decide +kernel) rfl
theorem d_Parser_stop_21 : decode b_Parser_stop 21 = .ok (.invokevirtual 59, 3) := by decide +kernel
theorem ml_Parser_59 : Cond.methodLink R_Parser 59 ⟨"PointerHouse$Code", "note", "(II)V"⟩ ∈ lw_good := lg_right (i := 883) (by decide +kernel) rfl
theorem d_Parser_stop_24 : decode b_Parser_stop 24 = .ok (.return_, 1) := by decide +kernel
set_option maxHeartbeats 1000000 in
set_option maxRecDepth 100000 in
theorem c_Machine_halt (l : Launch) (dC : Nat → ClassId) (dI : Nat → Nat → Nat) (sz : Nat) (h_this : Nat) (fs_this : List Value) (v_this_state : Int32) (len_this : fs_this.length = 18) (g_this_state : fs_this[10]? = some (.int v_this_state)) : Met l y_Machine_halt w_Machine_halt ({ frames := 0, cells := 0, slots := 0, locals := 0 } : Room) (va_Pc [.ref h_this] (fun U => U.heap.size = sz ∧ va_P (dC, dI) cls_all [oc h_this 4 fs_this] U.heap ∧ va_K (dC, dI) cls_all [] U ∧ va_D (fun _ => True) [oc h_this 4 fs_this])) (va_Qv (fun (_ : Unit) => True) (fun _ t => ∃ (fs_this' : List Value), (fs_this'.length = 18 ∧ (∀ j : Nat, j ≠ 10 → fs_this'[j]? = fs_this[j]?) ∧ fs_this'[10]? = some (.int (0))) ∧ va_P (dC, dI) cls_all [oc h_this 4 fs_this'] t.heap ∧ va_K (dC, dI) cls_all [] t ∧ va_D (va_A [oc h_this 4 fs_this] sz) [oc h_this 4 fs_this']) (va_A [oc h_this 4 fs_this] sz)) 0 0 (va_A [oc h_this 4 fs_this] sz) := by
  refine Met.ofW (cc := b_Machine_halt) (maxL := 1) (ret := none) (by decide) rfl ?_
  intro p e s m args below meth c s₁ B hml hv
  obtain ⟨rfl, hsz, hP, hK, hD0⟩ := hv
  have hx := B.exec
  have hb := B.bytes
  have hr := B.returns
  have hT : ∀ w ∈ lw_good, w.before _ s = true := fun w h => atoms_spec (ws := w_Machine_halt) B.pre w (List.mem_cons_of_mem _ h)
  have hown : s.vm.findClass R_Machine = some m.cls := findClass_of_methodNamed B.named
  have hlocks := B.notSynchronized
  subst hsz
  have hD := hD0.self (sz := s.heap.size)
  generalize hAe : va_A [oc h_this 4 fs_this] s.heap.size = A at hD ⊢
  have hA : ∀ q : Nat, s.heap.size ≤ q → A q := fun q h => by rw [← hAe]; exact Or.inr h
  have hS : va_S A s.heap s.heap [] := va_S.rf
  have hP : va_P (dC, dI) cls_all [oc h_this 4 fs_this] s.heap := hP
  have hl := lv_entry ([.ref h_this]) (n := 1) (Nat.le_of_ble_eq_true rfl)
  rw [lg_entry_eq]
  generalize (lg_sl ([.ref h_this]) ++ List.replicate (1 - (lg_sl ([.ref h_this])).length) Slot.unset).toArray = ls at hl ⊢
  have hl : lv_has ls 1 [(0, .ref h_this)] := hl
  refine lv_aload_n hx hb d_Machine_halt_0 rfl (lv_at hl 0 rfl) ?_
  refine lv_iconst (v := 0) hx hb d_Machine_halt_1 (by decide) ?_
  refine va_put (D := (dC, dI)) (ci := 4) (v := .int 0) (ty := .int) (C := R_Machine) (T := F_Machine) (N := 18) hx hb hT i_Machine t_Machine t_Machine_ok n_Machine hown hK hP hD hS 0 rfl rfl 10 (by decide) (hT _ fl_Machine_44) (fun _ h9 => h9) rfl (by decide +kernel) rfl rfl (by simp only [List.length_set, len_this]; decide) d_Machine_halt_2 (fun H locs hP hD hS => ?_)
  have hP : va_P (dC, dI) cls_all [oc h_this 4 (fs_this.set 10 (.int 0))] H := hP
  have hD : va_D A [oc h_this 4 (fs_this.set 10 (.int 0))] := hD
  have hP9 := hP.sub (ws' := [oc h_this 4 (fs_this.set 10 (.int 0))]) [0] rfl
  have hD9 := hD.sub (ws' := [oc h_this 4 (fs_this.set 10 (.int 0))]) [0] (by decide) rfl
  have hK9 := hK.sub (tys' := []) [] rfl
  have hv1 : (fs_this.set 10 (.int 0))[10]? = some (.int 0) := (ls_eq (by simp only [List.length_set, len_this]; decide))
  exact W.vret hx hb hr (fun t ht hW => ⟨⟨(), rfl, trivial, (fs_this.set 10 (.int 0)), ⟨(by first | exact len_this | (simp only [List.length_set]; exact len_this)), (fun j n10 => ((ls_ne n10).trans rfl)), (by first | exact hv1 | (rw [hv1]; refine congrArg some (congrArg _ ?_); rfl))⟩, by rw [ht]; exact hP9, va_K.moved hW.alike hK9, hD9⟩, hS.F ht⟩) hS.2.2 d_Machine_halt_5
set_option maxHeartbeats 1000000 in
set_option maxRecDepth 100000 in
theorem c_Source_kindAt (l : Launch) (dC : Nat → ClassId) (dI : Nat → Nat → Nat)  (h_this : Nat) (h_tokenKind : Nat) (fs_this : List Value) (v_this_tokens : Int32) (k_tokenKind : ClassId) (f_tokenKind : Nat → Int32) (p1 : Int32) (len_this : fs_this.length = 16) (g_this_tokens : fs_this[14]? = some (.int v_this_tokens)) (g_this_tokenKind : fs_this[11]? = some (.ref h_tokenKind)) (ht : v_this_tokens ≤ 4001) : Met l y_Source_kindAt w_Source_kindAt ({ frames := 0, cells := 0, slots := 0, locals := 0 } : Room) (va_Pc [.ref h_this, .int p1] (fun U => va_P (dC, dI) cls_all [oc h_this 8 fs_this, ic h_tokenKind k_tokenKind 4001 f_tokenKind] U.heap ∧ va_K (dC, dI) cls_all [(k_tokenKind, .int)] U)) (vp_Si (fun r : Int32 => (r = if p1 < 0 ∨ v_this_tokens ≤ p1 then 0 else f_tokenKind p1.toNatClampNeg))) 0 0 (fun _ => False) := by
  refine Met.ofW (cc := b_Source_kindAt) (maxL := 2) (ret := (some .int)) (by decide) rfl ?_
  intro p e s m args below meth c s₁ B hml hv
  obtain ⟨rfl, hP, hK⟩ := hv
  have hx := B.exec
  have hb := B.bytes
  have hr := B.returns
  have hT : ∀ w ∈ lw_good, w.before _ s = true := fun w h => atoms_spec (ws := w_Source_kindAt) B.pre w (List.mem_cons_of_mem _ h)
  have hown : s.vm.findClass R_Source = some m.cls := findClass_of_methodNamed B.named
  have hlocks := B.notSynchronized
  have hl := lv_entry ([.ref h_this, .int p1]) (n := 2) (Nat.le_of_ble_eq_true rfl)
  rw [lg_entry_eq]
  generalize (lg_sl ([.ref h_this, .int p1]) ++ List.replicate (2 - (lg_sl ([.ref h_this, .int p1])).length) Slot.unset).toArray = ls at hl ⊢
  have hl : lv_has ls 2 [(0, .ref h_this), (1, .int p1)] := hl
  refine lv_iload_n hx hb d_Source_kindAt_0 rfl (lv_at hl 1 rfl) ?_
  refine lv_if_lt (tgt := 12) hx hb d_Source_kindAt_1 (by decide) (fun c1 => ?_) (fun c1 => ?_)
  · refine lv_iconst (v := 0) hx hb d_Source_kindAt_12 (by decide) ?_
    refine lv_goto (tgt := 22) hx hb d_Source_kindAt_13 (by decide) ?_
    refine W.iret (v := 0) hx hb hr (fun t ht hW => ⟨0, rfl, ?_, ht⟩) (fun q h => by cases h) d_Source_kindAt_22
    (repeat' split) <;> first | rfl | (simp_all; done) | (exfalso; simp only [i_lt, i_le, i_eq, Int32.reduceToInt] at *; omega) | (subst_vars; simp_all; done)
  · refine lv_iload_n hx hb d_Source_kindAt_4 rfl (lv_at hl 1 rfl) ?_
    refine lv_aload_n hx hb d_Source_kindAt_5 rfl (lv_at hl 0 rfl) ?_
    refine va_get (D := (dC, dI)) (ci := 8) (v := .int v_this_tokens) (C := R_Source) (T := F_Source) (N := 16) hx hb hT i_Source hown hK hP 0 rfl rfl 14 (by decide) (hT _ fl_Source_86) (fun _ h9 => h9) g_this_tokens d_Source_kindAt_6 ?_
    refine lv_icmp_lt (tgt := 16) hx hb d_Source_kindAt_9 (by decide) (fun c2 => ?_) (fun c2 => ?_)
    · refine lv_aload_n hx hb d_Source_kindAt_16 rfl (lv_at hl 0 rfl) ?_
      refine va_get (D := (dC, dI)) (ci := 8) (v := .ref h_tokenKind) (C := R_Source) (T := F_Source) (N := 16) hx hb hT i_Source hown hK hP 0 rfl rfl 11 (by decide) (hT _ fl_Source_36) (fun _ h9 => h9) g_this_tokenKind d_Source_kindAt_17 ?_
      refine lv_iload_n hx hb d_Source_kindAt_20 rfl (lv_at hl 1 rfl) ?_
      refine va_iald hx hb hK hP 1 0 rfl rfl (by first | exact has_in (by assumption) (by assumption) (by assumption) | (refine vp_in_iff.mpr ?_; simp only [i_lt, i_le, i_eq, Int32.reduceToInt] at *; omega)) d_Source_kindAt_21 ?_
      refine lv_topi (fun x3 e3 => ?_)
      refine W.iret (v := x3) hx hb hr (fun t ht hW => ⟨x3, rfl, ?_, ht⟩) (fun q h => by cases h) d_Source_kindAt_22
      (repeat' split) <;> first | rfl | (simp_all; done) | (exfalso; simp only [i_lt, i_le, i_eq, Int32.reduceToInt] at *; omega) | (subst_vars; simp_all; done)
    · refine lv_iconst (v := 0) hx hb d_Source_kindAt_12 (by decide) ?_
      refine lv_goto (tgt := 22) hx hb d_Source_kindAt_13 (by decide) ?_
      refine W.iret (v := 0) hx hb hr (fun t ht hW => ⟨0, rfl, ?_, ht⟩) (fun q h => by cases h) d_Source_kindAt_22
      (repeat' split) <;> first | rfl | (simp_all; done) | (exfalso; simp only [i_lt, i_le, i_eq, Int32.reduceToInt] at *; omega) | (subst_vars; simp_all; done)
set_option maxHeartbeats 1000000 in
set_option maxRecDepth 100000 in
theorem c_Source_startOf (l : Launch) (dC : Nat → ClassId) (dI : Nat → Nat → Nat)  (h_this : Nat) (h_tokenStart : Nat) (fs_this : List Value) (v_this_tokens : Int32) (v_this_length : Int32) (k_tokenStart : ClassId) (f_tokenStart : Nat → Int32) (p1 : Int32) (len_this : fs_this.length = 16) (g_this_tokens : fs_this[14]? = some (.int v_this_tokens)) (g_this_tokenStart : fs_this[12]? = some (.ref h_tokenStart)) (g_this_length : fs_this[10]? = some (.int v_this_length)) (ht : v_this_tokens ≤ 4001) : Met l y_Source_startOf w_Source_startOf ({ frames := 0, cells := 0, slots := 0, locals := 0 } : Room) (va_Pc [.ref h_this, .int p1] (fun U => va_P (dC, dI) cls_all [oc h_this 8 fs_this, ic h_tokenStart k_tokenStart 4001 f_tokenStart] U.heap ∧ va_K (dC, dI) cls_all [(k_tokenStart, .int)] U)) (vp_Si (fun r : Int32 => (r = if p1 < 0 ∨ v_this_tokens ≤ p1 then v_this_length else f_tokenStart p1.toNatClampNeg))) 0 0 (fun _ => False) := by
  refine Met.ofW (cc := b_Source_startOf) (maxL := 2) (ret := (some .int)) (by decide) rfl ?_
  intro p e s m args below meth c s₁ B hml hv
  obtain ⟨rfl, hP, hK⟩ := hv
  have hx := B.exec
  have hb := B.bytes
  have hr := B.returns
  have hT : ∀ w ∈ lw_good, w.before _ s = true := fun w h => atoms_spec (ws := w_Source_startOf) B.pre w (List.mem_cons_of_mem _ h)
  have hown : s.vm.findClass R_Source = some m.cls := findClass_of_methodNamed B.named
  have hlocks := B.notSynchronized
  have hl := lv_entry ([.ref h_this, .int p1]) (n := 2) (Nat.le_of_ble_eq_true rfl)
  rw [lg_entry_eq]
  generalize (lg_sl ([.ref h_this, .int p1]) ++ List.replicate (2 - (lg_sl ([.ref h_this, .int p1])).length) Slot.unset).toArray = ls at hl ⊢
  have hl : lv_has ls 2 [(0, .ref h_this), (1, .int p1)] := hl
  refine lv_iload_n hx hb d_Source_startOf_0 rfl (lv_at hl 1 rfl) ?_
  refine lv_if_lt (tgt := 12) hx hb d_Source_startOf_1 (by decide) (fun c1 => ?_) (fun c1 => ?_)
  · refine lv_aload_n hx hb d_Source_startOf_12 rfl (lv_at hl 0 rfl) ?_
    refine va_get (D := (dC, dI)) (ci := 8) (v := .int v_this_length) (C := R_Source) (T := F_Source) (N := 16) hx hb hT i_Source hown hK hP 0 rfl rfl 10 (by decide) (hT _ fl_Source_83) (fun _ h9 => h9) g_this_length d_Source_startOf_13 ?_
    refine lv_goto (tgt := 25) hx hb d_Source_startOf_16 (by decide) ?_
    refine W.iret (v := v_this_length) hx hb hr (fun t ht hW => ⟨v_this_length, rfl, ?_, ht⟩) (fun q h => by cases h) d_Source_startOf_25
    (repeat' split) <;> first | rfl | (simp_all; done) | (exfalso; simp only [i_lt, i_le, i_eq, Int32.reduceToInt] at *; omega) | (subst_vars; simp_all; done)
  · refine lv_iload_n hx hb d_Source_startOf_4 rfl (lv_at hl 1 rfl) ?_
    refine lv_aload_n hx hb d_Source_startOf_5 rfl (lv_at hl 0 rfl) ?_
    refine va_get (D := (dC, dI)) (ci := 8) (v := .int v_this_tokens) (C := R_Source) (T := F_Source) (N := 16) hx hb hT i_Source hown hK hP 0 rfl rfl 14 (by decide) (hT _ fl_Source_86) (fun _ h9 => h9) g_this_tokens d_Source_startOf_6 ?_
    refine lv_icmp_lt (tgt := 19) hx hb d_Source_startOf_9 (by decide) (fun c2 => ?_) (fun c2 => ?_)
    · refine lv_aload_n hx hb d_Source_startOf_19 rfl (lv_at hl 0 rfl) ?_
      refine va_get (D := (dC, dI)) (ci := 8) (v := .ref h_tokenStart) (C := R_Source) (T := F_Source) (N := 16) hx hb hT i_Source hown hK hP 0 rfl rfl 12 (by decide) (hT _ fl_Source_39) (fun _ h9 => h9) g_this_tokenStart d_Source_startOf_20 ?_
      refine lv_iload_n hx hb d_Source_startOf_23 rfl (lv_at hl 1 rfl) ?_
      refine va_iald hx hb hK hP 1 0 rfl rfl (by first | exact has_in (by assumption) (by assumption) (by assumption) | (refine vp_in_iff.mpr ?_; simp only [i_lt, i_le, i_eq, Int32.reduceToInt] at *; omega)) d_Source_startOf_24 ?_
      refine lv_topi (fun x3 e3 => ?_)
      refine W.iret (v := x3) hx hb hr (fun t ht hW => ⟨x3, rfl, ?_, ht⟩) (fun q h => by cases h) d_Source_startOf_25
      (repeat' split) <;> first | rfl | (simp_all; done) | (exfalso; simp only [i_lt, i_le, i_eq, Int32.reduceToInt] at *; omega) | (subst_vars; simp_all; done)
    · refine lv_aload_n hx hb d_Source_startOf_12 rfl (lv_at hl 0 rfl) ?_
      refine va_get (D := (dC, dI)) (ci := 8) (v := .int v_this_length) (C := R_Source) (T := F_Source) (N := 16) hx hb hT i_Source hown hK hP 0 rfl rfl 10 (by decide) (hT _ fl_Source_83) (fun _ h9 => h9) g_this_length d_Source_startOf_13 ?_
      refine lv_goto (tgt := 25) hx hb d_Source_startOf_16 (by decide) ?_
      refine W.iret (v := v_this_length) hx hb hr (fun t ht hW => ⟨v_this_length, rfl, ?_, ht⟩) (fun q h => by cases h) d_Source_startOf_25
      (repeat' split) <;> first | rfl | (simp_all; done) | (exfalso; simp only [i_lt, i_le, i_eq, Int32.reduceToInt] at *; omega) | (subst_vars; simp_all; done)
set_option maxHeartbeats 1000000 in
set_option maxRecDepth 100000 in
theorem c_Source_addNode_in (l : Launch) (dC : Nat → ClassId) (dI : Nat → Nat → Nat) (sz : Nat) (h_this : Nat) (h_kind : Nat) (h_tok : Nat) (h_next : Nat) (h_peer : Nat) (h_op : Nat) (h_left : Nat) (h_right : Nat) (h_tail : Nat) (fs_this : List Value) (k_kind : ClassId) (f_kind : Nat → Int32) (k_tok : ClassId) (f_tok : Nat → Int32) (k_next : ClassId) (f_next : Nat → Int32) (k_peer : ClassId) (f_peer : Nat → Int32) (k_op : ClassId) (f_op : Nat → Int32) (k_left : ClassId) (f_left : Nat → Int32) (k_right : ClassId) (f_right : Nat → Int32) (k_tail : ClassId) (f_tail : Nat → Int32) (p1 : Int32) (p2 : Int32) (n : Nat) (len_this : fs_this.length = 16) (g_this_nodes : fs_this[8]? = some (.int (nI n))) (g_this_kind : fs_this[0]? = some (.ref h_kind)) (g_this_tok : fs_this[1]? = some (.ref h_tok)) (g_this_next : fs_this[2]? = some (.ref h_next)) (g_this_peer : fs_this[3]? = some (.ref h_peer)) (g_this_op : fs_this[4]? = some (.ref h_op)) (g_this_left : fs_this[5]? = some (.ref h_left)) (g_this_right : fs_this[6]? = some (.ref h_right)) (g_this_tail : fs_this[7]? = some (.ref h_tail)) (hn : n < 4008) : Met l y_Source_addNode w_Source_addNode ({ frames := 0, cells := 0, slots := 0, locals := 0 } : Room) (va_Pc [.ref h_this, .int p1, .int p2] (fun U => U.heap.size = sz ∧ va_P (dC, dI) cls_all [oc h_this 8 fs_this, ic h_kind k_kind 4008 f_kind, ic h_tok k_tok 4008 f_tok, ic h_next k_next 4008 f_next, ic h_peer k_peer 4008 f_peer, ic h_op k_op 4008 f_op, ic h_left k_left 4008 f_left, ic h_right k_right 4008 f_right, ic h_tail k_tail 4008 f_tail] U.heap ∧ va_K (dC, dI) cls_all [(k_kind, .int), (k_tok, .int), (k_next, .int), (k_peer, .int), (k_op, .int), (k_left, .int), (k_right, .int), (k_tail, .int)] U ∧ va_D (fun _ => True) [oc h_this 8 fs_this, ic h_kind k_kind 4008 f_kind, ic h_tok k_tok 4008 f_tok, ic h_next k_next 4008 f_next, ic h_peer k_peer 4008 f_peer, ic h_op k_op 4008 f_op, ic h_left k_left 4008 f_left, ic h_right k_right 4008 f_right, ic h_tail k_tail 4008 f_tail])) (va_Qi (fun (z r : Int32) => z = r) (fun r t => ∃ (fs_this' : List Value) (f_kind' : Nat → Int32) (f_tok' : Nat → Int32) (f_next' : Nat → Int32) (f_peer' : Nat → Int32) (f_op' : Nat → Int32) (f_left' : Nat → Int32) (f_right' : Nat → Int32) (f_tail' : Nat → Int32), (fs_this'.length = 16 ∧ (∀ j : Nat, j ≠ 8 → fs_this'[j]? = fs_this[j]?) ∧ fs_this'[8]? = some (.int (nI (n + 1))) ∧ (f_kind' = upd f_kind n p1) ∧ (f_tok' = upd f_tok n p2) ∧ (f_next' = upd f_next n 0) ∧ (f_peer' = upd f_peer n 0) ∧ (f_op' = upd f_op n 0) ∧ (f_left' = upd f_left n 0) ∧ (f_right' = upd f_right n 0) ∧ (f_tail' = upd f_tail n 0) ∧ (r = nI n)) ∧ va_P (dC, dI) cls_all [oc h_this 8 fs_this', ic h_kind k_kind 4008 f_kind', ic h_tok k_tok 4008 f_tok', ic h_next k_next 4008 f_next', ic h_peer k_peer 4008 f_peer', ic h_op k_op 4008 f_op', ic h_left k_left 4008 f_left', ic h_right k_right 4008 f_right', ic h_tail k_tail 4008 f_tail'] t.heap ∧ va_K (dC, dI) cls_all [(k_kind, .int), (k_tok, .int), (k_next, .int), (k_peer, .int), (k_op, .int), (k_left, .int), (k_right, .int), (k_tail, .int)] t ∧ va_D (va_A [oc h_this 8 fs_this, ic h_kind k_kind 4008 f_kind, ic h_tok k_tok 4008 f_tok, ic h_next k_next 4008 f_next, ic h_peer k_peer 4008 f_peer, ic h_op k_op 4008 f_op, ic h_left k_left 4008 f_left, ic h_right k_right 4008 f_right, ic h_tail k_tail 4008 f_tail] sz) [oc h_this 8 fs_this', ic h_kind k_kind 4008 f_kind', ic h_tok k_tok 4008 f_tok', ic h_next k_next 4008 f_next', ic h_peer k_peer 4008 f_peer', ic h_op k_op 4008 f_op', ic h_left k_left 4008 f_left', ic h_right k_right 4008 f_right', ic h_tail k_tail 4008 f_tail']) (va_A [oc h_this 8 fs_this, ic h_kind k_kind 4008 f_kind, ic h_tok k_tok 4008 f_tok, ic h_next k_next 4008 f_next, ic h_peer k_peer 4008 f_peer, ic h_op k_op 4008 f_op, ic h_left k_left 4008 f_left, ic h_right k_right 4008 f_right, ic h_tail k_tail 4008 f_tail] sz)) 0 0 (va_A [oc h_this 8 fs_this, ic h_kind k_kind 4008 f_kind, ic h_tok k_tok 4008 f_tok, ic h_next k_next 4008 f_next, ic h_peer k_peer 4008 f_peer, ic h_op k_op 4008 f_op, ic h_left k_left 4008 f_left, ic h_right k_right 4008 f_right, ic h_tail k_tail 4008 f_tail] sz) := by
  refine Met.ofW (cc := b_Source_addNode) (maxL := 3) (ret := (some .int)) (by decide) rfl ?_
  intro p e s m args below meth c s₁ B hml hv
  obtain ⟨rfl, hsz, hP, hK, hD0⟩ := hv
  have hx := B.exec
  have hb := B.bytes
  have hr := B.returns
  have hT : ∀ w ∈ lw_good, w.before _ s = true := fun w h => atoms_spec (ws := w_Source_addNode) B.pre w (List.mem_cons_of_mem _ h)
  have hown : s.vm.findClass R_Source = some m.cls := findClass_of_methodNamed B.named
  have hlocks := B.notSynchronized
  subst hsz
  have hD := hD0.self (sz := s.heap.size)
  generalize hAe : va_A [oc h_this 8 fs_this, ic h_kind k_kind 4008 f_kind, ic h_tok k_tok 4008 f_tok, ic h_next k_next 4008 f_next, ic h_peer k_peer 4008 f_peer, ic h_op k_op 4008 f_op, ic h_left k_left 4008 f_left, ic h_right k_right 4008 f_right, ic h_tail k_tail 4008 f_tail] s.heap.size = A at hD ⊢
  have hA : ∀ q : Nat, s.heap.size ≤ q → A q := fun q h => by rw [← hAe]; exact Or.inr h
  have hS : va_S A s.heap s.heap [] := va_S.rf
  have hP : va_P (dC, dI) cls_all [oc h_this 8 fs_this, ic h_kind k_kind 4008 f_kind, ic h_tok k_tok 4008 f_tok, ic h_next k_next 4008 f_next, ic h_peer k_peer 4008 f_peer, ic h_op k_op 4008 f_op, ic h_left k_left 4008 f_left, ic h_right k_right 4008 f_right, ic h_tail k_tail 4008 f_tail] s.heap := hP
  have hl := lv_entry ([.ref h_this, .int p1, .int p2]) (n := 3) (Nat.le_of_ble_eq_true rfl)
  rw [lg_entry_eq]
  generalize (lg_sl ([.ref h_this, .int p1, .int p2]) ++ List.replicate (3 - (lg_sl ([.ref h_this, .int p1, .int p2])).length) Slot.unset).toArray = ls at hl ⊢
  have hl : lv_has ls 3 [(0, .ref h_this), (1, .int p1), (2, .int p2)] := hl
  refine lv_aload_n hx hb d_Source_addNode_0 rfl (lv_at hl 0 rfl) ?_
  refine va_get (D := (dC, dI)) (ci := 8) (v := .int (nI n)) (C := R_Source) (T := F_Source) (N := 16) hx hb hT i_Source hown hK hP 0 rfl rfl 8 (by decide) (hT _ fl_Source_96) (fun _ h9 => h9) g_this_nodes d_Source_addNode_1 ?_
  refine lv_sipush (v := 4008) hx hb d_Source_addNode_4 (by decide) ?_
  refine lv_icmp_lt (tgt := 12) hx hb d_Source_addNode_7 (by decide) (fun c1 => ?_) (fun c1 => absurd (nI_lt (b := 4008) hn (by decide)) c1)
  refine lv_aload_n hx hb d_Source_addNode_12 rfl (lv_at hl 0 rfl) ?_
  refine va_get (D := (dC, dI)) (ci := 8) (v := .ref h_kind) (C := R_Source) (T := F_Source) (N := 16) hx hb hT i_Source hown hK hP 0 rfl rfl 0 (by decide) (hT _ fl_Source_11) (fun _ h9 => h9) g_this_kind d_Source_addNode_13 ?_
  refine lv_aload_n hx hb d_Source_addNode_16 rfl (lv_at hl 0 rfl) ?_
  refine va_get (D := (dC, dI)) (ci := 8) (v := .int (nI n)) (C := R_Source) (T := F_Source) (N := 16) hx hb hT i_Source hown hK hP 0 rfl rfl 8 (by decide) (hT _ fl_Source_96) (fun _ h9 => h9) g_this_nodes d_Source_addNode_17 ?_
  refine lv_iload_n hx hb d_Source_addNode_20 rfl (lv_at hl 1 rfl) ?_
  refine va_iast hx hb hK hP hD hS 1 0 rfl rfl (vp_in_nI (by omega) (by decide)) d_Source_addNode_21 (fun H locs hP hD hS => ?_)
  have es2 : upd f_kind (nI n).toNatClampNeg p1 = upd f_kind n p1 := by rw [nI_clamp (by omega)]
  have hP : va_P (dC, dI) cls_all [oc h_this 8 fs_this, ic h_kind k_kind 4008 (upd f_kind (nI n).toNatClampNeg p1), ic h_tok k_tok 4008 f_tok, ic h_next k_next 4008 f_next, ic h_peer k_peer 4008 f_peer, ic h_op k_op 4008 f_op, ic h_left k_left 4008 f_left, ic h_right k_right 4008 f_right, ic h_tail k_tail 4008 f_tail] H := hP
  have hD : va_D A [oc h_this 8 fs_this, ic h_kind k_kind 4008 (upd f_kind (nI n).toNatClampNeg p1), ic h_tok k_tok 4008 f_tok, ic h_next k_next 4008 f_next, ic h_peer k_peer 4008 f_peer, ic h_op k_op 4008 f_op, ic h_left k_left 4008 f_left, ic h_right k_right 4008 f_right, ic h_tail k_tail 4008 f_tail] := hD
  rw [es2] at hP hD
  obtain ⟨f2, ef2⟩ : ∃ g, g = upd f_kind n p1 := ⟨_, rfl⟩
  rw [← ef2] at hP hD
  refine lv_aload_n hx hb d_Source_addNode_22 rfl (lv_at hl 0 rfl) ?_
  refine va_get (D := (dC, dI)) (ci := 8) (v := .ref h_tok) (C := R_Source) (T := F_Source) (N := 16) hx hb hT i_Source hown hK hP 0 rfl rfl 1 (by decide) (hT _ fl_Source_15) (fun _ h9 => h9) g_this_tok d_Source_addNode_23 ?_
  refine lv_aload_n hx hb d_Source_addNode_26 rfl (lv_at hl 0 rfl) ?_
  refine va_get (D := (dC, dI)) (ci := 8) (v := .int (nI n)) (C := R_Source) (T := F_Source) (N := 16) hx hb hT i_Source hown hK hP 0 rfl rfl 8 (by decide) (hT _ fl_Source_96) (fun _ h9 => h9) g_this_nodes d_Source_addNode_27 ?_
  refine lv_iload_n hx hb d_Source_addNode_30 rfl (lv_at hl 2 rfl) ?_
  refine va_iast hx hb hK hP hD hS 2 1 rfl rfl (vp_in_nI (by omega) (by decide)) d_Source_addNode_31 (fun H locs hP hD hS => ?_)
  have es3 : upd f_tok (nI n).toNatClampNeg p2 = upd f_tok n p2 := by rw [nI_clamp (by omega)]
  have hP : va_P (dC, dI) cls_all [oc h_this 8 fs_this, ic h_kind k_kind 4008 f2, ic h_tok k_tok 4008 (upd f_tok (nI n).toNatClampNeg p2), ic h_next k_next 4008 f_next, ic h_peer k_peer 4008 f_peer, ic h_op k_op 4008 f_op, ic h_left k_left 4008 f_left, ic h_right k_right 4008 f_right, ic h_tail k_tail 4008 f_tail] H := hP
  have hD : va_D A [oc h_this 8 fs_this, ic h_kind k_kind 4008 f2, ic h_tok k_tok 4008 (upd f_tok (nI n).toNatClampNeg p2), ic h_next k_next 4008 f_next, ic h_peer k_peer 4008 f_peer, ic h_op k_op 4008 f_op, ic h_left k_left 4008 f_left, ic h_right k_right 4008 f_right, ic h_tail k_tail 4008 f_tail] := hD
  rw [es3] at hP hD
  obtain ⟨f3, ef3⟩ : ∃ g, g = upd f_tok n p2 := ⟨_, rfl⟩
  rw [← ef3] at hP hD
  refine lv_aload_n hx hb d_Source_addNode_32 rfl (lv_at hl 0 rfl) ?_
  refine va_get (D := (dC, dI)) (ci := 8) (v := .ref h_next) (C := R_Source) (T := F_Source) (N := 16) hx hb hT i_Source hown hK hP 0 rfl rfl 2 (by decide) (hT _ fl_Source_18) (fun _ h9 => h9) g_this_next d_Source_addNode_33 ?_
  refine lv_aload_n hx hb d_Source_addNode_36 rfl (lv_at hl 0 rfl) ?_
  refine va_get (D := (dC, dI)) (ci := 8) (v := .int (nI n)) (C := R_Source) (T := F_Source) (N := 16) hx hb hT i_Source hown hK hP 0 rfl rfl 8 (by decide) (hT _ fl_Source_96) (fun _ h9 => h9) g_this_nodes d_Source_addNode_37 ?_
  refine lv_iconst (v := 0) hx hb d_Source_addNode_40 (by decide) ?_
  refine va_iast hx hb hK hP hD hS 3 2 rfl rfl (vp_in_nI (by omega) (by decide)) d_Source_addNode_41 (fun H locs hP hD hS => ?_)
  have es4 : upd f_next (nI n).toNatClampNeg 0 = upd f_next n 0 := by rw [nI_clamp (by omega)]
  have hP : va_P (dC, dI) cls_all [oc h_this 8 fs_this, ic h_kind k_kind 4008 f2, ic h_tok k_tok 4008 f3, ic h_next k_next 4008 (upd f_next (nI n).toNatClampNeg 0), ic h_peer k_peer 4008 f_peer, ic h_op k_op 4008 f_op, ic h_left k_left 4008 f_left, ic h_right k_right 4008 f_right, ic h_tail k_tail 4008 f_tail] H := hP
  have hD : va_D A [oc h_this 8 fs_this, ic h_kind k_kind 4008 f2, ic h_tok k_tok 4008 f3, ic h_next k_next 4008 (upd f_next (nI n).toNatClampNeg 0), ic h_peer k_peer 4008 f_peer, ic h_op k_op 4008 f_op, ic h_left k_left 4008 f_left, ic h_right k_right 4008 f_right, ic h_tail k_tail 4008 f_tail] := hD
  rw [es4] at hP hD
  obtain ⟨f4, ef4⟩ : ∃ g, g = upd f_next n 0 := ⟨_, rfl⟩
  rw [← ef4] at hP hD
  refine lv_aload_n hx hb d_Source_addNode_42 rfl (lv_at hl 0 rfl) ?_
  refine va_get (D := (dC, dI)) (ci := 8) (v := .ref h_peer) (C := R_Source) (T := F_Source) (N := 16) hx hb hT i_Source hown hK hP 0 rfl rfl 3 (by decide) (hT _ fl_Source_21) (fun _ h9 => h9) g_this_peer d_Source_addNode_43 ?_
  refine lv_aload_n hx hb d_Source_addNode_46 rfl (lv_at hl 0 rfl) ?_
  refine va_get (D := (dC, dI)) (ci := 8) (v := .int (nI n)) (C := R_Source) (T := F_Source) (N := 16) hx hb hT i_Source hown hK hP 0 rfl rfl 8 (by decide) (hT _ fl_Source_96) (fun _ h9 => h9) g_this_nodes d_Source_addNode_47 ?_
  refine lv_iconst (v := 0) hx hb d_Source_addNode_50 (by decide) ?_
  refine va_iast hx hb hK hP hD hS 4 3 rfl rfl (vp_in_nI (by omega) (by decide)) d_Source_addNode_51 (fun H locs hP hD hS => ?_)
  have es5 : upd f_peer (nI n).toNatClampNeg 0 = upd f_peer n 0 := by rw [nI_clamp (by omega)]
  have hP : va_P (dC, dI) cls_all [oc h_this 8 fs_this, ic h_kind k_kind 4008 f2, ic h_tok k_tok 4008 f3, ic h_next k_next 4008 f4, ic h_peer k_peer 4008 (upd f_peer (nI n).toNatClampNeg 0), ic h_op k_op 4008 f_op, ic h_left k_left 4008 f_left, ic h_right k_right 4008 f_right, ic h_tail k_tail 4008 f_tail] H := hP
  have hD : va_D A [oc h_this 8 fs_this, ic h_kind k_kind 4008 f2, ic h_tok k_tok 4008 f3, ic h_next k_next 4008 f4, ic h_peer k_peer 4008 (upd f_peer (nI n).toNatClampNeg 0), ic h_op k_op 4008 f_op, ic h_left k_left 4008 f_left, ic h_right k_right 4008 f_right, ic h_tail k_tail 4008 f_tail] := hD
  rw [es5] at hP hD
  obtain ⟨f5, ef5⟩ : ∃ g, g = upd f_peer n 0 := ⟨_, rfl⟩
  rw [← ef5] at hP hD
  refine lv_aload_n hx hb d_Source_addNode_52 rfl (lv_at hl 0 rfl) ?_
  refine va_get (D := (dC, dI)) (ci := 8) (v := .ref h_op) (C := R_Source) (T := F_Source) (N := 16) hx hb hT i_Source hown hK hP 0 rfl rfl 4 (by decide) (hT _ fl_Source_24) (fun _ h9 => h9) g_this_op d_Source_addNode_53 ?_
  refine lv_aload_n hx hb d_Source_addNode_56 rfl (lv_at hl 0 rfl) ?_
  refine va_get (D := (dC, dI)) (ci := 8) (v := .int (nI n)) (C := R_Source) (T := F_Source) (N := 16) hx hb hT i_Source hown hK hP 0 rfl rfl 8 (by decide) (hT _ fl_Source_96) (fun _ h9 => h9) g_this_nodes d_Source_addNode_57 ?_
  refine lv_iconst (v := 0) hx hb d_Source_addNode_60 (by decide) ?_
  refine va_iast hx hb hK hP hD hS 5 4 rfl rfl (vp_in_nI (by omega) (by decide)) d_Source_addNode_61 (fun H locs hP hD hS => ?_)
  have es6 : upd f_op (nI n).toNatClampNeg 0 = upd f_op n 0 := by rw [nI_clamp (by omega)]
  have hP : va_P (dC, dI) cls_all [oc h_this 8 fs_this, ic h_kind k_kind 4008 f2, ic h_tok k_tok 4008 f3, ic h_next k_next 4008 f4, ic h_peer k_peer 4008 f5, ic h_op k_op 4008 (upd f_op (nI n).toNatClampNeg 0), ic h_left k_left 4008 f_left, ic h_right k_right 4008 f_right, ic h_tail k_tail 4008 f_tail] H := hP
  have hD : va_D A [oc h_this 8 fs_this, ic h_kind k_kind 4008 f2, ic h_tok k_tok 4008 f3, ic h_next k_next 4008 f4, ic h_peer k_peer 4008 f5, ic h_op k_op 4008 (upd f_op (nI n).toNatClampNeg 0), ic h_left k_left 4008 f_left, ic h_right k_right 4008 f_right, ic h_tail k_tail 4008 f_tail] := hD
  rw [es6] at hP hD
  obtain ⟨f6, ef6⟩ : ∃ g, g = upd f_op n 0 := ⟨_, rfl⟩
  rw [← ef6] at hP hD
  refine lv_aload_n hx hb d_Source_addNode_62 rfl (lv_at hl 0 rfl) ?_
  refine va_get (D := (dC, dI)) (ci := 8) (v := .ref h_left) (C := R_Source) (T := F_Source) (N := 16) hx hb hT i_Source hown hK hP 0 rfl rfl 5 (by decide) (hT _ fl_Source_27) (fun _ h9 => h9) g_this_left d_Source_addNode_63 ?_
  refine lv_aload_n hx hb d_Source_addNode_66 rfl (lv_at hl 0 rfl) ?_
  refine va_get (D := (dC, dI)) (ci := 8) (v := .int (nI n)) (C := R_Source) (T := F_Source) (N := 16) hx hb hT i_Source hown hK hP 0 rfl rfl 8 (by decide) (hT _ fl_Source_96) (fun _ h9 => h9) g_this_nodes d_Source_addNode_67 ?_
  refine lv_iconst (v := 0) hx hb d_Source_addNode_70 (by decide) ?_
  refine va_iast hx hb hK hP hD hS 6 5 rfl rfl (vp_in_nI (by omega) (by decide)) d_Source_addNode_71 (fun H locs hP hD hS => ?_)
  have es7 : upd f_left (nI n).toNatClampNeg 0 = upd f_left n 0 := by rw [nI_clamp (by omega)]
  have hP : va_P (dC, dI) cls_all [oc h_this 8 fs_this, ic h_kind k_kind 4008 f2, ic h_tok k_tok 4008 f3, ic h_next k_next 4008 f4, ic h_peer k_peer 4008 f5, ic h_op k_op 4008 f6, ic h_left k_left 4008 (upd f_left (nI n).toNatClampNeg 0), ic h_right k_right 4008 f_right, ic h_tail k_tail 4008 f_tail] H := hP
  have hD : va_D A [oc h_this 8 fs_this, ic h_kind k_kind 4008 f2, ic h_tok k_tok 4008 f3, ic h_next k_next 4008 f4, ic h_peer k_peer 4008 f5, ic h_op k_op 4008 f6, ic h_left k_left 4008 (upd f_left (nI n).toNatClampNeg 0), ic h_right k_right 4008 f_right, ic h_tail k_tail 4008 f_tail] := hD
  rw [es7] at hP hD
  obtain ⟨f7, ef7⟩ : ∃ g, g = upd f_left n 0 := ⟨_, rfl⟩
  rw [← ef7] at hP hD
  refine lv_aload_n hx hb d_Source_addNode_72 rfl (lv_at hl 0 rfl) ?_
  refine va_get (D := (dC, dI)) (ci := 8) (v := .ref h_right) (C := R_Source) (T := F_Source) (N := 16) hx hb hT i_Source hown hK hP 0 rfl rfl 6 (by decide) (hT _ fl_Source_30) (fun _ h9 => h9) g_this_right d_Source_addNode_73 ?_
  refine lv_aload_n hx hb d_Source_addNode_76 rfl (lv_at hl 0 rfl) ?_
  refine va_get (D := (dC, dI)) (ci := 8) (v := .int (nI n)) (C := R_Source) (T := F_Source) (N := 16) hx hb hT i_Source hown hK hP 0 rfl rfl 8 (by decide) (hT _ fl_Source_96) (fun _ h9 => h9) g_this_nodes d_Source_addNode_77 ?_
  refine lv_iconst (v := 0) hx hb d_Source_addNode_80 (by decide) ?_
  refine va_iast hx hb hK hP hD hS 7 6 rfl rfl (vp_in_nI (by omega) (by decide)) d_Source_addNode_81 (fun H locs hP hD hS => ?_)
  have es8 : upd f_right (nI n).toNatClampNeg 0 = upd f_right n 0 := by rw [nI_clamp (by omega)]
  have hP : va_P (dC, dI) cls_all [oc h_this 8 fs_this, ic h_kind k_kind 4008 f2, ic h_tok k_tok 4008 f3, ic h_next k_next 4008 f4, ic h_peer k_peer 4008 f5, ic h_op k_op 4008 f6, ic h_left k_left 4008 f7, ic h_right k_right 4008 (upd f_right (nI n).toNatClampNeg 0), ic h_tail k_tail 4008 f_tail] H := hP
  have hD : va_D A [oc h_this 8 fs_this, ic h_kind k_kind 4008 f2, ic h_tok k_tok 4008 f3, ic h_next k_next 4008 f4, ic h_peer k_peer 4008 f5, ic h_op k_op 4008 f6, ic h_left k_left 4008 f7, ic h_right k_right 4008 (upd f_right (nI n).toNatClampNeg 0), ic h_tail k_tail 4008 f_tail] := hD
  rw [es8] at hP hD
  obtain ⟨f8, ef8⟩ : ∃ g, g = upd f_right n 0 := ⟨_, rfl⟩
  rw [← ef8] at hP hD
  refine lv_aload_n hx hb d_Source_addNode_82 rfl (lv_at hl 0 rfl) ?_
  refine va_get (D := (dC, dI)) (ci := 8) (v := .ref h_tail) (C := R_Source) (T := F_Source) (N := 16) hx hb hT i_Source hown hK hP 0 rfl rfl 7 (by decide) (hT _ fl_Source_33) (fun _ h9 => h9) g_this_tail d_Source_addNode_83 ?_
  refine lv_aload_n hx hb d_Source_addNode_86 rfl (lv_at hl 0 rfl) ?_
  refine va_get (D := (dC, dI)) (ci := 8) (v := .int (nI n)) (C := R_Source) (T := F_Source) (N := 16) hx hb hT i_Source hown hK hP 0 rfl rfl 8 (by decide) (hT _ fl_Source_96) (fun _ h9 => h9) g_this_nodes d_Source_addNode_87 ?_
  refine lv_iconst (v := 0) hx hb d_Source_addNode_90 (by decide) ?_
  refine va_iast hx hb hK hP hD hS 8 7 rfl rfl (vp_in_nI (by omega) (by decide)) d_Source_addNode_91 (fun H locs hP hD hS => ?_)
  have es9 : upd f_tail (nI n).toNatClampNeg 0 = upd f_tail n 0 := by rw [nI_clamp (by omega)]
  have hP : va_P (dC, dI) cls_all [oc h_this 8 fs_this, ic h_kind k_kind 4008 f2, ic h_tok k_tok 4008 f3, ic h_next k_next 4008 f4, ic h_peer k_peer 4008 f5, ic h_op k_op 4008 f6, ic h_left k_left 4008 f7, ic h_right k_right 4008 f8, ic h_tail k_tail 4008 (upd f_tail (nI n).toNatClampNeg 0)] H := hP
  have hD : va_D A [oc h_this 8 fs_this, ic h_kind k_kind 4008 f2, ic h_tok k_tok 4008 f3, ic h_next k_next 4008 f4, ic h_peer k_peer 4008 f5, ic h_op k_op 4008 f6, ic h_left k_left 4008 f7, ic h_right k_right 4008 f8, ic h_tail k_tail 4008 (upd f_tail (nI n).toNatClampNeg 0)] := hD
  rw [es9] at hP hD
  obtain ⟨f9, ef9⟩ : ∃ g, g = upd f_tail n 0 := ⟨_, rfl⟩
  rw [← ef9] at hP hD
  refine lv_aload_n hx hb d_Source_addNode_92 rfl (lv_at hl 0 rfl) ?_
  refine lv_dup hx hb d_Source_addNode_93 rfl ?_
  refine va_get (D := (dC, dI)) (ci := 8) (v := .int (nI n)) (C := R_Source) (T := F_Source) (N := 16) hx hb hT i_Source hown hK hP 0 rfl rfl 8 (by decide) (hT _ fl_Source_96) (fun _ h9 => h9) g_this_nodes d_Source_addNode_94 ?_
  refine lv_iconst (v := 1) hx hb d_Source_addNode_97 (by decide) ?_
  refine lv_iadd hx hb d_Source_addNode_98 ?_
  refine lv_topi (fun x10 e10 => ?_)
  obtain rfl : x10 = nI (n + 1) := e10.trans (nI_add n 1)
  refine va_put (D := (dC, dI)) (ci := 8) (v := .int (nI (n + 1))) (ty := .int) (C := R_Source) (T := F_Source) (N := 16) hx hb hT i_Source t_Source t_Source_ok n_Source hown hK hP hD hS 0 rfl rfl 8 (by decide) (hT _ fl_Source_96) (fun _ h9 => h9) rfl (by decide +kernel) rfl rfl (by simp only [List.length_set, len_this]; decide) d_Source_addNode_99 (fun H locs hP hD hS => ?_)
  have hP : va_P (dC, dI) cls_all [oc h_this 8 (fs_this.set 8 (.int (nI (n + 1)))), ic h_kind k_kind 4008 f2, ic h_tok k_tok 4008 f3, ic h_next k_next 4008 f4, ic h_peer k_peer 4008 f5, ic h_op k_op 4008 f6, ic h_left k_left 4008 f7, ic h_right k_right 4008 f8, ic h_tail k_tail 4008 f9] H := hP
  have hD : va_D A [oc h_this 8 (fs_this.set 8 (.int (nI (n + 1)))), ic h_kind k_kind 4008 f2, ic h_tok k_tok 4008 f3, ic h_next k_next 4008 f4, ic h_peer k_peer 4008 f5, ic h_op k_op 4008 f6, ic h_left k_left 4008 f7, ic h_right k_right 4008 f8, ic h_tail k_tail 4008 f9] := hD
  refine lv_aload_n hx hb d_Source_addNode_102 rfl (lv_at hl 0 rfl) ?_
  refine va_get (D := (dC, dI)) (ci := 8) (v := .int (nI (n + 1))) (C := R_Source) (T := F_Source) (N := 16) hx hb hT i_Source hown hK hP 0 rfl rfl 8 (by decide) (hT _ fl_Source_96) (fun _ h9 => h9) (ls_eq (by simp only [List.length_set, len_this]; decide)) d_Source_addNode_103 ?_
  refine lv_iconst (v := 1) hx hb d_Source_addNode_106 (by decide) ?_
  refine lv_isub hx hb d_Source_addNode_107 ?_
  refine lv_topi (fun x11 e11 => ?_)
  obtain rfl : x11 = nI n := e11.trans ((pk_sub (a := n + 1) (b := 1) (by omega)).trans (congrArg nI (by omega)))
  have hP9 := hP.sub (ws' := [oc h_this 8 (fs_this.set 8 (.int (nI (n + 1)))), ic h_kind k_kind 4008 f2, ic h_tok k_tok 4008 f3, ic h_next k_next 4008 f4, ic h_peer k_peer 4008 f5, ic h_op k_op 4008 f6, ic h_left k_left 4008 f7, ic h_right k_right 4008 f8, ic h_tail k_tail 4008 f9]) [0, 1, 2, 3, 4, 5, 6, 7, 8] rfl
  have hD9 := hD.sub (ws' := [oc h_this 8 (fs_this.set 8 (.int (nI (n + 1)))), ic h_kind k_kind 4008 f2, ic h_tok k_tok 4008 f3, ic h_next k_next 4008 f4, ic h_peer k_peer 4008 f5, ic h_op k_op 4008 f6, ic h_left k_left 4008 f7, ic h_right k_right 4008 f8, ic h_tail k_tail 4008 f9]) [0, 1, 2, 3, 4, 5, 6, 7, 8] (by decide) rfl
  have hK9 := hK.sub (tys' := [(k_kind, .int), (k_tok, .int), (k_next, .int), (k_peer, .int), (k_op, .int), (k_left, .int), (k_right, .int), (k_tail, .int)]) [0, 1, 2, 3, 4, 5, 6, 7] rfl
  have hv12 : (fs_this.set 8 (.int (nI (n + 1))))[8]? = some (.int (nI (n + 1))) := (ls_eq (by simp only [List.length_set, len_this]; decide))
  exact W.iret (v := (nI n)) hx hb hr (fun t ht hW => ⟨⟨(nI n), (nI n), rfl, rfl, (fs_this.set 8 (.int (nI (n + 1)))), f2, f3, f4, f5, f6, f7, f8, f9, ⟨(by first | exact len_this | (simp only [List.length_set]; exact len_this)), (fun j n8 => ((ls_ne n8).trans rfl)), (by first | exact hv12 | (rw [hv12]; refine congrArg some (congrArg _ ?_); subst_vars; rfl)), (by subst_vars; rfl), (by subst_vars; rfl), (by subst_vars; rfl), (by subst_vars; rfl), (by subst_vars; rfl), (by subst_vars; rfl), (by subst_vars; rfl), (by subst_vars; rfl), (by subst_vars; rfl)⟩, by rw [ht]; exact hP9, va_K.moved hW.alike hK9, hD9⟩, hS.F ht⟩) hS.2.2 d_Source_addNode_108
set_option maxHeartbeats 1000000 in
set_option maxRecDepth 100000 in
theorem c_Parser_sees (l : Launch) (dC : Nat → ClassId) (dI : Nat → Nat → Nat)  (h_this : Nat) (h_source : Nat) (h_source_tokenKind : Nat) (fs_this : List Value) (v_this_stopped : Int32) (v_this_at : Int32) (fs_source : List Value) (v_source_tokens : Int32) (k_source_tokenKind : ClassId) (f_source_tokenKind : Nat → Int32) (p1 : Int32) (len_this : fs_this.length = 7) (g_this_stopped : fs_this[4]? = some (.int v_this_stopped)) (g_this_at : fs_this[3]? = some (.int v_this_at)) (g_this_source : fs_this[0]? = some (.ref h_source)) (len_source : fs_source.length = 16) (g_source_tokens : fs_source[14]? = some (.int v_source_tokens)) (g_source_tokenKind : fs_source[11]? = some (.ref h_source_tokenKind)) (ht : v_source_tokens ≤ 4001) : Met l y_Parser_sees w_Parser_sees ({ frames := 1, cells := 0, slots := 0, locals := 21 } : Room) (va_Pc [.ref h_this, .int p1] (fun U => va_P (dC, dI) cls_all [oc h_this 6 fs_this, oc h_source 8 fs_source, ic h_source_tokenKind k_source_tokenKind 4001 f_source_tokenKind] U.heap ∧ va_K (dC, dI) cls_all [(k_source_tokenKind, .int)] U)) (vp_Si (fun r : Int32 => (r = if v_this_stopped = 0 ∧ (if v_this_at < 0 ∨ v_source_tokens ≤ v_this_at then 0 else f_source_tokenKind v_this_at.toNatClampNeg) = p1 then 1 else 0))) 0 0 (fun _ => False) := by
  refine Met.ofW (cc := b_Parser_sees) (maxL := 2) (ret := (some .boolean)) (by decide) rfl ?_
  intro p e s m args below meth c s₁ B hml hv
  obtain ⟨rfl, hP, hK⟩ := hv
  have hx := B.exec
  have hb := B.bytes
  have hr := B.returns
  have hT : ∀ w ∈ lw_good, w.before _ s = true := fun w h => atoms_spec (ws := w_Parser_sees) B.pre w (List.mem_cons_of_mem _ h)
  have hown : s.vm.findClass R_Parser = some m.cls := findClass_of_methodNamed B.named
  have hlocks := B.notSynchronized
  have hl := lv_entry ([.ref h_this, .int p1]) (n := 2) (Nat.le_of_ble_eq_true rfl)
  rw [lg_entry_eq]
  generalize (lg_sl ([.ref h_this, .int p1]) ++ List.replicate (2 - (lg_sl ([.ref h_this, .int p1])).length) Slot.unset).toArray = ls at hl ⊢
  have hl : lv_has ls 2 [(0, .ref h_this), (1, .int p1)] := hl
  refine lv_aload_n hx hb d_Parser_sees_0 rfl (lv_at hl 0 rfl) ?_
  refine va_get (D := (dC, dI)) (ci := 6) (v := .int v_this_stopped) (C := R_Parser) (T := F_Parser) (N := 7) hx hb hT i_Parser hown hK hP 0 rfl rfl 4 (by decide) (hT _ fl_Parser_27) (fun _ h9 => h9) g_this_stopped d_Parser_sees_1 ?_
  refine lv_if_ne (tgt := 26) hx hb d_Parser_sees_4 (by decide) (fun c1 => ?_) (fun c1 => ?_)
  · refine lv_iconst (v := 0) hx hb d_Parser_sees_26 (by decide) ?_
    refine W.zret (v := 0) hx hb hr (by first | rfl | decide | assumption) (fun t ht hW => ⟨0, rfl, ?_, ht⟩) (fun q h => by cases h) d_Parser_sees_27
    first | (simp [c1]; done) | (subst_vars; simp_all; done)
  · refine lv_aload_n hx hb d_Parser_sees_7 rfl (lv_at hl 0 rfl) ?_
    refine va_get (D := (dC, dI)) (ci := 6) (v := .ref h_source) (C := R_Parser) (T := F_Parser) (N := 7) hx hb hT i_Parser hown hK hP 0 rfl rfl 0 (by decide) (hT _ fl_Parser_9) (fun _ h9 => h9) g_this_source d_Parser_sees_8 ?_
    refine lv_aload_n hx hb d_Parser_sees_11 rfl (lv_at hl 0 rfl) ?_
    refine va_get (D := (dC, dI)) (ci := 6) (v := .int v_this_at) (C := R_Parser) (T := F_Parser) (N := 7) hx hb hT i_Parser hown hK hP 0 rfl rfl 3 (by decide) (hT _ fl_Parser_23) (fun _ h9 => h9) g_this_at d_Parser_sees_12 ?_
    have hPc := hP.sub (ws' := [oc h_source 8 fs_source, ic h_source_tokenKind k_source_tokenKind 4001 f_source_tokenKind]) [1, 2] rfl
    have hKc := hK.sub (tys' := [(k_source_tokenKind, .int)]) [0] rfl
    refine vp_callSi (va_Run.run (va_runV (As := [.int v_this_at]) (rest := []) ⟨hx, hb, hml, hown, hT⟩ (c_Source_kindAt l dC dI (h_this := h_source) (h_tokenKind := h_source_tokenKind) (fs_this := fs_source) (v_this_tokens := v_source_tokens) (k_tokenKind := k_source_tokenKind) (f_tokenKind := f_source_tokenKind) (p1 := v_this_at) (len_this := (by first | exact len_source | (simp only [List.length_set]; exact len_source))) (g_this_tokens := g_source_tokens) (g_this_tokenKind := g_source_tokenKind) (ht := (by first | assumption | (subst_vars; decide) | omega))) (cwV 1 hT (gV ml_Parser_44 im_Source_kindAt se_Source_kindAt ini_Source co_Source_kindAt) rfl rfl rfl (by decide +kernel) ⟨Nat.le_of_ble_eq_true rfl, Nat.le_of_ble_eq_true rfl⟩) ⟨fbS, va_recv hKc hPc (ci := 8) (q0 := 0) rfl rfl, fun U hU hW => ⟨rfl, by rw [hU]; exact hPc, va_K.moved hW.alike hKc⟩⟩ rfl rfl hl.1 rfl (lv_room (Nat.le_of_ble_eq_true rfl)) d_Parser_sees_15 ⟨Nat.le_of_ble_eq_true rfl, Nat.le_of_ble_eq_true rfl⟩)) (fun r2 hr2 => ?_)
    refine lv_iload_n hx hb d_Parser_sees_18 rfl (lv_at hl 1 rfl) ?_
    refine lv_icmp_ne (tgt := 26) hx hb d_Parser_sees_19 (by decide) (fun c3 => ?_) (fun c3 => ?_)
    · refine lv_iconst (v := 0) hx hb d_Parser_sees_26 (by decide) ?_
      refine W.zret (v := 0) hx hb hr (by first | rfl | decide | assumption) (fun t ht hW => ⟨0, rfl, ?_, ht⟩) (fun q h => by cases h) d_Parser_sees_27
      first | (simp [c1, hr2, c3]; done) | (subst_vars; simp_all; done)
    · refine lv_iconst (v := 1) hx hb d_Parser_sees_22 (by decide) ?_
      refine lv_goto (tgt := 27) hx hb d_Parser_sees_23 (by decide) ?_
      refine W.zret (v := 1) hx hb hr (by first | rfl | decide | assumption) (fun t ht hW => ⟨1, rfl, ?_, ht⟩) (fun q h => by cases h) d_Parser_sees_27
      first | (simp [c1, hr2, c3]; done) | (subst_vars; simp_all; done)
set_option maxHeartbeats 1000000 in
set_option maxRecDepth 100000 in
theorem c_Parser_stop (l : Launch) (dC : Nat → ClassId) (dI : Nat → Nat → Nat) (sz : Nat) (h_this : Nat) (h_source : Nat) (h_source_tokenStart : Nat) (h_code : Nat) (fs_this : List Value) (v_this_stopped : Int32) (v_this_at : Int32) (fs_source : List Value) (v_source_tokens : Int32) (v_source_length : Int32) (k_source_tokenStart : ClassId) (f_source_tokenStart : Nat → Int32) (fs_code : List Value) (v_code_faultKind : Int32) (v_code_faultPlace : Int32) (len_this : fs_this.length = 7) (g_this_stopped : fs_this[4]? = some (.int v_this_stopped)) (g_this_at : fs_this[3]? = some (.int v_this_at)) (g_this_source : fs_this[0]? = some (.ref h_source)) (g_this_code : fs_this[2]? = some (.ref h_code)) (len_source : fs_source.length = 16) (g_source_tokens : fs_source[14]? = some (.int v_source_tokens)) (g_source_tokenStart : fs_source[12]? = some (.ref h_source_tokenStart)) (g_source_length : fs_source[10]? = some (.int v_source_length)) (len_code : fs_code.length = 7) (g_code_faultKind : fs_code[5]? = some (.int v_code_faultKind)) (g_code_faultPlace : fs_code[6]? = some (.int v_code_faultPlace)) (ht : v_source_tokens ≤ 4001) : Met l y_Parser_stop w_Parser_stop ({ frames := 1, cells := 0, slots := 0, locals := 22 } : Room) (va_Pc [.ref h_this] (fun U => U.heap.size = sz ∧ va_P (dC, dI) cls_all [oc h_this 6 fs_this, oc h_source 8 fs_source, ic h_source_tokenStart k_source_tokenStart 4001 f_source_tokenStart, oc h_code 0 fs_code] U.heap ∧ va_K (dC, dI) cls_all [(k_source_tokenStart, .int)] U ∧ va_D (fun _ => True) [oc h_this 6 fs_this, oc h_source 8 fs_source, ic h_source_tokenStart k_source_tokenStart 4001 f_source_tokenStart, oc h_code 0 fs_code])) (va_Qv (fun (_ : Unit) => True) (fun _ t => ∃ (fs_this' : List Value) (fs_code' : List Value), (fs_this'.length = 7 ∧ (∀ j : Nat, j ≠ 4 → fs_this'[j]? = fs_this[j]?) ∧ fs_this'[4]? = some (.int (1)) ∧ fs_code'.length = 7 ∧ (∀ j : Nat, j ≠ 5 → j ≠ 6 → fs_code'[j]? = fs_code[j]?) ∧ fs_code'[5]? = some (.int (if v_code_faultKind = 0 then 1 else v_code_faultKind)) ∧ fs_code'[6]? = some (.int (if v_code_faultKind = 0 then (if v_this_at < 0 ∨ v_source_tokens ≤ v_this_at then v_source_length else f_source_tokenStart v_this_at.toNatClampNeg) else v_code_faultPlace))) ∧ va_P (dC, dI) cls_all [oc h_this 6 fs_this', oc h_source 8 fs_source, ic h_source_tokenStart k_source_tokenStart 4001 f_source_tokenStart, oc h_code 0 fs_code'] t.heap ∧ va_K (dC, dI) cls_all [(k_source_tokenStart, .int)] t ∧ va_D (va_A [oc h_this 6 fs_this, oc h_source 8 fs_source, ic h_source_tokenStart k_source_tokenStart 4001 f_source_tokenStart, oc h_code 0 fs_code] sz) [oc h_this 6 fs_this', oc h_source 8 fs_source, ic h_source_tokenStart k_source_tokenStart 4001 f_source_tokenStart, oc h_code 0 fs_code']) (va_A [oc h_this 6 fs_this, oc h_source 8 fs_source, ic h_source_tokenStart k_source_tokenStart 4001 f_source_tokenStart, oc h_code 0 fs_code] sz)) 0 0 (va_A [oc h_this 6 fs_this, oc h_source 8 fs_source, ic h_source_tokenStart k_source_tokenStart 4001 f_source_tokenStart, oc h_code 0 fs_code] sz) := by
  refine Met.ofW (cc := b_Parser_stop) (maxL := 1) (ret := none) (by decide) rfl ?_
  intro p e s m args below meth c s₁ B hml hv
  obtain ⟨rfl, hsz, hP, hK, hD0⟩ := hv
  have hx := B.exec
  have hb := B.bytes
  have hr := B.returns
  have hT : ∀ w ∈ lw_good, w.before _ s = true := fun w h => atoms_spec (ws := w_Parser_stop) B.pre w (List.mem_cons_of_mem _ h)
  have hown : s.vm.findClass R_Parser = some m.cls := findClass_of_methodNamed B.named
  have hlocks := B.notSynchronized
  subst hsz
  have hD := hD0.self (sz := s.heap.size)
  generalize hAe : va_A [oc h_this 6 fs_this, oc h_source 8 fs_source, ic h_source_tokenStart k_source_tokenStart 4001 f_source_tokenStart, oc h_code 0 fs_code] s.heap.size = A at hD ⊢
  have hA : ∀ q : Nat, s.heap.size ≤ q → A q := fun q h => by rw [← hAe]; exact Or.inr h
  have hS : va_S A s.heap s.heap [] := va_S.rf
  have hP : va_P (dC, dI) cls_all [oc h_this 6 fs_this, oc h_source 8 fs_source, ic h_source_tokenStart k_source_tokenStart 4001 f_source_tokenStart, oc h_code 0 fs_code] s.heap := hP
  have hl := lv_entry ([.ref h_this]) (n := 1) (Nat.le_of_ble_eq_true rfl)
  rw [lg_entry_eq]
  generalize (lg_sl ([.ref h_this]) ++ List.replicate (1 - (lg_sl ([.ref h_this])).length) Slot.unset).toArray = ls at hl ⊢
  have hl : lv_has ls 1 [(0, .ref h_this)] := hl
  refine lv_aload_n hx hb d_Parser_stop_0 rfl (lv_at hl 0 rfl) ?_
  refine lv_iconst (v := 1) hx hb d_Parser_stop_1 (by decide) ?_
  refine va_put (D := (dC, dI)) (ci := 6) (v := .int 1) (ty := .boolean) (C := R_Parser) (T := F_Parser) (N := 7) hx hb hT i_Parser t_Parser t_Parser_ok n_Parser hown hK hP hD hS 0 rfl rfl 4 (by decide) (hT _ fl_Parser_27) (fun _ h9 => h9) rfl (by decide +kernel) rfl rfl (by simp only [List.length_set, len_this]; decide) d_Parser_stop_2 (fun H locs hP hD hS => ?_)
  have hP : va_P (dC, dI) cls_all [oc h_this 6 (fs_this.set 4 (.int 1)), oc h_source 8 fs_source, ic h_source_tokenStart k_source_tokenStart 4001 f_source_tokenStart, oc h_code 0 fs_code] H := hP
  have hD : va_D A [oc h_this 6 (fs_this.set 4 (.int 1)), oc h_source 8 fs_source, ic h_source_tokenStart k_source_tokenStart 4001 f_source_tokenStart, oc h_code 0 fs_code] := hD
  refine lv_aload_n hx hb d_Parser_stop_5 rfl (lv_at hl 0 rfl) ?_
  refine va_get (D := (dC, dI)) (ci := 6) (v := .ref h_code) (C := R_Parser) (T := F_Parser) (N := 7) hx hb hT i_Parser hown hK hP 0 rfl rfl 2 (by decide) (hT _ fl_Parser_19) (fun _ h9 => h9) ((ls_ne (by decide)).trans g_this_code) d_Parser_stop_6 ?_
  refine lv_iconst (v := 1) hx hb d_Parser_stop_9 (by decide) ?_
  refine lv_aload_n hx hb d_Parser_stop_10 rfl (lv_at hl 0 rfl) ?_
  refine va_get (D := (dC, dI)) (ci := 6) (v := .ref h_source) (C := R_Parser) (T := F_Parser) (N := 7) hx hb hT i_Parser hown hK hP 0 rfl rfl 0 (by decide) (hT _ fl_Parser_9) (fun _ h9 => h9) ((ls_ne (by decide)).trans g_this_source) d_Parser_stop_11 ?_
  refine lv_aload_n hx hb d_Parser_stop_14 rfl (lv_at hl 0 rfl) ?_
  refine va_get (D := (dC, dI)) (ci := 6) (v := .int v_this_at) (C := R_Parser) (T := F_Parser) (N := 7) hx hb hT i_Parser hown hK hP 0 rfl rfl 3 (by decide) (hT _ fl_Parser_23) (fun _ h9 => h9) ((ls_ne (by decide)).trans g_this_at) d_Parser_stop_15 ?_
  have hPc := hP.sub (ws' := [oc h_source 8 fs_source, ic h_source_tokenStart k_source_tokenStart 4001 f_source_tokenStart]) [1, 2] rfl
  have hKc := hK.sub (tys' := [(k_source_tokenStart, .int)]) [0] rfl
  refine vp_callSi (va_Run.run (va_runV (As := [.int v_this_at]) (rest := [.int 1, .ref h_code]) ⟨hx, hb, hml, hown, hT⟩ (c_Source_startOf l dC dI (h_this := h_source) (h_tokenStart := h_source_tokenStart) (fs_this := fs_source) (v_this_tokens := v_source_tokens) (v_this_length := v_source_length) (k_tokenStart := k_source_tokenStart) (f_tokenStart := f_source_tokenStart) (p1 := v_this_at) (len_this := (by first | exact len_source | (simp only [List.length_set]; exact len_source))) (g_this_tokens := g_source_tokens) (g_this_tokenStart := g_source_tokenStart) (g_this_length := g_source_length) (ht := (by first | assumption | (subst_vars; decide) | omega))) (cwV 1 hT (gV ml_Parser_56 im_Source_startOf se_Source_startOf ini_Source co_Source_startOf) rfl rfl rfl (by decide +kernel) ⟨Nat.le_of_ble_eq_true rfl, Nat.le_of_ble_eq_true rfl⟩) ⟨fbS, va_recv hKc hPc (ci := 8) (q0 := 0) rfl rfl, fun U hU hW => ⟨rfl, by rw [hU]; exact hPc, va_K.moved hW.alike hKc⟩⟩ rfl rfl hl.1 rfl (lv_room (Nat.le_of_ble_eq_true rfl)) d_Parser_stop_18 ⟨Nat.le_of_ble_eq_true rfl, Nat.le_of_ble_eq_true rfl⟩)) (fun r1 hr1 => ?_)
  have hPc := hP.sub (ws' := [oc h_code 0 fs_code]) [3] rfl
  have hKc := hK.sub (tys' := []) [] rfl
  have hDc := hD.sub (ws' := [oc h_code 0 fs_code]) [3] (by decide) rfl
  have hFc := va_free (wc := [oc h_code 0 fs_code]) hD hS hA [3] rfl
  refine va_callv (va_runV (As := [.int 1, .int r1]) (rest := []) ⟨hx, hb, hml, hown, hT⟩ (c_Code_note l dC dI (sz := H.size) (h_this := h_code) (fs_this := fs_code) (v_this_faultKind := v_code_faultKind) (v_this_faultPlace := v_code_faultPlace) (p1 := 1) (p2 := r1) (len_this := (by first | exact len_code | (simp only [List.length_set]; exact len_code))) (g_this_faultKind := g_code_faultKind) (g_this_faultPlace := g_code_faultPlace)) (cwV 2 hT (gV ml_Parser_59 im_Code_note se_Code_note ini_Code co_Code_note) rfl rfl rfl (by decide +kernel) ⟨Nat.le_of_ble_eq_true rfl, Nat.le_of_ble_eq_true rfl⟩) ⟨fbQ, va_recv hKc hPc (ci := 0) (q0 := 0) rfl rfl, fun U hU hW => ⟨rfl, by rw [hU], by rw [hU]; exact hPc, va_K.moved hW.alike hKc, hDc.weaken (fun _ _ _ _ => trivial)⟩⟩ rfl rfl hl.1 rfl (lv_room (Nat.le_of_ble_eq_true rfl)) d_Parser_stop_21 ⟨Nat.le_of_ble_eq_true rfl, Nat.le_of_ble_eq_true rfl⟩) hS (fun q _ h => hFc q h) hFc (fun u t H1 locs ht hvm hw hB hz1 hk1 hS => ?_)
  obtain ⟨fs_this_2, ⟨hw2_0, hw2_1, hw2_2, hw2_3⟩, hP1, hK1, hD1⟩ := hB
  rw [ht] at hP1
  have hK1 := va_K.moved hvm.symm hK1
  obtain ⟨hP, hD⟩ := va_join (wr := [oc h_this 6 (fs_this.set 4 (.int 1)), oc h_source 8 fs_source, ic h_source_tokenStart k_source_tokenStart 4001 f_source_tokenStart]) (w1 := [oc h_code 0 fs_this_2]) hP hD [3] [0, 1, 2] rfl rfl (by decide) (by decide) hk1 hFc hP1 hD1
  generalize H1 = H at hP hS ⊢
  have hP : va_P (dC, dI) cls_all [oc h_this 6 (fs_this.set 4 (.int 1)), oc h_source 8 fs_source, ic h_source_tokenStart k_source_tokenStart 4001 f_source_tokenStart, oc h_code 0 fs_this_2] H := hP
  have hD : va_D A [oc h_this 6 (fs_this.set 4 (.int 1)), oc h_source 8 fs_source, ic h_source_tokenStart k_source_tokenStart 4001 f_source_tokenStart, oc h_code 0 fs_this_2] := hD
  have hP9 := hP.sub (ws' := [oc h_this 6 (fs_this.set 4 (.int 1)), oc h_source 8 fs_source, ic h_source_tokenStart k_source_tokenStart 4001 f_source_tokenStart, oc h_code 0 fs_this_2]) [0, 1, 2, 3] rfl
  have hD9 := hD.sub (ws' := [oc h_this 6 (fs_this.set 4 (.int 1)), oc h_source 8 fs_source, ic h_source_tokenStart k_source_tokenStart 4001 f_source_tokenStart, oc h_code 0 fs_this_2]) [0, 1, 2, 3] (by decide) rfl
  have hK9 := hK.sub (tys' := [(k_source_tokenStart, .int)]) [0] rfl
  have hv3 : (fs_this.set 4 (.int 1))[4]? = some (.int 1) := (ls_eq (by simp only [List.length_set, len_this]; decide))
  have hv4 : fs_this_2[5]? = some (.int (if v_code_faultKind = 0 then (1 : Int32) else v_code_faultKind)) := hw2_2
  have hv5 : fs_this_2[6]? = some (.int (if v_code_faultKind = 0 then r1 else v_code_faultPlace)) := hw2_3
  exact W.vret hx hb hr (fun t ht hW => ⟨⟨(), rfl, trivial, (fs_this.set 4 (.int 1)), fs_this_2, ⟨(by first | exact len_this | (simp only [List.length_set]; exact len_this)), (fun j n4 => ((ls_ne n4).trans rfl)), (by first | exact hv3 | (rw [hv3]; refine congrArg some (congrArg _ ?_); subst_vars; rfl)), (by first | exact hw2_0 | (simp only [List.length_set]; exact hw2_0)), (fun j n5 n6 => ((hw2_1 j n5 n6).trans rfl)), (by first | exact hv4 | (rw [hv4]; refine congrArg some (congrArg _ ?_); subst_vars; rfl)), (by first | exact hv5 | (rw [hv5]; refine congrArg some (congrArg _ ?_); subst_vars; rfl))⟩, by rw [ht]; exact hP9, va_K.moved hW.alike hK9, hD9⟩, hS.F ht⟩) hS.2.2 d_Parser_stop_24
