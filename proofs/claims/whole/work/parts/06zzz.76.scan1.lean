abbrev b_Source_addToken : ByteArray := prog_10_method_13_code
abbrev y_Source_addToken : MethodName := ⟨R_Source, "addToken", "(IIJ)V"⟩
theorem co_Source_addToken : Cond.code y_Source_addToken b_Source_addToken 5 none ∈ lw_good := lg_in (tin_4 _ (List.mem_of_getElem? (i := 75) rfl)) rfl
abbrev w_Source_addToken : List Cond := Cond.code y_Source_addToken b_Source_addToken 5 none :: lw_good
theorem im_Source_addToken : Cond.instanceMethod y_Source_addToken ∈ lw_good := lg_right (i := 794) (by decide +kernel) rfl
theorem se_Source_addToken : Cond.selects R_Source y_Source_addToken y_Source_addToken ∈ lw_good := lg_left (i := 5) (by decide +kernel) rfl
theorem d_Source_addToken_0 : decode b_Source_addToken 0 = .ok (.aload_n 0, 1) := by decide +kernel
theorem d_Source_addToken_1 : decode b_Source_addToken 1 = .ok (.getfield 86, 3) := by decide +kernel
theorem d_Source_addToken_4 : decode b_Source_addToken 4 = .ok (.sipush 4000, 3) := by decide +kernel
theorem d_Source_addToken_7 : decode b_Source_addToken 7 = .ok (.if_icmp .ge 43, 3) := by decide +kernel
theorem d_Source_addToken_10 : decode b_Source_addToken 10 = .ok (.aload_n 0, 1) := by decide +kernel
theorem d_Source_addToken_11 : decode b_Source_addToken 11 = .ok (.getfield 36, 3) := by decide +kernel
theorem d_Source_addToken_14 : decode b_Source_addToken 14 = .ok (.aload_n 0, 1) := by decide +kernel
theorem d_Source_addToken_15 : decode b_Source_addToken 15 = .ok (.getfield 86, 3) := by decide +kernel
theorem d_Source_addToken_18 : decode b_Source_addToken 18 = .ok (.iload_n 1, 1) := by decide +kernel
theorem d_Source_addToken_19 : decode b_Source_addToken 19 = .ok (.iastore, 1) := by decide +kernel
theorem d_Source_addToken_20 : decode b_Source_addToken 20 = .ok (.aload_n 0, 1) := by decide +kernel
theorem d_Source_addToken_21 : decode b_Source_addToken 21 = .ok (.getfield 39, 3) := by decide +kernel
theorem d_Source_addToken_24 : decode b_Source_addToken 24 = .ok (.aload_n 0, 1) := by decide +kernel
theorem d_Source_addToken_25 : decode b_Source_addToken 25 = .ok (.getfield 86, 3) := by decide +kernel
theorem d_Source_addToken_28 : decode b_Source_addToken 28 = .ok (.iload_n 2, 1) := by decide +kernel
theorem d_Source_addToken_29 : decode b_Source_addToken 29 = .ok (.iastore, 1) := by decide +kernel
theorem d_Source_addToken_30 : decode b_Source_addToken 30 = .ok (.aload_n 0, 1) := by decide +kernel
theorem d_Source_addToken_31 : decode b_Source_addToken 31 = .ok (.getfield 42, 3) := by decide +kernel
theorem d_Source_addToken_34 : decode b_Source_addToken 34 = .ok (.aload_n 0, 1) := by decide +kernel
theorem d_Source_addToken_35 : decode b_Source_addToken 35 = .ok (.getfield 86, 3) := by decide +kernel
theorem d_Source_addToken_38 : decode b_Source_addToken 38 = .ok (.lload_n 3, 1) := by decide +kernel
theorem d_Source_addToken_39 : decode b_Source_addToken 39 = .ok (.lastore, 1) := by decide +kernel
theorem d_Source_addToken_40 : decode b_Source_addToken 40 = .ok (.aload_n 0, 1) := by decide +kernel
theorem d_Source_addToken_41 : decode b_Source_addToken 41 = .ok (.dup, 1) := by decide +kernel
theorem d_Source_addToken_42 : decode b_Source_addToken 42 = .ok (.getfield 86, 3) := by decide +kernel
theorem d_Source_addToken_45 : decode b_Source_addToken 45 = .ok (.iconst 1, 1) := by decide +kernel
theorem d_Source_addToken_46 : decode b_Source_addToken 46 = .ok (.iadd, 1) := by decide +kernel
theorem d_Source_addToken_47 : decode b_Source_addToken 47 = .ok (.putfield 86, 3) := by decide +kernel
theorem d_Source_addToken_50 : decode b_Source_addToken 50 = .ok (.return_, 1) := by decide +kernel
abbrev b_Source_isAllOf : ByteArray := prog_10_method_9_code
abbrev y_Source_isAllOf : MethodName := ⟨R_Source, "isAllOf", "(IIZ)Z"⟩
theorem co_Source_isAllOf : Cond.code y_Source_isAllOf b_Source_isAllOf 5 (some .boolean) ∈ lw_good := lg_in (tin_4 _ (List.mem_of_getElem? (i := 71) rfl)) rfl
abbrev w_Source_isAllOf : List Cond := Cond.code y_Source_isAllOf b_Source_isAllOf 5 (some .boolean) :: lw_good
theorem im_Source_isAllOf : Cond.instanceMethod y_Source_isAllOf ∈ lw_good := lg_right (i := 790) (by decide +kernel) rfl
theorem se_Source_isAllOf : Cond.selects R_Source y_Source_isAllOf y_Source_isAllOf ∈ lw_good := lg_left (i := 4) (by decide +kernel) rfl
theorem d_Source_isAllOf_0 : decode b_Source_isAllOf 0 = .ok (.iload_n 1, 1) := by decide +kernel
theorem d_Source_isAllOf_1 : decode b_Source_isAllOf 1 = .ok (.istore 4, 2) := by decide +kernel
theorem d_Source_isAllOf_3 : decode b_Source_isAllOf 3 = .ok (.iload 4, 2) := by decide +kernel
theorem d_Source_isAllOf_5 : decode b_Source_isAllOf 5 = .ok (.iload_n 2, 1) := by decide +kernel
theorem d_Source_isAllOf_6 : decode b_Source_isAllOf 6 = .ok (.if_icmp .ge 41, 3) := by decide +kernel
theorem d_Source_isAllOf_9 : decode b_Source_isAllOf 9 = .ok (.aload_n 0, 1) := by decide +kernel
theorem d_Source_isAllOf_10 : decode b_Source_isAllOf 10 = .ok (.getfield 73, 3) := by decide +kernel
theorem d_Source_isAllOf_13 : decode b_Source_isAllOf 13 = .ok (.iload 4, 2) := by decide +kernel
theorem d_Source_isAllOf_15 : decode b_Source_isAllOf 15 = .ok (.caload, 1) := by decide +kernel
theorem d_Source_isAllOf_16 : decode b_Source_isAllOf 16 = .ok (.invokestatic 121, 3) := by decide +kernel
theorem d_Source_isAllOf_19 : decode b_Source_isAllOf 19 = .ok (.ifCond .ne 22, 3) := by decide +kernel
theorem d_Source_isAllOf_22 : decode b_Source_isAllOf 22 = .ok (.iload_n 3, 1) := by decide +kernel
theorem d_Source_isAllOf_23 : decode b_Source_isAllOf 23 = .ok (.ifCond .eq 16, 3) := by decide +kernel
theorem d_Source_isAllOf_26 : decode b_Source_isAllOf 26 = .ok (.aload_n 0, 1) := by decide +kernel
theorem d_Source_isAllOf_27 : decode b_Source_isAllOf 27 = .ok (.getfield 73, 3) := by decide +kernel
theorem d_Source_isAllOf_30 : decode b_Source_isAllOf 30 = .ok (.iload 4, 2) := by decide +kernel
theorem d_Source_isAllOf_32 : decode b_Source_isAllOf 32 = .ok (.caload, 1) := by decide +kernel
theorem d_Source_isAllOf_33 : decode b_Source_isAllOf 33 = .ok (.invokestatic 136, 3) := by decide +kernel
theorem d_Source_isAllOf_36 : decode b_Source_isAllOf 36 = .ok (.ifCond .ne 5, 3) := by decide +kernel
theorem d_Source_isAllOf_39 : decode b_Source_isAllOf 39 = .ok (.iconst 0, 1) := by decide +kernel
theorem d_Source_isAllOf_40 : decode b_Source_isAllOf 40 = .ok (.ireturn, 1) := by decide +kernel
theorem d_Source_isAllOf_41 : decode b_Source_isAllOf 41 = .ok (.iinc 4 1, 3) := by decide +kernel
theorem d_Source_isAllOf_44 : decode b_Source_isAllOf 44 = .ok (.goto (-41), 3) := by decide +kernel
theorem d_Source_isAllOf_47 : decode b_Source_isAllOf 47 = .ok (.iconst 1, 1) := by decide +kernel
theorem d_Source_isAllOf_48 : decode b_Source_isAllOf 48 = .ok (.ireturn, 1) := by decide +kernel
abbrev b_Source_valueOf : ByteArray := prog_10_method_8_code
abbrev y_Source_valueOf : MethodName := ⟨R_Source, "valueOf", "(II)J"⟩
theorem co_Source_valueOf : Cond.code y_Source_valueOf b_Source_valueOf 6 (some .long) ∈ lw_good := lg_in (tin_4 _ (List.mem_of_getElem? (i := 79) rfl)) rfl
abbrev w_Source_valueOf : List Cond := Cond.code y_Source_valueOf b_Source_valueOf 6 (some .long) :: lw_good
theorem im_Source_valueOf : Cond.instanceMethod y_Source_valueOf ∈ lw_good := lg_right (i := 798) (by decide +kernel) rfl
theorem se_Source_valueOf : Cond.selects R_Source y_Source_valueOf y_Source_valueOf ∈ lw_good := lg_left (i := 6) (by decide +kernel) rfl
theorem d_Source_valueOf_0 : decode b_Source_valueOf 0 = .ok (.lconst 0, 1) := by decide +kernel
theorem d_Source_valueOf_1 : decode b_Source_valueOf 1 = .ok (.lstore_n 3, 1) := by decide +kernel
theorem d_Source_valueOf_2 : decode b_Source_valueOf 2 = .ok (.iload_n 1, 1) := by decide +kernel
theorem d_Source_valueOf_3 : decode b_Source_valueOf 3 = .ok (.istore 5, 2) := by decide +kernel
theorem d_Source_valueOf_5 : decode b_Source_valueOf 5 = .ok (.iload 5, 2) := by decide +kernel
theorem d_Source_valueOf_7 : decode b_Source_valueOf 7 = .ok (.iload_n 2, 1) := by decide +kernel
theorem d_Source_valueOf_8 : decode b_Source_valueOf 8 = .ok (.if_icmp .ge 27, 3) := by decide +kernel
theorem d_Source_valueOf_11 : decode b_Source_valueOf 11 = .ok (.lload_n 3, 1) := by decide +kernel
theorem d_Source_valueOf_12 : decode b_Source_valueOf 12 = .ok (.ldc2_w 139, 3) := by decide +kernel
theorem k_Source_139 : Cond.constantLong R_Source 139 (10) ∈ lw_good := lg_right (i := 800) (by decide +kernel) rfl
theorem d_Source_valueOf_15 : decode b_Source_valueOf 15 = .ok (.lmul, 1) := by decide +kernel
theorem d_Source_valueOf_16 : decode b_Source_valueOf 16 = .ok (.aload_n 0, 1) := by decide +kernel
theorem d_Source_valueOf_17 : decode b_Source_valueOf 17 = .ok (.getfield 73, 3) := by decide +kernel
theorem d_Source_valueOf_20 : decode b_Source_valueOf 20 = .ok (.iload 5, 2) := by decide +kernel
theorem d_Source_valueOf_22 : decode b_Source_valueOf 22 = .ok (.caload, 1) := by decide +kernel
theorem d_Source_valueOf_23 : decode b_Source_valueOf 23 = .ok (.bipush 48, 2) := by decide +kernel
theorem d_Source_valueOf_25 : decode b_Source_valueOf 25 = .ok (.isub, 1) := by decide +kernel
theorem d_Source_valueOf_26 : decode b_Source_valueOf 26 = .ok (.i2l, 1) := by decide +kernel
theorem d_Source_valueOf_27 : decode b_Source_valueOf 27 = .ok (.ladd, 1) := by decide +kernel
theorem d_Source_valueOf_28 : decode b_Source_valueOf 28 = .ok (.lstore_n 3, 1) := by decide +kernel
theorem d_Source_valueOf_29 : decode b_Source_valueOf 29 = .ok (.iinc 5 1, 3) := by decide +kernel
theorem d_Source_valueOf_32 : decode b_Source_valueOf 32 = .ok (.goto (-27), 3) := by decide +kernel
theorem d_Source_valueOf_35 : decode b_Source_valueOf 35 = .ok (.lload_n 3, 1) := by decide +kernel
theorem d_Source_valueOf_36 : decode b_Source_valueOf 36 = .ok (.lreturn, 1) := by decide +kernel
abbrev b_Source_kindOfRegion : ByteArray := prog_10_method_6_code
abbrev y_Source_kindOfRegion : MethodName := ⟨R_Source, "kindOfRegion", "(II)I"⟩
theorem co_Source_kindOfRegion : Cond.code y_Source_kindOfRegion b_Source_kindOfRegion 5 (some .int) ∈ lw_good := lg_in (tin_4 _ (List.mem_of_getElem? (i := 67) rfl)) rfl
abbrev w_Source_kindOfRegion : List Cond := Cond.code y_Source_kindOfRegion b_Source_kindOfRegion 5 (some .int) :: lw_good
theorem im_Source_kindOfRegion : Cond.instanceMethod y_Source_kindOfRegion ∈ lw_good := lg_right (i := 786) (by decide +kernel) rfl
theorem se_Source_kindOfRegion : Cond.selects R_Source y_Source_kindOfRegion y_Source_kindOfRegion ∈ lw_good := lg_left (i := 3) (by decide +kernel) rfl
theorem d_Source_kindOfRegion_0 : decode b_Source_kindOfRegion 0 = .ok (.iload_n 2, 1) := by decide +kernel
theorem d_Source_kindOfRegion_1 : decode b_Source_kindOfRegion 1 = .ok (.iload_n 1, 1) := by decide +kernel
theorem d_Source_kindOfRegion_2 : decode b_Source_kindOfRegion 2 = .ok (.isub, 1) := by decide +kernel
theorem d_Source_kindOfRegion_3 : decode b_Source_kindOfRegion 3 = .ok (.iconst 1, 1) := by decide +kernel
theorem d_Source_kindOfRegion_4 : decode b_Source_kindOfRegion 4 = .ok (.if_icmp .ne 18, 3) := by decide +kernel
theorem d_Source_kindOfRegion_7 : decode b_Source_kindOfRegion 7 = .ok (.aload_n 0, 1) := by decide +kernel
theorem d_Source_kindOfRegion_8 : decode b_Source_kindOfRegion 8 = .ok (.getfield 73, 3) := by decide +kernel
theorem d_Source_kindOfRegion_11 : decode b_Source_kindOfRegion 11 = .ok (.iload_n 1, 1) := by decide +kernel
theorem d_Source_kindOfRegion_12 : decode b_Source_kindOfRegion 12 = .ok (.caload, 1) := by decide +kernel
theorem d_Source_kindOfRegion_13 : decode b_Source_kindOfRegion 13 = .ok (.bipush 72, 2) := by decide +kernel
theorem d_Source_kindOfRegion_15 : decode b_Source_kindOfRegion 15 = .ok (.if_icmp .ne 7, 3) := by decide +kernel
theorem d_Source_kindOfRegion_18 : decode b_Source_kindOfRegion 18 = .ok (.iconst 1, 1) := by decide +kernel
theorem d_Source_kindOfRegion_19 : decode b_Source_kindOfRegion 19 = .ok (.goto 4, 3) := by decide +kernel
theorem d_Source_kindOfRegion_22 : decode b_Source_kindOfRegion 22 = .ok (.iconst 0, 1) := by decide +kernel
theorem d_Source_kindOfRegion_23 : decode b_Source_kindOfRegion 23 = .ok (.istore_n 3, 1) := by decide +kernel
theorem d_Source_kindOfRegion_24 : decode b_Source_kindOfRegion 24 = .ok (.iload_n 2, 1) := by decide +kernel
theorem d_Source_kindOfRegion_25 : decode b_Source_kindOfRegion 25 = .ok (.iload_n 1, 1) := by decide +kernel
theorem d_Source_kindOfRegion_26 : decode b_Source_kindOfRegion 26 = .ok (.if_icmp .le 37, 3) := by decide +kernel
theorem d_Source_kindOfRegion_29 : decode b_Source_kindOfRegion 29 = .ok (.iload_n 2, 1) := by decide +kernel
theorem d_Source_kindOfRegion_30 : decode b_Source_kindOfRegion 30 = .ok (.iload_n 1, 1) := by decide +kernel
theorem d_Source_kindOfRegion_31 : decode b_Source_kindOfRegion 31 = .ok (.isub, 1) := by decide +kernel
theorem d_Source_kindOfRegion_32 : decode b_Source_kindOfRegion 32 = .ok (.bipush 8, 2) := by decide +kernel
theorem d_Source_kindOfRegion_34 : decode b_Source_kindOfRegion 34 = .ok (.if_icmp .gt 29, 3) := by decide +kernel
theorem d_Source_kindOfRegion_37 : decode b_Source_kindOfRegion 37 = .ok (.aload_n 0, 1) := by decide +kernel
theorem d_Source_kindOfRegion_38 : decode b_Source_kindOfRegion 38 = .ok (.getfield 73, 3) := by decide +kernel
theorem d_Source_kindOfRegion_41 : decode b_Source_kindOfRegion 41 = .ok (.iload_n 1, 1) := by decide +kernel
theorem d_Source_kindOfRegion_42 : decode b_Source_kindOfRegion 42 = .ok (.caload, 1) := by decide +kernel
theorem d_Source_kindOfRegion_43 : decode b_Source_kindOfRegion 43 = .ok (.invokestatic 136, 3) := by decide +kernel
theorem d_Source_kindOfRegion_46 : decode b_Source_kindOfRegion 46 = .ok (.ifCond .eq 17, 3) := by decide +kernel
theorem d_Source_kindOfRegion_49 : decode b_Source_kindOfRegion 49 = .ok (.aload_n 0, 1) := by decide +kernel
theorem d_Source_kindOfRegion_50 : decode b_Source_kindOfRegion 50 = .ok (.iload_n 1, 1) := by decide +kernel
theorem d_Source_kindOfRegion_51 : decode b_Source_kindOfRegion 51 = .ok (.iload_n 2, 1) := by decide +kernel
theorem d_Source_kindOfRegion_52 : decode b_Source_kindOfRegion 52 = .ok (.iconst 1, 1) := by decide +kernel
theorem d_Source_kindOfRegion_53 : decode b_Source_kindOfRegion 53 = .ok (.invokevirtual 124, 3) := by decide +kernel
theorem ml_Source_124 : Cond.methodLink R_Source 124 ⟨"PointerHouse$Source", "isAllOf", "(IIZ)Z"⟩ ∈ lw_good := lg_right (i := 788) (by decide +kernel) rfl
theorem d_Source_kindOfRegion_56 : decode b_Source_kindOfRegion 56 = .ok (.ifCond .eq 7, 3) := by decide +kernel
theorem d_Source_kindOfRegion_59 : decode b_Source_kindOfRegion 59 = .ok (.iconst 1, 1) := by decide +kernel
theorem d_Source_kindOfRegion_60 : decode b_Source_kindOfRegion 60 = .ok (.goto 4, 3) := by decide +kernel
theorem d_Source_kindOfRegion_63 : decode b_Source_kindOfRegion 63 = .ok (.iconst 0, 1) := by decide +kernel
theorem d_Source_kindOfRegion_64 : decode b_Source_kindOfRegion 64 = .ok (.istore 4, 2) := by decide +kernel
theorem d_Source_kindOfRegion_66 : decode b_Source_kindOfRegion 66 = .ok (.iload_n 3, 1) := by decide +kernel
theorem d_Source_kindOfRegion_67 : decode b_Source_kindOfRegion 67 = .ok (.ifCond .ne 8, 3) := by decide +kernel
theorem d_Source_kindOfRegion_70 : decode b_Source_kindOfRegion 70 = .ok (.iload 4, 2) := by decide +kernel
theorem d_Source_kindOfRegion_72 : decode b_Source_kindOfRegion 72 = .ok (.ifCond .eq 7, 3) := by decide +kernel
theorem d_Source_kindOfRegion_75 : decode b_Source_kindOfRegion 75 = .ok (.iconst 4, 1) := by decide +kernel
theorem d_Source_kindOfRegion_76 : decode b_Source_kindOfRegion 76 = .ok (.goto 4, 3) := by decide +kernel
theorem d_Source_kindOfRegion_79 : decode b_Source_kindOfRegion 79 = .ok (.iconst 1, 1) := by decide +kernel
theorem d_Source_kindOfRegion_80 : decode b_Source_kindOfRegion 80 = .ok (.ireturn, 1) := by decide +kernel
set_option maxHeartbeats 1000000 in
set_option maxRecDepth 100000 in
theorem c_Source_addToken (l : Launch) (dC : Nat → ClassId) (dI : Nat → Nat → Nat) (sz : Nat) (h_this : Nat) (h_tokenKind : Nat) (h_tokenStart : Nat) (h_tokenName : Nat) (fs_this : List Value) (k_tokenKind : ClassId) (f_tokenKind : Nat → Int32) (k_tokenStart : ClassId) (f_tokenStart : Nat → Int32) (k_tokenName : ClassId) (f_tokenName : Nat → Int64) (p1 : Int32) (p2 : Int32) (p3 : Int64) (tn : Nat) (len_this : fs_this.length = 16) (g_this_tokens : fs_this[14]? = some (.int (nI tn))) (g_this_tokenKind : fs_this[11]? = some (.ref h_tokenKind)) (g_this_tokenStart : fs_this[12]? = some (.ref h_tokenStart)) (g_this_tokenName : fs_this[13]? = some (.ref h_tokenName)) (ht0 : tn < 4000) : Met l y_Source_addToken w_Source_addToken ({ frames := 0, cells := 0, slots := 0, locals := 0 } : Room) (va_Pc [.ref h_this, .int p1, .int p2, .long p3] (fun U => U.heap.size = sz ∧ va_P (dC, dI) cls_all [oc h_this 8 fs_this, ic h_tokenKind k_tokenKind 4001 f_tokenKind, ic h_tokenStart k_tokenStart 4001 f_tokenStart, jc h_tokenName k_tokenName 4001 f_tokenName] U.heap ∧ va_K (dC, dI) cls_all [(k_tokenKind, .int), (k_tokenStart, .int), (k_tokenName, .long)] U ∧ va_D (fun _ => True) [oc h_this 8 fs_this, ic h_tokenKind k_tokenKind 4001 f_tokenKind, ic h_tokenStart k_tokenStart 4001 f_tokenStart, jc h_tokenName k_tokenName 4001 f_tokenName])) (va_Qv (fun (_ : Unit) => True) (fun _ t => ∃ (fs_this' : List Value) (f_tokenKind' : Nat → Int32) (f_tokenStart' : Nat → Int32) (f_tokenName' : Nat → Int64), (fs_this'.length = 16 ∧ (∀ j : Nat, j ≠ 14 → fs_this'[j]? = fs_this[j]?) ∧ fs_this'[14]? = some (.int (nI (tn + 1))) ∧ (f_tokenKind' = upd f_tokenKind tn p1) ∧ (f_tokenStart' = upd f_tokenStart tn p2) ∧ (f_tokenName' = vp_updL f_tokenName tn p3)) ∧ va_P (dC, dI) cls_all [oc h_this 8 fs_this', ic h_tokenKind k_tokenKind 4001 f_tokenKind', ic h_tokenStart k_tokenStart 4001 f_tokenStart', jc h_tokenName k_tokenName 4001 f_tokenName'] t.heap ∧ va_K (dC, dI) cls_all [(k_tokenKind, .int), (k_tokenStart, .int), (k_tokenName, .long)] t ∧ va_D (va_A [oc h_this 8 fs_this, ic h_tokenKind k_tokenKind 4001 f_tokenKind, ic h_tokenStart k_tokenStart 4001 f_tokenStart, jc h_tokenName k_tokenName 4001 f_tokenName] sz) [oc h_this 8 fs_this', ic h_tokenKind k_tokenKind 4001 f_tokenKind', ic h_tokenStart k_tokenStart 4001 f_tokenStart', jc h_tokenName k_tokenName 4001 f_tokenName']) (va_A [oc h_this 8 fs_this, ic h_tokenKind k_tokenKind 4001 f_tokenKind, ic h_tokenStart k_tokenStart 4001 f_tokenStart, jc h_tokenName k_tokenName 4001 f_tokenName] sz)) 0 0 (va_A [oc h_this 8 fs_this, ic h_tokenKind k_tokenKind 4001 f_tokenKind, ic h_tokenStart k_tokenStart 4001 f_tokenStart, jc h_tokenName k_tokenName 4001 f_tokenName] sz) := by
  refine Met.ofW (cc := b_Source_addToken) (maxL := 5) (ret := none) (by decide) rfl ?_
  intro p e s m args below meth c s₁ B hml hv
  obtain ⟨rfl, hsz, hP, hK, hD0⟩ := hv
  have hx := B.exec
  have hb := B.bytes
  have hr := B.returns
  have hT : ∀ w ∈ lw_good, w.before _ s = true := fun w h => atoms_spec (ws := w_Source_addToken) B.pre w (List.mem_cons_of_mem _ h)
  have hown : s.vm.findClass R_Source = some m.cls := findClass_of_methodNamed B.named
  have hlocks := B.notSynchronized
  subst hsz
  have hD := hD0.self (sz := s.heap.size)
  generalize hAe : va_A [oc h_this 8 fs_this, ic h_tokenKind k_tokenKind 4001 f_tokenKind, ic h_tokenStart k_tokenStart 4001 f_tokenStart, jc h_tokenName k_tokenName 4001 f_tokenName] s.heap.size = A at hD ⊢
  have hA : ∀ q : Nat, s.heap.size ≤ q → A q := fun q h => by rw [← hAe]; exact Or.inr h
  have hS : va_S A s.heap s.heap [] := va_S.rf
  have hP : va_P (dC, dI) cls_all [oc h_this 8 fs_this, ic h_tokenKind k_tokenKind 4001 f_tokenKind, ic h_tokenStart k_tokenStart 4001 f_tokenStart, jc h_tokenName k_tokenName 4001 f_tokenName] s.heap := hP
  have hl := lv_entry ([.ref h_this, .int p1, .int p2, .long p3]) (n := 5) (Nat.le_of_ble_eq_true rfl)
  rw [lg_entry_eq]
  generalize (lg_sl ([.ref h_this, .int p1, .int p2, .long p3]) ++ List.replicate (5 - (lg_sl ([.ref h_this, .int p1, .int p2, .long p3])).length) Slot.unset).toArray = ls at hl ⊢
  have hl : lv_has ls 5 [(0, .ref h_this), (1, .int p1), (2, .int p2), (3, .long p3)] := hl
  refine lv_aload_n hx hb d_Source_addToken_0 rfl (lv_at hl 0 rfl) ?_
  refine va_get (D := (dC, dI)) (ci := 8) (v := .int (nI tn)) (C := R_Source) (T := F_Source) (N := 16) hx hb hT i_Source hown hK hP 0 rfl rfl 14 (by decide) (hT _ fl_Source_86) (fun _ h9 => h9) g_this_tokens d_Source_addToken_1 ?_
  refine lv_sipush (v := 4000) hx hb d_Source_addToken_4 (by decide) ?_
  refine lv_icmp_ge (tgt := 50) hx hb d_Source_addToken_7 (by decide) (fun c1 => absurd c1 (nI_ge (a := tn) (b := 4000) ht0 (by decide))) (fun c1 => ?_)
  refine lv_aload_n hx hb d_Source_addToken_10 rfl (lv_at hl 0 rfl) ?_
  refine va_get (D := (dC, dI)) (ci := 8) (v := .ref h_tokenKind) (C := R_Source) (T := F_Source) (N := 16) hx hb hT i_Source hown hK hP 0 rfl rfl 11 (by decide) (hT _ fl_Source_36) (fun _ h9 => h9) g_this_tokenKind d_Source_addToken_11 ?_
  refine lv_aload_n hx hb d_Source_addToken_14 rfl (lv_at hl 0 rfl) ?_
  refine va_get (D := (dC, dI)) (ci := 8) (v := .int (nI tn)) (C := R_Source) (T := F_Source) (N := 16) hx hb hT i_Source hown hK hP 0 rfl rfl 14 (by decide) (hT _ fl_Source_86) (fun _ h9 => h9) g_this_tokens d_Source_addToken_15 ?_
  refine lv_iload_n hx hb d_Source_addToken_18 rfl (lv_at hl 1 rfl) ?_
  refine va_iast hx hb hK hP hD hS 1 0 rfl rfl (vp_in_nI (by omega) (by decide)) d_Source_addToken_19 (fun H locs hP hD hS => ?_)
  have es2 : upd f_tokenKind (nI tn).toNatClampNeg p1 = upd f_tokenKind tn p1 := (by rw [nI_clamp (by omega)])
  have hP : va_P (dC, dI) cls_all [oc h_this 8 fs_this, ic h_tokenKind k_tokenKind 4001 (upd f_tokenKind (nI tn).toNatClampNeg p1), ic h_tokenStart k_tokenStart 4001 f_tokenStart, jc h_tokenName k_tokenName 4001 f_tokenName] H := hP
  have hD : va_D A [oc h_this 8 fs_this, ic h_tokenKind k_tokenKind 4001 (upd f_tokenKind (nI tn).toNatClampNeg p1), ic h_tokenStart k_tokenStart 4001 f_tokenStart, jc h_tokenName k_tokenName 4001 f_tokenName] := hD
  rw [es2] at hP hD
  obtain ⟨f2, ef2⟩ : ∃ g, g = upd f_tokenKind tn p1 := ⟨_, rfl⟩
  rw [← ef2] at hP hD
  refine lv_aload_n hx hb d_Source_addToken_20 rfl (lv_at hl 0 rfl) ?_
  refine va_get (D := (dC, dI)) (ci := 8) (v := .ref h_tokenStart) (C := R_Source) (T := F_Source) (N := 16) hx hb hT i_Source hown hK hP 0 rfl rfl 12 (by decide) (hT _ fl_Source_39) (fun _ h9 => h9) g_this_tokenStart d_Source_addToken_21 ?_
  refine lv_aload_n hx hb d_Source_addToken_24 rfl (lv_at hl 0 rfl) ?_
  refine va_get (D := (dC, dI)) (ci := 8) (v := .int (nI tn)) (C := R_Source) (T := F_Source) (N := 16) hx hb hT i_Source hown hK hP 0 rfl rfl 14 (by decide) (hT _ fl_Source_86) (fun _ h9 => h9) g_this_tokens d_Source_addToken_25 ?_
  refine lv_iload_n hx hb d_Source_addToken_28 rfl (lv_at hl 2 rfl) ?_
  refine va_iast hx hb hK hP hD hS 2 1 rfl rfl (vp_in_nI (by omega) (by decide)) d_Source_addToken_29 (fun H locs hP hD hS => ?_)
  have es3 : upd f_tokenStart (nI tn).toNatClampNeg p2 = upd f_tokenStart tn p2 := (by rw [nI_clamp (by omega)])
  have hP : va_P (dC, dI) cls_all [oc h_this 8 fs_this, ic h_tokenKind k_tokenKind 4001 f2, ic h_tokenStart k_tokenStart 4001 (upd f_tokenStart (nI tn).toNatClampNeg p2), jc h_tokenName k_tokenName 4001 f_tokenName] H := hP
  have hD : va_D A [oc h_this 8 fs_this, ic h_tokenKind k_tokenKind 4001 f2, ic h_tokenStart k_tokenStart 4001 (upd f_tokenStart (nI tn).toNatClampNeg p2), jc h_tokenName k_tokenName 4001 f_tokenName] := hD
  rw [es3] at hP hD
  obtain ⟨f3, ef3⟩ : ∃ g, g = upd f_tokenStart tn p2 := ⟨_, rfl⟩
  rw [← ef3] at hP hD
  refine lv_aload_n hx hb d_Source_addToken_30 rfl (lv_at hl 0 rfl) ?_
  refine va_get (D := (dC, dI)) (ci := 8) (v := .ref h_tokenName) (C := R_Source) (T := F_Source) (N := 16) hx hb hT i_Source hown hK hP 0 rfl rfl 13 (by decide) (hT _ fl_Source_42) (fun _ h9 => h9) g_this_tokenName d_Source_addToken_31 ?_
  refine lv_aload_n hx hb d_Source_addToken_34 rfl (lv_at hl 0 rfl) ?_
  refine va_get (D := (dC, dI)) (ci := 8) (v := .int (nI tn)) (C := R_Source) (T := F_Source) (N := 16) hx hb hT i_Source hown hK hP 0 rfl rfl 14 (by decide) (hT _ fl_Source_86) (fun _ h9 => h9) g_this_tokens d_Source_addToken_35 ?_
  refine lv_lload_n hx hb d_Source_addToken_38 rfl (lv_at hl 3 rfl) ?_
  refine va_last hx hb hK hP hD hS 3 2 rfl rfl (vp_in_nI (by omega) (by decide)) d_Source_addToken_39 (fun H locs hP hD hS => ?_)
  have es4 : vp_updL f_tokenName (nI tn).toNatClampNeg p3 = vp_updL f_tokenName tn p3 := (by rw [nI_clamp (by omega)])
  have hP : va_P (dC, dI) cls_all [oc h_this 8 fs_this, ic h_tokenKind k_tokenKind 4001 f2, ic h_tokenStart k_tokenStart 4001 f3, jc h_tokenName k_tokenName 4001 (vp_updL f_tokenName (nI tn).toNatClampNeg p3)] H := hP
  have hD : va_D A [oc h_this 8 fs_this, ic h_tokenKind k_tokenKind 4001 f2, ic h_tokenStart k_tokenStart 4001 f3, jc h_tokenName k_tokenName 4001 (vp_updL f_tokenName (nI tn).toNatClampNeg p3)] := hD
  rw [es4] at hP hD
  obtain ⟨f4, ef4⟩ : ∃ g, g = vp_updL f_tokenName tn p3 := ⟨_, rfl⟩
  rw [← ef4] at hP hD
  refine lv_aload_n hx hb d_Source_addToken_40 rfl (lv_at hl 0 rfl) ?_
  refine lv_dup hx hb d_Source_addToken_41 rfl ?_
  refine va_get (D := (dC, dI)) (ci := 8) (v := .int (nI tn)) (C := R_Source) (T := F_Source) (N := 16) hx hb hT i_Source hown hK hP 0 rfl rfl 14 (by decide) (hT _ fl_Source_86) (fun _ h9 => h9) g_this_tokens d_Source_addToken_42 ?_
  refine lv_iconst (v := 1) hx hb d_Source_addToken_45 (by decide) ?_
  refine lv_iadd hx hb d_Source_addToken_46 ?_
  refine lv_topi (fun x5 e5 => ?_)
  obtain rfl : x5 = nI (tn + 1) := e5.trans (nI_add tn 1)
  refine va_put (D := (dC, dI)) (ci := 8) (v := .int (nI (tn + 1))) (ty := .int) (C := R_Source) (T := F_Source) (N := 16) hx hb hT i_Source t_Source t_Source_ok n_Source hown hK hP hD hS 0 rfl rfl 14 (by decide) (hT _ fl_Source_86) (fun _ h9 => h9) rfl (by decide +kernel) rfl rfl (by simp only [List.length_set, len_this]; decide) d_Source_addToken_47 (fun H locs hP hD hS => ?_)
  have hP : va_P (dC, dI) cls_all [oc h_this 8 (fs_this.set 14 (.int (nI (tn + 1)))), ic h_tokenKind k_tokenKind 4001 f2, ic h_tokenStart k_tokenStart 4001 f3, jc h_tokenName k_tokenName 4001 f4] H := hP
  have hD : va_D A [oc h_this 8 (fs_this.set 14 (.int (nI (tn + 1)))), ic h_tokenKind k_tokenKind 4001 f2, ic h_tokenStart k_tokenStart 4001 f3, jc h_tokenName k_tokenName 4001 f4] := hD
  have hP9 := hP.sub (ws' := [oc h_this 8 (fs_this.set 14 (.int (nI (tn + 1)))), ic h_tokenKind k_tokenKind 4001 f2, ic h_tokenStart k_tokenStart 4001 f3, jc h_tokenName k_tokenName 4001 f4]) [0, 1, 2, 3] rfl
  have hD9 := hD.sub (ws' := [oc h_this 8 (fs_this.set 14 (.int (nI (tn + 1)))), ic h_tokenKind k_tokenKind 4001 f2, ic h_tokenStart k_tokenStart 4001 f3, jc h_tokenName k_tokenName 4001 f4]) [0, 1, 2, 3] (by decide) rfl
  have hK9 := hK.sub (tys' := [(k_tokenKind, .int), (k_tokenStart, .int), (k_tokenName, .long)]) [0, 1, 2] rfl
  have hv6 : (fs_this.set 14 (.int (nI (tn + 1))))[14]? = some (.int (nI (tn + 1))) := (ls_eq (by simp only [List.length_set, len_this]; decide))
  exact W.vret hx hb hr (fun t ht hW => ⟨⟨(), rfl, trivial, (fs_this.set 14 (.int (nI (tn + 1)))), f2, f3, f4, ⟨(by first | exact len_this | (simp only [List.length_set]; exact len_this)), (fun j n14 => ((ls_ne n14).trans rfl)), (by first | exact hv6 | (rw [hv6]; refine congrArg some (congrArg _ ?_); rfl)), (by first | assumption | (subst_vars; rfl)), (by first | assumption | (subst_vars; rfl)), (by first | assumption | (subst_vars; rfl))⟩, by rw [ht]; exact hP9, va_K.moved hW.alike hK9, hD9⟩, hS.F ht⟩) hS.2.2 d_Source_addToken_50
set_option maxHeartbeats 1000000 in
set_option maxRecDepth 100000 in
theorem c_Source_isAllOf (l : Launch) (dC : Nat → ClassId) (dI : Nat → Nat → Nat)  (h_this : Nat) (h_text : Nat) (fs_this : List Value) (k_text : ClassId) (f_text : Nat → Int32) (p3 : Int32) (a : Nat) (n : Nat) (len_this : fs_this.length = 16) (g_this_text : fs_this[9]? = some (.ref h_text)) (hz : a + n ≤ 4000) : Met l y_Source_isAllOf w_Source_isAllOf ({ frames := 1, cells := 0, slots := 0, locals := 20 } : Room) (va_Pc [.ref h_this, .int (nI a), .int (nI (a + n)), .int p3] (fun U => va_P (dC, dI) cls_all [oc h_this 8 fs_this, ic h_text k_text 4000 f_text] U.heap ∧ va_K (dC, dI) cls_all [(k_text, .char)] U)) (vp_Si (fun r : Int32 => (r = if ff (bad1 f_text a p3) 0 n = -1 then 1 else 0))) 0 0 (fun _ => False) := by
  refine Met.ofW (cc := b_Source_isAllOf) (maxL := 5) (ret := (some .boolean)) (by decide) rfl ?_
  intro p e s m args below meth c s₁ B hml hv
  obtain ⟨rfl, hP, hK⟩ := hv
  have hx := B.exec
  have hb := B.bytes
  have hr := B.returns
  have hT : ∀ w ∈ lw_good, w.before _ s = true := fun w h => atoms_spec (ws := w_Source_isAllOf) B.pre w (List.mem_cons_of_mem _ h)
  have hown : s.vm.findClass R_Source = some m.cls := findClass_of_methodNamed B.named
  have hlocks := B.notSynchronized
  have hl := lv_entry ([.ref h_this, .int (nI a), .int (nI (a + n)), .int p3]) (n := 5) (Nat.le_of_ble_eq_true rfl)
  rw [lg_entry_eq]
  generalize (lg_sl ([.ref h_this, .int (nI a), .int (nI (a + n)), .int p3]) ++ List.replicate (5 - (lg_sl ([.ref h_this, .int (nI a), .int (nI (a + n)), .int p3])).length) Slot.unset).toArray = ls at hl ⊢
  have hl : lv_has ls 5 [(0, .ref h_this), (1, .int (nI a)), (2, .int (nI (a + n))), (3, .int p3)] := hl
  refine lv_iload_n hx hb d_Source_isAllOf_0 rfl (lv_at hl 1 rfl) ?_
  refine lv_istore (lv' := [(4, .int (nI a)), (0, .ref h_this), (1, .int (nI a)), (2, .int (nI (a + n))), (3, .int p3)]) hx hb d_Source_isAllOf_1 hl (by decide) rfl (fun ls hl => ?_)
  have loop : ∀ (nn : Nat) (i : Nat), i ≤ n → ff (bad1 f_text a p3) 0 n = ff (bad1 f_text a p3) i (n - i) → n - i < nn → ∀ (ls : Array Slot), lv_has ls 5 [(4, .int (nI (a + i))), (0, .ref h_this), (1, .int (nI a)), (2, .int (nI (a + n))), (3, .int p3)] → W p l e (headSpec w_Source_isAllOf ({ frames := 1, cells := 0, slots := 0, locals := 20 } : Room)).room s m ([.ref h_this, .int (nI a), .int (nI (a + n)), .int p3] : List Value).toArray below meth c s.heap [] 0 0 (MQ below (vp_Si (fun r : Int32 => (r = if ff (bad1 f_text a p3) 0 n = -1 then 1 else 0))) ([.ref h_this, .int (nI a), .int (nI (a + n)), .int p3] : List Value).toArray s 0 0 (fun _ => False)) (F0 m 3 ls []) := by
    clear hl
    intro nn
    induction nn with
    | zero => intro i hi he hn ls hl; exfalso; omega
    | succ nn ih =>
      intro i hi he hn ls hl
      refine lv_iload hx hb d_Source_isAllOf_3 (lv_at hl 0 rfl) ?_
      refine lv_iload_n hx hb d_Source_isAllOf_5 rfl (lv_at hl 3 rfl) ?_
      refine lv_icmp_ge (tgt := 47) hx hb d_Source_isAllOf_6 (by decide) (fun c1 => ?_) (fun c1 => ?_)
      · have b1 : ((a + n)) ≤ ((a + i)) := (ni_le (by omega) (by omega)).1 c1
        refine lv_iconst (v := 1) hx hb d_Source_isAllOf_47 (by decide) ?_
        refine W.zret (v := 1) hx hb hr (by first | rfl | decide | assumption) (fun t ht hW => ⟨1, rfl, ?_, ht⟩) (fun q h => by cases h) d_Source_isAllOf_48
        rw [he, show n - i = 0 by omega]; rfl
      · have b1 : ((a + i)) < ((a + n)) := (ni_le (by omega) (by omega)).2 c1
        refine lv_aload_n hx hb d_Source_isAllOf_9 rfl (lv_at hl 1 rfl) ?_
        refine va_get (D := (dC, dI)) (ci := 8) (v := .ref h_text) (C := R_Source) (T := F_Source) (N := 16) hx hb hT i_Source hown hK hP 0 rfl rfl 9 (by decide) (hT _ fl_Source_73) (fun _ h9 => h9) g_this_text d_Source_isAllOf_10 ?_
        refine lv_iload hx hb d_Source_isAllOf_13 (lv_at hl 0 rfl) ?_
        refine va_cald hx hb hK hP 1 0 rfl rfl (vp_in_nI (by omega) (by decide)) d_Source_isAllOf_15 ?_
        refine lv_topi (fun x2 e2 => ?_)
        obtain rfl : x2 = f_text (a + i) := e2.trans (congrArg f_text (nI_clamp (by omega)))
        have hPc := hP.sub (ws' := []) [] rfl
        have hKc := hK.sub (tys' := []) [] rfl
        refine vp_callSi (va_Run.run (va_runS (As := [.int (f_text (a + i))]) (rest := []) ⟨hx, hb, hml, hown, hT⟩ (c_Source_isDigit l dC dI (p1 := (f_text (a + i))) ) (va_cwS 1 hT (gS ml_Source_121 st_Source_isDigit ini_Source co_Source_isDigit) rfl rfl rfl (by decide +kernel) ⟨Nat.le_of_ble_eq_true rfl, Nat.le_of_ble_eq_true rfl⟩) ⟨fbS, fun U hU hW => ⟨rfl, by rw [hU]; exact hPc, va_K.moved hW.alike hKc⟩⟩ rfl rfl hl.1 rfl (lv_room (Nat.le_of_ble_eq_true rfl)) d_Source_isAllOf_16 ⟨Nat.le_of_ble_eq_true rfl, Nat.le_of_ble_eq_true rfl⟩)) (fun r3 hr3 => ?_)
        refine lv_if_ne (tgt := 41) hx hb d_Source_isAllOf_19 (by decide) (fun c4 => ?_) (fun c4 => ?_)
        · refine lv_iinc (v := (nI (a + i + 1))) (lv' := [(4, .int (nI (a + i + 1))), (0, .ref h_this), (1, .int (nI a)), (2, .int (nI (a + n))), (3, .int p3)]) hx hb d_Source_isAllOf_41 hl (k := 0) rfl (nI_add (a + i) 1) (by decide) rfl (fun ls hl => ?_)
          refine lv_goto (tgt := 3) hx hb d_Source_isAllOf_44 (by decide) ?_
          have hno : ¬ bad1 f_text a p3 i = true := fun q => (of_decide_eq_true q).1 (yz hr3 c4)
          exact ih (i + 1) (by omega) (he.trans ((ff_no hno (by omega)).trans (congrArg _ (by omega)))) (by omega) ls (lv_sub hl [0, 1, 2, 3, 4] rfl)
        · refine lv_iload_n hx hb d_Source_isAllOf_22 rfl (lv_at hl 4 rfl) ?_
          refine lv_if_eq (tgt := 39) hx hb d_Source_isAllOf_23 (by decide) (fun c5 => ?_) (fun c5 => ?_)
          · refine lv_iconst (v := 0) hx hb d_Source_isAllOf_39 (by decide) ?_
            refine W.zret (v := 0) hx hb hr (by first | rfl | decide | assumption) (fun t ht hW => ⟨0, rfl, ?_, ht⟩) (fun q h => by cases h) d_Source_isAllOf_40
            rw [he]; exact (if_neg (ff_yes1 (decide_eq_true ⟨nz hr3 c4, Or.inl c5⟩) (by omega) (by omega))).symm
          · refine lv_aload_n hx hb d_Source_isAllOf_26 rfl (lv_at hl 1 rfl) ?_
            refine va_get (D := (dC, dI)) (ci := 8) (v := .ref h_text) (C := R_Source) (T := F_Source) (N := 16) hx hb hT i_Source hown hK hP 0 rfl rfl 9 (by decide) (hT _ fl_Source_73) (fun _ h9 => h9) g_this_text d_Source_isAllOf_27 ?_
            refine lv_iload hx hb d_Source_isAllOf_30 (lv_at hl 0 rfl) ?_
            refine va_cald hx hb hK hP 1 0 rfl rfl (vp_in_nI (by omega) (by decide)) d_Source_isAllOf_32 ?_
            refine lv_topi (fun x6 e6 => ?_)
            obtain rfl : x6 = f_text (a + i) := e6.trans (congrArg f_text (nI_clamp (by omega)))
            have hPc := hP.sub (ws' := []) [] rfl
            have hKc := hK.sub (tys' := []) [] rfl
            refine vp_callSi (va_Run.run (va_runS (As := [.int (f_text (a + i))]) (rest := []) ⟨hx, hb, hml, hown, hT⟩ (c_Source_isSmall l dC dI (p1 := (f_text (a + i))) ) (va_cwS 1 hT (gS ml_Source_136 st_Source_isSmall ini_Source co_Source_isSmall) rfl rfl rfl (by decide +kernel) ⟨Nat.le_of_ble_eq_true rfl, Nat.le_of_ble_eq_true rfl⟩) ⟨fbS, fun U hU hW => ⟨rfl, by rw [hU]; exact hPc, va_K.moved hW.alike hKc⟩⟩ rfl rfl hl.1 rfl (lv_room (Nat.le_of_ble_eq_true rfl)) d_Source_isAllOf_33 ⟨Nat.le_of_ble_eq_true rfl, Nat.le_of_ble_eq_true rfl⟩)) (fun r7 hr7 => ?_)
            refine lv_if_ne (tgt := 41) hx hb d_Source_isAllOf_36 (by decide) (fun c8 => ?_) (fun c8 => ?_)
            · refine lv_iinc (v := (nI (a + i + 1))) (lv' := [(4, .int (nI (a + i + 1))), (0, .ref h_this), (1, .int (nI a)), (2, .int (nI (a + n))), (3, .int p3)]) hx hb d_Source_isAllOf_41 hl (k := 0) rfl (nI_add (a + i) 1) (by decide) rfl (fun ls hl => ?_)
              refine lv_goto (tgt := 3) hx hb d_Source_isAllOf_44 (by decide) ?_
              have hno : ¬ bad1 f_text a p3 i = true := fun q => (of_decide_eq_true q).2.elim c5 (fun z => z (yz hr7 c8))
              exact ih (i + 1) (by omega) (he.trans ((ff_no hno (by omega)).trans (congrArg _ (by omega)))) (by omega) ls (lv_sub hl [0, 1, 2, 3, 4] rfl)
            · refine lv_iconst (v := 0) hx hb d_Source_isAllOf_39 (by decide) ?_
              refine W.zret (v := 0) hx hb hr (by first | rfl | decide | assumption) (fun t ht hW => ⟨0, rfl, ?_, ht⟩) (fun q h => by cases h) d_Source_isAllOf_40
              rw [he]; exact (if_neg (ff_yes1 (decide_eq_true ⟨nz hr3 c4, Or.inr (nz hr7 c8)⟩) (by omega) (by omega))).symm
  exact loop (n + 1) 0 (by omega) rfl (by omega) ls (lv_sub hl [0, 1, 2, 3, 4] rfl)
set_option maxHeartbeats 1000000 in
set_option maxRecDepth 100000 in
theorem c_Source_valueOf (l : Launch) (dC : Nat → ClassId) (dI : Nat → Nat → Nat)  (h_this : Nat) (h_text : Nat) (fs_this : List Value) (k_text : ClassId) (f_text : Nat → Int32) (a : Nat) (n : Nat) (len_this : fs_this.length = 16) (g_this_text : fs_this[9]? = some (.ref h_text)) (hz : a + n ≤ 4000) : Met l y_Source_valueOf w_Source_valueOf ({ frames := 0, cells := 0, slots := 0, locals := 0 } : Room) (va_Pc [.ref h_this, .int (nI a), .int (nI (a + n))] (fun U => va_P (dC, dI) cls_all [oc h_this 8 fs_this, ic h_text k_text 4000 f_text] U.heap ∧ va_K (dC, dI) cls_all [(k_text, .char)] U)) (vp_Sl (fun r : Int64 => (r = vlo f_text a n))) 0 0 (fun _ => False) := by
  refine Met.ofW (cc := b_Source_valueOf) (maxL := 6) (ret := (some .long)) (by decide) rfl ?_
  intro p e s m args below meth c s₁ B hml hv
  obtain ⟨rfl, hP, hK⟩ := hv
  have hx := B.exec
  have hb := B.bytes
  have hr := B.returns
  have hT : ∀ w ∈ lw_good, w.before _ s = true := fun w h => atoms_spec (ws := w_Source_valueOf) B.pre w (List.mem_cons_of_mem _ h)
  have hown : s.vm.findClass R_Source = some m.cls := findClass_of_methodNamed B.named
  have hlocks := B.notSynchronized
  have hl := lv_entry ([.ref h_this, .int (nI a), .int (nI (a + n))]) (n := 6) (Nat.le_of_ble_eq_true rfl)
  rw [lg_entry_eq]
  generalize (lg_sl ([.ref h_this, .int (nI a), .int (nI (a + n))]) ++ List.replicate (6 - (lg_sl ([.ref h_this, .int (nI a), .int (nI (a + n))])).length) Slot.unset).toArray = ls at hl ⊢
  have hl : lv_has ls 6 [(0, .ref h_this), (1, .int (nI a)), (2, .int (nI (a + n)))] := hl
  refine lv_lconst (v := 0) hx hb d_Source_valueOf_0 (by decide) ?_
  refine lv_lstore_n (lv' := [(3, .long 0), (0, .ref h_this), (1, .int (nI a)), (2, .int (nI (a + n)))]) hx hb d_Source_valueOf_1 rfl hl (by decide) rfl (fun ls hl => ?_)
  refine lv_iload_n hx hb d_Source_valueOf_2 rfl (lv_at hl 2 rfl) ?_
  refine lv_istore (lv' := [(5, .int (nI a)), (3, .long 0), (0, .ref h_this), (1, .int (nI a)), (2, .int (nI (a + n)))]) hx hb d_Source_valueOf_3 hl (by decide) rfl (fun ls hl => ?_)
  have loop : ∀ (nn : Nat) (i : Nat), i ≤ n → n - i < nn → ∀ (ls : Array Slot), lv_has ls 6 [(5, .int (nI (a + i))), (3, .long (vlo f_text a i)), (0, .ref h_this), (1, .int (nI a)), (2, .int (nI (a + n)))] → W p l e (headSpec w_Source_valueOf ({ frames := 0, cells := 0, slots := 0, locals := 0 } : Room)).room s m ([.ref h_this, .int (nI a), .int (nI (a + n))] : List Value).toArray below meth c s.heap [] 0 0 (MQ below (vp_Sl (fun r : Int64 => (r = vlo f_text a n))) ([.ref h_this, .int (nI a), .int (nI (a + n))] : List Value).toArray s 0 0 (fun _ => False)) (F0 m 5 ls []) := by
    clear hl
    intro nn
    induction nn with
    | zero => intro i hi hn ls hl; exfalso; omega
    | succ nn ih =>
      intro i hi hn ls hl
      refine lv_iload hx hb d_Source_valueOf_5 (lv_at hl 0 rfl) ?_
      refine lv_iload_n hx hb d_Source_valueOf_7 rfl (lv_at hl 4 rfl) ?_
      refine lv_icmp_ge (tgt := 35) hx hb d_Source_valueOf_8 (by decide) (fun c1 => ?_) (fun c1 => ?_)
      · have b1 : ((a + n)) ≤ ((a + i)) := (ni_le (by omega) (by omega)).1 c1
        refine lv_lload_n hx hb d_Source_valueOf_35 rfl (lv_at hl 1 rfl) ?_
        refine W.lret (v := (vlo f_text a i)) hx hb hr (fun t ht hW => ⟨(vlo f_text a i), rfl, ?_, ht⟩) (fun q h => by cases h) d_Source_valueOf_36
        exact congrArg _ (by omega)
      · have b1 : ((a + i)) < ((a + n)) := (ni_le (by omega) (by omega)).2 c1
        refine lv_lload_n hx hb d_Source_valueOf_11 rfl (lv_at hl 1 rfl) ?_
        refine lv_ldc2 hx hb hown (hT _ k_Source_139) d_Source_valueOf_12 ?_
        refine lv_lmul hx hb d_Source_valueOf_15 ?_
        refine lv_topl (fun x2 e2 => ?_)
        refine lv_aload_n hx hb d_Source_valueOf_16 rfl (lv_at hl 2 rfl) ?_
        refine va_get (D := (dC, dI)) (ci := 8) (v := .ref h_text) (C := R_Source) (T := F_Source) (N := 16) hx hb hT i_Source hown hK hP 0 rfl rfl 9 (by decide) (hT _ fl_Source_73) (fun _ h9 => h9) g_this_text d_Source_valueOf_17 ?_
        refine lv_iload hx hb d_Source_valueOf_20 (lv_at hl 0 rfl) ?_
        refine va_cald hx hb hK hP 1 0 rfl rfl (vp_in_nI (by omega) (by decide)) d_Source_valueOf_22 ?_
        refine lv_topi (fun x3 e3 => ?_)
        obtain rfl : x3 = f_text (a + i) := e3.trans (congrArg f_text (nI_clamp (by omega)))
        refine lv_bipush (v := 48) hx hb d_Source_valueOf_23 (by decide) ?_
        refine lv_isub hx hb d_Source_valueOf_25 ?_
        refine lv_topi (fun x4 e4 => ?_)
        obtain ⟨x5, e5⟩ : ∃ z : Int64, (x4 : Int32).toInt64 = z := ⟨_, rfl⟩
        refine lv_i2l (v := x5) hx hb d_Source_valueOf_26 e5 ?_
        refine lv_ladd hx hb d_Source_valueOf_27 ?_
        refine lv_topl (fun x6 e6 => ?_)
        obtain rfl : x6 = vlo f_text a (i + 1) := by rw [e6, ← e5, e4, e2]; rfl
        refine lv_lstore_n (lv' := [(3, .long (vlo f_text a (i + 1))), (5, .int (nI (a + i))), (0, .ref h_this), (1, .int (nI a)), (2, .int (nI (a + n)))]) hx hb d_Source_valueOf_28 rfl hl (by decide) rfl (fun ls hl => ?_)
        refine lv_iinc (v := (nI (a + i + 1))) (lv' := [(5, .int (nI (a + i + 1))), (3, .long (vlo f_text a (i + 1))), (0, .ref h_this), (1, .int (nI a)), (2, .int (nI (a + n)))]) hx hb d_Source_valueOf_29 hl (k := 1) rfl (nI_add (a + i) 1) (by decide) rfl (fun ls hl => ?_)
        refine lv_goto (tgt := 5) hx hb d_Source_valueOf_32 (by decide) ?_
        exact ih (i + 1) (by omega) (by omega) ls (lv_sub hl [0, 1, 2, 3, 4] rfl)
  exact loop (n + 1) 0 (by omega) (by omega) ls (lv_sub hl [0, 1, 2, 3, 4] rfl)
set_option maxHeartbeats 1000000 in
set_option maxRecDepth 100000 in
theorem c_Source_kindOfRegion (l : Launch) (dC : Nat → ClassId) (dI : Nat → Nat → Nat)  (h_this : Nat) (h_text : Nat) (fs_this : List Value) (k_text : ClassId) (f_text : Nat → Int32) (a : Nat) (n : Nat) (len_this : fs_this.length = 16) (g_this_text : fs_this[9]? = some (.ref h_text)) (hz : a + n ≤ 4000) : Met l y_Source_kindOfRegion w_Source_kindOfRegion ({ frames := 2, cells := 0, slots := 0, locals := 44 } : Room) (va_Pc [.ref h_this, .int (nI a), .int (nI (a + n))] (fun U => va_P (dC, dI) cls_all [oc h_this 8 fs_this, ic h_text k_text 4000 f_text] U.heap ∧ va_K (dC, dI) cls_all [(k_text, .char)] U)) (vp_Si (fun r : Int32 => (r = if n = 1 ∧ f_text a = 72 then 4 else if 0 < n ∧ n ≤ 8 ∧ cS (f_text a) ∧ ff (bad1 f_text a 1) 0 n = -1 then 4 else 1))) 0 0 (fun _ => False) := by
  refine Met.ofW (cc := b_Source_kindOfRegion) (maxL := 5) (ret := (some .int)) (by decide) rfl ?_
  intro p e s m args below meth c s₁ B hml hv
  obtain ⟨rfl, hP, hK⟩ := hv
  have hx := B.exec
  have hb := B.bytes
  have hr := B.returns
  have hT : ∀ w ∈ lw_good, w.before _ s = true := fun w h => atoms_spec (ws := w_Source_kindOfRegion) B.pre w (List.mem_cons_of_mem _ h)
  have hown : s.vm.findClass R_Source = some m.cls := findClass_of_methodNamed B.named
  have hlocks := B.notSynchronized
  have hl := lv_entry ([.ref h_this, .int (nI a), .int (nI (a + n))]) (n := 5) (Nat.le_of_ble_eq_true rfl)
  rw [lg_entry_eq]
  generalize (lg_sl ([.ref h_this, .int (nI a), .int (nI (a + n))]) ++ List.replicate (5 - (lg_sl ([.ref h_this, .int (nI a), .int (nI (a + n))])).length) Slot.unset).toArray = ls at hl ⊢
  have hl : lv_has ls 5 [(0, .ref h_this), (1, .int (nI a)), (2, .int (nI (a + n)))] := hl
  refine lv_iload_n hx hb d_Source_kindOfRegion_0 rfl (lv_at hl 2 rfl) ?_
  refine lv_iload_n hx hb d_Source_kindOfRegion_1 rfl (lv_at hl 1 rfl) ?_
  refine lv_isub hx hb d_Source_kindOfRegion_2 ?_
  refine lv_topi (fun x1 e1 => ?_)
  obtain rfl : x1 = nI ((a + n) - a) := e1.trans (pk_sub (a := (a + n)) (b := a) (by omega))
  rw [Nat.add_sub_cancel_left]
  refine lv_iconst (v := 1) hx hb d_Source_kindOfRegion_3 (by decide) ?_
  refine lv_icmp_ne (tgt := 22) hx hb d_Source_kindOfRegion_4 (by decide) (fun c2 => ?_) (fun c2 => ?_)
  · have hH : ¬ (n = 1 ∧ f_text a = 72) := fun q => c2 (congrArg nI q.1)
    refine lv_iconst (v := 0) hx hb d_Source_kindOfRegion_22 (by decide) ?_
    refine lv_istore_n (lv' := [(3, .int 0), (0, .ref h_this), (1, .int (nI a)), (2, .int (nI (a + n)))]) hx hb d_Source_kindOfRegion_23 rfl hl (by decide) rfl (fun ls hl => ?_)
    refine lv_iload_n hx hb d_Source_kindOfRegion_24 rfl (lv_at hl 3 rfl) ?_
    refine lv_iload_n hx hb d_Source_kindOfRegion_25 rfl (lv_at hl 2 rfl) ?_
    refine lv_icmp_le (tgt := 63) hx hb d_Source_kindOfRegion_26 (by decide) (fun c3 => ?_) (fun c3 => ?_)
    · have b3 : ((a + n)) ≤ (a) := (ni_le (by omega) (by omega)).1 c3
      have hM : ¬ (0 < n ∧ n ≤ 8 ∧ cS (f_text a) ∧ ff (bad1 f_text a 1) 0 n = -1) := fun q => by have := q.1; have := q.2.1; omega
      refine lv_iconst (v := 0) hx hb d_Source_kindOfRegion_63 (by decide) ?_
      refine lv_istore (lv' := [(4, .int 0), (3, .int 0), (0, .ref h_this), (1, .int (nI a)), (2, .int (nI (a + n)))]) hx hb d_Source_kindOfRegion_64 hl (by decide) rfl (fun ls hl => ?_)
      refine lv_iload_n hx hb d_Source_kindOfRegion_66 rfl (lv_at hl 1 rfl) ?_
      refine lv_if_ne (tgt := 75) hx hb d_Source_kindOfRegion_67 (by decide) (fun c4 => absurd c4 (by decide)) (fun _ => ?_)
      refine lv_iload hx hb d_Source_kindOfRegion_70 (lv_at hl 0 rfl) ?_
      refine lv_if_eq (tgt := 79) hx hb d_Source_kindOfRegion_72 (by decide) (fun _ => ?_) (fun c5 => absurd (by decide) c5)
      refine lv_iconst (v := 1) hx hb d_Source_kindOfRegion_79 (by decide) ?_
      refine W.iret (v := 1) hx hb hr (fun t ht hW => ⟨1, rfl, ?_, ht⟩) (fun q h => by cases h) d_Source_kindOfRegion_80
      first | exact (if_pos hH).symm | (rw [if_neg hH]; first | exact (if_pos hM).symm | exact (if_neg hM).symm)
    · have b3 : (a) < ((a + n)) := (ni_le (by omega) (by omega)).2 c3
      refine lv_iload_n hx hb d_Source_kindOfRegion_29 rfl (lv_at hl 3 rfl) ?_
      refine lv_iload_n hx hb d_Source_kindOfRegion_30 rfl (lv_at hl 2 rfl) ?_
      refine lv_isub hx hb d_Source_kindOfRegion_31 ?_
      refine lv_topi (fun x6 e6 => ?_)
      obtain rfl : x6 = nI ((a + n) - a) := e6.trans (pk_sub (a := (a + n)) (b := a) (by omega))
      rw [Nat.add_sub_cancel_left]
      refine lv_bipush (v := 8) hx hb d_Source_kindOfRegion_32 (by decide) ?_
      refine lv_icmp_gt (tgt := 63) hx hb d_Source_kindOfRegion_34 (by decide) (fun c7 => ?_) (fun c7 => ?_)
      · have b7 : (8) < ((n)) := (ni_lt (by omega) (by omega) ).1 c7
        have hM : ¬ (0 < n ∧ n ≤ 8 ∧ cS (f_text a) ∧ ff (bad1 f_text a 1) 0 n = -1) := fun q => by have := q.1; have := q.2.1; omega
        refine lv_iconst (v := 0) hx hb d_Source_kindOfRegion_63 (by decide) ?_
        refine lv_istore (lv' := [(4, .int 0), (3, .int 0), (0, .ref h_this), (1, .int (nI a)), (2, .int (nI (a + n)))]) hx hb d_Source_kindOfRegion_64 hl (by decide) rfl (fun ls hl => ?_)
        refine lv_iload_n hx hb d_Source_kindOfRegion_66 rfl (lv_at hl 1 rfl) ?_
        refine lv_if_ne (tgt := 75) hx hb d_Source_kindOfRegion_67 (by decide) (fun c8 => absurd c8 (by decide)) (fun _ => ?_)
        refine lv_iload hx hb d_Source_kindOfRegion_70 (lv_at hl 0 rfl) ?_
        refine lv_if_eq (tgt := 79) hx hb d_Source_kindOfRegion_72 (by decide) (fun _ => ?_) (fun c9 => absurd (by decide) c9)
        refine lv_iconst (v := 1) hx hb d_Source_kindOfRegion_79 (by decide) ?_
        refine W.iret (v := 1) hx hb hr (fun t ht hW => ⟨1, rfl, ?_, ht⟩) (fun q h => by cases h) d_Source_kindOfRegion_80
        first | exact (if_pos hH).symm | (rw [if_neg hH]; first | exact (if_pos hM).symm | exact (if_neg hM).symm)
      · have b7 : ((n)) ≤ (8) := (ni_lt (by omega) (by omega) ).2 c7
        refine lv_aload_n hx hb d_Source_kindOfRegion_37 rfl (lv_at hl 1 rfl) ?_
        refine va_get (D := (dC, dI)) (ci := 8) (v := .ref h_text) (C := R_Source) (T := F_Source) (N := 16) hx hb hT i_Source hown hK hP 0 rfl rfl 9 (by decide) (hT _ fl_Source_73) (fun _ h9 => h9) g_this_text d_Source_kindOfRegion_38 ?_
        refine lv_iload_n hx hb d_Source_kindOfRegion_41 rfl (lv_at hl 2 rfl) ?_
        refine va_cald hx hb hK hP 1 0 rfl rfl (vp_in_nI (by omega) (by decide)) d_Source_kindOfRegion_42 ?_
        refine lv_topi (fun x10 e10 => ?_)
        obtain rfl : x10 = f_text a := e10.trans (congrArg f_text (nI_clamp (by omega)))
        have hPc := hP.sub (ws' := []) [] rfl
        have hKc := hK.sub (tys' := []) [] rfl
        refine vp_callSi (va_Run.run (va_runS (As := [.int (f_text a)]) (rest := []) ⟨hx, hb, hml, hown, hT⟩ (c_Source_isSmall l dC dI (p1 := (f_text a)) ) (va_cwS 1 hT (gS ml_Source_136 st_Source_isSmall ini_Source co_Source_isSmall) rfl rfl rfl (by decide +kernel) ⟨Nat.le_of_ble_eq_true rfl, Nat.le_of_ble_eq_true rfl⟩) ⟨fbS, fun U hU hW => ⟨rfl, by rw [hU]; exact hPc, va_K.moved hW.alike hKc⟩⟩ rfl rfl hl.1 rfl (lv_room (Nat.le_of_ble_eq_true rfl)) d_Source_kindOfRegion_43 ⟨Nat.le_of_ble_eq_true rfl, Nat.le_of_ble_eq_true rfl⟩)) (fun r11 hr11 => ?_)
        refine lv_if_eq (tgt := 63) hx hb d_Source_kindOfRegion_46 (by decide) (fun c12 => ?_) (fun c12 => ?_)
        · have hM : ¬ (0 < n ∧ n ≤ 8 ∧ cS (f_text a) ∧ ff (bad1 f_text a 1) 0 n = -1) := fun q => nz hr11 c12 q.2.2.1
          refine lv_iconst (v := 0) hx hb d_Source_kindOfRegion_63 (by decide) ?_
          refine lv_istore (lv' := [(4, .int 0), (3, .int 0), (0, .ref h_this), (1, .int (nI a)), (2, .int (nI (a + n)))]) hx hb d_Source_kindOfRegion_64 hl (by decide) rfl (fun ls hl => ?_)
          refine lv_iload_n hx hb d_Source_kindOfRegion_66 rfl (lv_at hl 1 rfl) ?_
          refine lv_if_ne (tgt := 75) hx hb d_Source_kindOfRegion_67 (by decide) (fun c13 => absurd c13 (by decide)) (fun _ => ?_)
          refine lv_iload hx hb d_Source_kindOfRegion_70 (lv_at hl 0 rfl) ?_
          refine lv_if_eq (tgt := 79) hx hb d_Source_kindOfRegion_72 (by decide) (fun _ => ?_) (fun c14 => absurd (by decide) c14)
          refine lv_iconst (v := 1) hx hb d_Source_kindOfRegion_79 (by decide) ?_
          refine W.iret (v := 1) hx hb hr (fun t ht hW => ⟨1, rfl, ?_, ht⟩) (fun q h => by cases h) d_Source_kindOfRegion_80
          first | exact (if_pos hH).symm | (rw [if_neg hH]; first | exact (if_pos hM).symm | exact (if_neg hM).symm)
        · refine lv_aload_n hx hb d_Source_kindOfRegion_49 rfl (lv_at hl 1 rfl) ?_
          refine lv_iload_n hx hb d_Source_kindOfRegion_50 rfl (lv_at hl 2 rfl) ?_
          refine lv_iload_n hx hb d_Source_kindOfRegion_51 rfl (lv_at hl 3 rfl) ?_
          refine lv_iconst (v := 1) hx hb d_Source_kindOfRegion_52 (by decide) ?_
          have hPc := hP.sub (ws' := [oc h_this 8 fs_this, ic h_text k_text 4000 f_text]) [0, 1] rfl
          have hKc := hK.sub (tys' := [(k_text, .char)]) [0] rfl
          refine vp_callSi (va_Run.run (va_runV (As := [.int (nI a), .int (nI (a + n)), .int 1]) (rest := []) ⟨hx, hb, hml, hown, hT⟩ (c_Source_isAllOf l dC dI (h_this := h_this) (h_text := h_text) (fs_this := fs_this) (k_text := k_text) (f_text := f_text) (p3 := 1) (a := a) (n := n) (len_this := (by first | exact len_this | (simp only [List.length_set]; exact len_this))) (g_this_text := g_this_text) (hz := (by first | assumption | (subst_vars; decide) | omega))) (cwV 3 hT (gV ml_Source_124 im_Source_isAllOf se_Source_isAllOf ini_Source co_Source_isAllOf) rfl rfl rfl (by decide +kernel) ⟨Nat.le_of_ble_eq_true rfl, Nat.le_of_ble_eq_true rfl⟩) ⟨fbS, va_recv hKc hPc (ci := 8) (q0 := 0) rfl rfl, fun U hU hW => ⟨rfl, by rw [hU]; exact hPc, va_K.moved hW.alike hKc⟩⟩ rfl rfl hl.1 rfl (lv_room (Nat.le_of_ble_eq_true rfl)) d_Source_kindOfRegion_53 ⟨Nat.le_of_ble_eq_true rfl, Nat.le_of_ble_eq_true rfl⟩)) (fun r15 hr15 => ?_)
          refine lv_if_eq (tgt := 63) hx hb d_Source_kindOfRegion_56 (by decide) (fun c16 => ?_) (fun c16 => ?_)
          · have hM : ¬ (0 < n ∧ n ≤ 8 ∧ cS (f_text a) ∧ ff (bad1 f_text a 1) 0 n = -1) := fun q => absurd (c16.symm.trans (hr15.trans (if_pos q.2.2.2))) (by decide)
            refine lv_iconst (v := 0) hx hb d_Source_kindOfRegion_63 (by decide) ?_
            refine lv_istore (lv' := [(4, .int 0), (3, .int 0), (0, .ref h_this), (1, .int (nI a)), (2, .int (nI (a + n)))]) hx hb d_Source_kindOfRegion_64 hl (by decide) rfl (fun ls hl => ?_)
            refine lv_iload_n hx hb d_Source_kindOfRegion_66 rfl (lv_at hl 1 rfl) ?_
            refine lv_if_ne (tgt := 75) hx hb d_Source_kindOfRegion_67 (by decide) (fun c17 => absurd c17 (by decide)) (fun _ => ?_)
            refine lv_iload hx hb d_Source_kindOfRegion_70 (lv_at hl 0 rfl) ?_
            refine lv_if_eq (tgt := 79) hx hb d_Source_kindOfRegion_72 (by decide) (fun _ => ?_) (fun c18 => absurd (by decide) c18)
            refine lv_iconst (v := 1) hx hb d_Source_kindOfRegion_79 (by decide) ?_
            refine W.iret (v := 1) hx hb hr (fun t ht hW => ⟨1, rfl, ?_, ht⟩) (fun q h => by cases h) d_Source_kindOfRegion_80
            first | exact (if_pos hH).symm | (rw [if_neg hH]; first | exact (if_pos hM).symm | exact (if_neg hM).symm)
          · have hM : 0 < n ∧ n ≤ 8 ∧ cS (f_text a) ∧ ff (bad1 f_text a 1) 0 n = -1 := ⟨by omega, by omega, yz hr11 c12, Decidable.byContradiction (fun q => c16 (hr15.trans (if_neg q)))⟩
            refine lv_iconst (v := 1) hx hb d_Source_kindOfRegion_59 (by decide) ?_
            refine lv_goto (tgt := 64) hx hb d_Source_kindOfRegion_60 (by decide) ?_
            refine lv_istore (lv' := [(4, .int 1), (3, .int 0), (0, .ref h_this), (1, .int (nI a)), (2, .int (nI (a + n)))]) hx hb d_Source_kindOfRegion_64 hl (by decide) rfl (fun ls hl => ?_)
            refine lv_iload_n hx hb d_Source_kindOfRegion_66 rfl (lv_at hl 1 rfl) ?_
            refine lv_if_ne (tgt := 75) hx hb d_Source_kindOfRegion_67 (by decide) (fun c19 => absurd c19 (by decide)) (fun _ => ?_)
            refine lv_iload hx hb d_Source_kindOfRegion_70 (lv_at hl 0 rfl) ?_
            refine lv_if_eq (tgt := 79) hx hb d_Source_kindOfRegion_72 (by decide) (fun c20 => absurd c20 (by decide)) (fun _ => ?_)
            refine lv_iconst (v := 4) hx hb d_Source_kindOfRegion_75 (by decide) ?_
            refine lv_goto (tgt := 80) hx hb d_Source_kindOfRegion_76 (by decide) ?_
            refine W.iret (v := 4) hx hb hr (fun t ht hW => ⟨4, rfl, ?_, ht⟩) (fun q h => by cases h) d_Source_kindOfRegion_80
            first | exact (if_pos hH).symm | (rw [if_neg hH]; first | exact (if_pos hM).symm | exact (if_neg hM).symm)
  · have h1n : n = 1 := nI_e (by omega) (by decide) c2
    refine lv_aload_n hx hb d_Source_kindOfRegion_7 rfl (lv_at hl 0 rfl) ?_
    refine va_get (D := (dC, dI)) (ci := 8) (v := .ref h_text) (C := R_Source) (T := F_Source) (N := 16) hx hb hT i_Source hown hK hP 0 rfl rfl 9 (by decide) (hT _ fl_Source_73) (fun _ h9 => h9) g_this_text d_Source_kindOfRegion_8 ?_
    refine lv_iload_n hx hb d_Source_kindOfRegion_11 rfl (lv_at hl 1 rfl) ?_
    refine va_cald hx hb hK hP 1 0 rfl rfl (vp_in_nI (by omega) (by decide)) d_Source_kindOfRegion_12 ?_
    refine lv_topi (fun x21 e21 => ?_)
    obtain rfl : x21 = f_text a := e21.trans (congrArg f_text (nI_clamp (by omega)))
    refine lv_bipush (v := 72) hx hb d_Source_kindOfRegion_13 (by decide) ?_
    refine lv_icmp_ne (tgt := 22) hx hb d_Source_kindOfRegion_15 (by decide) (fun c22 => ?_) (fun c22 => ?_)
    · have hH : ¬ (n = 1 ∧ f_text a = 72) := fun q => c22 q.2
      refine lv_iconst (v := 0) hx hb d_Source_kindOfRegion_22 (by decide) ?_
      refine lv_istore_n (lv' := [(3, .int 0), (0, .ref h_this), (1, .int (nI a)), (2, .int (nI (a + n)))]) hx hb d_Source_kindOfRegion_23 rfl hl (by decide) rfl (fun ls hl => ?_)
      refine lv_iload_n hx hb d_Source_kindOfRegion_24 rfl (lv_at hl 3 rfl) ?_
      refine lv_iload_n hx hb d_Source_kindOfRegion_25 rfl (lv_at hl 2 rfl) ?_
      refine lv_icmp_le (tgt := 63) hx hb d_Source_kindOfRegion_26 (by decide) (fun c23 => ?_) (fun c23 => ?_)
      · have b23 : ((a + n)) ≤ (a) := (ni_le (by omega) (by omega)).1 c23
        have hM : ¬ (0 < n ∧ n ≤ 8 ∧ cS (f_text a) ∧ ff (bad1 f_text a 1) 0 n = -1) := fun q => by have := q.1; have := q.2.1; omega
        refine lv_iconst (v := 0) hx hb d_Source_kindOfRegion_63 (by decide) ?_
        refine lv_istore (lv' := [(4, .int 0), (3, .int 0), (0, .ref h_this), (1, .int (nI a)), (2, .int (nI (a + n)))]) hx hb d_Source_kindOfRegion_64 hl (by decide) rfl (fun ls hl => ?_)
        refine lv_iload_n hx hb d_Source_kindOfRegion_66 rfl (lv_at hl 1 rfl) ?_
        refine lv_if_ne (tgt := 75) hx hb d_Source_kindOfRegion_67 (by decide) (fun c24 => absurd c24 (by decide)) (fun _ => ?_)
        refine lv_iload hx hb d_Source_kindOfRegion_70 (lv_at hl 0 rfl) ?_
        refine lv_if_eq (tgt := 79) hx hb d_Source_kindOfRegion_72 (by decide) (fun _ => ?_) (fun c25 => absurd (by decide) c25)
        refine lv_iconst (v := 1) hx hb d_Source_kindOfRegion_79 (by decide) ?_
        refine W.iret (v := 1) hx hb hr (fun t ht hW => ⟨1, rfl, ?_, ht⟩) (fun q h => by cases h) d_Source_kindOfRegion_80
        first | exact (if_pos hH).symm | (rw [if_neg hH]; first | exact (if_pos hM).symm | exact (if_neg hM).symm)
      · have b23 : (a) < ((a + n)) := (ni_le (by omega) (by omega)).2 c23
        refine lv_iload_n hx hb d_Source_kindOfRegion_29 rfl (lv_at hl 3 rfl) ?_
        refine lv_iload_n hx hb d_Source_kindOfRegion_30 rfl (lv_at hl 2 rfl) ?_
        refine lv_isub hx hb d_Source_kindOfRegion_31 ?_
        refine lv_topi (fun x26 e26 => ?_)
        obtain rfl : x26 = nI ((a + n) - a) := e26.trans (pk_sub (a := (a + n)) (b := a) (by omega))
        rw [Nat.add_sub_cancel_left]
        refine lv_bipush (v := 8) hx hb d_Source_kindOfRegion_32 (by decide) ?_
        refine lv_icmp_gt (tgt := 63) hx hb d_Source_kindOfRegion_34 (by decide) (fun c27 => ?_) (fun c27 => ?_)
        · have b27 : (8) < ((n)) := (ni_lt (by omega) (by omega) ).1 c27
          have hM : ¬ (0 < n ∧ n ≤ 8 ∧ cS (f_text a) ∧ ff (bad1 f_text a 1) 0 n = -1) := fun q => by have := q.1; have := q.2.1; omega
          refine lv_iconst (v := 0) hx hb d_Source_kindOfRegion_63 (by decide) ?_
          refine lv_istore (lv' := [(4, .int 0), (3, .int 0), (0, .ref h_this), (1, .int (nI a)), (2, .int (nI (a + n)))]) hx hb d_Source_kindOfRegion_64 hl (by decide) rfl (fun ls hl => ?_)
          refine lv_iload_n hx hb d_Source_kindOfRegion_66 rfl (lv_at hl 1 rfl) ?_
          refine lv_if_ne (tgt := 75) hx hb d_Source_kindOfRegion_67 (by decide) (fun c28 => absurd c28 (by decide)) (fun _ => ?_)
          refine lv_iload hx hb d_Source_kindOfRegion_70 (lv_at hl 0 rfl) ?_
          refine lv_if_eq (tgt := 79) hx hb d_Source_kindOfRegion_72 (by decide) (fun _ => ?_) (fun c29 => absurd (by decide) c29)
          refine lv_iconst (v := 1) hx hb d_Source_kindOfRegion_79 (by decide) ?_
          refine W.iret (v := 1) hx hb hr (fun t ht hW => ⟨1, rfl, ?_, ht⟩) (fun q h => by cases h) d_Source_kindOfRegion_80
          first | exact (if_pos hH).symm | (rw [if_neg hH]; first | exact (if_pos hM).symm | exact (if_neg hM).symm)
        · have b27 : ((n)) ≤ (8) := (ni_lt (by omega) (by omega) ).2 c27
          refine lv_aload_n hx hb d_Source_kindOfRegion_37 rfl (lv_at hl 1 rfl) ?_
          refine va_get (D := (dC, dI)) (ci := 8) (v := .ref h_text) (C := R_Source) (T := F_Source) (N := 16) hx hb hT i_Source hown hK hP 0 rfl rfl 9 (by decide) (hT _ fl_Source_73) (fun _ h9 => h9) g_this_text d_Source_kindOfRegion_38 ?_
          refine lv_iload_n hx hb d_Source_kindOfRegion_41 rfl (lv_at hl 2 rfl) ?_
          refine va_cald hx hb hK hP 1 0 rfl rfl (vp_in_nI (by omega) (by decide)) d_Source_kindOfRegion_42 ?_
          refine lv_topi (fun x30 e30 => ?_)
          obtain rfl : x30 = f_text a := e30.trans (congrArg f_text (nI_clamp (by omega)))
          have hPc := hP.sub (ws' := []) [] rfl
          have hKc := hK.sub (tys' := []) [] rfl
          refine vp_callSi (va_Run.run (va_runS (As := [.int (f_text a)]) (rest := []) ⟨hx, hb, hml, hown, hT⟩ (c_Source_isSmall l dC dI (p1 := (f_text a)) ) (va_cwS 1 hT (gS ml_Source_136 st_Source_isSmall ini_Source co_Source_isSmall) rfl rfl rfl (by decide +kernel) ⟨Nat.le_of_ble_eq_true rfl, Nat.le_of_ble_eq_true rfl⟩) ⟨fbS, fun U hU hW => ⟨rfl, by rw [hU]; exact hPc, va_K.moved hW.alike hKc⟩⟩ rfl rfl hl.1 rfl (lv_room (Nat.le_of_ble_eq_true rfl)) d_Source_kindOfRegion_43 ⟨Nat.le_of_ble_eq_true rfl, Nat.le_of_ble_eq_true rfl⟩)) (fun r31 hr31 => ?_)
          refine lv_if_eq (tgt := 63) hx hb d_Source_kindOfRegion_46 (by decide) (fun c32 => ?_) (fun c32 => ?_)
          · have hM : ¬ (0 < n ∧ n ≤ 8 ∧ cS (f_text a) ∧ ff (bad1 f_text a 1) 0 n = -1) := fun q => nz hr31 c32 q.2.2.1
            refine lv_iconst (v := 0) hx hb d_Source_kindOfRegion_63 (by decide) ?_
            refine lv_istore (lv' := [(4, .int 0), (3, .int 0), (0, .ref h_this), (1, .int (nI a)), (2, .int (nI (a + n)))]) hx hb d_Source_kindOfRegion_64 hl (by decide) rfl (fun ls hl => ?_)
            refine lv_iload_n hx hb d_Source_kindOfRegion_66 rfl (lv_at hl 1 rfl) ?_
            refine lv_if_ne (tgt := 75) hx hb d_Source_kindOfRegion_67 (by decide) (fun c33 => absurd c33 (by decide)) (fun _ => ?_)
            refine lv_iload hx hb d_Source_kindOfRegion_70 (lv_at hl 0 rfl) ?_
            refine lv_if_eq (tgt := 79) hx hb d_Source_kindOfRegion_72 (by decide) (fun _ => ?_) (fun c34 => absurd (by decide) c34)
            refine lv_iconst (v := 1) hx hb d_Source_kindOfRegion_79 (by decide) ?_
            refine W.iret (v := 1) hx hb hr (fun t ht hW => ⟨1, rfl, ?_, ht⟩) (fun q h => by cases h) d_Source_kindOfRegion_80
            first | exact (if_pos hH).symm | (rw [if_neg hH]; first | exact (if_pos hM).symm | exact (if_neg hM).symm)
          · refine lv_aload_n hx hb d_Source_kindOfRegion_49 rfl (lv_at hl 1 rfl) ?_
            refine lv_iload_n hx hb d_Source_kindOfRegion_50 rfl (lv_at hl 2 rfl) ?_
            refine lv_iload_n hx hb d_Source_kindOfRegion_51 rfl (lv_at hl 3 rfl) ?_
            refine lv_iconst (v := 1) hx hb d_Source_kindOfRegion_52 (by decide) ?_
            have hPc := hP.sub (ws' := [oc h_this 8 fs_this, ic h_text k_text 4000 f_text]) [0, 1] rfl
            have hKc := hK.sub (tys' := [(k_text, .char)]) [0] rfl
            refine vp_callSi (va_Run.run (va_runV (As := [.int (nI a), .int (nI (a + n)), .int 1]) (rest := []) ⟨hx, hb, hml, hown, hT⟩ (c_Source_isAllOf l dC dI (h_this := h_this) (h_text := h_text) (fs_this := fs_this) (k_text := k_text) (f_text := f_text) (p3 := 1) (a := a) (n := n) (len_this := (by first | exact len_this | (simp only [List.length_set]; exact len_this))) (g_this_text := g_this_text) (hz := (by first | assumption | (subst_vars; decide) | omega))) (cwV 3 hT (gV ml_Source_124 im_Source_isAllOf se_Source_isAllOf ini_Source co_Source_isAllOf) rfl rfl rfl (by decide +kernel) ⟨Nat.le_of_ble_eq_true rfl, Nat.le_of_ble_eq_true rfl⟩) ⟨fbS, va_recv hKc hPc (ci := 8) (q0 := 0) rfl rfl, fun U hU hW => ⟨rfl, by rw [hU]; exact hPc, va_K.moved hW.alike hKc⟩⟩ rfl rfl hl.1 rfl (lv_room (Nat.le_of_ble_eq_true rfl)) d_Source_kindOfRegion_53 ⟨Nat.le_of_ble_eq_true rfl, Nat.le_of_ble_eq_true rfl⟩)) (fun r35 hr35 => ?_)
            refine lv_if_eq (tgt := 63) hx hb d_Source_kindOfRegion_56 (by decide) (fun c36 => ?_) (fun c36 => ?_)
            · have hM : ¬ (0 < n ∧ n ≤ 8 ∧ cS (f_text a) ∧ ff (bad1 f_text a 1) 0 n = -1) := fun q => absurd (c36.symm.trans (hr35.trans (if_pos q.2.2.2))) (by decide)
              refine lv_iconst (v := 0) hx hb d_Source_kindOfRegion_63 (by decide) ?_
              refine lv_istore (lv' := [(4, .int 0), (3, .int 0), (0, .ref h_this), (1, .int (nI a)), (2, .int (nI (a + n)))]) hx hb d_Source_kindOfRegion_64 hl (by decide) rfl (fun ls hl => ?_)
              refine lv_iload_n hx hb d_Source_kindOfRegion_66 rfl (lv_at hl 1 rfl) ?_
              refine lv_if_ne (tgt := 75) hx hb d_Source_kindOfRegion_67 (by decide) (fun c37 => absurd c37 (by decide)) (fun _ => ?_)
              refine lv_iload hx hb d_Source_kindOfRegion_70 (lv_at hl 0 rfl) ?_
              refine lv_if_eq (tgt := 79) hx hb d_Source_kindOfRegion_72 (by decide) (fun _ => ?_) (fun c38 => absurd (by decide) c38)
              refine lv_iconst (v := 1) hx hb d_Source_kindOfRegion_79 (by decide) ?_
              refine W.iret (v := 1) hx hb hr (fun t ht hW => ⟨1, rfl, ?_, ht⟩) (fun q h => by cases h) d_Source_kindOfRegion_80
              first | exact (if_pos hH).symm | (rw [if_neg hH]; first | exact (if_pos hM).symm | exact (if_neg hM).symm)
            · have hM : 0 < n ∧ n ≤ 8 ∧ cS (f_text a) ∧ ff (bad1 f_text a 1) 0 n = -1 := ⟨by omega, by omega, yz hr31 c32, Decidable.byContradiction (fun q => c36 (hr35.trans (if_neg q)))⟩
              refine lv_iconst (v := 1) hx hb d_Source_kindOfRegion_59 (by decide) ?_
              refine lv_goto (tgt := 64) hx hb d_Source_kindOfRegion_60 (by decide) ?_
              refine lv_istore (lv' := [(4, .int 1), (3, .int 0), (0, .ref h_this), (1, .int (nI a)), (2, .int (nI (a + n)))]) hx hb d_Source_kindOfRegion_64 hl (by decide) rfl (fun ls hl => ?_)
              refine lv_iload_n hx hb d_Source_kindOfRegion_66 rfl (lv_at hl 1 rfl) ?_
              refine lv_if_ne (tgt := 75) hx hb d_Source_kindOfRegion_67 (by decide) (fun c39 => absurd c39 (by decide)) (fun _ => ?_)
              refine lv_iload hx hb d_Source_kindOfRegion_70 (lv_at hl 0 rfl) ?_
              refine lv_if_eq (tgt := 79) hx hb d_Source_kindOfRegion_72 (by decide) (fun c40 => absurd c40 (by decide)) (fun _ => ?_)
              refine lv_iconst (v := 4) hx hb d_Source_kindOfRegion_75 (by decide) ?_
              refine lv_goto (tgt := 80) hx hb d_Source_kindOfRegion_76 (by decide) ?_
              refine W.iret (v := 4) hx hb hr (fun t ht hW => ⟨4, rfl, ?_, ht⟩) (fun q h => by cases h) d_Source_kindOfRegion_80
              first | exact (if_pos hH).symm | (rw [if_neg hH]; first | exact (if_pos hM).symm | exact (if_neg hM).symm)
    · have hH : n = 1 ∧ f_text a = 72 := ⟨h1n, c22⟩
      refine lv_iconst (v := 1) hx hb d_Source_kindOfRegion_18 (by decide) ?_
      refine lv_goto (tgt := 23) hx hb d_Source_kindOfRegion_19 (by decide) ?_
      refine lv_istore_n (lv' := [(3, .int 1), (0, .ref h_this), (1, .int (nI a)), (2, .int (nI (a + n)))]) hx hb d_Source_kindOfRegion_23 rfl hl (by decide) rfl (fun ls hl => ?_)
      refine lv_iload_n hx hb d_Source_kindOfRegion_24 rfl (lv_at hl 3 rfl) ?_
      refine lv_iload_n hx hb d_Source_kindOfRegion_25 rfl (lv_at hl 2 rfl) ?_
      refine lv_icmp_le (tgt := 63) hx hb d_Source_kindOfRegion_26 (by decide) (fun c41 => ?_) (fun c41 => ?_)
      · have b41 : ((a + n)) ≤ (a) := (ni_le (by omega) (by omega)).1 c41
        have hM : ¬ (0 < n ∧ n ≤ 8 ∧ cS (f_text a) ∧ ff (bad1 f_text a 1) 0 n = -1) := fun q => by have := q.1; have := q.2.1; omega
        refine lv_iconst (v := 0) hx hb d_Source_kindOfRegion_63 (by decide) ?_
        refine lv_istore (lv' := [(4, .int 0), (3, .int 1), (0, .ref h_this), (1, .int (nI a)), (2, .int (nI (a + n)))]) hx hb d_Source_kindOfRegion_64 hl (by decide) rfl (fun ls hl => ?_)
        refine lv_iload_n hx hb d_Source_kindOfRegion_66 rfl (lv_at hl 1 rfl) ?_
        refine lv_if_ne (tgt := 75) hx hb d_Source_kindOfRegion_67 (by decide) (fun _ => ?_) (fun c42 => absurd c42 (by decide))
        refine lv_iconst (v := 4) hx hb d_Source_kindOfRegion_75 (by decide) ?_
        refine lv_goto (tgt := 80) hx hb d_Source_kindOfRegion_76 (by decide) ?_
        refine W.iret (v := 4) hx hb hr (fun t ht hW => ⟨4, rfl, ?_, ht⟩) (fun q h => by cases h) d_Source_kindOfRegion_80
        first | exact (if_pos hH).symm | (rw [if_neg hH]; first | exact (if_pos hM).symm | exact (if_neg hM).symm)
      · have b41 : (a) < ((a + n)) := (ni_le (by omega) (by omega)).2 c41
        refine lv_iload_n hx hb d_Source_kindOfRegion_29 rfl (lv_at hl 3 rfl) ?_
        refine lv_iload_n hx hb d_Source_kindOfRegion_30 rfl (lv_at hl 2 rfl) ?_
        refine lv_isub hx hb d_Source_kindOfRegion_31 ?_
        refine lv_topi (fun x43 e43 => ?_)
        obtain rfl : x43 = nI ((a + n) - a) := e43.trans (pk_sub (a := (a + n)) (b := a) (by omega))
        rw [Nat.add_sub_cancel_left]
        refine lv_bipush (v := 8) hx hb d_Source_kindOfRegion_32 (by decide) ?_
        refine lv_icmp_gt (tgt := 63) hx hb d_Source_kindOfRegion_34 (by decide) (fun c44 => ?_) (fun c44 => ?_)
        · have b44 : (8) < ((n)) := (ni_lt (by omega) (by omega) ).1 c44
          have hM : ¬ (0 < n ∧ n ≤ 8 ∧ cS (f_text a) ∧ ff (bad1 f_text a 1) 0 n = -1) := fun q => by have := q.1; have := q.2.1; omega
          refine lv_iconst (v := 0) hx hb d_Source_kindOfRegion_63 (by decide) ?_
          refine lv_istore (lv' := [(4, .int 0), (3, .int 1), (0, .ref h_this), (1, .int (nI a)), (2, .int (nI (a + n)))]) hx hb d_Source_kindOfRegion_64 hl (by decide) rfl (fun ls hl => ?_)
          refine lv_iload_n hx hb d_Source_kindOfRegion_66 rfl (lv_at hl 1 rfl) ?_
          refine lv_if_ne (tgt := 75) hx hb d_Source_kindOfRegion_67 (by decide) (fun _ => ?_) (fun c45 => absurd c45 (by decide))
          refine lv_iconst (v := 4) hx hb d_Source_kindOfRegion_75 (by decide) ?_
          refine lv_goto (tgt := 80) hx hb d_Source_kindOfRegion_76 (by decide) ?_
          refine W.iret (v := 4) hx hb hr (fun t ht hW => ⟨4, rfl, ?_, ht⟩) (fun q h => by cases h) d_Source_kindOfRegion_80
          first | exact (if_pos hH).symm | (rw [if_neg hH]; first | exact (if_pos hM).symm | exact (if_neg hM).symm)
        · have b44 : ((n)) ≤ (8) := (ni_lt (by omega) (by omega) ).2 c44
          refine lv_aload_n hx hb d_Source_kindOfRegion_37 rfl (lv_at hl 1 rfl) ?_
          refine va_get (D := (dC, dI)) (ci := 8) (v := .ref h_text) (C := R_Source) (T := F_Source) (N := 16) hx hb hT i_Source hown hK hP 0 rfl rfl 9 (by decide) (hT _ fl_Source_73) (fun _ h9 => h9) g_this_text d_Source_kindOfRegion_38 ?_
          refine lv_iload_n hx hb d_Source_kindOfRegion_41 rfl (lv_at hl 2 rfl) ?_
          refine va_cald hx hb hK hP 1 0 rfl rfl (vp_in_nI (by omega) (by decide)) d_Source_kindOfRegion_42 ?_
          refine lv_topi (fun x46 e46 => ?_)
          obtain rfl : x46 = f_text a := e46.trans (congrArg f_text (nI_clamp (by omega)))
          have hPc := hP.sub (ws' := []) [] rfl
          have hKc := hK.sub (tys' := []) [] rfl
          refine vp_callSi (va_Run.run (va_runS (As := [.int (f_text a)]) (rest := []) ⟨hx, hb, hml, hown, hT⟩ (c_Source_isSmall l dC dI (p1 := (f_text a)) ) (va_cwS 1 hT (gS ml_Source_136 st_Source_isSmall ini_Source co_Source_isSmall) rfl rfl rfl (by decide +kernel) ⟨Nat.le_of_ble_eq_true rfl, Nat.le_of_ble_eq_true rfl⟩) ⟨fbS, fun U hU hW => ⟨rfl, by rw [hU]; exact hPc, va_K.moved hW.alike hKc⟩⟩ rfl rfl hl.1 rfl (lv_room (Nat.le_of_ble_eq_true rfl)) d_Source_kindOfRegion_43 ⟨Nat.le_of_ble_eq_true rfl, Nat.le_of_ble_eq_true rfl⟩)) (fun r47 hr47 => ?_)
          refine lv_if_eq (tgt := 63) hx hb d_Source_kindOfRegion_46 (by decide) (fun c48 => ?_) (fun c48 => ?_)
          · have hM : ¬ (0 < n ∧ n ≤ 8 ∧ cS (f_text a) ∧ ff (bad1 f_text a 1) 0 n = -1) := fun q => nz hr47 c48 q.2.2.1
            refine lv_iconst (v := 0) hx hb d_Source_kindOfRegion_63 (by decide) ?_
            refine lv_istore (lv' := [(4, .int 0), (3, .int 1), (0, .ref h_this), (1, .int (nI a)), (2, .int (nI (a + n)))]) hx hb d_Source_kindOfRegion_64 hl (by decide) rfl (fun ls hl => ?_)
            refine lv_iload_n hx hb d_Source_kindOfRegion_66 rfl (lv_at hl 1 rfl) ?_
            refine lv_if_ne (tgt := 75) hx hb d_Source_kindOfRegion_67 (by decide) (fun _ => ?_) (fun c49 => absurd c49 (by decide))
            refine lv_iconst (v := 4) hx hb d_Source_kindOfRegion_75 (by decide) ?_
            refine lv_goto (tgt := 80) hx hb d_Source_kindOfRegion_76 (by decide) ?_
            refine W.iret (v := 4) hx hb hr (fun t ht hW => ⟨4, rfl, ?_, ht⟩) (fun q h => by cases h) d_Source_kindOfRegion_80
            first | exact (if_pos hH).symm | (rw [if_neg hH]; first | exact (if_pos hM).symm | exact (if_neg hM).symm)
          · refine lv_aload_n hx hb d_Source_kindOfRegion_49 rfl (lv_at hl 1 rfl) ?_
            refine lv_iload_n hx hb d_Source_kindOfRegion_50 rfl (lv_at hl 2 rfl) ?_
            refine lv_iload_n hx hb d_Source_kindOfRegion_51 rfl (lv_at hl 3 rfl) ?_
            refine lv_iconst (v := 1) hx hb d_Source_kindOfRegion_52 (by decide) ?_
            have hPc := hP.sub (ws' := [oc h_this 8 fs_this, ic h_text k_text 4000 f_text]) [0, 1] rfl
            have hKc := hK.sub (tys' := [(k_text, .char)]) [0] rfl
            refine vp_callSi (va_Run.run (va_runV (As := [.int (nI a), .int (nI (a + n)), .int 1]) (rest := []) ⟨hx, hb, hml, hown, hT⟩ (c_Source_isAllOf l dC dI (h_this := h_this) (h_text := h_text) (fs_this := fs_this) (k_text := k_text) (f_text := f_text) (p3 := 1) (a := a) (n := n) (len_this := (by first | exact len_this | (simp only [List.length_set]; exact len_this))) (g_this_text := g_this_text) (hz := (by first | assumption | (subst_vars; decide) | omega))) (cwV 3 hT (gV ml_Source_124 im_Source_isAllOf se_Source_isAllOf ini_Source co_Source_isAllOf) rfl rfl rfl (by decide +kernel) ⟨Nat.le_of_ble_eq_true rfl, Nat.le_of_ble_eq_true rfl⟩) ⟨fbS, va_recv hKc hPc (ci := 8) (q0 := 0) rfl rfl, fun U hU hW => ⟨rfl, by rw [hU]; exact hPc, va_K.moved hW.alike hKc⟩⟩ rfl rfl hl.1 rfl (lv_room (Nat.le_of_ble_eq_true rfl)) d_Source_kindOfRegion_53 ⟨Nat.le_of_ble_eq_true rfl, Nat.le_of_ble_eq_true rfl⟩)) (fun r50 hr50 => ?_)
            refine lv_if_eq (tgt := 63) hx hb d_Source_kindOfRegion_56 (by decide) (fun c51 => ?_) (fun c51 => ?_)
            · have hM : ¬ (0 < n ∧ n ≤ 8 ∧ cS (f_text a) ∧ ff (bad1 f_text a 1) 0 n = -1) := fun q => absurd (c51.symm.trans (hr50.trans (if_pos q.2.2.2))) (by decide)
              refine lv_iconst (v := 0) hx hb d_Source_kindOfRegion_63 (by decide) ?_
              refine lv_istore (lv' := [(4, .int 0), (3, .int 1), (0, .ref h_this), (1, .int (nI a)), (2, .int (nI (a + n)))]) hx hb d_Source_kindOfRegion_64 hl (by decide) rfl (fun ls hl => ?_)
              refine lv_iload_n hx hb d_Source_kindOfRegion_66 rfl (lv_at hl 1 rfl) ?_
              refine lv_if_ne (tgt := 75) hx hb d_Source_kindOfRegion_67 (by decide) (fun _ => ?_) (fun c52 => absurd c52 (by decide))
              refine lv_iconst (v := 4) hx hb d_Source_kindOfRegion_75 (by decide) ?_
              refine lv_goto (tgt := 80) hx hb d_Source_kindOfRegion_76 (by decide) ?_
              refine W.iret (v := 4) hx hb hr (fun t ht hW => ⟨4, rfl, ?_, ht⟩) (fun q h => by cases h) d_Source_kindOfRegion_80
              first | exact (if_pos hH).symm | (rw [if_neg hH]; first | exact (if_pos hM).symm | exact (if_neg hM).symm)
            · have hM : 0 < n ∧ n ≤ 8 ∧ cS (f_text a) ∧ ff (bad1 f_text a 1) 0 n = -1 := ⟨by omega, by omega, yz hr47 c48, Decidable.byContradiction (fun q => c51 (hr50.trans (if_neg q)))⟩
              refine lv_iconst (v := 1) hx hb d_Source_kindOfRegion_59 (by decide) ?_
              refine lv_goto (tgt := 64) hx hb d_Source_kindOfRegion_60 (by decide) ?_
              refine lv_istore (lv' := [(4, .int 1), (3, .int 1), (0, .ref h_this), (1, .int (nI a)), (2, .int (nI (a + n)))]) hx hb d_Source_kindOfRegion_64 hl (by decide) rfl (fun ls hl => ?_)
              refine lv_iload_n hx hb d_Source_kindOfRegion_66 rfl (lv_at hl 1 rfl) ?_
              refine lv_if_ne (tgt := 75) hx hb d_Source_kindOfRegion_67 (by decide) (fun _ => ?_) (fun c53 => absurd c53 (by decide))
              refine lv_iconst (v := 4) hx hb d_Source_kindOfRegion_75 (by decide) ?_
              refine lv_goto (tgt := 80) hx hb d_Source_kindOfRegion_76 (by decide) ?_
              refine W.iret (v := 4) hx hb hr (fun t ht hW => ⟨4, rfl, ?_, ht⟩) (fun q h => by cases h) d_Source_kindOfRegion_80
              first | exact (if_pos hH).symm | (rw [if_neg hH]; first | exact (if_pos hM).symm | exact (if_neg hM).symm)
