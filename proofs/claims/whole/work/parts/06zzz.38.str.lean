abbrev b_Str_coder : ByteArray := prog_18_method_152_code
abbrev y_Str_coder : MethodName := ⟨R_Str, "coder", "()B"⟩
theorem co_Str_coder : Cond.code y_Str_coder b_Str_coder 1 (some .byte) ∈ lw_good := lg_in (tin_1 _ (List.mem_of_getElem? (i := 44) rfl)) rfl
abbrev w_Str_coder : List Cond := Cond.code y_Str_coder b_Str_coder 1 (some .byte) :: lw_good
theorem im_Str_coder : Cond.instanceMethod y_Str_coder ∈ lw_good := lg_right (i := 42) (by decide +kernel) rfl
theorem se_Str_coder : Cond.selects R_Str y_Str_coder y_Str_coder ∈ lw_good := lg_right (i := 43) (by decide +kernel) rfl
theorem d_Str_coder_0 : decode b_Str_coder 0 = .ok (.getstatic 38, 3) := by decide +kernel
theorem fl_Str_38 : Cond.fieldLink R_Str 38 "java/lang/String" "COMPACT_STRINGS" "Z" ∈ lw_good := lg_right (i := 45) (by decide +kernel) rfl
theorem d_Str_coder_3 : decode b_Str_coder 3 = .ok (.ifCond .eq 10, 3) := by decide +kernel
theorem d_Str_coder_6 : decode b_Str_coder 6 = .ok (.aload_n 0, 1) := by decide +kernel
theorem d_Str_coder_7 : decode b_Str_coder 7 = .ok (.getfield 15, 3) := by decide +kernel
theorem fl_Str_15 : Cond.fieldLink R_Str 15 "java/lang/String" "coder" "B" ∈ lw_good := lg_right (i := 129) (by decide +kernel) rfl
theorem d_Str_coder_10 : decode b_Str_coder 10 = .ok (.goto 4, 3) := by decide +kernel
theorem d_Str_coder_14 : decode b_Str_coder 14 = .ok (.ireturn, 1) := by decide +kernel
abbrev b_Str_isLatin1 : ByteArray := prog_18_method_154_code
abbrev y_Str_isLatin1 : MethodName := ⟨R_Str, "isLatin1", "()Z"⟩
theorem co_Str_isLatin1 : Cond.code y_Str_isLatin1 b_Str_isLatin1 1 (some .boolean) ∈ lw_good := lg_in (tin_1 _ (List.mem_of_getElem? (i := 54) rfl)) rfl
abbrev w_Str_isLatin1 : List Cond := Cond.code y_Str_isLatin1 b_Str_isLatin1 1 (some .boolean) :: lw_good
theorem im_Str_isLatin1 : Cond.instanceMethod y_Str_isLatin1 ∈ lw_good := lg_right (i := 52) (by decide +kernel) rfl
theorem se_Str_isLatin1 : Cond.selects R_Str y_Str_isLatin1 y_Str_isLatin1 ∈ lw_good := lg_right (i := 53) (by decide +kernel) rfl
theorem d_Str_isLatin1_0 : decode b_Str_isLatin1 0 = .ok (.getstatic 38, 3) := by decide +kernel
theorem d_Str_isLatin1_3 : decode b_Str_isLatin1 3 = .ok (.ifCond .eq 14, 3) := by decide +kernel
theorem d_Str_isLatin1_6 : decode b_Str_isLatin1 6 = .ok (.aload_n 0, 1) := by decide +kernel
theorem d_Str_isLatin1_7 : decode b_Str_isLatin1 7 = .ok (.getfield 15, 3) := by decide +kernel
theorem d_Str_isLatin1_10 : decode b_Str_isLatin1 10 = .ok (.ifCond .ne 7, 3) := by decide +kernel
theorem d_Str_isLatin1_13 : decode b_Str_isLatin1 13 = .ok (.iconst 1, 1) := by decide +kernel
theorem d_Str_isLatin1_14 : decode b_Str_isLatin1 14 = .ok (.goto 4, 3) := by decide +kernel
theorem d_Str_isLatin1_18 : decode b_Str_isLatin1 18 = .ok (.ireturn, 1) := by decide +kernel
abbrev b_Str_length : ByteArray := prog_18_method_54_code
abbrev y_Str_length : MethodName := ⟨R_Str, "length", "()I"⟩
theorem co_Str_length : Cond.code y_Str_length b_Str_length 1 (some .int) ∈ lw_good := lg_in (tin_1 _ (List.mem_of_getElem? (i := 40) rfl)) rfl
abbrev w_Str_length : List Cond := Cond.code y_Str_length b_Str_length 1 (some .int) :: lw_good
theorem im_Str_length : Cond.instanceMethod y_Str_length ∈ lw_good := lg_right (i := 38) (by decide +kernel) rfl
theorem se_Str_length : Cond.selects R_Str y_Str_length y_Str_length ∈ lw_good := lg_right (i := 39) (by decide +kernel) rfl
theorem d_Str_length_0 : decode b_Str_length 0 = .ok (.aload_n 0, 1) := by decide +kernel
theorem d_Str_length_1 : decode b_Str_length 1 = .ok (.getfield 9, 3) := by decide +kernel
theorem fl_Str_9 : Cond.fieldLink R_Str 9 "java/lang/String" "value" "[B" ∈ lw_good := lg_right (i := 128) (by decide +kernel) rfl
theorem d_Str_length_4 : decode b_Str_length 4 = .ok (.arraylength, 1) := by decide +kernel
theorem d_Str_length_5 : decode b_Str_length 5 = .ok (.aload_n 0, 1) := by decide +kernel
theorem d_Str_length_6 : decode b_Str_length 6 = .ok (.invokevirtual 335, 3) := by decide +kernel
theorem ml_Str_335 : Cond.methodLink R_Str 335 ⟨"java/lang/String", "coder", "()B"⟩ ∈ lw_good := lg_right (i := 41) (by decide +kernel) rfl
theorem d_Str_length_9 : decode b_Str_length 9 = .ok (.ishr, 1) := by decide +kernel
theorem d_Str_length_10 : decode b_Str_length 10 = .ok (.ireturn, 1) := by decide +kernel
abbrev b_Pre_checkIndex : ByteArray := prog_23_method_11_code
abbrev y_Pre_checkIndex : MethodName := ⟨R_Pre, "checkIndex", "(IILjava/util/function/BiFunction;)I"⟩
theorem co_Pre_checkIndex : Cond.code y_Pre_checkIndex b_Pre_checkIndex 3 (some .int) ∈ lw_good := lg_in (tin_1 _ (List.mem_of_getElem? (i := 65) rfl)) rfl
abbrev w_Pre_checkIndex : List Cond := Cond.code y_Pre_checkIndex b_Pre_checkIndex 3 (some .int) :: lw_good
theorem st_Pre_checkIndex : Cond.static y_Pre_checkIndex ∈ lw_good := lg_right (i := 64) (by decide +kernel) rfl
theorem d_Pre_checkIndex_0 : decode b_Pre_checkIndex 0 = .ok (.iload_n 0, 1) := by decide +kernel
theorem d_Pre_checkIndex_1 : decode b_Pre_checkIndex 1 = .ok (.ifCond .lt 8, 3) := by decide +kernel
theorem d_Pre_checkIndex_4 : decode b_Pre_checkIndex 4 = .ok (.iload_n 0, 1) := by decide +kernel
theorem d_Pre_checkIndex_5 : decode b_Pre_checkIndex 5 = .ok (.iload_n 1, 1) := by decide +kernel
theorem d_Pre_checkIndex_6 : decode b_Pre_checkIndex 6 = .ok (.if_icmp .lt 10, 3) := by decide +kernel
theorem d_Pre_checkIndex_16 : decode b_Pre_checkIndex 16 = .ok (.iload_n 0, 1) := by decide +kernel
theorem d_Pre_checkIndex_17 : decode b_Pre_checkIndex 17 = .ok (.ireturn, 1) := by decide +kernel
abbrev b_Str_checkIndex : ByteArray := prog_18_method_155_code
abbrev y_Str_checkIndex : MethodName := ⟨R_Str, "checkIndex", "(II)V"⟩
theorem co_Str_checkIndex : Cond.code y_Str_checkIndex b_Str_checkIndex 2 none ∈ lw_good := lg_in (tin_1 _ (List.mem_of_getElem? (i := 60) rfl)) rfl
abbrev w_Str_checkIndex : List Cond := Cond.code y_Str_checkIndex b_Str_checkIndex 2 none :: lw_good
theorem st_Str_checkIndex : Cond.static y_Str_checkIndex ∈ lw_good := lg_right (i := 59) (by decide +kernel) rfl
theorem d_Str_checkIndex_0 : decode b_Str_checkIndex 0 = .ok (.iload_n 0, 1) := by decide +kernel
theorem d_Str_checkIndex_1 : decode b_Str_checkIndex 1 = .ok (.iload_n 1, 1) := by decide +kernel
theorem d_Str_checkIndex_2 : decode b_Str_checkIndex 2 = .ok (.getstatic 1053, 3) := by decide +kernel
theorem fl_Str_1053 : Cond.fieldLink R_Str 1053 "jdk/internal/util/Preconditions" "SIOOBE_FORMATTER" "Ljava/util/function/BiFunction;" ∈ lw_good := lg_right (i := 61) (by decide +kernel) rfl
theorem d_Str_checkIndex_5 : decode b_Str_checkIndex 5 = .ok (.invokestatic 1059, 3) := by decide +kernel
theorem ml_Str_1059 : Cond.methodLink R_Str 1059 ⟨"jdk/internal/util/Preconditions", "checkIndex", "(IILjava/util/function/BiFunction;)I"⟩ ∈ lw_good := lg_right (i := 63) (by decide +kernel) rfl
theorem d_Str_checkIndex_8 : decode b_Str_checkIndex 8 = .ok (.pop, 1) := by decide +kernel
theorem d_Str_checkIndex_9 : decode b_Str_checkIndex 9 = .ok (.return_, 1) := by decide +kernel
abbrev b_Lat_charAt : ByteArray := prog_19_method_2_code
abbrev y_Lat_charAt : MethodName := ⟨R_Lat, "charAt", "([BI)C"⟩
theorem co_Lat_charAt : Cond.code y_Lat_charAt b_Lat_charAt 2 (some .char) ∈ lw_good := lg_in (tin_1 _ (List.mem_of_getElem? (i := 57) rfl)) rfl
abbrev w_Lat_charAt : List Cond := Cond.code y_Lat_charAt b_Lat_charAt 2 (some .char) :: lw_good
theorem st_Lat_charAt : Cond.static y_Lat_charAt ∈ lw_good := lg_right (i := 56) (by decide +kernel) rfl
theorem d_Lat_charAt_0 : decode b_Lat_charAt 0 = .ok (.iload_n 1, 1) := by decide +kernel
theorem d_Lat_charAt_1 : decode b_Lat_charAt 1 = .ok (.aload_n 0, 1) := by decide +kernel
theorem d_Lat_charAt_2 : decode b_Lat_charAt 2 = .ok (.arraylength, 1) := by decide +kernel
theorem d_Lat_charAt_3 : decode b_Lat_charAt 3 = .ok (.invokestatic 9, 3) := by decide +kernel
theorem ml_Lat_9 : Cond.methodLink R_Lat 9 ⟨"java/lang/String", "checkIndex", "(II)V"⟩ ∈ lw_good := lg_right (i := 58) (by decide +kernel) rfl
theorem d_Lat_charAt_6 : decode b_Lat_charAt 6 = .ok (.aload_n 0, 1) := by decide +kernel
theorem d_Lat_charAt_7 : decode b_Lat_charAt 7 = .ok (.iload_n 1, 1) := by decide +kernel
theorem d_Lat_charAt_8 : decode b_Lat_charAt 8 = .ok (.baload, 1) := by decide +kernel
theorem d_Lat_charAt_9 : decode b_Lat_charAt 9 = .ok (.sipush 255, 3) := by decide +kernel
theorem d_Lat_charAt_12 : decode b_Lat_charAt 12 = .ok (.iand, 1) := by decide +kernel
theorem d_Lat_charAt_13 : decode b_Lat_charAt 13 = .ok (.i2c, 1) := by decide +kernel
theorem d_Lat_charAt_14 : decode b_Lat_charAt 14 = .ok (.ireturn, 1) := by decide +kernel
abbrev b_Str_charAt : ByteArray := prog_18_method_56_code
abbrev y_Str_charAt : MethodName := ⟨R_Str, "charAt", "(I)C"⟩
theorem co_Str_charAt : Cond.code y_Str_charAt b_Str_charAt 2 (some .char) ∈ lw_good := lg_in (tin_1 _ (List.mem_of_getElem? (i := 50) rfl)) rfl
abbrev w_Str_charAt : List Cond := Cond.code y_Str_charAt b_Str_charAt 2 (some .char) :: lw_good
theorem im_Str_charAt : Cond.instanceMethod y_Str_charAt ∈ lw_good := lg_right (i := 48) (by decide +kernel) rfl
theorem se_Str_charAt : Cond.selects R_Str y_Str_charAt y_Str_charAt ∈ lw_good := lg_right (i := 49) (by decide +kernel) rfl
theorem d_Str_charAt_0 : decode b_Str_charAt 0 = .ok (.aload_n 0, 1) := by decide +kernel
theorem d_Str_charAt_1 : decode b_Str_charAt 1 = .ok (.invokevirtual 492, 3) := by decide +kernel
theorem ml_Str_492 : Cond.methodLink R_Str 492 ⟨"java/lang/String", "isLatin1", "()Z"⟩ ∈ lw_good := lg_right (i := 51) (by decide +kernel) rfl
theorem d_Str_charAt_4 : decode b_Str_charAt 4 = .ok (.ifCond .eq 12, 3) := by decide +kernel
theorem d_Str_charAt_7 : decode b_Str_charAt 7 = .ok (.aload_n 0, 1) := by decide +kernel
theorem d_Str_charAt_8 : decode b_Str_charAt 8 = .ok (.getfield 9, 3) := by decide +kernel
theorem d_Str_charAt_11 : decode b_Str_charAt 11 = .ok (.iload_n 1, 1) := by decide +kernel
theorem d_Str_charAt_12 : decode b_Str_charAt 12 = .ok (.invokestatic 495, 3) := by decide +kernel
theorem ml_Str_495 : Cond.methodLink R_Str 495 ⟨"java/lang/StringLatin1", "charAt", "([BI)C"⟩ ∈ lw_good := lg_right (i := 55) (by decide +kernel) rfl
theorem d_Str_charAt_15 : decode b_Str_charAt 15 = .ok (.ireturn, 1) := by decide +kernel
set_option maxHeartbeats 1000000 in
set_option maxRecDepth 100000 in
theorem c_Str_coder_l (l : Launch) (dC : Nat → ClassId) (dI : Nat → Nat → Nat)  (ad : Nat → Nat) (av : Nat → Nat) (i : Nat) (hi : i < 33) : Met l y_Str_coder w_Str_coder ({ frames := 0, cells := 0, slots := 0, locals := 0 } : Room) (va_Pc [.ref (ad i)] (fun U => va_P (dC, dI) cls_all [] U.heap ∧ va_K (dC, dI) cls_all [] U ∧ env0 ad av (fun _ => False) U U.heap)) (vp_Si (fun r : Int32 => (r = 0))) 0 0 (fun _ => False) := by
  refine Met.ofW (cc := b_Str_coder) (maxL := 1) (ret := (some .byte)) (by decide) rfl ?_
  intro p e s m args below meth c s₁ B hml hv
  obtain ⟨rfl, hP, hK, henv⟩ := hv
  have hx := B.exec
  have hb := B.bytes
  have hr := B.returns
  have hT : ∀ w ∈ lw_good, w.before _ s = true := fun w h => atoms_spec (ws := w_Str_coder) B.pre w (List.mem_cons_of_mem _ h)
  have hown : s.vm.findClass R_Str = some m.cls := findClass_of_methodNamed B.named
  have hlocks := B.notSynchronized
  have hS : va_S (fun _ => False) s.heap s.heap [] := va_S.rf
  have hl := lv_entry ([.ref (ad i)]) (n := 1) (Nat.le_of_ble_eq_true rfl)
  rw [lg_entry_eq]
  generalize (lg_sl ([.ref (ad i)]) ++ List.replicate (1 - (lg_sl ([.ref (ad i)])).length) Slot.unset).toArray = ls at hl ⊢
  have hl : lv_has ls 1 [(0, .ref (ad i))] := hl
  refine va_gets hx hb henv.1 hS hown (hT _ fl_Str_38) (fun _ h9 => h9) d_Str_coder_0 ?_
  refine lv_if_eq (tgt := 13) hx hb d_Str_coder_3 (by decide) (fun c2 => absurd c2 (by decide)) (fun _ => ?_)
  refine lv_aload_n hx hb d_Str_coder_6 rfl (lv_at hl 0 rfl) ?_
  refine vk_getf hx hb (env_cod henv hi) hS hown (hT _ fl_Str_15) (fun _ h9 => h9) d_Str_coder_7 ?_
  refine lv_goto (tgt := 14) hx hb d_Str_coder_10 (by decide) ?_
  refine W.zret (v := 0) hx hb hr (by first | rfl | decide | assumption) (fun t ht hW => ⟨0, rfl, ?_, ht⟩) (fun q h => by cases h) d_Str_coder_14
  rfl
set_option maxHeartbeats 1000000 in
set_option maxRecDepth 100000 in
theorem c_Str_isLatin1_l (l : Launch) (dC : Nat → ClassId) (dI : Nat → Nat → Nat)  (ad : Nat → Nat) (av : Nat → Nat) (i : Nat) (hi : i < 33) : Met l y_Str_isLatin1 w_Str_isLatin1 ({ frames := 0, cells := 0, slots := 0, locals := 0 } : Room) (va_Pc [.ref (ad i)] (fun U => va_P (dC, dI) cls_all [] U.heap ∧ va_K (dC, dI) cls_all [] U ∧ env0 ad av (fun _ => False) U U.heap)) (vp_Si (fun r : Int32 => (r = 1))) 0 0 (fun _ => False) := by
  refine Met.ofW (cc := b_Str_isLatin1) (maxL := 1) (ret := (some .boolean)) (by decide) rfl ?_
  intro p e s m args below meth c s₁ B hml hv
  obtain ⟨rfl, hP, hK, henv⟩ := hv
  have hx := B.exec
  have hb := B.bytes
  have hr := B.returns
  have hT : ∀ w ∈ lw_good, w.before _ s = true := fun w h => atoms_spec (ws := w_Str_isLatin1) B.pre w (List.mem_cons_of_mem _ h)
  have hown : s.vm.findClass R_Str = some m.cls := findClass_of_methodNamed B.named
  have hlocks := B.notSynchronized
  have hS : va_S (fun _ => False) s.heap s.heap [] := va_S.rf
  have hl := lv_entry ([.ref (ad i)]) (n := 1) (Nat.le_of_ble_eq_true rfl)
  rw [lg_entry_eq]
  generalize (lg_sl ([.ref (ad i)]) ++ List.replicate (1 - (lg_sl ([.ref (ad i)])).length) Slot.unset).toArray = ls at hl ⊢
  have hl : lv_has ls 1 [(0, .ref (ad i))] := hl
  refine va_gets hx hb henv.1 hS hown (hT _ fl_Str_38) (fun _ h9 => h9) d_Str_isLatin1_0 ?_
  refine lv_if_eq (tgt := 17) hx hb d_Str_isLatin1_3 (by decide) (fun c2 => absurd c2 (by decide)) (fun _ => ?_)
  refine lv_aload_n hx hb d_Str_isLatin1_6 rfl (lv_at hl 0 rfl) ?_
  refine vk_getf hx hb (env_cod henv hi) hS hown (hT _ fl_Str_15) (fun _ h9 => h9) d_Str_isLatin1_7 ?_
  refine lv_if_ne (tgt := 17) hx hb d_Str_isLatin1_10 (by decide) (fun c3 => absurd c3 (by decide)) (fun _ => ?_)
  refine lv_iconst (v := 1) hx hb d_Str_isLatin1_13 (by decide) ?_
  refine lv_goto (tgt := 18) hx hb d_Str_isLatin1_14 (by decide) ?_
  refine W.zret (v := 1) hx hb hr (by first | rfl | decide | assumption) (fun t ht hW => ⟨1, rfl, ?_, ht⟩) (fun q h => by cases h) d_Str_isLatin1_18
  rfl
set_option maxHeartbeats 1000000 in
set_option maxRecDepth 100000 in
theorem c_Str_length_l (l : Launch) (dC : Nat → ClassId) (dI : Nat → Nat → Nat)  (ad : Nat → Nat) (av : Nat → Nat) (i : Nat) (hi : i < 33) : Met l y_Str_length w_Str_length ({ frames := 1, cells := 0, slots := 0, locals := 20 } : Room) (va_Pc [.ref (ad i)] (fun U => va_P (dC, dI) cls_all [] U.heap ∧ va_K (dC, dI) cls_all [] U ∧ env0 ad av (fun _ => False) U U.heap)) (vp_Si (fun r : Int32 => (r = nI (s_len.getD i 0)))) 0 0 (fun _ => False) := by
  refine Met.ofW (cc := b_Str_length) (maxL := 1) (ret := (some .int)) (by decide) rfl ?_
  intro p e s m args below meth c s₁ B hml hv
  obtain ⟨rfl, hP, hK, henv⟩ := hv
  have hx := B.exec
  have hb := B.bytes
  have hr := B.returns
  have hT : ∀ w ∈ lw_good, w.before _ s = true := fun w h => atoms_spec (ws := w_Str_length) B.pre w (List.mem_cons_of_mem _ h)
  have hown : s.vm.findClass R_Str = some m.cls := findClass_of_methodNamed B.named
  have hlocks := B.notSynchronized
  have hS : va_S (fun _ => False) s.heap s.heap [] := va_S.rf
  have hl := lv_entry ([.ref (ad i)]) (n := 1) (Nat.le_of_ble_eq_true rfl)
  rw [lg_entry_eq]
  generalize (lg_sl ([.ref (ad i)]) ++ List.replicate (1 - (lg_sl ([.ref (ad i)])).length) Slot.unset).toArray = ls at hl ⊢
  have hl : lv_has ls 1 [(0, .ref (ad i))] := hl
  refine lv_aload_n hx hb d_Str_length_0 rfl (lv_at hl 0 rfl) ?_
  refine vk_getf hx hb (env_val henv hi) hS hown (hT _ fl_Str_9) (fun _ h9 => h9) d_Str_length_1 ?_
  refine va_tlen (v := nI (s_len.getD i 0)) hx hb (env_byt henv hi) hS rfl d_Str_length_4 ?_
  refine lv_aload_n hx hb d_Str_length_5 rfl (lv_at hl 0 rfl) ?_
  have hPc := hP.sub (ws' := []) [] rfl
  have hKc := hK.sub (tys' := []) [] rfl
  refine vp_callSi (va_Run.run (va_runV (As := []) (rest := [.int (nI (s_len.getD i 0))]) ⟨hx, hb, hml, hown, hT⟩ (c_Str_coder_l l dC dI (ad := ad) (av := av) (i := i) (hi := hi)) (cwV 0 hT (gV ml_Str_335 im_Str_coder se_Str_coder ini_Str co_Str_coder) rfl rfl rfl (by decide +kernel) ⟨Nat.le_of_ble_eq_true rfl, Nat.le_of_ble_eq_true rfl⟩) ⟨fbSe, (env_recv henv hi hS), fun U hU hW => ⟨rfl, by rw [hU]; exact hPc, va_K.moved hW.alike hKc, env0.hand henv hS hU hW (fun q h => h.elim)⟩⟩ rfl rfl hl.1 rfl (lv_room (Nat.le_of_ble_eq_true rfl)) d_Str_length_6 ⟨Nat.le_of_ble_eq_true rfl, Nat.le_of_ble_eq_true rfl⟩)) (fun r1 hr1 => ?_)
  refine lv_ishr hx hb d_Str_length_9 ?_
  refine lv_topi (fun x2 e2 => ?_)
  refine W.iret (v := x2) hx hb hr (fun t ht hW => ⟨x2, rfl, ?_, ht⟩) (fun q h => by cases h) d_Str_length_10
  subst_vars; exact sb_shr0 _
set_option maxHeartbeats 1000000 in
set_option maxRecDepth 100000 in
theorem c_Pre_checkIndex_r (l : Launch) (dC : Nat → ClassId) (dI : Nat → Nat → Nat)  (p1 : Int32) (p2 : Int32) (p3 : Nat) (h1 : ¬ p1 < 0) (h2 : p1 < p2) : Met l y_Pre_checkIndex w_Pre_checkIndex ({ frames := 0, cells := 0, slots := 0, locals := 0 } : Room) (va_Pc [.int p1, .int p2, .ref p3] (fun U => va_P (dC, dI) cls_all [] U.heap ∧ va_K (dC, dI) cls_all [] U)) (vp_Si (fun r : Int32 => (r = p1))) 0 0 (fun _ => False) := by
  refine Met.ofW (cc := b_Pre_checkIndex) (maxL := 3) (ret := (some .int)) (by decide) rfl ?_
  intro p e s m args below meth c s₁ B hml hv
  obtain ⟨rfl, hP, hK⟩ := hv
  have hx := B.exec
  have hb := B.bytes
  have hr := B.returns
  have hT : ∀ w ∈ lw_good, w.before _ s = true := fun w h => atoms_spec (ws := w_Pre_checkIndex) B.pre w (List.mem_cons_of_mem _ h)
  have hown : s.vm.findClass R_Pre = some m.cls := findClass_of_methodNamed B.named
  have hlocks := B.notSynchronized
  have hl := lv_entry ([.int p1, .int p2, .ref p3]) (n := 3) (Nat.le_of_ble_eq_true rfl)
  rw [lg_entry_eq]
  generalize (lg_sl ([.int p1, .int p2, .ref p3]) ++ List.replicate (3 - (lg_sl ([.int p1, .int p2, .ref p3])).length) Slot.unset).toArray = ls at hl ⊢
  have hl : lv_has ls 3 [(0, .int p1), (1, .int p2), (2, .ref p3)] := hl
  refine lv_iload_n hx hb d_Pre_checkIndex_0 rfl (lv_at hl 0 rfl) ?_
  refine lv_if_lt (tgt := 9) hx hb d_Pre_checkIndex_1 (by decide) (fun c1 => absurd c1 h1) (fun c1 => ?_)
  refine lv_iload_n hx hb d_Pre_checkIndex_4 rfl (lv_at hl 0 rfl) ?_
  refine lv_iload_n hx hb d_Pre_checkIndex_5 rfl (lv_at hl 1 rfl) ?_
  refine lv_icmp_lt (tgt := 16) hx hb d_Pre_checkIndex_6 (by decide) (fun c2 => ?_) (fun c2 => absurd h2 c2)
  refine lv_iload_n hx hb d_Pre_checkIndex_16 rfl (lv_at hl 0 rfl) ?_
  refine W.iret (v := p1) hx hb hr (fun t ht hW => ⟨p1, rfl, ?_, ht⟩) (fun q h => by cases h) d_Pre_checkIndex_17
  rfl
set_option maxHeartbeats 1000000 in
set_option maxRecDepth 100000 in
theorem c_Pre_checkIndex_n (l : Launch) (dC : Nat → ClassId) (dI : Nat → Nat → Nat)  (p1 : Int32) (p2 : Int32) (h1 : ¬ p1 < 0) (h2 : p1 < p2) : Met l y_Pre_checkIndex w_Pre_checkIndex ({ frames := 0, cells := 0, slots := 0, locals := 0 } : Room) (va_Pc [.int p1, .int p2, .null] (fun U => va_P (dC, dI) cls_all [] U.heap ∧ va_K (dC, dI) cls_all [] U)) (vp_Si (fun r : Int32 => (r = p1))) 0 0 (fun _ => False) := by
  refine Met.ofW (cc := b_Pre_checkIndex) (maxL := 3) (ret := (some .int)) (by decide) rfl ?_
  intro p e s m args below meth c s₁ B hml hv
  obtain ⟨rfl, hP, hK⟩ := hv
  have hx := B.exec
  have hb := B.bytes
  have hr := B.returns
  have hT : ∀ w ∈ lw_good, w.before _ s = true := fun w h => atoms_spec (ws := w_Pre_checkIndex) B.pre w (List.mem_cons_of_mem _ h)
  have hown : s.vm.findClass R_Pre = some m.cls := findClass_of_methodNamed B.named
  have hlocks := B.notSynchronized
  have hl := lv_entry ([.int p1, .int p2, .null]) (n := 3) (Nat.le_of_ble_eq_true rfl)
  rw [lg_entry_eq]
  generalize (lg_sl ([.int p1, .int p2, .null]) ++ List.replicate (3 - (lg_sl ([.int p1, .int p2, .null])).length) Slot.unset).toArray = ls at hl ⊢
  have hl : lv_has ls 3 [(0, .int p1), (1, .int p2), (2, .null)] := hl
  refine lv_iload_n hx hb d_Pre_checkIndex_0 rfl (lv_at hl 0 rfl) ?_
  refine lv_if_lt (tgt := 9) hx hb d_Pre_checkIndex_1 (by decide) (fun c1 => absurd c1 h1) (fun c1 => ?_)
  refine lv_iload_n hx hb d_Pre_checkIndex_4 rfl (lv_at hl 0 rfl) ?_
  refine lv_iload_n hx hb d_Pre_checkIndex_5 rfl (lv_at hl 1 rfl) ?_
  refine lv_icmp_lt (tgt := 16) hx hb d_Pre_checkIndex_6 (by decide) (fun c2 => ?_) (fun c2 => absurd h2 c2)
  refine lv_iload_n hx hb d_Pre_checkIndex_16 rfl (lv_at hl 0 rfl) ?_
  refine W.iret (v := p1) hx hb hr (fun t ht hW => ⟨p1, rfl, ?_, ht⟩) (fun q h => by cases h) d_Pre_checkIndex_17
  rfl
set_option maxHeartbeats 1000000 in
set_option maxRecDepth 100000 in
theorem c_Str_checkIndex (l : Launch) (dC : Nat → ClassId) (dI : Nat → Nat → Nat)  (ad : Nat → Nat) (av : Nat → Nat) (p1 : Int32) (p2 : Int32) (h1 : ¬ p1 < 0) (h2 : p1 < p2) : Met l y_Str_checkIndex w_Str_checkIndex ({ frames := 1, cells := 0, slots := 0, locals := 22 } : Room) (va_Pc [.int p1, .int p2] (fun U => va_P (dC, dI) cls_all [] U.heap ∧ va_K (dC, dI) cls_all [] U ∧ env0 ad av (fun _ => False) U U.heap)) (va_Sv (fun _ => True)) 0 0 (fun _ => False) := by
  refine Met.ofW (cc := b_Str_checkIndex) (maxL := 2) (ret := none) (by decide) rfl ?_
  intro p e s m args below meth c s₁ B hml hv
  obtain ⟨rfl, hP, hK, henv⟩ := hv
  have hx := B.exec
  have hb := B.bytes
  have hr := B.returns
  have hT : ∀ w ∈ lw_good, w.before _ s = true := fun w h => atoms_spec (ws := w_Str_checkIndex) B.pre w (List.mem_cons_of_mem _ h)
  have hown : s.vm.findClass R_Str = some m.cls := findClass_of_methodNamed B.named
  have hlocks := B.notSynchronized
  have hS : va_S (fun _ => False) s.heap s.heap [] := va_S.rf
  have hl := lv_entry ([.int p1, .int p2]) (n := 2) (Nat.le_of_ble_eq_true rfl)
  rw [lg_entry_eq]
  generalize (lg_sl ([.int p1, .int p2]) ++ List.replicate (2 - (lg_sl ([.int p1, .int p2])).length) Slot.unset).toArray = ls at hl ⊢
  have hl : lv_has ls 2 [(0, .int p1), (1, .int p2)] := hl
  refine lv_iload_n hx hb d_Str_checkIndex_0 rfl (lv_at hl 0 rfl) ?_
  refine lv_iload_n hx hb d_Str_checkIndex_1 rfl (lv_at hl 1 rfl) ?_
  rcases henv.2.1 with hz1 | ⟨t1, hz1⟩
  · refine va_gets hx hb hz1 hS hown (hT _ fl_Str_1053) (fun _ h9 => h9) d_Str_checkIndex_2 ?_
    have hPc := hP.sub (ws' := []) [] rfl
    have hKc := hK.sub (tys' := []) [] rfl
    refine vp_callSi (va_Run.run (va_runS (As := [.int p1, .int p2, .null]) (rest := []) ⟨hx, hb, hml, hown, hT⟩ (c_Pre_checkIndex_n l dC dI (p1 := p1) (p2 := p2) (h1 := h1) (h2 := h2)) (va_cwS 3 hT (gS ml_Str_1059 st_Pre_checkIndex ini_Pre co_Pre_checkIndex) rfl rfl rfl (by decide +kernel) ⟨Nat.le_of_ble_eq_true rfl, Nat.le_of_ble_eq_true rfl⟩) ⟨fbS, fun U hU hW => ⟨rfl, by rw [hU]; exact hPc, va_K.moved hW.alike hKc⟩⟩ rfl rfl hl.1 rfl (lv_room (Nat.le_of_ble_eq_true rfl)) d_Str_checkIndex_5 ⟨Nat.le_of_ble_eq_true rfl, Nat.le_of_ble_eq_true rfl⟩)) (fun r2 hr2 => ?_)
    refine lv_pop hx hb d_Str_checkIndex_8 rfl ?_
    refine W.vret hx hb hr (fun t ht hW => ⟨rfl, ?_, ht⟩) (fun q h => by cases h) d_Str_checkIndex_9
    trivial
  · refine va_gets hx hb hz1 hS hown (hT _ fl_Str_1053) (fun _ h9 => h9) d_Str_checkIndex_2 ?_
    have hPc := hP.sub (ws' := []) [] rfl
    have hKc := hK.sub (tys' := []) [] rfl
    refine vp_callSi (va_Run.run (va_runS (As := [.int p1, .int p2, .ref t1]) (rest := []) ⟨hx, hb, hml, hown, hT⟩ (c_Pre_checkIndex_r l dC dI (p1 := p1) (p2 := p2) (p3 := t1) (h1 := h1) (h2 := h2)) (va_cwS 3 hT (gS ml_Str_1059 st_Pre_checkIndex ini_Pre co_Pre_checkIndex) rfl rfl rfl (by decide +kernel) ⟨Nat.le_of_ble_eq_true rfl, Nat.le_of_ble_eq_true rfl⟩) ⟨fbS, fun U hU hW => ⟨rfl, by rw [hU]; exact hPc, va_K.moved hW.alike hKc⟩⟩ rfl rfl hl.1 rfl (lv_room (Nat.le_of_ble_eq_true rfl)) d_Str_checkIndex_5 ⟨Nat.le_of_ble_eq_true rfl, Nat.le_of_ble_eq_true rfl⟩)) (fun r3 hr3 => ?_)
    refine lv_pop hx hb d_Str_checkIndex_8 rfl ?_
    refine W.vret hx hb hr (fun t ht hW => ⟨rfl, ?_, ht⟩) (fun q h => by cases h) d_Str_checkIndex_9
    trivial
set_option maxHeartbeats 1000000 in
set_option maxRecDepth 100000 in
theorem c_Lat_charAt_l (l : Launch) (dC : Nat → ClassId) (dI : Nat → Nat → Nat)  (ad : Nat → Nat) (av : Nat → Nat) (p2 : Int32) (i : Nat) (hi : i < 33) (h1 : ¬ p2 < 0) (h2 : p2 < nI (s_len.getD i 0)) : Met l y_Lat_charAt w_Lat_charAt ({ frames := 2, cells := 0, slots := 0, locals := 43 } : Room) (va_Pc [.ref (av i), .int p2] (fun U => va_P (dC, dI) cls_all [] U.heap ∧ va_K (dC, dI) cls_all [] U ∧ env0 ad av (fun _ => False) U U.heap)) (vp_Si (fun r : Int32 => (r = s_ch i p2.toNatClampNeg))) 0 0 (fun _ => False) := by
  refine Met.ofW (cc := b_Lat_charAt) (maxL := 2) (ret := (some .char)) (by decide) rfl ?_
  intro p e s m args below meth c s₁ B hml hv
  obtain ⟨rfl, hP, hK, henv⟩ := hv
  have hx := B.exec
  have hb := B.bytes
  have hr := B.returns
  have hT : ∀ w ∈ lw_good, w.before _ s = true := fun w h => atoms_spec (ws := w_Lat_charAt) B.pre w (List.mem_cons_of_mem _ h)
  have hown : s.vm.findClass R_Lat = some m.cls := findClass_of_methodNamed B.named
  have hlocks := B.notSynchronized
  have hS : va_S (fun _ => False) s.heap s.heap [] := va_S.rf
  have hl := lv_entry ([.ref (av i), .int p2]) (n := 2) (Nat.le_of_ble_eq_true rfl)
  rw [lg_entry_eq]
  generalize (lg_sl ([.ref (av i), .int p2]) ++ List.replicate (2 - (lg_sl ([.ref (av i), .int p2])).length) Slot.unset).toArray = ls at hl ⊢
  have hl : lv_has ls 2 [(0, .ref (av i)), (1, .int p2)] := hl
  refine lv_iload_n hx hb d_Lat_charAt_0 rfl (lv_at hl 1 rfl) ?_
  refine lv_aload_n hx hb d_Lat_charAt_1 rfl (lv_at hl 0 rfl) ?_
  refine va_tlen (v := nI (s_len.getD i 0)) hx hb (env_byt henv hi) hS rfl d_Lat_charAt_2 ?_
  have hPc := hP.sub (ws' := []) [] rfl
  have hKc := hK.sub (tys' := []) [] rfl
  refine va_csv (va_Run.run (va_runS (As := [.int p2, .int (nI (s_len.getD i 0))]) (rest := []) ⟨hx, hb, hml, hown, hT⟩ (c_Str_checkIndex l dC dI (ad := ad) (av := av) (p1 := p2) (p2 := (nI (s_len.getD i 0))) (h1 := h1) (h2 := h2)) (va_cwS 2 hT (gS ml_Lat_9 st_Str_checkIndex ini_Str co_Str_checkIndex) rfl rfl rfl (by decide +kernel) ⟨Nat.le_of_ble_eq_true rfl, Nat.le_of_ble_eq_true rfl⟩) ⟨fbSe, fun U hU hW => ⟨rfl, by rw [hU]; exact hPc, va_K.moved hW.alike hKc, env0.hand henv hS hU hW (fun q h => h.elim)⟩⟩ rfl rfl hl.1 rfl (lv_room (Nat.le_of_ble_eq_true rfl)) d_Lat_charAt_3 ⟨Nat.le_of_ble_eq_true rfl, Nat.le_of_ble_eq_true rfl⟩)) (fun hr1 => ?_)
  refine lv_aload_n hx hb d_Lat_charAt_6 rfl (lv_at hl 0 rfl) ?_
  refine lv_iload_n hx hb d_Lat_charAt_7 rfl (lv_at hl 1 rfl) ?_
  refine va_tb (v := .int ((s_byt.getD i []).getD p2.toNatClampNeg 0)) hx hb (env_byt henv hi) hS (in_of h1 h2 (by rw [nI_toInt (s_l31 i hi)]; exact Int.le_refl _)) rfl d_Lat_charAt_8 ?_
  refine lv_topi (fun x2 e2 => ?_)
  refine lv_sipush (v := 255) hx hb d_Lat_charAt_9 (by decide) ?_
  refine lv_iand hx hb d_Lat_charAt_12 ?_
  refine lv_topi (fun x3 e3 => ?_)
  obtain ⟨x4, e4⟩ : ∃ z : Int32, ((x3 : Int32).toUInt32 % 65536).toInt32 = z := ⟨_, rfl⟩
  refine lv_i2c (v := x4) hx hb d_Lat_charAt_13 e4 ?_
  refine W.zret (v := x4) hx hb hr (by subst_vars; exact pk_nc _) (fun t ht hW => ⟨x4, rfl, ?_, ht⟩) (fun q h => by cases h) d_Lat_charAt_14
  subst_vars; exact sc_c2 _
set_option maxHeartbeats 1000000 in
set_option maxRecDepth 100000 in
theorem c_Str_charAt_l (l : Launch) (dC : Nat → ClassId) (dI : Nat → Nat → Nat)  (ad : Nat → Nat) (av : Nat → Nat) (p1 : Int32) (i : Nat) (hi : i < 33) (h1 : ¬ p1 < 0) (h2 : p1 < nI (s_len.getD i 0)) : Met l y_Str_charAt w_Str_charAt ({ frames := 3, cells := 0, slots := 0, locals := 64 } : Room) (va_Pc [.ref (ad i), .int p1] (fun U => va_P (dC, dI) cls_all [] U.heap ∧ va_K (dC, dI) cls_all [] U ∧ env0 ad av (fun _ => False) U U.heap)) (vp_Si (fun r : Int32 => (r = s_ch i p1.toNatClampNeg))) 0 0 (fun _ => False) := by
  refine Met.ofW (cc := b_Str_charAt) (maxL := 2) (ret := (some .char)) (by decide) rfl ?_
  intro p e s m args below meth c s₁ B hml hv
  obtain ⟨rfl, hP, hK, henv⟩ := hv
  have hx := B.exec
  have hb := B.bytes
  have hr := B.returns
  have hT : ∀ w ∈ lw_good, w.before _ s = true := fun w h => atoms_spec (ws := w_Str_charAt) B.pre w (List.mem_cons_of_mem _ h)
  have hown : s.vm.findClass R_Str = some m.cls := findClass_of_methodNamed B.named
  have hlocks := B.notSynchronized
  have hS : va_S (fun _ => False) s.heap s.heap [] := va_S.rf
  have hl := lv_entry ([.ref (ad i), .int p1]) (n := 2) (Nat.le_of_ble_eq_true rfl)
  rw [lg_entry_eq]
  generalize (lg_sl ([.ref (ad i), .int p1]) ++ List.replicate (2 - (lg_sl ([.ref (ad i), .int p1])).length) Slot.unset).toArray = ls at hl ⊢
  have hl : lv_has ls 2 [(0, .ref (ad i)), (1, .int p1)] := hl
  refine lv_aload_n hx hb d_Str_charAt_0 rfl (lv_at hl 0 rfl) ?_
  have hPc := hP.sub (ws' := []) [] rfl
  have hKc := hK.sub (tys' := []) [] rfl
  refine vp_callSi (va_Run.run (va_runV (As := []) (rest := []) ⟨hx, hb, hml, hown, hT⟩ (c_Str_isLatin1_l l dC dI (ad := ad) (av := av) (i := i) (hi := hi)) (cwV 0 hT (gV ml_Str_492 im_Str_isLatin1 se_Str_isLatin1 ini_Str co_Str_isLatin1) rfl rfl rfl (by decide +kernel) ⟨Nat.le_of_ble_eq_true rfl, Nat.le_of_ble_eq_true rfl⟩) ⟨fbSe, (env_recv henv hi hS), fun U hU hW => ⟨rfl, by rw [hU]; exact hPc, va_K.moved hW.alike hKc, env0.hand henv hS hU hW (fun q h => h.elim)⟩⟩ rfl rfl hl.1 rfl (lv_room (Nat.le_of_ble_eq_true rfl)) d_Str_charAt_1 ⟨Nat.le_of_ble_eq_true rfl, Nat.le_of_ble_eq_true rfl⟩)) (fun r1 hr1 => ?_)
  refine lv_if_eq (tgt := 16) hx hb d_Str_charAt_4 (by decide) (fun c2 => absurd c2 (by rw [hr1]; decide)) (fun c2 => ?_)
  refine lv_aload_n hx hb d_Str_charAt_7 rfl (lv_at hl 0 rfl) ?_
  refine vk_getf hx hb (env_val henv hi) hS hown (hT _ fl_Str_9) (fun _ h9 => h9) d_Str_charAt_8 ?_
  refine lv_iload_n hx hb d_Str_charAt_11 rfl (lv_at hl 1 rfl) ?_
  have hPc := hP.sub (ws' := []) [] rfl
  have hKc := hK.sub (tys' := []) [] rfl
  refine vp_callSi (va_Run.run (va_runS (As := [.ref (av i), .int p1]) (rest := []) ⟨hx, hb, hml, hown, hT⟩ (c_Lat_charAt_l l dC dI (ad := ad) (av := av) (p2 := p1) (i := i) (hi := hi) (h1 := h1) (h2 := h2)) (va_cwS 2 hT (gS ml_Str_495 st_Lat_charAt ini_Lat co_Lat_charAt) rfl rfl rfl (by decide +kernel) ⟨Nat.le_of_ble_eq_true rfl, Nat.le_of_ble_eq_true rfl⟩) ⟨fbSe, fun U hU hW => ⟨rfl, by rw [hU]; exact hPc, va_K.moved hW.alike hKc, env0.hand henv hS hU hW (fun q h => h.elim)⟩⟩ rfl rfl hl.1 rfl (lv_room (Nat.le_of_ble_eq_true rfl)) d_Str_charAt_12 ⟨Nat.le_of_ble_eq_true rfl, Nat.le_of_ble_eq_true rfl⟩)) (fun r3 hr3 => ?_)
  refine W.zret (v := r3) hx hb hr (by subst_vars; exact sc_nar _) (fun t ht hW => ⟨r3, rfl, ?_, ht⟩) (fun q h => by cases h) d_Str_charAt_15
  first | assumption | (subst_vars; rfl)

