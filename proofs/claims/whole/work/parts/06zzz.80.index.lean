abbrev b_Lat_canEncode : ByteArray := prog_19_method_4_code
abbrev y_Lat_canEncode : MethodName := ⟨R_Lat, "canEncode", "(I)Z"⟩
theorem co_Lat_canEncode : Cond.code y_Lat_canEncode b_Lat_canEncode 1 (some .boolean) ∈ lw_good := lg_in (tin_4 _ (List.mem_of_getElem? (i := 99) rfl)) rfl
abbrev w_Lat_canEncode : List Cond := Cond.code y_Lat_canEncode b_Lat_canEncode 1 (some .boolean) :: lw_good
theorem st_Lat_canEncode : Cond.static y_Lat_canEncode ∈ lw_good := lg_right (i := 818) (by decide +kernel) rfl
theorem d_Lat_canEncode_0 : decode b_Lat_canEncode 0 = .ok (.iload_n 0, 1) := by decide +kernel
theorem d_Lat_canEncode_1 : decode b_Lat_canEncode 1 = .ok (.ifCond .lt 14, 3) := by decide +kernel
theorem d_Lat_canEncode_4 : decode b_Lat_canEncode 4 = .ok (.iload_n 0, 1) := by decide +kernel
theorem d_Lat_canEncode_5 : decode b_Lat_canEncode 5 = .ok (.sipush 255, 3) := by decide +kernel
theorem d_Lat_canEncode_8 : decode b_Lat_canEncode 8 = .ok (.if_icmp .gt 7, 3) := by decide +kernel
theorem d_Lat_canEncode_11 : decode b_Lat_canEncode 11 = .ok (.iconst 1, 1) := by decide +kernel
theorem d_Lat_canEncode_12 : decode b_Lat_canEncode 12 = .ok (.goto 4, 3) := by decide +kernel
theorem d_Lat_canEncode_15 : decode b_Lat_canEncode 15 = .ok (.iconst 0, 1) := by decide +kernel
theorem d_Lat_canEncode_16 : decode b_Lat_canEncode 16 = .ok (.ireturn, 1) := by decide +kernel
abbrev b_Lat_indexOfChar : ByteArray := prog_19_method_23_code
abbrev y_Lat_indexOfChar : MethodName := ⟨R_Lat, "indexOfChar", "([BIII)I"⟩
theorem co_Lat_indexOfChar : Cond.code y_Lat_indexOfChar b_Lat_indexOfChar 6 (some .int) ∈ lw_good := lg_in (tin_4 _ (List.mem_of_getElem? (i := 106) rfl)) rfl
abbrev w_Lat_indexOfChar : List Cond := Cond.code y_Lat_indexOfChar b_Lat_indexOfChar 6 (some .int) :: lw_good
theorem st_Lat_indexOfChar : Cond.static y_Lat_indexOfChar ∈ lw_good := lg_right (i := 825) (by decide +kernel) rfl
theorem d_Lat_indexOfChar_0 : decode b_Lat_indexOfChar 0 = .ok (.iload_n 1, 1) := by decide +kernel
theorem d_Lat_indexOfChar_1 : decode b_Lat_indexOfChar 1 = .ok (.i2b, 1) := by decide +kernel
theorem d_Lat_indexOfChar_2 : decode b_Lat_indexOfChar 2 = .ok (.istore 4, 2) := by decide +kernel
theorem d_Lat_indexOfChar_4 : decode b_Lat_indexOfChar 4 = .ok (.iload_n 2, 1) := by decide +kernel
theorem d_Lat_indexOfChar_5 : decode b_Lat_indexOfChar 5 = .ok (.istore 5, 2) := by decide +kernel
theorem d_Lat_indexOfChar_7 : decode b_Lat_indexOfChar 7 = .ok (.iload 5, 2) := by decide +kernel
theorem d_Lat_indexOfChar_9 : decode b_Lat_indexOfChar 9 = .ok (.iload_n 3, 1) := by decide +kernel
theorem d_Lat_indexOfChar_10 : decode b_Lat_indexOfChar 10 = .ok (.if_icmp .ge 21, 3) := by decide +kernel
theorem d_Lat_indexOfChar_13 : decode b_Lat_indexOfChar 13 = .ok (.aload_n 0, 1) := by decide +kernel
theorem d_Lat_indexOfChar_14 : decode b_Lat_indexOfChar 14 = .ok (.iload 5, 2) := by decide +kernel
theorem d_Lat_indexOfChar_16 : decode b_Lat_indexOfChar 16 = .ok (.baload, 1) := by decide +kernel
theorem d_Lat_indexOfChar_17 : decode b_Lat_indexOfChar 17 = .ok (.iload 4, 2) := by decide +kernel
theorem d_Lat_indexOfChar_19 : decode b_Lat_indexOfChar 19 = .ok (.if_icmp .ne 6, 3) := by decide +kernel
theorem d_Lat_indexOfChar_22 : decode b_Lat_indexOfChar 22 = .ok (.iload 5, 2) := by decide +kernel
theorem d_Lat_indexOfChar_24 : decode b_Lat_indexOfChar 24 = .ok (.ireturn, 1) := by decide +kernel
theorem d_Lat_indexOfChar_25 : decode b_Lat_indexOfChar 25 = .ok (.iinc 5 1, 3) := by decide +kernel
theorem d_Lat_indexOfChar_28 : decode b_Lat_indexOfChar 28 = .ok (.goto (-21), 3) := by decide +kernel
theorem d_Lat_indexOfChar_31 : decode b_Lat_indexOfChar 31 = .ok (.iconst (-1), 1) := by decide +kernel
theorem d_Lat_indexOfChar_32 : decode b_Lat_indexOfChar 32 = .ok (.ireturn, 1) := by decide +kernel
abbrev b_Lat_indexOf_ABIII : ByteArray := prog_19_method_22_code
abbrev y_Lat_indexOf_ABIII : MethodName := ⟨R_Lat, "indexOf", "([BIII)I"⟩
theorem co_Lat_indexOf_ABIII : Cond.code y_Lat_indexOf_ABIII b_Lat_indexOf_ABIII 4 (some .int) ∈ lw_good := lg_in (tin_4 _ (List.mem_of_getElem? (i := 96) rfl)) rfl
abbrev w_Lat_indexOf_ABIII : List Cond := Cond.code y_Lat_indexOf_ABIII b_Lat_indexOf_ABIII 4 (some .int) :: lw_good
theorem st_Lat_indexOf_ABIII : Cond.static y_Lat_indexOf_ABIII ∈ lw_good := lg_right (i := 815) (by decide +kernel) rfl
theorem d_Lat_indexOf_ABIII_0 : decode b_Lat_indexOf_ABIII 0 = .ok (.iload_n 1, 1) := by decide +kernel
theorem d_Lat_indexOf_ABIII_1 : decode b_Lat_indexOf_ABIII 1 = .ok (.invokestatic 88, 3) := by decide +kernel
theorem ml_Lat_88 : Cond.methodLink R_Lat 88 ⟨"java/lang/StringLatin1", "canEncode", "(I)Z"⟩ ∈ lw_good := lg_right (i := 817) (by decide +kernel) rfl
theorem d_Lat_indexOf_ABIII_4 : decode b_Lat_indexOf_ABIII 4 = .ok (.ifCond .ne 5, 3) := by decide +kernel
theorem d_Lat_indexOf_ABIII_9 : decode b_Lat_indexOf_ABIII 9 = .ok (.iload_n 2, 1) := by decide +kernel
theorem d_Lat_indexOf_ABIII_10 : decode b_Lat_indexOf_ABIII 10 = .ok (.iconst 0, 1) := by decide +kernel
theorem d_Lat_indexOf_ABIII_11 : decode b_Lat_indexOf_ABIII 11 = .ok (.invokestatic 92, 3) := by decide +kernel
theorem ml_Lat_92 : Cond.methodLink R_Lat 92 ⟨"java/lang/Math", "max", "(II)I"⟩ ∈ lw_good := lg_right (i := 820) (by decide +kernel) rfl
theorem d_Lat_indexOf_ABIII_14 : decode b_Lat_indexOf_ABIII 14 = .ok (.istore_n 2, 1) := by decide +kernel
theorem d_Lat_indexOf_ABIII_15 : decode b_Lat_indexOf_ABIII 15 = .ok (.iload_n 3, 1) := by decide +kernel
theorem d_Lat_indexOf_ABIII_16 : decode b_Lat_indexOf_ABIII 16 = .ok (.aload_n 0, 1) := by decide +kernel
theorem d_Lat_indexOf_ABIII_17 : decode b_Lat_indexOf_ABIII 17 = .ok (.arraylength, 1) := by decide +kernel
theorem d_Lat_indexOf_ABIII_18 : decode b_Lat_indexOf_ABIII 18 = .ok (.invokestatic 38, 3) := by decide +kernel
theorem ml_Lat_38 : Cond.methodLink R_Lat 38 ⟨"java/lang/Math", "min", "(II)I"⟩ ∈ lw_good := lg_right (i := 823) (by decide +kernel) rfl
theorem d_Lat_indexOf_ABIII_21 : decode b_Lat_indexOf_ABIII 21 = .ok (.istore_n 3, 1) := by decide +kernel
theorem d_Lat_indexOf_ABIII_22 : decode b_Lat_indexOf_ABIII 22 = .ok (.iload_n 2, 1) := by decide +kernel
theorem d_Lat_indexOf_ABIII_23 : decode b_Lat_indexOf_ABIII 23 = .ok (.iload_n 3, 1) := by decide +kernel
theorem d_Lat_indexOf_ABIII_24 : decode b_Lat_indexOf_ABIII 24 = .ok (.if_icmp .lt 5, 3) := by decide +kernel
theorem d_Lat_indexOf_ABIII_29 : decode b_Lat_indexOf_ABIII 29 = .ok (.aload_n 0, 1) := by decide +kernel
theorem d_Lat_indexOf_ABIII_30 : decode b_Lat_indexOf_ABIII 30 = .ok (.iload_n 1, 1) := by decide +kernel
theorem d_Lat_indexOf_ABIII_31 : decode b_Lat_indexOf_ABIII 31 = .ok (.iload_n 2, 1) := by decide +kernel
theorem d_Lat_indexOf_ABIII_32 : decode b_Lat_indexOf_ABIII 32 = .ok (.iload_n 3, 1) := by decide +kernel
theorem d_Lat_indexOf_ABIII_33 : decode b_Lat_indexOf_ABIII 33 = .ok (.invokestatic 95, 3) := by decide +kernel
theorem ml_Lat_95 : Cond.methodLink R_Lat 95 ⟨"java/lang/StringLatin1", "indexOfChar", "([BIII)I"⟩ ∈ lw_good := lg_right (i := 824) (by decide +kernel) rfl
theorem d_Lat_indexOf_ABIII_36 : decode b_Lat_indexOf_ABIII 36 = .ok (.ireturn, 1) := by decide +kernel
abbrev b_Str_indexOf_II : ByteArray := prog_18_method_80_code
abbrev y_Str_indexOf_II : MethodName := ⟨R_Str, "indexOf", "(II)I"⟩
theorem co_Str_indexOf_II : Cond.code y_Str_indexOf_II b_Str_indexOf_II 3 (some .int) ∈ lw_good := lg_in (tin_4 _ (List.mem_of_getElem? (i := 93) rfl)) rfl
abbrev w_Str_indexOf_II : List Cond := Cond.code y_Str_indexOf_II b_Str_indexOf_II 3 (some .int) :: lw_good
theorem im_Str_indexOf_II : Cond.instanceMethod y_Str_indexOf_II ∈ lw_good := lg_right (i := 811) (by decide +kernel) rfl
theorem se_Str_indexOf_II : Cond.selects R_Str y_Str_indexOf_II y_Str_indexOf_II ∈ lw_good := lg_right (i := 812) (by decide +kernel) rfl
theorem d_Str_indexOf_II_0 : decode b_Str_indexOf_II 0 = .ok (.aload_n 0, 1) := by decide +kernel
theorem d_Str_indexOf_II_1 : decode b_Str_indexOf_II 1 = .ok (.invokevirtual 492, 3) := by decide +kernel
theorem d_Str_indexOf_II_4 : decode b_Str_indexOf_II 4 = .ok (.ifCond .eq 19, 3) := by decide +kernel
theorem d_Str_indexOf_II_7 : decode b_Str_indexOf_II 7 = .ok (.aload_n 0, 1) := by decide +kernel
theorem d_Str_indexOf_II_8 : decode b_Str_indexOf_II 8 = .ok (.getfield 9, 3) := by decide +kernel
theorem d_Str_indexOf_II_11 : decode b_Str_indexOf_II 11 = .ok (.iload_n 1, 1) := by decide +kernel
theorem d_Str_indexOf_II_12 : decode b_Str_indexOf_II 12 = .ok (.iload_n 2, 1) := by decide +kernel
theorem d_Str_indexOf_II_13 : decode b_Str_indexOf_II 13 = .ok (.aload_n 0, 1) := by decide +kernel
theorem d_Str_indexOf_II_14 : decode b_Str_indexOf_II 14 = .ok (.invokevirtual 505, 3) := by decide +kernel
theorem d_Str_indexOf_II_17 : decode b_Str_indexOf_II 17 = .ok (.invokestatic 637, 3) := by decide +kernel
theorem ml_Str_637 : Cond.methodLink R_Str 637 ⟨"java/lang/StringLatin1", "indexOf", "([BIII)I"⟩ ∈ lw_good := lg_right (i := 814) (by decide +kernel) rfl
theorem d_Str_indexOf_II_20 : decode b_Str_indexOf_II 20 = .ok (.goto 16, 3) := by decide +kernel
theorem d_Str_indexOf_II_36 : decode b_Str_indexOf_II 36 = .ok (.ireturn, 1) := by decide +kernel
abbrev b_Str_indexOf_I : ByteArray := prog_18_method_79_code
abbrev y_Str_indexOf_I : MethodName := ⟨R_Str, "indexOf", "(I)I"⟩
theorem co_Str_indexOf_I : Cond.code y_Str_indexOf_I b_Str_indexOf_I 2 (some .int) ∈ lw_good := lg_in (tin_4 _ (List.mem_of_getElem? (i := 89) rfl)) rfl
abbrev w_Str_indexOf_I : List Cond := Cond.code y_Str_indexOf_I b_Str_indexOf_I 2 (some .int) :: lw_good
theorem im_Str_indexOf_I : Cond.instanceMethod y_Str_indexOf_I ∈ lw_good := lg_right (i := 807) (by decide +kernel) rfl
theorem se_Str_indexOf_I : Cond.selects R_Str y_Str_indexOf_I y_Str_indexOf_I ∈ lw_good := lg_right (i := 808) (by decide +kernel) rfl
theorem d_Str_indexOf_I_0 : decode b_Str_indexOf_I 0 = .ok (.aload_n 0, 1) := by decide +kernel
theorem d_Str_indexOf_I_1 : decode b_Str_indexOf_I 1 = .ok (.iload_n 1, 1) := by decide +kernel
theorem d_Str_indexOf_I_2 : decode b_Str_indexOf_I 2 = .ok (.iconst 0, 1) := by decide +kernel
theorem d_Str_indexOf_I_3 : decode b_Str_indexOf_I 3 = .ok (.invokevirtual 633, 3) := by decide +kernel
theorem ml_Str_633 : Cond.methodLink R_Str 633 ⟨"java/lang/String", "indexOf", "(II)I"⟩ ∈ lw_good := lg_right (i := 810) (by decide +kernel) rfl
theorem d_Str_indexOf_I_6 : decode b_Str_indexOf_I 6 = .ok (.ireturn, 1) := by decide +kernel
set_option maxHeartbeats 1000000 in
set_option maxRecDepth 100000 in
theorem c_Lat_canEncode (l : Launch) (dC : Nat → ClassId) (dI : Nat → Nat → Nat)  (p1 : Int32) : Met l y_Lat_canEncode w_Lat_canEncode ({ frames := 0, cells := 0, slots := 0, locals := 0 } : Room) (va_Pc [.int p1] (fun U => va_P (dC, dI) cls_all [] U.heap ∧ va_K (dC, dI) cls_all [] U)) (vp_Si (fun r : Int32 => (r = if 0 ≤ p1 ∧ p1 ≤ 255 then 1 else 0))) 0 0 (fun _ => False) := by
  refine Met.ofW (cc := b_Lat_canEncode) (maxL := 1) (ret := (some .boolean)) (by decide) rfl ?_
  intro p e s m args below meth c s₁ B hml hv
  obtain ⟨rfl, hP, hK⟩ := hv
  have hx := B.exec
  have hb := B.bytes
  have hr := B.returns
  have hT : ∀ w ∈ lw_good, w.before _ s = true := fun w h => atoms_spec (ws := w_Lat_canEncode) B.pre w (List.mem_cons_of_mem _ h)
  have hown : s.vm.findClass R_Lat = some m.cls := findClass_of_methodNamed B.named
  have hlocks := B.notSynchronized
  have hl := lv_entry ([.int p1]) (n := 1) (Nat.le_of_ble_eq_true rfl)
  rw [lg_entry_eq]
  generalize (lg_sl ([.int p1]) ++ List.replicate (1 - (lg_sl ([.int p1])).length) Slot.unset).toArray = ls at hl ⊢
  have hl : lv_has ls 1 [(0, .int p1)] := hl
  refine lv_iload_n hx hb d_Lat_canEncode_0 rfl (lv_at hl 0 rfl) ?_
  refine lv_if_lt (tgt := 15) hx hb d_Lat_canEncode_1 (by decide) (fun c1 => ?_) (fun c1 => ?_)
  · refine lv_iconst (v := 0) hx hb d_Lat_canEncode_15 (by decide) ?_
    refine W.zret (v := 0) hx hb hr (by first | rfl | decide | assumption) (fun t ht hW => ⟨0, rfl, ?_, ht⟩) (fun q h => by cases h) d_Lat_canEncode_16
    (repeat' split) <;> first | rfl | (simp_all; done) | (exfalso; simp only [i_lt, i_le, i_eq, Int32.reduceToInt] at *; omega)
  · refine lv_iload_n hx hb d_Lat_canEncode_4 rfl (lv_at hl 0 rfl) ?_
    refine lv_sipush (v := 255) hx hb d_Lat_canEncode_5 (by decide) ?_
    refine lv_icmp_gt (tgt := 15) hx hb d_Lat_canEncode_8 (by decide) (fun c2 => ?_) (fun c2 => ?_)
    · refine lv_iconst (v := 0) hx hb d_Lat_canEncode_15 (by decide) ?_
      refine W.zret (v := 0) hx hb hr (by first | rfl | decide | assumption) (fun t ht hW => ⟨0, rfl, ?_, ht⟩) (fun q h => by cases h) d_Lat_canEncode_16
      (repeat' split) <;> first | rfl | (simp_all; done) | (exfalso; simp only [i_lt, i_le, i_eq, Int32.reduceToInt] at *; omega)
    · refine lv_iconst (v := 1) hx hb d_Lat_canEncode_11 (by decide) ?_
      refine lv_goto (tgt := 16) hx hb d_Lat_canEncode_12 (by decide) ?_
      refine W.zret (v := 1) hx hb hr (by first | rfl | decide | assumption) (fun t ht hW => ⟨1, rfl, ?_, ht⟩) (fun q h => by cases h) d_Lat_canEncode_16
      (repeat' split) <;> first | rfl | (simp_all; done) | (exfalso; simp only [i_lt, i_le, i_eq, Int32.reduceToInt] at *; omega)
set_option maxHeartbeats 1000000 in
set_option maxRecDepth 100000 in
theorem c_Lat_indexOfChar_l (l : Launch) (dC : Nat → ClassId) (dI : Nat → Nat → Nat)  (ad : Nat → Nat) (av : Nat → Nat) (p2 : Int32) (i : Nat) (hi : i < 33) : Met l y_Lat_indexOfChar w_Lat_indexOfChar ({ frames := 0, cells := 0, slots := 0, locals := 0 } : Room) (va_Pc [.ref (av i), .int p2, .int 0, .int (nI (s_len.getD i 0))] (fun U => va_P (dC, dI) cls_all [] U.heap ∧ va_K (dC, dI) cls_all [] U ∧ env0 ad av (fun _ => False) U U.heap)) (vp_Si (fun r : Int32 => (r = ff (isC i p2) 0 (s_len.getD i 0)))) 0 0 (fun _ => False) := by
  refine Met.ofW (cc := b_Lat_indexOfChar) (maxL := 6) (ret := (some .int)) (by decide) rfl ?_
  intro p e s m args below meth c s₁ B hml hv
  obtain ⟨rfl, hP, hK, henv⟩ := hv
  have hx := B.exec
  have hb := B.bytes
  have hr := B.returns
  have hT : ∀ w ∈ lw_good, w.before _ s = true := fun w h => atoms_spec (ws := w_Lat_indexOfChar) B.pre w (List.mem_cons_of_mem _ h)
  have hown : s.vm.findClass R_Lat = some m.cls := findClass_of_methodNamed B.named
  have hlocks := B.notSynchronized
  have hS : va_S (fun _ => False) s.heap s.heap [] := va_S.rf
  have hl := lv_entry ([.ref (av i), .int p2, .int 0, .int (nI (s_len.getD i 0))]) (n := 6) (Nat.le_of_ble_eq_true rfl)
  rw [lg_entry_eq]
  generalize (lg_sl ([.ref (av i), .int p2, .int 0, .int (nI (s_len.getD i 0))]) ++ List.replicate (6 - (lg_sl ([.ref (av i), .int p2, .int 0, .int (nI (s_len.getD i 0))])).length) Slot.unset).toArray = ls at hl ⊢
  have hl : lv_has ls 6 [(0, .ref (av i)), (1, .int p2), (2, .int 0), (3, .int (nI (s_len.getD i 0)))] := hl
  have hl31 : s_len.getD i 0 < 2 ^ 31 := s_l31 i hi
  refine lv_iload_n hx hb d_Lat_indexOfChar_0 rfl (lv_at hl 1 rfl) ?_
  obtain ⟨x1, e1⟩ : ∃ z : Int32, (p2 : Int32).toInt8.toInt32 = z := ⟨_, rfl⟩
  refine lv_i2b (v := x1) hx hb d_Lat_indexOfChar_1 e1 ?_
  refine lv_istore (lv' := [(4, .int x1), (0, .ref (av i)), (1, .int p2), (2, .int 0), (3, .int (nI (s_len.getD i 0)))]) hx hb d_Lat_indexOfChar_2 hl (by decide) rfl (fun ls hl => ?_)
  refine lv_iload_n hx hb d_Lat_indexOfChar_4 rfl (lv_at hl 3 rfl) ?_
  refine lv_istore (lv' := [(5, .int 0), (4, .int x1), (0, .ref (av i)), (1, .int p2), (2, .int 0), (3, .int (nI (s_len.getD i 0)))]) hx hb d_Lat_indexOfChar_5 hl (by decide) rfl (fun ls hl => ?_)
  have loop : ∀ (nn : Nat) (j : Nat), j ≤ s_len.getD i 0 → ff (isC i p2) 0 (s_len.getD i 0) = ff (isC i p2) j (s_len.getD i 0 - j) → s_len.getD i 0 - j < nn → ∀ (ls : Array Slot), lv_has ls 6 [(5, .int (nI (j))), (4, .int x1), (0, .ref (av i)), (1, .int p2), (2, .int 0), (3, .int (nI (s_len.getD i 0)))] → W p l e (headSpec w_Lat_indexOfChar ({ frames := 0, cells := 0, slots := 0, locals := 0 } : Room)).room s m ([.ref (av i), .int p2, .int 0, .int (nI (s_len.getD i 0))] : List Value).toArray below meth c s.heap [] 0 0 (MQ below (vp_Si (fun r : Int32 => (r = ff (isC i p2) 0 (s_len.getD i 0)))) ([.ref (av i), .int p2, .int 0, .int (nI (s_len.getD i 0))] : List Value).toArray s 0 0 (fun _ => False)) (F0 m 7 ls []) := by
    clear hl
    intro nn
    induction nn with
    | zero => intro j hj he hn ls hl; exfalso; omega
    | succ nn ih =>
      intro j hj he hn ls hl
      refine lv_iload hx hb d_Lat_indexOfChar_7 (lv_at hl 0 rfl) ?_
      refine lv_iload_n hx hb d_Lat_indexOfChar_9 rfl (lv_at hl 5 rfl) ?_
      refine lv_icmp_ge (tgt := 31) hx hb d_Lat_indexOfChar_10 (by decide) (fun c2 => ?_) (fun c2 => ?_)
      · have b2 : ((s_len.getD i 0)) ≤ ((j)) := (ni_le (by omega) (by omega)).1 c2
        refine lv_iconst (v := (-1)) hx hb d_Lat_indexOfChar_31 (by decide) ?_
        refine W.iret (v := (-1)) hx hb hr (fun t ht hW => ⟨(-1), rfl, ?_, ht⟩) (fun q h => by cases h) d_Lat_indexOfChar_32
        rw [he, show s_len.getD i 0 - j = 0 by omega]; rfl
      · have b2 : ((j)) < ((s_len.getD i 0)) := (ni_le (by omega) (by omega)).2 c2
        refine lv_aload_n hx hb d_Lat_indexOfChar_13 rfl (lv_at hl 2 rfl) ?_
        refine lv_iload hx hb d_Lat_indexOfChar_14 (lv_at hl 0 rfl) ?_
        refine va_tb (v := .int ((s_byt.getD i []).getD (nI (j)).toNatClampNeg 0)) hx hb (env_byt henv hi) hS (vp_in_nI (by omega) (by omega)) rfl d_Lat_indexOfChar_16 ?_
        refine lv_topi (fun x3 e3 => ?_)
        obtain rfl : x3 = (s_byt.getD i []).getD j 0 := e3.trans (by rw [nI_clamp (by omega)])
        refine lv_iload hx hb d_Lat_indexOfChar_17 (lv_at hl 1 rfl) ?_
        refine lv_icmp_ne (tgt := 25) hx hb d_Lat_indexOfChar_19 (by decide) (fun c4 => ?_) (fun c4 => ?_)
        · refine lv_iinc (v := (nI (j + 1))) (lv' := [(5, .int (nI (j + 1))), (4, .int x1), (0, .ref (av i)), (1, .int p2), (2, .int 0), (3, .int (nI (s_len.getD i 0)))]) hx hb d_Lat_indexOfChar_25 hl (k := 0) rfl (nI_add (j) 1) (by decide) rfl (fun ls hl => ?_)
          refine lv_goto (tgt := 7) hx hb d_Lat_indexOfChar_28 (by decide) ?_
          have hno : ¬ (isC i p2) j = true := fun q => c4 ((of_decide_eq_true q).trans e1)
          exact ih (j + 1) (by omega) (he.trans ((ff_no hno (by omega)).trans (congrArg _ (by omega)))) (by omega) ls (lv_sub hl [0, 1, 2, 3, 4, 5] rfl)
        · refine lv_iload hx hb d_Lat_indexOfChar_22 (lv_at hl 0 rfl) ?_
          refine W.iret (v := (nI (j))) hx hb hr (fun t ht hW => ⟨(nI (j)), rfl, ?_, ht⟩) (fun q h => by cases h) d_Lat_indexOfChar_24
          exact (he.trans (ff_yes (decide_eq_true (c4.trans e1.symm)) (by omega))).symm
  exact loop (s_len.getD i 0 + 1) 0 (by omega) rfl (by omega) ls (lv_sub hl [0, 1, 2, 3, 4, 5] rfl)
set_option maxHeartbeats 1000000 in
set_option maxRecDepth 100000 in
theorem c_Lat_indexOf_l (l : Launch) (dC : Nat → ClassId) (dI : Nat → Nat → Nat)  (ad : Nat → Nat) (av : Nat → Nat) (p2 : Int32) (i : Nat) (hi : i < 33) (h0l : 0 < s_len.getD i 0) (hc : 0 ≤ p2 ∧ p2 ≤ 255) : Met l y_Lat_indexOf_ABIII w_Lat_indexOf_ABIII ({ frames := 1, cells := 0, slots := 0, locals := 25 } : Room) (va_Pc [.ref (av i), .int p2, .int 0, .int (nI (s_len.getD i 0))] (fun U => va_P (dC, dI) cls_all [] U.heap ∧ va_K (dC, dI) cls_all [] U ∧ env0 ad av (fun _ => False) U U.heap)) (vp_Si (fun r : Int32 => (r = ff (isC i p2) 0 (s_len.getD i 0)))) 0 0 (fun _ => False) := by
  refine Met.ofW (cc := b_Lat_indexOf_ABIII) (maxL := 4) (ret := (some .int)) (by decide) rfl ?_
  intro p e s m args below meth c s₁ B hml hv
  obtain ⟨rfl, hP, hK, henv⟩ := hv
  have hx := B.exec
  have hb := B.bytes
  have hr := B.returns
  have hT : ∀ w ∈ lw_good, w.before _ s = true := fun w h => atoms_spec (ws := w_Lat_indexOf_ABIII) B.pre w (List.mem_cons_of_mem _ h)
  have hown : s.vm.findClass R_Lat = some m.cls := findClass_of_methodNamed B.named
  have hlocks := B.notSynchronized
  have hS : va_S (fun _ => False) s.heap s.heap [] := va_S.rf
  have hl := lv_entry ([.ref (av i), .int p2, .int 0, .int (nI (s_len.getD i 0))]) (n := 4) (Nat.le_of_ble_eq_true rfl)
  rw [lg_entry_eq]
  generalize (lg_sl ([.ref (av i), .int p2, .int 0, .int (nI (s_len.getD i 0))]) ++ List.replicate (4 - (lg_sl ([.ref (av i), .int p2, .int 0, .int (nI (s_len.getD i 0))])).length) Slot.unset).toArray = ls at hl ⊢
  have hl : lv_has ls 4 [(0, .ref (av i)), (1, .int p2), (2, .int 0), (3, .int (nI (s_len.getD i 0)))] := hl
  have hl31 : s_len.getD i 0 < 2 ^ 31 := s_l31 i hi
  refine lv_iload_n hx hb d_Lat_indexOf_ABIII_0 rfl (lv_at hl 1 rfl) ?_
  have hPc := hP.sub (ws' := []) [] rfl
  have hKc := hK.sub (tys' := []) [] rfl
  refine vp_callSi (va_Run.run (va_runS (As := [.int p2]) (rest := []) ⟨hx, hb, hml, hown, hT⟩ (c_Lat_canEncode l dC dI (p1 := p2) ) (va_cwS 1 hT (gS ml_Lat_88 st_Lat_canEncode ini_Lat co_Lat_canEncode) rfl rfl rfl (by decide +kernel) ⟨Nat.le_of_ble_eq_true rfl, Nat.le_of_ble_eq_true rfl⟩) ⟨fbS, fun U hU hW => ⟨rfl, by rw [hU]; exact hPc, va_K.moved hW.alike hKc⟩⟩ rfl rfl hl.1 rfl (lv_room (Nat.le_of_ble_eq_true rfl)) d_Lat_indexOf_ABIII_1 ⟨Nat.le_of_ble_eq_true rfl, Nat.le_of_ble_eq_true rfl⟩)) (fun r1 hr1 => ?_)
  refine lv_if_ne (tgt := 9) hx hb d_Lat_indexOf_ABIII_4 (by decide) (fun c2 => ?_) (fun c2 => absurd c2 (fun q => nz hr1 q hc))
  refine lv_iload_n hx hb d_Lat_indexOf_ABIII_9 rfl (lv_at hl 2 rfl) ?_
  refine lv_iconst (v := 0) hx hb d_Lat_indexOf_ABIII_10 (by decide) ?_
  refine va_mmax hx hb (hml.trans hl.1.symm) hown (hT _ ml_Lat_92) (hT _ st_Math_max) (hT _ ini_Math) (hT _ co_Math_max) (Nat.le_of_ble_eq_true rfl) (Nat.le_of_ble_eq_true rfl) (Nat.le_of_ble_eq_true rfl) (Nat.le_of_ble_eq_true rfl) d_Lat_indexOf_ABIII_11 ?_
  refine lv_topi (fun x3 e3 => ?_)
  obtain rfl : x3 = 0 := e3.trans (by decide)
  refine lv_istore_n (lv' := [(2, .int 0), (0, .ref (av i)), (1, .int p2), (3, .int (nI (s_len.getD i 0)))]) hx hb d_Lat_indexOf_ABIII_14 rfl hl (by decide) rfl (fun ls hl => ?_)
  refine lv_iload_n hx hb d_Lat_indexOf_ABIII_15 rfl (lv_at hl 3 rfl) ?_
  refine lv_aload_n hx hb d_Lat_indexOf_ABIII_16 rfl (lv_at hl 1 rfl) ?_
  refine va_tlen (v := nI (s_len.getD i 0)) hx hb (env_byt henv hi) hS rfl d_Lat_indexOf_ABIII_17 ?_
  refine va_mmin hx hb (hml.trans hl.1.symm) hown (hT _ ml_Lat_38) (hT _ st_Math_min) (hT _ ini_Math) (hT _ co_Math_min) (Nat.le_of_ble_eq_true rfl) (Nat.le_of_ble_eq_true rfl) (Nat.le_of_ble_eq_true rfl) (Nat.le_of_ble_eq_true rfl) d_Lat_indexOf_ABIII_18 ?_
  refine lv_topi (fun x4 e4 => ?_)
  obtain rfl : x4 = nI (s_len.getD i 0) := e4.trans (n_min (Nat.le_refl _) (by omega))
  refine lv_istore_n (lv' := [(3, .int (nI (s_len.getD i 0))), (2, .int 0), (0, .ref (av i)), (1, .int p2)]) hx hb d_Lat_indexOf_ABIII_21 rfl hl (by decide) rfl (fun ls hl => ?_)
  refine lv_iload_n hx hb d_Lat_indexOf_ABIII_22 rfl (lv_at hl 1 rfl) ?_
  refine lv_iload_n hx hb d_Lat_indexOf_ABIII_23 rfl (lv_at hl 0 rfl) ?_
  refine lv_icmp_lt (tgt := 29) hx hb d_Lat_indexOf_ABIII_24 (by decide) (fun c5 => ?_) (fun c5 => absurd (nI_lt (a := 0) h0l (by omega)) c5)
  refine lv_aload_n hx hb d_Lat_indexOf_ABIII_29 rfl (lv_at hl 2 rfl) ?_
  refine lv_iload_n hx hb d_Lat_indexOf_ABIII_30 rfl (lv_at hl 3 rfl) ?_
  refine lv_iload_n hx hb d_Lat_indexOf_ABIII_31 rfl (lv_at hl 1 rfl) ?_
  refine lv_iload_n hx hb d_Lat_indexOf_ABIII_32 rfl (lv_at hl 0 rfl) ?_
  have hPc := hP.sub (ws' := []) [] rfl
  have hKc := hK.sub (tys' := []) [] rfl
  refine vp_callSi (va_Run.run (va_runS (As := [.ref (av i), .int p2, .int 0, .int (nI (s_len.getD i 0))]) (rest := []) ⟨hx, hb, hml, hown, hT⟩ (c_Lat_indexOfChar_l l dC dI (ad := ad) (av := av) (p2 := p2) (i := i) (hi := hi)) (va_cwS 4 hT (gS ml_Lat_95 st_Lat_indexOfChar ini_Lat co_Lat_indexOfChar) rfl rfl rfl (by decide +kernel) ⟨Nat.le_of_ble_eq_true rfl, Nat.le_of_ble_eq_true rfl⟩) ⟨fbSe, fun U hU hW => ⟨rfl, by rw [hU]; exact hPc, va_K.moved hW.alike hKc, env0.hand henv hS hU hW (fun q h => h.elim)⟩⟩ rfl rfl hl.1 rfl (lv_room (Nat.le_of_ble_eq_true rfl)) d_Lat_indexOf_ABIII_33 ⟨Nat.le_of_ble_eq_true rfl, Nat.le_of_ble_eq_true rfl⟩)) (fun r6 hr6 => ?_)
  refine W.iret (v := r6) hx hb hr (fun t ht hW => ⟨r6, rfl, ?_, ht⟩) (fun q h => by cases h) d_Lat_indexOf_ABIII_36
  assumption
set_option maxHeartbeats 1000000 in
set_option maxRecDepth 100000 in
theorem c_Str_indexOf2_l (l : Launch) (dC : Nat → ClassId) (dI : Nat → Nat → Nat)  (ad : Nat → Nat) (av : Nat → Nat) (p1 : Int32) (i : Nat) (hi : i < 33) (h0l : 0 < s_len.getD i 0) (hc : 0 ≤ p1 ∧ p1 ≤ 255) : Met l y_Str_indexOf_II w_Str_indexOf_II ({ frames := 2, cells := 0, slots := 0, locals := 48 } : Room) (va_Pc [.ref (ad i), .int p1, .int 0] (fun U => va_P (dC, dI) cls_all [] U.heap ∧ va_K (dC, dI) cls_all [] U ∧ env0 ad av (fun _ => False) U U.heap)) (vp_Si (fun r : Int32 => (r = ff (isC i p1) 0 (s_len.getD i 0)))) 0 0 (fun _ => False) := by
  refine Met.ofW (cc := b_Str_indexOf_II) (maxL := 3) (ret := (some .int)) (by decide) rfl ?_
  intro p e s m args below meth c s₁ B hml hv
  obtain ⟨rfl, hP, hK, henv⟩ := hv
  have hx := B.exec
  have hb := B.bytes
  have hr := B.returns
  have hT : ∀ w ∈ lw_good, w.before _ s = true := fun w h => atoms_spec (ws := w_Str_indexOf_II) B.pre w (List.mem_cons_of_mem _ h)
  have hown : s.vm.findClass R_Str = some m.cls := findClass_of_methodNamed B.named
  have hlocks := B.notSynchronized
  have hS : va_S (fun _ => False) s.heap s.heap [] := va_S.rf
  have hl := lv_entry ([.ref (ad i), .int p1, .int 0]) (n := 3) (Nat.le_of_ble_eq_true rfl)
  rw [lg_entry_eq]
  generalize (lg_sl ([.ref (ad i), .int p1, .int 0]) ++ List.replicate (3 - (lg_sl ([.ref (ad i), .int p1, .int 0])).length) Slot.unset).toArray = ls at hl ⊢
  have hl : lv_has ls 3 [(0, .ref (ad i)), (1, .int p1), (2, .int 0)] := hl
  refine lv_aload_n hx hb d_Str_indexOf_II_0 rfl (lv_at hl 0 rfl) ?_
  have hPc := hP.sub (ws' := []) [] rfl
  have hKc := hK.sub (tys' := []) [] rfl
  refine vp_callSi (va_Run.run (va_runV (As := []) (rest := []) ⟨hx, hb, hml, hown, hT⟩ (c_Str_isLatin1_l l dC dI (ad := ad) (av := av) (i := i) (hi := hi)) (cwV 0 hT (gV ml_Str_492 im_Str_isLatin1 se_Str_isLatin1 ini_Str co_Str_isLatin1) rfl rfl rfl (by decide +kernel) ⟨Nat.le_of_ble_eq_true rfl, Nat.le_of_ble_eq_true rfl⟩) ⟨fbSe, (env_recv henv hi hS), fun U hU hW => ⟨rfl, by rw [hU]; exact hPc, va_K.moved hW.alike hKc, env0.hand henv hS hU hW (fun q h => h.elim)⟩⟩ rfl rfl hl.1 rfl (lv_room (Nat.le_of_ble_eq_true rfl)) d_Str_indexOf_II_1 ⟨Nat.le_of_ble_eq_true rfl, Nat.le_of_ble_eq_true rfl⟩)) (fun r1 hr1 => ?_)
  refine lv_if_eq (tgt := 23) hx hb d_Str_indexOf_II_4 (by decide) (fun c2 => absurd c2 (by rw [hr1]; decide)) (fun c2 => ?_)
  refine lv_aload_n hx hb d_Str_indexOf_II_7 rfl (lv_at hl 0 rfl) ?_
  refine vk_getf hx hb (env_val henv hi) hS hown (hT _ fl_Str_9) (fun _ h9 => h9) d_Str_indexOf_II_8 ?_
  refine lv_iload_n hx hb d_Str_indexOf_II_11 rfl (lv_at hl 1 rfl) ?_
  refine lv_iload_n hx hb d_Str_indexOf_II_12 rfl (lv_at hl 2 rfl) ?_
  refine lv_aload_n hx hb d_Str_indexOf_II_13 rfl (lv_at hl 0 rfl) ?_
  have hPc := hP.sub (ws' := []) [] rfl
  have hKc := hK.sub (tys' := []) [] rfl
  refine vp_callSi (va_Run.run (va_runV (As := []) (rest := [.int 0, .int p1, .ref (av i)]) ⟨hx, hb, hml, hown, hT⟩ (c_Str_length_l l dC dI (ad := ad) (av := av) (i := i) (hi := hi)) (cwV 0 hT (gV ml_Str_505 im_Str_length se_Str_length ini_Str co_Str_length) rfl rfl rfl (by decide +kernel) ⟨Nat.le_of_ble_eq_true rfl, Nat.le_of_ble_eq_true rfl⟩) ⟨fbSe, (env_recv henv hi hS), fun U hU hW => ⟨rfl, by rw [hU]; exact hPc, va_K.moved hW.alike hKc, env0.hand henv hS hU hW (fun q h => h.elim)⟩⟩ rfl rfl hl.1 rfl (lv_room (Nat.le_of_ble_eq_true rfl)) d_Str_indexOf_II_14 ⟨Nat.le_of_ble_eq_true rfl, Nat.le_of_ble_eq_true rfl⟩)) (fun r3 hr3 => ?_)
  obtain rfl := hr3
  have hPc := hP.sub (ws' := []) [] rfl
  have hKc := hK.sub (tys' := []) [] rfl
  refine vp_callSi (va_Run.run (va_runS (As := [.ref (av i), .int p1, .int 0, .int (nI (s_len.getD i 0))]) (rest := []) ⟨hx, hb, hml, hown, hT⟩ (c_Lat_indexOf_l l dC dI (ad := ad) (av := av) (p2 := p1) (i := i) (hi := hi) (h0l := h0l) (hc := hc)) (va_cwS 4 hT (gS ml_Str_637 st_Lat_indexOf_ABIII ini_Lat co_Lat_indexOf_ABIII) rfl rfl rfl (by decide +kernel) ⟨Nat.le_of_ble_eq_true rfl, Nat.le_of_ble_eq_true rfl⟩) ⟨fbSe, fun U hU hW => ⟨rfl, by rw [hU]; exact hPc, va_K.moved hW.alike hKc, env0.hand henv hS hU hW (fun q h => h.elim)⟩⟩ rfl rfl hl.1 rfl (lv_room (Nat.le_of_ble_eq_true rfl)) d_Str_indexOf_II_17 ⟨Nat.le_of_ble_eq_true rfl, Nat.le_of_ble_eq_true rfl⟩)) (fun r4 hr4 => ?_)
  refine lv_goto (tgt := 36) hx hb d_Str_indexOf_II_20 (by decide) ?_
  refine W.iret (v := r4) hx hb hr (fun t ht hW => ⟨r4, rfl, ?_, ht⟩) (fun q h => by cases h) d_Str_indexOf_II_36
  assumption
set_option maxHeartbeats 1000000 in
set_option maxRecDepth 100000 in
theorem c_Str_indexOf_l (l : Launch) (dC : Nat → ClassId) (dI : Nat → Nat → Nat)  (ad : Nat → Nat) (av : Nat → Nat) (p1 : Int32) (i : Nat) (hi : i < 33) (h0l : 0 < s_len.getD i 0) (hc : 0 ≤ p1 ∧ p1 ≤ 255) : Met l y_Str_indexOf_I w_Str_indexOf_I ({ frames := 3, cells := 0, slots := 0, locals := 70 } : Room) (va_Pc [.ref (ad i), .int p1] (fun U => va_P (dC, dI) cls_all [] U.heap ∧ va_K (dC, dI) cls_all [] U ∧ env0 ad av (fun _ => False) U U.heap)) (vp_Si (fun r : Int32 => (r = ff (isC i p1) 0 (s_len.getD i 0)))) 0 0 (fun _ => False) := by
  refine Met.ofW (cc := b_Str_indexOf_I) (maxL := 2) (ret := (some .int)) (by decide) rfl ?_
  intro p e s m args below meth c s₁ B hml hv
  obtain ⟨rfl, hP, hK, henv⟩ := hv
  have hx := B.exec
  have hb := B.bytes
  have hr := B.returns
  have hT : ∀ w ∈ lw_good, w.before _ s = true := fun w h => atoms_spec (ws := w_Str_indexOf_I) B.pre w (List.mem_cons_of_mem _ h)
  have hown : s.vm.findClass R_Str = some m.cls := findClass_of_methodNamed B.named
  have hlocks := B.notSynchronized
  have hS : va_S (fun _ => False) s.heap s.heap [] := va_S.rf
  have hl := lv_entry ([.ref (ad i), .int p1]) (n := 2) (Nat.le_of_ble_eq_true rfl)
  rw [lg_entry_eq]
  generalize (lg_sl ([.ref (ad i), .int p1]) ++ List.replicate (2 - (lg_sl ([.ref (ad i), .int p1])).length) Slot.unset).toArray = ls at hl ⊢
  have hl : lv_has ls 2 [(0, .ref (ad i)), (1, .int p1)] := hl
  refine lv_aload_n hx hb d_Str_indexOf_I_0 rfl (lv_at hl 0 rfl) ?_
  refine lv_iload_n hx hb d_Str_indexOf_I_1 rfl (lv_at hl 1 rfl) ?_
  refine lv_iconst (v := 0) hx hb d_Str_indexOf_I_2 (by decide) ?_
  have hPc := hP.sub (ws' := []) [] rfl
  have hKc := hK.sub (tys' := []) [] rfl
  refine vp_callSi (va_Run.run (va_runV (As := [.int p1, .int 0]) (rest := []) ⟨hx, hb, hml, hown, hT⟩ (c_Str_indexOf2_l l dC dI (ad := ad) (av := av) (p1 := p1) (i := i) (hi := hi) (h0l := h0l) (hc := hc)) (cwV 2 hT (gV ml_Str_633 im_Str_indexOf_II se_Str_indexOf_II ini_Str co_Str_indexOf_II) rfl rfl rfl (by decide +kernel) ⟨Nat.le_of_ble_eq_true rfl, Nat.le_of_ble_eq_true rfl⟩) ⟨fbSe, (env_recv henv hi hS), fun U hU hW => ⟨rfl, by rw [hU]; exact hPc, va_K.moved hW.alike hKc, env0.hand henv hS hU hW (fun q h => h.elim)⟩⟩ rfl rfl hl.1 rfl (lv_room (Nat.le_of_ble_eq_true rfl)) d_Str_indexOf_I_3 ⟨Nat.le_of_ble_eq_true rfl, Nat.le_of_ble_eq_true rfl⟩)) (fun r1 hr1 => ?_)
  refine W.iret (v := r1) hx hb hr (fun t ht hW => ⟨r1, rfl, ?_, ht⟩) (fun q h => by cases h) d_Str_indexOf_I_6
  assumption

