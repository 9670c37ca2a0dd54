abbrev b_Code_clear : ByteArray := prog_2_method_2_code
abbrev y_Code_clear : MethodName := ⟨R_Code, "clear", "()V"⟩
theorem co_Code_clear : Cond.code y_Code_clear b_Code_clear 1 none ∈ lw_good := lg_in (tin_4 _ (List.mem_of_getElem? (i := 35) rfl)) rfl
abbrev w_Code_clear : List Cond := Cond.code y_Code_clear b_Code_clear 1 none :: lw_good
theorem im_Code_clear : Cond.instanceMethod y_Code_clear ∈ lw_good := lg_right (i := 753) (by decide +kernel) rfl
theorem se_Code_clear : Cond.selects R_Code y_Code_clear y_Code_clear ∈ lw_good := lg_right (i := 754) (by decide +kernel) rfl
theorem d_Code_clear_0 : decode b_Code_clear 0 = .ok (.aload_n 0, 1) := by decide +kernel
theorem d_Code_clear_1 : decode b_Code_clear 1 = .ok (.iconst 0, 1) := by decide +kernel
theorem d_Code_clear_2 : decode b_Code_clear 2 = .ok (.putfield 28, 3) := by decide +kernel
theorem d_Code_clear_5 : decode b_Code_clear 5 = .ok (.aload_n 0, 1) := by decide +kernel
theorem d_Code_clear_6 : decode b_Code_clear 6 = .ok (.getfield 21, 3) := by decide +kernel
theorem d_Code_clear_9 : decode b_Code_clear 9 = .ok (.iconst 0, 1) := by decide +kernel
theorem d_Code_clear_10 : decode b_Code_clear 10 = .ok (.invokestatic 31, 3) := by decide +kernel
theorem ml_Code_31 : Cond.methodLink R_Code 31 ⟨"java/util/Arrays", "fill", "([II)V"⟩ ∈ lw_good := lg_right (i := 756) (by decide +kernel) rfl
theorem d_Code_clear_13 : decode b_Code_clear 13 = .ok (.aload_n 0, 1) := by decide +kernel
theorem d_Code_clear_14 : decode b_Code_clear 14 = .ok (.iconst 0, 1) := by decide +kernel
theorem d_Code_clear_15 : decode b_Code_clear 15 = .ok (.putfield 37, 3) := by decide +kernel
theorem d_Code_clear_18 : decode b_Code_clear 18 = .ok (.aload_n 0, 1) := by decide +kernel
theorem d_Code_clear_19 : decode b_Code_clear 19 = .ok (.iconst (-1), 1) := by decide +kernel
theorem d_Code_clear_20 : decode b_Code_clear 20 = .ok (.putfield 24, 3) := by decide +kernel
theorem d_Code_clear_23 : decode b_Code_clear 23 = .ok (.return_, 1) := by decide +kernel
abbrev b_Source_scan : ByteArray := prog_10_method_3_code
abbrev y_Source_scan : MethodName := ⟨R_Source, "scan", "([CI)V"⟩
theorem co_Source_scan : Cond.code y_Source_scan b_Source_scan 4 none ∈ lw_good := lg_in (tin_4 _ (List.mem_of_getElem? (i := 42) rfl)) rfl
abbrev w_Source_scan : List Cond := Cond.code y_Source_scan b_Source_scan 4 none :: lw_good
theorem im_Source_scan : Cond.instanceMethod y_Source_scan ∈ lw_good := lg_right (i := 760) (by decide +kernel) rfl
theorem se_Source_scan : Cond.selects R_Source y_Source_scan y_Source_scan ∈ lw_good := lg_right (i := 761) (by decide +kernel) rfl
theorem d_Source_scan_0 : decode b_Source_scan 0 = .ok (.aload_n 0, 1) := by decide +kernel
theorem d_Source_scan_1 : decode b_Source_scan 1 = .ok (.aload_n 1, 1) := by decide +kernel
theorem d_Source_scan_2 : decode b_Source_scan 2 = .ok (.putfield 73, 3) := by decide +kernel
theorem fl_Source_73 : Cond.fieldLink R_Source 73 "PointerHouse$Source" "text" "[C" ∈ lw_good := lg_right (i := 222) (by decide +kernel) rfl
theorem d_Source_scan_5 : decode b_Source_scan 5 = .ok (.aload_n 0, 1) := by decide +kernel
theorem d_Source_scan_6 : decode b_Source_scan 6 = .ok (.iload_n 2, 1) := by decide +kernel
theorem d_Source_scan_7 : decode b_Source_scan 7 = .ok (.aload_n 1, 1) := by decide +kernel
theorem d_Source_scan_8 : decode b_Source_scan 8 = .ok (.arraylength, 1) := by decide +kernel
theorem d_Source_scan_9 : decode b_Source_scan 9 = .ok (.invokestatic 77, 3) := by decide +kernel
theorem ml_Source_77 : Cond.methodLink R_Source 77 ⟨"java/lang/Math", "min", "(II)I"⟩ ∈ lw_good := lg_right (i := 763) (by decide +kernel) rfl
theorem d_Source_scan_12 : decode b_Source_scan 12 = .ok (.putfield 83, 3) := by decide +kernel
theorem d_Source_scan_15 : decode b_Source_scan 15 = .ok (.aload_n 0, 1) := by decide +kernel
theorem d_Source_scan_16 : decode b_Source_scan 16 = .ok (.iconst 0, 1) := by decide +kernel
theorem d_Source_scan_17 : decode b_Source_scan 17 = .ok (.putfield 86, 3) := by decide +kernel
theorem d_Source_scan_20 : decode b_Source_scan 20 = .ok (.iconst 0, 1) := by decide +kernel
theorem d_Source_scan_21 : decode b_Source_scan 21 = .ok (.istore_n 3, 1) := by decide +kernel
theorem d_Source_scan_22 : decode b_Source_scan 22 = .ok (.iload_n 3, 1) := by decide +kernel
theorem d_Source_scan_23 : decode b_Source_scan 23 = .ok (.aload_n 0, 1) := by decide +kernel
theorem d_Source_scan_24 : decode b_Source_scan 24 = .ok (.getfield 83, 3) := by decide +kernel
theorem d_Source_scan_27 : decode b_Source_scan 27 = .ok (.if_icmp .ge 18, 3) := by decide +kernel
theorem d_Source_scan_30 : decode b_Source_scan 30 = .ok (.iload_n 3, 1) := by decide +kernel
theorem d_Source_scan_31 : decode b_Source_scan 31 = .ok (.iconst 1, 1) := by decide +kernel
theorem d_Source_scan_32 : decode b_Source_scan 32 = .ok (.iadd, 1) := by decide +kernel
theorem d_Source_scan_33 : decode b_Source_scan 33 = .ok (.aload_n 0, 1) := by decide +kernel
theorem d_Source_scan_34 : decode b_Source_scan 34 = .ok (.iload_n 3, 1) := by decide +kernel
theorem d_Source_scan_35 : decode b_Source_scan 35 = .ok (.invokevirtual 89, 3) := by decide +kernel
theorem ml_Source_89 : Cond.methodLink R_Source 89 ⟨"PointerHouse$Source", "scanToken", "(I)I"⟩ ∈ lw_good := lg_right (i := 764) (by decide +kernel) rfl
theorem d_Source_scan_38 : decode b_Source_scan 38 = .ok (.invokestatic 93, 3) := by decide +kernel
theorem ml_Source_93 : Cond.methodLink R_Source 93 ⟨"java/lang/Math", "max", "(II)I"⟩ ∈ lw_good := lg_right (i := 854) (by decide +kernel) rfl
theorem d_Source_scan_41 : decode b_Source_scan 41 = .ok (.istore_n 3, 1) := by decide +kernel
theorem d_Source_scan_42 : decode b_Source_scan 42 = .ok (.goto (-20), 3) := by decide +kernel
theorem d_Source_scan_45 : decode b_Source_scan 45 = .ok (.aload_n 0, 1) := by decide +kernel
theorem d_Source_scan_46 : decode b_Source_scan 46 = .ok (.getfield 36, 3) := by decide +kernel
theorem d_Source_scan_49 : decode b_Source_scan 49 = .ok (.aload_n 0, 1) := by decide +kernel
theorem d_Source_scan_50 : decode b_Source_scan 50 = .ok (.getfield 86, 3) := by decide +kernel
theorem d_Source_scan_53 : decode b_Source_scan 53 = .ok (.iconst 0, 1) := by decide +kernel
theorem d_Source_scan_54 : decode b_Source_scan 54 = .ok (.iastore, 1) := by decide +kernel
theorem d_Source_scan_55 : decode b_Source_scan 55 = .ok (.aload_n 0, 1) := by decide +kernel
theorem d_Source_scan_56 : decode b_Source_scan 56 = .ok (.getfield 39, 3) := by decide +kernel
theorem d_Source_scan_59 : decode b_Source_scan 59 = .ok (.aload_n 0, 1) := by decide +kernel
theorem d_Source_scan_60 : decode b_Source_scan 60 = .ok (.getfield 86, 3) := by decide +kernel
theorem d_Source_scan_63 : decode b_Source_scan 63 = .ok (.aload_n 0, 1) := by decide +kernel
theorem d_Source_scan_64 : decode b_Source_scan 64 = .ok (.getfield 83, 3) := by decide +kernel
theorem d_Source_scan_67 : decode b_Source_scan 67 = .ok (.iastore, 1) := by decide +kernel
theorem d_Source_scan_68 : decode b_Source_scan 68 = .ok (.aload_n 0, 1) := by decide +kernel
theorem d_Source_scan_69 : decode b_Source_scan 69 = .ok (.iconst 0, 1) := by decide +kernel
theorem d_Source_scan_70 : decode b_Source_scan 70 = .ok (.putfield 96, 3) := by decide +kernel
theorem d_Source_scan_73 : decode b_Source_scan 73 = .ok (.aload_n 0, 1) := by decide +kernel
theorem d_Source_scan_74 : decode b_Source_scan 74 = .ok (.iconst 0, 1) := by decide +kernel
theorem d_Source_scan_75 : decode b_Source_scan 75 = .ok (.iconst 0, 1) := by decide +kernel
theorem d_Source_scan_76 : decode b_Source_scan 76 = .ok (.invokevirtual 99, 3) := by decide +kernel
theorem ml_Source_99 : Cond.methodLink R_Source 99 ⟨"PointerHouse$Source", "addNode", "(II)I"⟩ ∈ lw_good := lg_right (i := 855) (by decide +kernel) rfl
theorem d_Source_scan_79 : decode b_Source_scan 79 = .ok (.pop, 1) := by decide +kernel
theorem d_Source_scan_80 : decode b_Source_scan 80 = .ok (.return_, 1) := by decide +kernel
set_option maxHeartbeats 1000000 in
set_option maxRecDepth 100000 in
theorem c_Code_clear (l : Launch) (dC : Nat → ClassId) (dI : Nat → Nat → Nat) (sz : Nat) (h_this : Nat) (h_counts : Nat) (fs_this : List Value) (k_counts : ClassId) (f_counts : Nat → Int32) (len_this : fs_this.length = 7) (g_this_counts : fs_this[4]? = some (.ref h_counts)) : Met l y_Code_clear w_Code_clear ({ frames := 1, cells := 0, slots := 0, locals := 23 } : Room) (va_Pc [.ref h_this] (fun U => U.heap.size = sz ∧ va_P (dC, dI) cls_all [oc h_this 0 fs_this, ic h_counts k_counts 7 f_counts] U.heap ∧ va_K (dC, dI) cls_all [(k_counts, .int)] U ∧ va_D (fun _ => True) [oc h_this 0 fs_this, ic h_counts k_counts 7 f_counts])) (va_Qv (fun (_ : Unit) => True) (fun _ t => ∃ (fs_this' : List Value) (f_counts' : Nat → Int32), (fs_this'.length = 7 ∧ (∀ j : Nat, j ≠ 3 → j ≠ 5 → j ≠ 6 → fs_this'[j]? = fs_this[j]?) ∧ fs_this'[3]? = some (.int (0)) ∧ fs_this'[5]? = some (.int (0)) ∧ fs_this'[6]? = some (.int (-1)) ∧ (f_counts' = fillF f_counts 0 7)) ∧ va_P (dC, dI) cls_all [oc h_this 0 fs_this', ic h_counts k_counts 7 f_counts'] t.heap ∧ va_K (dC, dI) cls_all [(k_counts, .int)] t ∧ va_D (va_A [oc h_this 0 fs_this, ic h_counts k_counts 7 f_counts] sz) [oc h_this 0 fs_this', ic h_counts k_counts 7 f_counts']) (va_A [oc h_this 0 fs_this, ic h_counts k_counts 7 f_counts] sz)) 0 0 (va_A [oc h_this 0 fs_this, ic h_counts k_counts 7 f_counts] sz) := by
  refine Met.ofW (cc := b_Code_clear) (maxL := 1) (ret := none) (by decide) rfl ?_
  intro p e s m args below meth c s₁ B hml hv
  obtain ⟨rfl, hsz, hP, hK, hD0⟩ := hv
  have hx := B.exec
  have hb := B.bytes
  have hr := B.returns
  have hT : ∀ w ∈ lw_good, w.before _ s = true := fun w h => atoms_spec (ws := w_Code_clear) B.pre w (List.mem_cons_of_mem _ h)
  have hown : s.vm.findClass R_Code = some m.cls := findClass_of_methodNamed B.named
  have hlocks := B.notSynchronized
  subst hsz
  have hD := hD0.self (sz := s.heap.size)
  generalize hAe : va_A [oc h_this 0 fs_this, ic h_counts k_counts 7 f_counts] s.heap.size = A at hD ⊢
  have hA : ∀ q : Nat, s.heap.size ≤ q → A q := fun q h => by rw [← hAe]; exact Or.inr h
  have hS : va_S A s.heap s.heap [] := va_S.rf
  have hP : va_P (dC, dI) cls_all [oc h_this 0 fs_this, ic h_counts k_counts 7 f_counts] s.heap := hP
  have hl := lv_entry ([.ref h_this]) (n := 1) (Nat.le_of_ble_eq_true rfl)
  rw [lg_entry_eq]
  generalize (lg_sl ([.ref h_this]) ++ List.replicate (1 - (lg_sl ([.ref h_this])).length) Slot.unset).toArray = ls at hl ⊢
  have hl : lv_has ls 1 [(0, .ref h_this)] := hl
  refine lv_aload_n hx hb d_Code_clear_0 rfl (lv_at hl 0 rfl) ?_
  refine lv_iconst (v := 0) hx hb d_Code_clear_1 (by decide) ?_
  refine va_put (D := (dC, dI)) (ci := 0) (v := .int 0) (ty := .int) (C := R_Code) (T := F_Code) (N := 7) hx hb hT i_Code t_Code t_Code_ok n_Code hown hK hP hD hS 0 rfl rfl 3 (by decide) (hT _ fl_Code_28) (fun _ h9 => h9) rfl (by decide +kernel) rfl rfl (by simp only [List.length_set, len_this]; decide) d_Code_clear_2 (fun H locs hP hD hS => ?_)
  have hP : va_P (dC, dI) cls_all [oc h_this 0 (fs_this.set 3 (.int 0)), ic h_counts k_counts 7 f_counts] H := hP
  have hD : va_D A [oc h_this 0 (fs_this.set 3 (.int 0)), ic h_counts k_counts 7 f_counts] := hD
  refine lv_aload_n hx hb d_Code_clear_5 rfl (lv_at hl 0 rfl) ?_
  refine va_get (D := (dC, dI)) (ci := 0) (v := .ref h_counts) (C := R_Code) (T := F_Code) (N := 7) hx hb hT i_Code hown hK hP 0 rfl rfl 4 (by decide) (hT _ fl_Code_21) (fun _ h9 => h9) ((ls_ne (by decide)).trans g_this_counts) d_Code_clear_6 ?_
  refine lv_iconst (v := 0) hx hb d_Code_clear_9 (by decide) ?_
  have hPc := hP.sub (ws' := [ic h_counts k_counts 7 f_counts]) [1] rfl
  have hKc := hK.sub (tys' := [(k_counts, .int)]) [0] rfl
  have hDc := hD.sub (ws' := [ic h_counts k_counts 7 f_counts]) [1] (by decide) rfl
  have hFc := va_free (wc := [ic h_counts k_counts 7 f_counts]) hD hS hA [1] rfl
  refine va_callv (va_runS (As := [.ref h_counts, .int 0]) (rest := []) ⟨hx, hb, hml, hown, hT⟩ (c_Arr_fill l dC dI (sz := H.size) (h_a1 := h_counts) (k_a1 := k_counts) (f_a1 := f_counts) (p2 := 0) (L := 7) (hL := (by decide))) (va_cwS 2 hT (gS ml_Code_31 st_Arr_fill ini_Arr co_Arr_fill) rfl rfl rfl (by decide +kernel) ⟨Nat.le_of_ble_eq_true rfl, Nat.le_of_ble_eq_true rfl⟩) ⟨fbQ, fun U hU hW => ⟨rfl, by rw [hU], by rw [hU]; exact hPc, va_K.moved hW.alike hKc, hDc.weaken (fun _ _ _ _ => trivial)⟩⟩ rfl rfl hl.1 rfl (lv_room (Nat.le_of_ble_eq_true rfl)) d_Code_clear_10 ⟨Nat.le_of_ble_eq_true rfl, Nat.le_of_ble_eq_true rfl⟩) hS (fun q _ h => hFc q h) hFc (fun u t H1 locs ht hvm hw hB hz1 hk1 hS => ?_)
  obtain ⟨f_a1_1, hw1_0, hP1, hK1, hD1⟩ := hB
  rw [ht] at hP1
  have hK1 := va_K.moved hvm.symm hK1
  obtain ⟨hP, hD⟩ := va_join (wr := [oc h_this 0 (fs_this.set 3 (.int 0))]) (w1 := [ic h_counts k_counts 7 f_a1_1]) hP hD [1] [0] rfl rfl (by decide) (by decide) hk1 hFc hP1 hD1
  generalize H1 = H at hP hS ⊢
  have hP : va_P (dC, dI) cls_all [oc h_this 0 (fs_this.set 3 (.int 0)), ic h_counts k_counts 7 f_a1_1] H := hP
  have hD : va_D A [oc h_this 0 (fs_this.set 3 (.int 0)), ic h_counts k_counts 7 f_a1_1] := hD
  refine lv_aload_n hx hb d_Code_clear_13 rfl (lv_at hl 0 rfl) ?_
  refine lv_iconst (v := 0) hx hb d_Code_clear_14 (by decide) ?_
  refine va_put (D := (dC, dI)) (ci := 0) (v := .int 0) (ty := .int) (C := R_Code) (T := F_Code) (N := 7) hx hb hT i_Code t_Code t_Code_ok n_Code hown hK hP hD hS 0 rfl rfl 5 (by decide) (hT _ fl_Code_37) (fun _ h9 => h9) rfl (by decide +kernel) rfl rfl (by simp only [List.length_set, len_this]; decide) d_Code_clear_15 (fun H locs hP hD hS => ?_)
  have hP : va_P (dC, dI) cls_all [oc h_this 0 ((fs_this.set 3 (.int 0)).set 5 (.int 0)), ic h_counts k_counts 7 f_a1_1] H := hP
  have hD : va_D A [oc h_this 0 ((fs_this.set 3 (.int 0)).set 5 (.int 0)), ic h_counts k_counts 7 f_a1_1] := hD
  refine lv_aload_n hx hb d_Code_clear_18 rfl (lv_at hl 0 rfl) ?_
  refine lv_iconst (v := (-1)) hx hb d_Code_clear_19 (by decide) ?_
  refine va_put (D := (dC, dI)) (ci := 0) (v := .int (-1)) (ty := .int) (C := R_Code) (T := F_Code) (N := 7) hx hb hT i_Code t_Code t_Code_ok n_Code hown hK hP hD hS 0 rfl rfl 6 (by decide) (hT _ fl_Code_24) (fun _ h9 => h9) rfl (by decide +kernel) rfl rfl (by simp only [List.length_set, len_this]; decide) d_Code_clear_20 (fun H locs hP hD hS => ?_)
  have hP : va_P (dC, dI) cls_all [oc h_this 0 (((fs_this.set 3 (.int 0)).set 5 (.int 0)).set 6 (.int (-1))), ic h_counts k_counts 7 f_a1_1] H := hP
  have hD : va_D A [oc h_this 0 (((fs_this.set 3 (.int 0)).set 5 (.int 0)).set 6 (.int (-1))), ic h_counts k_counts 7 f_a1_1] := hD
  have hP9 := hP.sub (ws' := [oc h_this 0 (((fs_this.set 3 (.int 0)).set 5 (.int 0)).set 6 (.int (-1))), ic h_counts k_counts 7 f_a1_1]) [0, 1] rfl
  have hD9 := hD.sub (ws' := [oc h_this 0 (((fs_this.set 3 (.int 0)).set 5 (.int 0)).set 6 (.int (-1))), ic h_counts k_counts 7 f_a1_1]) [0, 1] (by decide) rfl
  have hK9 := hK.sub (tys' := [(k_counts, .int)]) [0] rfl
  have hv2 : (((fs_this.set 3 (.int 0)).set 5 (.int 0)).set 6 (.int (-1)))[3]? = some (.int 0) := ((ls_ne (by decide)).trans ((ls_ne (by decide)).trans (ls_eq (by simp only [List.length_set, len_this]; decide))))
  have hv3 : (((fs_this.set 3 (.int 0)).set 5 (.int 0)).set 6 (.int (-1)))[5]? = some (.int 0) := ((ls_ne (by decide)).trans (ls_eq (by simp only [List.length_set, len_this]; decide)))
  have hv4 : (((fs_this.set 3 (.int 0)).set 5 (.int 0)).set 6 (.int (-1)))[6]? = some (.int (-1)) := (ls_eq (by simp only [List.length_set, len_this]; decide))
  exact W.vret hx hb hr (fun t ht hW => ⟨⟨(), rfl, trivial, (((fs_this.set 3 (.int 0)).set 5 (.int 0)).set 6 (.int (-1))), f_a1_1, ⟨(by first | exact len_this | (simp only [List.length_set]; exact len_this)), (fun j n3 n5 n6 => ((ls_ne n6).trans ((ls_ne n5).trans ((ls_ne n3).trans rfl)))), (by first | exact hv2 | (rw [hv2]; refine congrArg some (congrArg _ ?_); rfl)), (by first | exact hv3 | (rw [hv3]; refine congrArg some (congrArg _ ?_); rfl)), (by first | exact hv4 | (rw [hv4]; refine congrArg some (congrArg _ ?_); rfl)), (by assumption)⟩, by rw [ht]; exact hP9, va_K.moved hW.alike hK9, hD9⟩, hS.F ht⟩) hS.2.2 d_Code_clear_23
set_option maxHeartbeats 1000000 in
set_option maxRecDepth 100000 in
theorem c_Source_scan_0 (l : Launch) (dC : Nat → ClassId) (dI : Nat → Nat → Nat) (sz : Nat) (h_this : Nat) (h_tokenKind : Nat) (h_tokenStart : Nat) (h_kind : Nat) (h_tok : Nat) (h_next : Nat) (h_peer : Nat) (h_op : Nat) (h_left : Nat) (h_right : Nat) (h_tail : Nat) (h_a1 : Nat) (fs_this : List Value) (k_tokenKind : ClassId) (f_tokenKind : Nat → Int32) (k_tokenStart : ClassId) (f_tokenStart : Nat → Int32) (k_kind : ClassId) (f_kind : Nat → Int32) (k_tok : ClassId) (f_tok : Nat → Int32) (k_next : ClassId) (f_next : Nat → Int32) (k_peer : ClassId) (f_peer : Nat → Int32) (k_op : ClassId) (f_op : Nat → Int32) (k_left : ClassId) (f_left : Nat → Int32) (k_right : ClassId) (f_right : Nat → Int32) (k_tail : ClassId) (f_tail : Nat → Int32) (k_a1 : ClassId) (f_a1 : Nat → Int32) (len_this : fs_this.length = 16) (g_this_tokenKind : fs_this[11]? = some (.ref h_tokenKind)) (g_this_tokenStart : fs_this[12]? = some (.ref h_tokenStart)) (g_this_kind : fs_this[0]? = some (.ref h_kind)) (g_this_tok : fs_this[1]? = some (.ref h_tok)) (g_this_next : fs_this[2]? = some (.ref h_next)) (g_this_peer : fs_this[3]? = some (.ref h_peer)) (g_this_op : fs_this[4]? = some (.ref h_op)) (g_this_left : fs_this[5]? = some (.ref h_left)) (g_this_right : fs_this[6]? = some (.ref h_right)) (g_this_tail : fs_this[7]? = some (.ref h_tail)) : Met l y_Source_scan w_Source_scan ({ frames := 1, cells := 0, slots := 0, locals := 22 } : Room) (va_Pc [.ref h_this, .ref h_a1, .int 0] (fun U => U.heap.size = sz ∧ va_P (dC, dI) cls_all [oc h_this 8 fs_this, ic h_tokenKind k_tokenKind 4001 f_tokenKind, ic h_tokenStart k_tokenStart 4001 f_tokenStart, ic h_kind k_kind 4008 f_kind, ic h_tok k_tok 4008 f_tok, ic h_next k_next 4008 f_next, ic h_peer k_peer 4008 f_peer, ic h_op k_op 4008 f_op, ic h_left k_left 4008 f_left, ic h_right k_right 4008 f_right, ic h_tail k_tail 4008 f_tail, ic h_a1 k_a1 4000 f_a1] U.heap ∧ va_K (dC, dI) cls_all [(k_tokenKind, .int), (k_tokenStart, .int), (k_kind, .int), (k_tok, .int), (k_next, .int), (k_peer, .int), (k_op, .int), (k_left, .int), (k_right, .int), (k_tail, .int), (k_a1, .char)] U ∧ va_D (fun _ => True) [oc h_this 8 fs_this, ic h_tokenKind k_tokenKind 4001 f_tokenKind, ic h_tokenStart k_tokenStart 4001 f_tokenStart, ic h_kind k_kind 4008 f_kind, ic h_tok k_tok 4008 f_tok, ic h_next k_next 4008 f_next, ic h_peer k_peer 4008 f_peer, ic h_op k_op 4008 f_op, ic h_left k_left 4008 f_left, ic h_right k_right 4008 f_right, ic h_tail k_tail 4008 f_tail, ic h_a1 k_a1 4000 f_a1])) (va_Qv (fun (_ : Unit) => True) (fun _ t => ∃ (fs_this' : List Value) (f_tokenKind' : Nat → Int32) (f_tokenStart' : Nat → Int32) (f_kind' : Nat → Int32) (f_tok' : Nat → Int32) (f_next' : Nat → Int32) (f_peer' : Nat → Int32) (f_op' : Nat → Int32) (f_left' : Nat → Int32) (f_right' : Nat → Int32) (f_tail' : Nat → Int32), (fs_this'.length = 16 ∧ (∀ j : Nat, j ≠ 9 → j ≠ 10 → j ≠ 14 → j ≠ 8 → fs_this'[j]? = fs_this[j]?) ∧ fs_this'[9]? = some (.ref (h_a1)) ∧ fs_this'[10]? = some (.int (0)) ∧ fs_this'[14]? = some (.int (0)) ∧ fs_this'[8]? = some (.int (nI (0 + 1))) ∧ (f_tokenKind' = upd f_tokenKind 0 0) ∧ (f_tokenStart' = upd f_tokenStart 0 0) ∧ (f_kind' = upd f_kind 0 0) ∧ (f_tok' = upd f_tok 0 0) ∧ (f_next' = upd f_next 0 0) ∧ (f_peer' = upd f_peer 0 0) ∧ (f_op' = upd f_op 0 0) ∧ (f_left' = upd f_left 0 0) ∧ (f_right' = upd f_right 0 0) ∧ (f_tail' = upd f_tail 0 0)) ∧ va_P (dC, dI) cls_all [oc h_this 8 fs_this', ic h_tokenKind k_tokenKind 4001 f_tokenKind', ic h_tokenStart k_tokenStart 4001 f_tokenStart', ic h_kind k_kind 4008 f_kind', ic h_tok k_tok 4008 f_tok', ic h_next k_next 4008 f_next', ic h_peer k_peer 4008 f_peer', ic h_op k_op 4008 f_op', ic h_left k_left 4008 f_left', ic h_right k_right 4008 f_right', ic h_tail k_tail 4008 f_tail', ic h_a1 k_a1 4000 f_a1] t.heap ∧ va_K (dC, dI) cls_all [(k_tokenKind, .int), (k_tokenStart, .int), (k_kind, .int), (k_tok, .int), (k_next, .int), (k_peer, .int), (k_op, .int), (k_left, .int), (k_right, .int), (k_tail, .int), (k_a1, .char)] t ∧ va_D (va_A [oc h_this 8 fs_this, ic h_tokenKind k_tokenKind 4001 f_tokenKind, ic h_tokenStart k_tokenStart 4001 f_tokenStart, ic h_kind k_kind 4008 f_kind, ic h_tok k_tok 4008 f_tok, ic h_next k_next 4008 f_next, ic h_peer k_peer 4008 f_peer, ic h_op k_op 4008 f_op, ic h_left k_left 4008 f_left, ic h_right k_right 4008 f_right, ic h_tail k_tail 4008 f_tail, ic h_a1 k_a1 4000 f_a1] sz) [oc h_this 8 fs_this', ic h_tokenKind k_tokenKind 4001 f_tokenKind', ic h_tokenStart k_tokenStart 4001 f_tokenStart', ic h_kind k_kind 4008 f_kind', ic h_tok k_tok 4008 f_tok', ic h_next k_next 4008 f_next', ic h_peer k_peer 4008 f_peer', ic h_op k_op 4008 f_op', ic h_left k_left 4008 f_left', ic h_right k_right 4008 f_right', ic h_tail k_tail 4008 f_tail', ic h_a1 k_a1 4000 f_a1]) (va_A [oc h_this 8 fs_this, ic h_tokenKind k_tokenKind 4001 f_tokenKind, ic h_tokenStart k_tokenStart 4001 f_tokenStart, ic h_kind k_kind 4008 f_kind, ic h_tok k_tok 4008 f_tok, ic h_next k_next 4008 f_next, ic h_peer k_peer 4008 f_peer, ic h_op k_op 4008 f_op, ic h_left k_left 4008 f_left, ic h_right k_right 4008 f_right, ic h_tail k_tail 4008 f_tail, ic h_a1 k_a1 4000 f_a1] sz)) 0 0 (va_A [oc h_this 8 fs_this, ic h_tokenKind k_tokenKind 4001 f_tokenKind, ic h_tokenStart k_tokenStart 4001 f_tokenStart, ic h_kind k_kind 4008 f_kind, ic h_tok k_tok 4008 f_tok, ic h_next k_next 4008 f_next, ic h_peer k_peer 4008 f_peer, ic h_op k_op 4008 f_op, ic h_left k_left 4008 f_left, ic h_right k_right 4008 f_right, ic h_tail k_tail 4008 f_tail, ic h_a1 k_a1 4000 f_a1] sz) := by
  refine Met.ofW (cc := b_Source_scan) (maxL := 4) (ret := none) (by decide) rfl ?_
  intro p e s m args below meth c s₁ B hml hv
  obtain ⟨rfl, hsz, hP, hK, hD0⟩ := hv
  have hx := B.exec
  have hb := B.bytes
  have hr := B.returns
  have hT : ∀ w ∈ lw_good, w.before _ s = true := fun w h => atoms_spec (ws := w_Source_scan) B.pre w (List.mem_cons_of_mem _ h)
  have hown : s.vm.findClass R_Source = some m.cls := findClass_of_methodNamed B.named
  have hlocks := B.notSynchronized
  subst hsz
  have hD := hD0.self (sz := s.heap.size)
  generalize hAe : va_A [oc h_this 8 fs_this, ic h_tokenKind k_tokenKind 4001 f_tokenKind, ic h_tokenStart k_tokenStart 4001 f_tokenStart, ic h_kind k_kind 4008 f_kind, ic h_tok k_tok 4008 f_tok, ic h_next k_next 4008 f_next, ic h_peer k_peer 4008 f_peer, ic h_op k_op 4008 f_op, ic h_left k_left 4008 f_left, ic h_right k_right 4008 f_right, ic h_tail k_tail 4008 f_tail, ic h_a1 k_a1 4000 f_a1] s.heap.size = A at hD ⊢
  have hA : ∀ q : Nat, s.heap.size ≤ q → A q := fun q h => by rw [← hAe]; exact Or.inr h
  have hS : va_S A s.heap s.heap [] := va_S.rf
  have hP : va_P (dC, dI) cls_all [oc h_this 8 fs_this, ic h_tokenKind k_tokenKind 4001 f_tokenKind, ic h_tokenStart k_tokenStart 4001 f_tokenStart, ic h_kind k_kind 4008 f_kind, ic h_tok k_tok 4008 f_tok, ic h_next k_next 4008 f_next, ic h_peer k_peer 4008 f_peer, ic h_op k_op 4008 f_op, ic h_left k_left 4008 f_left, ic h_right k_right 4008 f_right, ic h_tail k_tail 4008 f_tail, ic h_a1 k_a1 4000 f_a1] s.heap := hP
  have hl := lv_entry ([.ref h_this, .ref h_a1, .int 0]) (n := 4) (Nat.le_of_ble_eq_true rfl)
  rw [lg_entry_eq]
  generalize (lg_sl ([.ref h_this, .ref h_a1, .int 0]) ++ List.replicate (4 - (lg_sl ([.ref h_this, .ref h_a1, .int 0])).length) Slot.unset).toArray = ls at hl ⊢
  have hl : lv_has ls 4 [(0, .ref h_this), (1, .ref h_a1), (2, .int 0)] := hl
  refine lv_aload_n hx hb d_Source_scan_0 rfl (lv_at hl 0 rfl) ?_
  refine lv_aload_n hx hb d_Source_scan_1 rfl (lv_at hl 1 rfl) ?_
  refine va_put (D := (dC, dI)) (ci := 8) (v := .ref h_a1) (ty := .array .char) (C := R_Source) (T := F_Source) (N := 16) hx hb hT i_Source t_Source t_Source_ok n_Source hown hK hP hD hS 0 rfl rfl 9 (by decide) (hT _ fl_Source_73) (fun _ h9 => h9) rfl (by decide +kernel) rfl rfl (by simp only [List.length_set, len_this]; decide) d_Source_scan_2 (fun H locs hP hD hS => ?_)
  have hP : va_P (dC, dI) cls_all [oc h_this 8 (fs_this.set 9 (.ref h_a1)), ic h_tokenKind k_tokenKind 4001 f_tokenKind, ic h_tokenStart k_tokenStart 4001 f_tokenStart, ic h_kind k_kind 4008 f_kind, ic h_tok k_tok 4008 f_tok, ic h_next k_next 4008 f_next, ic h_peer k_peer 4008 f_peer, ic h_op k_op 4008 f_op, ic h_left k_left 4008 f_left, ic h_right k_right 4008 f_right, ic h_tail k_tail 4008 f_tail, ic h_a1 k_a1 4000 f_a1] H := hP
  have hD : va_D A [oc h_this 8 (fs_this.set 9 (.ref h_a1)), ic h_tokenKind k_tokenKind 4001 f_tokenKind, ic h_tokenStart k_tokenStart 4001 f_tokenStart, ic h_kind k_kind 4008 f_kind, ic h_tok k_tok 4008 f_tok, ic h_next k_next 4008 f_next, ic h_peer k_peer 4008 f_peer, ic h_op k_op 4008 f_op, ic h_left k_left 4008 f_left, ic h_right k_right 4008 f_right, ic h_tail k_tail 4008 f_tail, ic h_a1 k_a1 4000 f_a1] := hD
  refine lv_aload_n hx hb d_Source_scan_5 rfl (lv_at hl 0 rfl) ?_
  refine lv_iload_n hx hb d_Source_scan_6 rfl (lv_at hl 2 rfl) ?_
  refine lv_aload_n hx hb d_Source_scan_7 rfl (lv_at hl 1 rfl) ?_
  refine va_alen (v := 4000) hx hb hK hP 11 10 rfl rfl rfl d_Source_scan_8 ?_
  refine va_mmin hx hb (hml.trans hl.1.symm) hown (hT _ ml_Source_77) (hT _ st_Math_min) (hT _ ini_Math) (hT _ co_Math_min) (Nat.le_of_ble_eq_true rfl) (Nat.le_of_ble_eq_true rfl) (Nat.le_of_ble_eq_true rfl) (Nat.le_of_ble_eq_true rfl) d_Source_scan_9 ?_
  refine lv_topi (fun x1 e1 => ?_)
  obtain rfl : x1 = 0 := e1.trans (by decide)
  refine va_put (D := (dC, dI)) (ci := 8) (v := .int 0) (ty := .int) (C := R_Source) (T := F_Source) (N := 16) hx hb hT i_Source t_Source t_Source_ok n_Source hown hK hP hD hS 0 rfl rfl 10 (by decide) (hT _ fl_Source_83) (fun _ h9 => h9) rfl (by decide +kernel) rfl rfl (by simp only [List.length_set, len_this]; decide) d_Source_scan_12 (fun H locs hP hD hS => ?_)
  have hP : va_P (dC, dI) cls_all [oc h_this 8 ((fs_this.set 9 (.ref h_a1)).set 10 (.int 0)), ic h_tokenKind k_tokenKind 4001 f_tokenKind, ic h_tokenStart k_tokenStart 4001 f_tokenStart, ic h_kind k_kind 4008 f_kind, ic h_tok k_tok 4008 f_tok, ic h_next k_next 4008 f_next, ic h_peer k_peer 4008 f_peer, ic h_op k_op 4008 f_op, ic h_left k_left 4008 f_left, ic h_right k_right 4008 f_right, ic h_tail k_tail 4008 f_tail, ic h_a1 k_a1 4000 f_a1] H := hP
  have hD : va_D A [oc h_this 8 ((fs_this.set 9 (.ref h_a1)).set 10 (.int 0)), ic h_tokenKind k_tokenKind 4001 f_tokenKind, ic h_tokenStart k_tokenStart 4001 f_tokenStart, ic h_kind k_kind 4008 f_kind, ic h_tok k_tok 4008 f_tok, ic h_next k_next 4008 f_next, ic h_peer k_peer 4008 f_peer, ic h_op k_op 4008 f_op, ic h_left k_left 4008 f_left, ic h_right k_right 4008 f_right, ic h_tail k_tail 4008 f_tail, ic h_a1 k_a1 4000 f_a1] := hD
  refine lv_aload_n hx hb d_Source_scan_15 rfl (lv_at hl 0 rfl) ?_
  refine lv_iconst (v := 0) hx hb d_Source_scan_16 (by decide) ?_
  refine va_put (D := (dC, dI)) (ci := 8) (v := .int 0) (ty := .int) (C := R_Source) (T := F_Source) (N := 16) hx hb hT i_Source t_Source t_Source_ok n_Source hown hK hP hD hS 0 rfl rfl 14 (by decide) (hT _ fl_Source_86) (fun _ h9 => h9) rfl (by decide +kernel) rfl rfl (by simp only [List.length_set, len_this]; decide) d_Source_scan_17 (fun H locs hP hD hS => ?_)
  have hP : va_P (dC, dI) cls_all [oc h_this 8 (((fs_this.set 9 (.ref h_a1)).set 10 (.int 0)).set 14 (.int 0)), ic h_tokenKind k_tokenKind 4001 f_tokenKind, ic h_tokenStart k_tokenStart 4001 f_tokenStart, ic h_kind k_kind 4008 f_kind, ic h_tok k_tok 4008 f_tok, ic h_next k_next 4008 f_next, ic h_peer k_peer 4008 f_peer, ic h_op k_op 4008 f_op, ic h_left k_left 4008 f_left, ic h_right k_right 4008 f_right, ic h_tail k_tail 4008 f_tail, ic h_a1 k_a1 4000 f_a1] H := hP
  have hD : va_D A [oc h_this 8 (((fs_this.set 9 (.ref h_a1)).set 10 (.int 0)).set 14 (.int 0)), ic h_tokenKind k_tokenKind 4001 f_tokenKind, ic h_tokenStart k_tokenStart 4001 f_tokenStart, ic h_kind k_kind 4008 f_kind, ic h_tok k_tok 4008 f_tok, ic h_next k_next 4008 f_next, ic h_peer k_peer 4008 f_peer, ic h_op k_op 4008 f_op, ic h_left k_left 4008 f_left, ic h_right k_right 4008 f_right, ic h_tail k_tail 4008 f_tail, ic h_a1 k_a1 4000 f_a1] := hD
  refine lv_iconst (v := 0) hx hb d_Source_scan_20 (by decide) ?_
  refine lv_istore_n (lv' := [(3, .int 0), (0, .ref h_this), (1, .ref h_a1), (2, .int 0)]) hx hb d_Source_scan_21 rfl hl (by decide) rfl (fun ls hl => ?_)
  refine lv_iload_n hx hb d_Source_scan_22 rfl (lv_at hl 0 rfl) ?_
  refine lv_aload_n hx hb d_Source_scan_23 rfl (lv_at hl 1 rfl) ?_
  refine va_get (D := (dC, dI)) (ci := 8) (v := .int 0) (C := R_Source) (T := F_Source) (N := 16) hx hb hT i_Source hown hK hP 0 rfl rfl 10 (by decide) (hT _ fl_Source_83) (fun _ h9 => h9) ((ls_ne (by decide)).trans (ls_eq (by simp only [List.length_set, len_this]; decide))) d_Source_scan_24 ?_
  refine lv_icmp_ge (tgt := 45) hx hb d_Source_scan_27 (by decide) (fun _ => ?_) (fun c2 => absurd (by decide) c2)
  refine lv_aload_n hx hb d_Source_scan_45 rfl (lv_at hl 1 rfl) ?_
  refine va_get (D := (dC, dI)) (ci := 8) (v := .ref h_tokenKind) (C := R_Source) (T := F_Source) (N := 16) hx hb hT i_Source hown hK hP 0 rfl rfl 11 (by decide) (hT _ fl_Source_36) (fun _ h9 => h9) ((ls_ne (by decide)).trans ((ls_ne (by decide)).trans ((ls_ne (by decide)).trans g_this_tokenKind))) d_Source_scan_46 ?_
  refine lv_aload_n hx hb d_Source_scan_49 rfl (lv_at hl 1 rfl) ?_
  refine va_get (D := (dC, dI)) (ci := 8) (v := .int 0) (C := R_Source) (T := F_Source) (N := 16) hx hb hT i_Source hown hK hP 0 rfl rfl 14 (by decide) (hT _ fl_Source_86) (fun _ h9 => h9) (ls_eq (by simp only [List.length_set, len_this]; decide)) d_Source_scan_50 ?_
  refine lv_iconst (v := 0) hx hb d_Source_scan_53 (by decide) ?_
  refine va_iast hx hb hK hP hD hS 1 0 rfl rfl (by unfold vp_in; decide) d_Source_scan_54 (fun H locs hP hD hS => ?_)
  have es3 : upd f_tokenKind (0 : Int32).toNatClampNeg 0 = upd f_tokenKind 0 0 := rfl
  have hP : va_P (dC, dI) cls_all [oc h_this 8 (((fs_this.set 9 (.ref h_a1)).set 10 (.int 0)).set 14 (.int 0)), ic h_tokenKind k_tokenKind 4001 (upd f_tokenKind (0 : Int32).toNatClampNeg 0), ic h_tokenStart k_tokenStart 4001 f_tokenStart, ic h_kind k_kind 4008 f_kind, ic h_tok k_tok 4008 f_tok, ic h_next k_next 4008 f_next, ic h_peer k_peer 4008 f_peer, ic h_op k_op 4008 f_op, ic h_left k_left 4008 f_left, ic h_right k_right 4008 f_right, ic h_tail k_tail 4008 f_tail, ic h_a1 k_a1 4000 f_a1] H := hP
  have hD : va_D A [oc h_this 8 (((fs_this.set 9 (.ref h_a1)).set 10 (.int 0)).set 14 (.int 0)), ic h_tokenKind k_tokenKind 4001 (upd f_tokenKind (0 : Int32).toNatClampNeg 0), ic h_tokenStart k_tokenStart 4001 f_tokenStart, ic h_kind k_kind 4008 f_kind, ic h_tok k_tok 4008 f_tok, ic h_next k_next 4008 f_next, ic h_peer k_peer 4008 f_peer, ic h_op k_op 4008 f_op, ic h_left k_left 4008 f_left, ic h_right k_right 4008 f_right, ic h_tail k_tail 4008 f_tail, ic h_a1 k_a1 4000 f_a1] := hD
  rw [es3] at hP hD
  obtain ⟨f3, ef3⟩ : ∃ g, g = upd f_tokenKind 0 0 := ⟨_, rfl⟩
  rw [← ef3] at hP hD
  refine lv_aload_n hx hb d_Source_scan_55 rfl (lv_at hl 1 rfl) ?_
  refine va_get (D := (dC, dI)) (ci := 8) (v := .ref h_tokenStart) (C := R_Source) (T := F_Source) (N := 16) hx hb hT i_Source hown hK hP 0 rfl rfl 12 (by decide) (hT _ fl_Source_39) (fun _ h9 => h9) ((ls_ne (by decide)).trans ((ls_ne (by decide)).trans ((ls_ne (by decide)).trans g_this_tokenStart))) d_Source_scan_56 ?_
  refine lv_aload_n hx hb d_Source_scan_59 rfl (lv_at hl 1 rfl) ?_
  refine va_get (D := (dC, dI)) (ci := 8) (v := .int 0) (C := R_Source) (T := F_Source) (N := 16) hx hb hT i_Source hown hK hP 0 rfl rfl 14 (by decide) (hT _ fl_Source_86) (fun _ h9 => h9) (ls_eq (by simp only [List.length_set, len_this]; decide)) d_Source_scan_60 ?_
  refine lv_aload_n hx hb d_Source_scan_63 rfl (lv_at hl 1 rfl) ?_
  refine va_get (D := (dC, dI)) (ci := 8) (v := .int 0) (C := R_Source) (T := F_Source) (N := 16) hx hb hT i_Source hown hK hP 0 rfl rfl 10 (by decide) (hT _ fl_Source_83) (fun _ h9 => h9) ((ls_ne (by decide)).trans (ls_eq (by simp only [List.length_set, len_this]; decide))) d_Source_scan_64 ?_
  refine va_iast hx hb hK hP hD hS 2 1 rfl rfl (by unfold vp_in; decide) d_Source_scan_67 (fun H locs hP hD hS => ?_)
  have es4 : upd f_tokenStart (0 : Int32).toNatClampNeg 0 = upd f_tokenStart 0 0 := rfl
  have hP : va_P (dC, dI) cls_all [oc h_this 8 (((fs_this.set 9 (.ref h_a1)).set 10 (.int 0)).set 14 (.int 0)), ic h_tokenKind k_tokenKind 4001 f3, ic h_tokenStart k_tokenStart 4001 (upd f_tokenStart (0 : Int32).toNatClampNeg 0), ic h_kind k_kind 4008 f_kind, ic h_tok k_tok 4008 f_tok, ic h_next k_next 4008 f_next, ic h_peer k_peer 4008 f_peer, ic h_op k_op 4008 f_op, ic h_left k_left 4008 f_left, ic h_right k_right 4008 f_right, ic h_tail k_tail 4008 f_tail, ic h_a1 k_a1 4000 f_a1] H := hP
  have hD : va_D A [oc h_this 8 (((fs_this.set 9 (.ref h_a1)).set 10 (.int 0)).set 14 (.int 0)), ic h_tokenKind k_tokenKind 4001 f3, ic h_tokenStart k_tokenStart 4001 (upd f_tokenStart (0 : Int32).toNatClampNeg 0), ic h_kind k_kind 4008 f_kind, ic h_tok k_tok 4008 f_tok, ic h_next k_next 4008 f_next, ic h_peer k_peer 4008 f_peer, ic h_op k_op 4008 f_op, ic h_left k_left 4008 f_left, ic h_right k_right 4008 f_right, ic h_tail k_tail 4008 f_tail, ic h_a1 k_a1 4000 f_a1] := hD
  rw [es4] at hP hD
  obtain ⟨f4, ef4⟩ : ∃ g, g = upd f_tokenStart 0 0 := ⟨_, rfl⟩
  rw [← ef4] at hP hD
  refine lv_aload_n hx hb d_Source_scan_68 rfl (lv_at hl 1 rfl) ?_
  refine lv_iconst (v := 0) hx hb d_Source_scan_69 (by decide) ?_
  refine va_put (D := (dC, dI)) (ci := 8) (v := .int 0) (ty := .int) (C := R_Source) (T := F_Source) (N := 16) hx hb hT i_Source t_Source t_Source_ok n_Source hown hK hP hD hS 0 rfl rfl 8 (by decide) (hT _ fl_Source_96) (fun _ h9 => h9) rfl (by decide +kernel) rfl rfl (by simp only [List.length_set, len_this]; decide) d_Source_scan_70 (fun H locs hP hD hS => ?_)
  have hP : va_P (dC, dI) cls_all [oc h_this 8 ((((fs_this.set 9 (.ref h_a1)).set 10 (.int 0)).set 14 (.int 0)).set 8 (.int 0)), ic h_tokenKind k_tokenKind 4001 f3, ic h_tokenStart k_tokenStart 4001 f4, ic h_kind k_kind 4008 f_kind, ic h_tok k_tok 4008 f_tok, ic h_next k_next 4008 f_next, ic h_peer k_peer 4008 f_peer, ic h_op k_op 4008 f_op, ic h_left k_left 4008 f_left, ic h_right k_right 4008 f_right, ic h_tail k_tail 4008 f_tail, ic h_a1 k_a1 4000 f_a1] H := hP
  have hD : va_D A [oc h_this 8 ((((fs_this.set 9 (.ref h_a1)).set 10 (.int 0)).set 14 (.int 0)).set 8 (.int 0)), ic h_tokenKind k_tokenKind 4001 f3, ic h_tokenStart k_tokenStart 4001 f4, ic h_kind k_kind 4008 f_kind, ic h_tok k_tok 4008 f_tok, ic h_next k_next 4008 f_next, ic h_peer k_peer 4008 f_peer, ic h_op k_op 4008 f_op, ic h_left k_left 4008 f_left, ic h_right k_right 4008 f_right, ic h_tail k_tail 4008 f_tail, ic h_a1 k_a1 4000 f_a1] := hD
  refine lv_aload_n hx hb d_Source_scan_73 rfl (lv_at hl 1 rfl) ?_
  refine lv_iconst (v := 0) hx hb d_Source_scan_74 (by decide) ?_
  refine lv_iconst (v := 0) hx hb d_Source_scan_75 (by decide) ?_
  have hPc := hP.sub (ws' := [oc h_this 8 ((((fs_this.set 9 (.ref h_a1)).set 10 (.int 0)).set 14 (.int 0)).set 8 (.int 0)), ic h_kind k_kind 4008 f_kind, ic h_tok k_tok 4008 f_tok, ic h_next k_next 4008 f_next, ic h_peer k_peer 4008 f_peer, ic h_op k_op 4008 f_op, ic h_left k_left 4008 f_left, ic h_right k_right 4008 f_right, ic h_tail k_tail 4008 f_tail]) [0, 3, 4, 5, 6, 7, 8, 9, 10] rfl
  have hKc := hK.sub (tys' := [(k_kind, .int), (k_tok, .int), (k_next, .int), (k_peer, .int), (k_op, .int), (k_left, .int), (k_right, .int), (k_tail, .int)]) [2, 3, 4, 5, 6, 7, 8, 9] rfl
  have hDc := hD.sub (ws' := [oc h_this 8 ((((fs_this.set 9 (.ref h_a1)).set 10 (.int 0)).set 14 (.int 0)).set 8 (.int 0)), ic h_kind k_kind 4008 f_kind, ic h_tok k_tok 4008 f_tok, ic h_next k_next 4008 f_next, ic h_peer k_peer 4008 f_peer, ic h_op k_op 4008 f_op, ic h_left k_left 4008 f_left, ic h_right k_right 4008 f_right, ic h_tail k_tail 4008 f_tail]) [0, 3, 4, 5, 6, 7, 8, 9, 10] (by decide) rfl
  have hFc := va_free (wc := [oc h_this 8 ((((fs_this.set 9 (.ref h_a1)).set 10 (.int 0)).set 14 (.int 0)).set 8 (.int 0)), ic h_kind k_kind 4008 f_kind, ic h_tok k_tok 4008 f_tok, ic h_next k_next 4008 f_next, ic h_peer k_peer 4008 f_peer, ic h_op k_op 4008 f_op, ic h_left k_left 4008 f_left, ic h_right k_right 4008 f_right, ic h_tail k_tail 4008 f_tail]) hD hS hA [0, 3, 4, 5, 6, 7, 8, 9, 10] rfl
  refine va_calli (va_runV (As := [.int 0, .int 0]) (rest := []) ⟨hx, hb, hml, hown, hT⟩ (c_Source_addNode_in l dC dI (sz := H.size) (h_this := h_this) (h_kind := h_kind) (h_tok := h_tok) (h_next := h_next) (h_peer := h_peer) (h_op := h_op) (h_left := h_left) (h_right := h_right) (h_tail := h_tail) (fs_this := ((((fs_this.set 9 (.ref h_a1)).set 10 (.int 0)).set 14 (.int 0)).set 8 (.int 0))) (k_kind := k_kind) (f_kind := f_kind) (k_tok := k_tok) (f_tok := f_tok) (k_next := k_next) (f_next := f_next) (k_peer := k_peer) (f_peer := f_peer) (k_op := k_op) (f_op := f_op) (k_left := k_left) (f_left := f_left) (k_right := k_right) (f_right := f_right) (k_tail := k_tail) (f_tail := f_tail) (p1 := 0) (p2 := 0) (n := 0) (len_this := (by first | exact len_this | (simp only [List.length_set]; exact len_this))) (g_this_nodes := (ls_eq (by simp only [List.length_set, len_this]; decide))) (g_this_kind := ((ls_ne (by decide)).trans ((ls_ne (by decide)).trans ((ls_ne (by decide)).trans ((ls_ne (by decide)).trans g_this_kind))))) (g_this_tok := ((ls_ne (by decide)).trans ((ls_ne (by decide)).trans ((ls_ne (by decide)).trans ((ls_ne (by decide)).trans g_this_tok))))) (g_this_next := ((ls_ne (by decide)).trans ((ls_ne (by decide)).trans ((ls_ne (by decide)).trans ((ls_ne (by decide)).trans g_this_next))))) (g_this_peer := ((ls_ne (by decide)).trans ((ls_ne (by decide)).trans ((ls_ne (by decide)).trans ((ls_ne (by decide)).trans g_this_peer))))) (g_this_op := ((ls_ne (by decide)).trans ((ls_ne (by decide)).trans ((ls_ne (by decide)).trans ((ls_ne (by decide)).trans g_this_op))))) (g_this_left := ((ls_ne (by decide)).trans ((ls_ne (by decide)).trans ((ls_ne (by decide)).trans ((ls_ne (by decide)).trans g_this_left))))) (g_this_right := ((ls_ne (by decide)).trans ((ls_ne (by decide)).trans ((ls_ne (by decide)).trans ((ls_ne (by decide)).trans g_this_right))))) (g_this_tail := ((ls_ne (by decide)).trans ((ls_ne (by decide)).trans ((ls_ne (by decide)).trans ((ls_ne (by decide)).trans g_this_tail))))) (hn := (by decide))) (cwV 2 hT (gV ml_Source_99 im_Source_addNode se_Source_addNode ini_Source co_Source_addNode) rfl rfl rfl (by decide +kernel) ⟨Nat.le_of_ble_eq_true rfl, Nat.le_of_ble_eq_true rfl⟩) ⟨fbQ, va_recv hKc hPc (ci := 8) (q0 := 0) rfl rfl, fun U hU hW => ⟨rfl, by rw [hU], by rw [hU]; exact hPc, va_K.moved hW.alike hKc, hDc.weaken (fun _ _ _ _ => trivial)⟩⟩ rfl rfl hl.1 rfl (lv_room (Nat.le_of_ble_eq_true rfl)) d_Source_scan_76 ⟨Nat.le_of_ble_eq_true rfl, Nat.le_of_ble_eq_true rfl⟩) hS (fun q _ h => hFc q h) hFc (fun r5 u t H1 locs ht hvm hw hB hz1 hk1 hS => ?_)
  subst hw
  obtain ⟨fs_this_5, f_kind_5, f_tok_5, f_next_5, f_peer_5, f_op_5, f_left_5, f_right_5, f_tail_5, ⟨hw5_0, hw5_1, hw5_2, hw5_3, hw5_4, hw5_5, hw5_6, hw5_7, hw5_8, hw5_9, hw5_10, hw5_11⟩, hP1, hK1, hD1⟩ := hB
  rw [ht] at hP1
  have hK1 := va_K.moved hvm.symm hK1
  obtain ⟨hP, hD⟩ := va_join (wr := [ic h_tokenKind k_tokenKind 4001 f3, ic h_tokenStart k_tokenStart 4001 f4, ic h_a1 k_a1 4000 f_a1]) (w1 := [oc h_this 8 fs_this_5, ic h_kind k_kind 4008 f_kind_5, ic h_tok k_tok 4008 f_tok_5, ic h_next k_next 4008 f_next_5, ic h_peer k_peer 4008 f_peer_5, ic h_op k_op 4008 f_op_5, ic h_left k_left 4008 f_left_5, ic h_right k_right 4008 f_right_5, ic h_tail k_tail 4008 f_tail_5]) hP hD [0, 3, 4, 5, 6, 7, 8, 9, 10] [1, 2, 11] rfl rfl (by decide) (by decide) hk1 hFc hP1 hD1
  generalize H1 = H at hP hS ⊢
  have hP : va_P (dC, dI) cls_all [ic h_tokenKind k_tokenKind 4001 f3, ic h_tokenStart k_tokenStart 4001 f4, ic h_a1 k_a1 4000 f_a1, oc h_this 8 fs_this_5, ic h_kind k_kind 4008 f_kind_5, ic h_tok k_tok 4008 f_tok_5, ic h_next k_next 4008 f_next_5, ic h_peer k_peer 4008 f_peer_5, ic h_op k_op 4008 f_op_5, ic h_left k_left 4008 f_left_5, ic h_right k_right 4008 f_right_5, ic h_tail k_tail 4008 f_tail_5] H := hP
  have hD : va_D A [ic h_tokenKind k_tokenKind 4001 f3, ic h_tokenStart k_tokenStart 4001 f4, ic h_a1 k_a1 4000 f_a1, oc h_this 8 fs_this_5, ic h_kind k_kind 4008 f_kind_5, ic h_tok k_tok 4008 f_tok_5, ic h_next k_next 4008 f_next_5, ic h_peer k_peer 4008 f_peer_5, ic h_op k_op 4008 f_op_5, ic h_left k_left 4008 f_left_5, ic h_right k_right 4008 f_right_5, ic h_tail k_tail 4008 f_tail_5] := hD
  refine lv_pop hx hb d_Source_scan_79 rfl ?_
  have hP9 := hP.sub (ws' := [oc h_this 8 fs_this_5, ic h_tokenKind k_tokenKind 4001 f3, ic h_tokenStart k_tokenStart 4001 f4, ic h_kind k_kind 4008 f_kind_5, ic h_tok k_tok 4008 f_tok_5, ic h_next k_next 4008 f_next_5, ic h_peer k_peer 4008 f_peer_5, ic h_op k_op 4008 f_op_5, ic h_left k_left 4008 f_left_5, ic h_right k_right 4008 f_right_5, ic h_tail k_tail 4008 f_tail_5, ic h_a1 k_a1 4000 f_a1]) [3, 0, 1, 4, 5, 6, 7, 8, 9, 10, 11, 2] rfl
  have hD9 := hD.sub (ws' := [oc h_this 8 fs_this_5, ic h_tokenKind k_tokenKind 4001 f3, ic h_tokenStart k_tokenStart 4001 f4, ic h_kind k_kind 4008 f_kind_5, ic h_tok k_tok 4008 f_tok_5, ic h_next k_next 4008 f_next_5, ic h_peer k_peer 4008 f_peer_5, ic h_op k_op 4008 f_op_5, ic h_left k_left 4008 f_left_5, ic h_right k_right 4008 f_right_5, ic h_tail k_tail 4008 f_tail_5, ic h_a1 k_a1 4000 f_a1]) [3, 0, 1, 4, 5, 6, 7, 8, 9, 10, 11, 2] (by decide) rfl
  have hK9 := hK.sub (tys' := [(k_tokenKind, .int), (k_tokenStart, .int), (k_kind, .int), (k_tok, .int), (k_next, .int), (k_peer, .int), (k_op, .int), (k_left, .int), (k_right, .int), (k_tail, .int), (k_a1, .char)]) [0, 1, 2, 3, 4, 5, 6, 7, 8, 9, 10] rfl
  have hv6 : fs_this_5[9]? = some (.ref h_a1) := ((hw5_1 9 (by decide)).trans ((ls_ne (by decide)).trans ((ls_ne (by decide)).trans ((ls_ne (by decide)).trans (ls_eq (by simp only [List.length_set, len_this]; decide))))))
  have hv7 : fs_this_5[10]? = some (.int 0) := ((hw5_1 10 (by decide)).trans ((ls_ne (by decide)).trans ((ls_ne (by decide)).trans (ls_eq (by simp only [List.length_set, len_this]; decide)))))
  have hv8 : fs_this_5[14]? = some (.int 0) := ((hw5_1 14 (by decide)).trans ((ls_ne (by decide)).trans (ls_eq (by simp only [List.length_set, len_this]; decide))))
  have hv9 : fs_this_5[8]? = some (.int (nI (0 + 1))) := hw5_2
  exact W.vret hx hb hr (fun t ht hW => ⟨⟨(), rfl, trivial, fs_this_5, f3, f4, f_kind_5, f_tok_5, f_next_5, f_peer_5, f_op_5, f_left_5, f_right_5, f_tail_5, ⟨(by first | exact hw5_0 | (simp only [List.length_set]; exact hw5_0)), (fun j n9 n10 n14 n8 => ((hw5_1 j n8).trans ((ls_ne n8).trans ((ls_ne n14).trans ((ls_ne n10).trans ((ls_ne n9).trans rfl)))))), (by first | exact hv6 | (rw [hv6]; refine congrArg some (congrArg _ ?_); rfl)), (by first | exact hv7 | (rw [hv7]; refine congrArg some (congrArg _ ?_); rfl)), (by first | exact hv8 | (rw [hv8]; refine congrArg some (congrArg _ ?_); rfl)), (by first | exact hv9 | (rw [hv9]; refine congrArg some (congrArg _ ?_); rfl)), (by first | assumption | (subst_vars; rfl)), (by first | assumption | (subst_vars; rfl)), (by first | assumption | (subst_vars; rfl)), (by first | assumption | (subst_vars; rfl)), (by first | assumption | (subst_vars; rfl)), (by first | assumption | (subst_vars; rfl)), (by first | assumption | (subst_vars; rfl)), (by first | assumption | (subst_vars; rfl)), (by first | assumption | (subst_vars; rfl)), (by first | assumption | (subst_vars; rfl))⟩, by rw [ht]; exact hP9, va_K.moved hW.alike hK9, hD9⟩, hS.F ht⟩) hS.2.2 d_Source_scan_80
