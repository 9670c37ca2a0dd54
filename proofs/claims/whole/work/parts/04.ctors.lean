abbrev b_Code_init : ByteArray := prog_2_method_1_code
abbrev y_Code_init : MethodName := ⟨R_Code, "<init>", "()V"⟩
theorem co_Code_init : Cond.code y_Code_init b_Code_init 1 none ∈ lw_good := lg_right (i := 383) (by decide +kernel) rfl
abbrev w_Code_init : List Cond := Cond.code y_Code_init b_Code_init 1 none :: lw_good
theorem im_Code_init : Cond.instanceMethod y_Code_init ∈ lw_good := lg_right (i := 382) (by decide +kernel) rfl
theorem d_Code_init_0 : decode b_Code_init 0 = .ok (.aload_n 0, 1) := by decide +kernel
theorem d_Code_init_1 : decode b_Code_init 1 = .ok (.invokespecial 3, 3) := by decide +kernel
theorem ml_Code_3 : Cond.methodLink R_Code 3 objectInit ∈ lw_good := lg_right (i := 384) (by decide +kernel) rfl
theorem d_Code_init_4 : decode b_Code_init 4 = .ok (.aload_n 0, 1) := by decide +kernel
theorem d_Code_init_5 : decode b_Code_init 5 = .ok (.sipush 6032, 3) := by decide +kernel
theorem d_Code_init_8 : decode b_Code_init 8 = .ok (.newarray .int, 2) := by decide +kernel
theorem d_Code_init_10 : decode b_Code_init 10 = .ok (.putfield 11, 3) := by decide +kernel
theorem fl_Code_11 : Cond.fieldLink R_Code 11 "PointerHouse$Code" "op" "[I" ∈ lw_good := lg_right (i := 385) (by decide +kernel) rfl
theorem d_Code_init_13 : decode b_Code_init 13 = .ok (.aload_n 0, 1) := by decide +kernel
theorem d_Code_init_14 : decode b_Code_init 14 = .ok (.sipush 6032, 3) := by decide +kernel
theorem d_Code_init_17 : decode b_Code_init 17 = .ok (.newarray .int, 2) := by decide +kernel
theorem d_Code_init_19 : decode b_Code_init 19 = .ok (.putfield 15, 3) := by decide +kernel
theorem fl_Code_15 : Cond.fieldLink R_Code 15 "PointerHouse$Code" "first" "[I" ∈ lw_good := lg_right (i := 386) (by decide +kernel) rfl
theorem d_Code_init_22 : decode b_Code_init 22 = .ok (.aload_n 0, 1) := by decide +kernel
theorem d_Code_init_23 : decode b_Code_init 23 = .ok (.sipush 6032, 3) := by decide +kernel
theorem d_Code_init_26 : decode b_Code_init 26 = .ok (.newarray .int, 2) := by decide +kernel
theorem d_Code_init_28 : decode b_Code_init 28 = .ok (.putfield 18, 3) := by decide +kernel
theorem fl_Code_18 : Cond.fieldLink R_Code 18 "PointerHouse$Code" "second" "[I" ∈ lw_good := lg_right (i := 387) (by decide +kernel) rfl
theorem d_Code_init_31 : decode b_Code_init 31 = .ok (.aload_n 0, 1) := by decide +kernel
theorem d_Code_init_32 : decode b_Code_init 32 = .ok (.bipush 7, 2) := by decide +kernel
theorem d_Code_init_34 : decode b_Code_init 34 = .ok (.newarray .int, 2) := by decide +kernel
theorem d_Code_init_36 : decode b_Code_init 36 = .ok (.putfield 21, 3) := by decide +kernel
theorem fl_Code_21 : Cond.fieldLink R_Code 21 "PointerHouse$Code" "counts" "[I" ∈ lw_good := lg_right (i := 389) (by decide +kernel) rfl
theorem d_Code_init_39 : decode b_Code_init 39 = .ok (.aload_n 0, 1) := by decide +kernel
theorem d_Code_init_40 : decode b_Code_init 40 = .ok (.iconst (-1), 1) := by decide +kernel
theorem d_Code_init_41 : decode b_Code_init 41 = .ok (.putfield 24, 3) := by decide +kernel
theorem d_Code_init_44 : decode b_Code_init 44 = .ok (.return_, 1) := by decide +kernel
set_option maxHeartbeats 4000000 in
set_option maxRecDepth 100000 in
theorem c_Code_init (l : Launch) (dC : Nat → ClassId) (dI : Nat → Nat → Nat) (sz : Nat) (h_this : Nat) : Met l y_Code_init w_Code_init ({ frames := 1, cells := 4, slots := 18103, locals := 12 } : Room) (va_Pc [.ref h_this] (fun U => U.heap.size = sz ∧ va_P (dC, dI) cls_all [(h_this, .inr (0, ([.null, .null, .null, .int 0, .null, .int 0, .int 0] : List Value)))] U.heap ∧ va_K (dC, dI) cls_all [] U ∧ va_D (fun _ => True) [(h_this, .inr (0, ([.null, .null, .null, .int 0, .null, .int 0, .int 0] : List Value)))])) (va_Qv (fun (_ : Unit) => True) (fun _ t => ∃ (fs_this' : List Value) (h_op' : Nat) (k_op' : ClassId) (h_first' : Nat) (k_first' : ClassId) (h_second' : Nat) (k_second' : ClassId) (h_counts' : Nat) (k_counts' : ClassId), (fs_this'.length = 7 ∧ fs_this'[0]? = some (.ref (h_op')) ∧ fs_this'[1]? = some (.ref (h_first')) ∧ fs_this'[2]? = some (.ref (h_second')) ∧ fs_this'[3]? = some (.int (0)) ∧ fs_this'[4]? = some (.ref (h_counts')) ∧ fs_this'[5]? = some (.int (0)) ∧ fs_this'[6]? = some (.int (-1))) ∧ va_P (dC, dI) cls_all [(h_this, .inr (0, fs_this')), (h_op', .inl (k_op', 6032, .inl (fun _ => 0))), (h_first', .inl (k_first', 6032, .inl (fun _ => 0))), (h_second', .inl (k_second', 6032, .inl (fun _ => 0))), (h_counts', .inl (k_counts', 7, .inl (fun _ => 0)))] t.heap ∧ va_K (dC, dI) cls_all [(k_op', .int), (k_first', .int), (k_second', .int), (k_counts', .int)] t ∧ va_D (va_A [(h_this, .inr (0, ([.null, .null, .null, .int 0, .null, .int 0, .int 0] : List Value)))] sz) [(h_this, .inr (0, fs_this')), (h_op', .inl (k_op', 6032, .inl (fun _ => 0))), (h_first', .inl (k_first', 6032, .inl (fun _ => 0))), (h_second', .inl (k_second', 6032, .inl (fun _ => 0))), (h_counts', .inl (k_counts', 7, .inl (fun _ => 0)))]) (va_A [(h_this, .inr (0, ([.null, .null, .null, .int 0, .null, .int 0, .int 0] : List Value)))] sz)) 4 18103 (va_A [(h_this, .inr (0, ([.null, .null, .null, .int 0, .null, .int 0, .int 0] : List Value)))] sz) := by
  refine Met.ofW (cc := b_Code_init) (maxL := 1) (ret := none) (by decide) rfl ?_
  intro p e s m args below meth c s₁ B hml hv
  obtain ⟨rfl, hsz, hP, hK, hD0⟩ := hv
  have hx := B.exec
  have hb := B.bytes
  have hr := B.returns
  have hT : ∀ w ∈ lw_good, w.before _ s = true := fun w h => atoms_spec (ws := w_Code_init) B.pre w (List.mem_cons_of_mem _ h)
  have hown : s.vm.findClass R_Code = some m.cls := findClass_of_methodNamed B.named
  have hlocks := B.notSynchronized
  have hin : meth.name = "<init>" := (name_of_methodNamed B.named B.method).1
  subst hsz
  have hD := hD0.self (sz := s.heap.size)
  generalize hAe : va_A [(h_this, .inr (0, ([.null, .null, .null, .int 0, .null, .int 0, .int 0] : List Value)))] s.heap.size = A at hD ⊢
  have hA : ∀ q : Nat, s.heap.size ≤ q → A q := fun q h => by rw [← hAe]; exact Or.inr h
  have hS : va_S A s.heap s.heap [] := va_S.rf
  have hP : va_P (dC, dI) cls_all [(h_this, .inr (0, ([.null, .null, .null, .int 0, .null, .int 0, .int 0] : List Value)))] s.heap := hP
  have hl := lv_entry ([.ref h_this]) (n := 1) (Nat.le_of_ble_eq_true rfl)
  rw [lg_entry_eq]
  generalize (lg_sl ([.ref h_this]) ++ List.replicate (1 - (lg_sl ([.ref h_this])).length) Slot.unset).toArray = ls at hl ⊢
  have hl : lv_has ls 1 [(0, .ref h_this)] := hl
  refine lv_aload_n hx hb d_Code_init_0 rfl (lv_at hl 0 rfl) ?_
  refine W.objInit hx hb hown (hT _ ml_Code_3) (hT _ im_objectInit) (hT _ co_objectInit) rfl (by rw [hml]; exact hl.1) rfl d_Code_init_1 (Nat.le_of_ble_eq_true rfl) (Nat.le_of_ble_eq_true rfl) ?_
  refine W.eq (g2 := F0 m 4 ls []) rfl ?_
  refine lv_aload_n hx hb d_Code_init_4 rfl (lv_at hl 0 rfl) ?_
  refine lv_sipush (v := 6032) hx hb d_Code_init_5 (by decide) ?_
  refine va_newa (atype := .int) (a0 := (6032, .inl (fun _ => 0))) hx hb (hT _ ac_int) rfl hK hP hD hS hA (fun _ => rfl) (by decide +kernel) (N' := 6032) (by decide +kernel) (by decide +kernel) (Nat.le_of_ble_eq_true rfl) (Nat.le_of_ble_eq_true rfl) d_Code_init_8 (fun q1 k1 H hK hP hD hS => ?_)
  have hP : va_P (dC, dI) cls_all [(h_this, .inr (0, ([.null, .null, .null, .int 0, .null, .int 0, .int 0] : List Value))), (q1, .inl (k1, 6032, .inl (fun _ => 0)))] H := hP
  have hD : va_D A [(h_this, .inr (0, ([.null, .null, .null, .int 0, .null, .int 0, .int 0] : List Value))), (q1, .inl (k1, 6032, .inl (fun _ => 0)))] := hD
  have hK : va_K (dC, dI) cls_all [(k1, .int)] s := hK
  refine W.widen (k := 1) (n := 6032) (Nat.le_of_ble_eq_true rfl) (Nat.le_of_ble_eq_true rfl) ?_
  refine va_putF (D := (dC, dI)) (ci := 0) (v := .ref q1) (ty := .array .int) (C := R_Code) (T := F_Code) (N := 7) hx hb hT i_Code t_Code t_Code_ok n_Code hown hK hP hD hS 0 rfl rfl 0 (by decide) (hT _ fl_Code_11) (fun _ h9 => h9) rfl hin rfl (by decide +kernel) rfl rfl (Nat.le_of_ble_eq_true rfl) d_Code_init_10 (fun H locs hP hD hS => ?_)
  have hP : va_P (dC, dI) cls_all [(h_this, .inr (0, ([.ref q1, .null, .null, .int 0, .null, .int 0, .int 0] : List Value))), (q1, .inl (k1, 6032, .inl (fun _ => 0)))] H := hP
  have hD : va_D A [(h_this, .inr (0, ([.ref q1, .null, .null, .int 0, .null, .int 0, .int 0] : List Value))), (q1, .inl (k1, 6032, .inl (fun _ => 0)))] := hD
  refine lv_aload_n hx hb d_Code_init_13 rfl (lv_at hl 0 rfl) ?_
  refine lv_sipush (v := 6032) hx hb d_Code_init_14 (by decide) ?_
  refine va_newa (atype := .int) (a0 := (6032, .inl (fun _ => 0))) hx hb (hT _ ac_int) rfl hK hP hD hS hA (fun _ => rfl) (by decide +kernel) (N' := 6032) (by decide +kernel) (by decide +kernel) (Nat.le_of_ble_eq_true rfl) (Nat.le_of_ble_eq_true rfl) d_Code_init_17 (fun q2 k2 H hK hP hD hS => ?_)
  have hP : va_P (dC, dI) cls_all [(h_this, .inr (0, ([.ref q1, .null, .null, .int 0, .null, .int 0, .int 0] : List Value))), (q1, .inl (k1, 6032, .inl (fun _ => 0))), (q2, .inl (k2, 6032, .inl (fun _ => 0)))] H := hP
  have hD : va_D A [(h_this, .inr (0, ([.ref q1, .null, .null, .int 0, .null, .int 0, .int 0] : List Value))), (q1, .inl (k1, 6032, .inl (fun _ => 0))), (q2, .inl (k2, 6032, .inl (fun _ => 0)))] := hD
  have hK : va_K (dC, dI) cls_all [(k1, .int), (k2, .int)] s := hK
  refine W.widen (k := 2) (n := 12064) (Nat.le_of_ble_eq_true rfl) (Nat.le_of_ble_eq_true rfl) ?_
  refine va_putF (D := (dC, dI)) (ci := 0) (v := .ref q2) (ty := .array .int) (C := R_Code) (T := F_Code) (N := 7) hx hb hT i_Code t_Code t_Code_ok n_Code hown hK hP hD hS 0 rfl rfl 1 (by decide) (hT _ fl_Code_15) (fun _ h9 => h9) rfl hin rfl (by decide +kernel) rfl rfl (Nat.le_of_ble_eq_true rfl) d_Code_init_19 (fun H locs hP hD hS => ?_)
  have hP : va_P (dC, dI) cls_all [(h_this, .inr (0, ([.ref q1, .ref q2, .null, .int 0, .null, .int 0, .int 0] : List Value))), (q1, .inl (k1, 6032, .inl (fun _ => 0))), (q2, .inl (k2, 6032, .inl (fun _ => 0)))] H := hP
  have hD : va_D A [(h_this, .inr (0, ([.ref q1, .ref q2, .null, .int 0, .null, .int 0, .int 0] : List Value))), (q1, .inl (k1, 6032, .inl (fun _ => 0))), (q2, .inl (k2, 6032, .inl (fun _ => 0)))] := hD
  refine lv_aload_n hx hb d_Code_init_22 rfl (lv_at hl 0 rfl) ?_
  refine lv_sipush (v := 6032) hx hb d_Code_init_23 (by decide) ?_
  refine va_newa (atype := .int) (a0 := (6032, .inl (fun _ => 0))) hx hb (hT _ ac_int) rfl hK hP hD hS hA (fun _ => rfl) (by decide +kernel) (N' := 6032) (by decide +kernel) (by decide +kernel) (Nat.le_of_ble_eq_true rfl) (Nat.le_of_ble_eq_true rfl) d_Code_init_26 (fun q3 k3 H hK hP hD hS => ?_)
  have hP : va_P (dC, dI) cls_all [(h_this, .inr (0, ([.ref q1, .ref q2, .null, .int 0, .null, .int 0, .int 0] : List Value))), (q1, .inl (k1, 6032, .inl (fun _ => 0))), (q2, .inl (k2, 6032, .inl (fun _ => 0))), (q3, .inl (k3, 6032, .inl (fun _ => 0)))] H := hP
  have hD : va_D A [(h_this, .inr (0, ([.ref q1, .ref q2, .null, .int 0, .null, .int 0, .int 0] : List Value))), (q1, .inl (k1, 6032, .inl (fun _ => 0))), (q2, .inl (k2, 6032, .inl (fun _ => 0))), (q3, .inl (k3, 6032, .inl (fun _ => 0)))] := hD
  have hK : va_K (dC, dI) cls_all [(k1, .int), (k2, .int), (k3, .int)] s := hK
  refine W.widen (k := 3) (n := 18096) (Nat.le_of_ble_eq_true rfl) (Nat.le_of_ble_eq_true rfl) ?_
  refine va_putF (D := (dC, dI)) (ci := 0) (v := .ref q3) (ty := .array .int) (C := R_Code) (T := F_Code) (N := 7) hx hb hT i_Code t_Code t_Code_ok n_Code hown hK hP hD hS 0 rfl rfl 2 (by decide) (hT _ fl_Code_18) (fun _ h9 => h9) rfl hin rfl (by decide +kernel) rfl rfl (Nat.le_of_ble_eq_true rfl) d_Code_init_28 (fun H locs hP hD hS => ?_)
  have hP : va_P (dC, dI) cls_all [(h_this, .inr (0, ([.ref q1, .ref q2, .ref q3, .int 0, .null, .int 0, .int 0] : List Value))), (q1, .inl (k1, 6032, .inl (fun _ => 0))), (q2, .inl (k2, 6032, .inl (fun _ => 0))), (q3, .inl (k3, 6032, .inl (fun _ => 0)))] H := hP
  have hD : va_D A [(h_this, .inr (0, ([.ref q1, .ref q2, .ref q3, .int 0, .null, .int 0, .int 0] : List Value))), (q1, .inl (k1, 6032, .inl (fun _ => 0))), (q2, .inl (k2, 6032, .inl (fun _ => 0))), (q3, .inl (k3, 6032, .inl (fun _ => 0)))] := hD
  refine lv_aload_n hx hb d_Code_init_31 rfl (lv_at hl 0 rfl) ?_
  refine lv_bipush (v := 7) hx hb d_Code_init_32 (by decide) ?_
  refine va_newa (atype := .int) (a0 := (7, .inl (fun _ => 0))) hx hb (hT _ ac_int) rfl hK hP hD hS hA (fun _ => rfl) (by decide +kernel) (N' := 7) (by decide +kernel) (by decide +kernel) (Nat.le_of_ble_eq_true rfl) (Nat.le_of_ble_eq_true rfl) d_Code_init_34 (fun q4 k4 H hK hP hD hS => ?_)
  have hP : va_P (dC, dI) cls_all [(h_this, .inr (0, ([.ref q1, .ref q2, .ref q3, .int 0, .null, .int 0, .int 0] : List Value))), (q1, .inl (k1, 6032, .inl (fun _ => 0))), (q2, .inl (k2, 6032, .inl (fun _ => 0))), (q3, .inl (k3, 6032, .inl (fun _ => 0))), (q4, .inl (k4, 7, .inl (fun _ => 0)))] H := hP
  have hD : va_D A [(h_this, .inr (0, ([.ref q1, .ref q2, .ref q3, .int 0, .null, .int 0, .int 0] : List Value))), (q1, .inl (k1, 6032, .inl (fun _ => 0))), (q2, .inl (k2, 6032, .inl (fun _ => 0))), (q3, .inl (k3, 6032, .inl (fun _ => 0))), (q4, .inl (k4, 7, .inl (fun _ => 0)))] := hD
  have hK : va_K (dC, dI) cls_all [(k1, .int), (k2, .int), (k3, .int), (k4, .int)] s := hK
  refine W.widen (k := 4) (n := 18103) (Nat.le_of_ble_eq_true rfl) (Nat.le_of_ble_eq_true rfl) ?_
  refine va_putF (D := (dC, dI)) (ci := 0) (v := .ref q4) (ty := .array .int) (C := R_Code) (T := F_Code) (N := 7) hx hb hT i_Code t_Code t_Code_ok n_Code hown hK hP hD hS 0 rfl rfl 4 (by decide) (hT _ fl_Code_21) (fun _ h9 => h9) rfl hin rfl (by decide +kernel) rfl rfl (Nat.le_of_ble_eq_true rfl) d_Code_init_36 (fun H locs hP hD hS => ?_)
  have hP : va_P (dC, dI) cls_all [(h_this, .inr (0, ([.ref q1, .ref q2, .ref q3, .int 0, .ref q4, .int 0, .int 0] : List Value))), (q1, .inl (k1, 6032, .inl (fun _ => 0))), (q2, .inl (k2, 6032, .inl (fun _ => 0))), (q3, .inl (k3, 6032, .inl (fun _ => 0))), (q4, .inl (k4, 7, .inl (fun _ => 0)))] H := hP
  have hD : va_D A [(h_this, .inr (0, ([.ref q1, .ref q2, .ref q3, .int 0, .ref q4, .int 0, .int 0] : List Value))), (q1, .inl (k1, 6032, .inl (fun _ => 0))), (q2, .inl (k2, 6032, .inl (fun _ => 0))), (q3, .inl (k3, 6032, .inl (fun _ => 0))), (q4, .inl (k4, 7, .inl (fun _ => 0)))] := hD
  refine lv_aload_n hx hb d_Code_init_39 rfl (lv_at hl 0 rfl) ?_
  refine lv_iconst (v := (-1)) hx hb d_Code_init_40 (by decide) ?_
  refine va_put (D := (dC, dI)) (ci := 0) (v := .int (-1)) (ty := .int) (C := R_Code) (T := F_Code) (N := 7) hx hb hT i_Code t_Code t_Code_ok n_Code hown hK hP hD hS 0 rfl rfl 6 (by decide) (hT _ fl_Code_24) (fun _ h9 => h9) rfl (by decide +kernel) rfl rfl (Nat.le_of_ble_eq_true rfl) d_Code_init_41 (fun H locs hP hD hS => ?_)
  have hP : va_P (dC, dI) cls_all [(h_this, .inr (0, ([.ref q1, .ref q2, .ref q3, .int 0, .ref q4, .int 0, .int (-1)] : List Value))), (q1, .inl (k1, 6032, .inl (fun _ => 0))), (q2, .inl (k2, 6032, .inl (fun _ => 0))), (q3, .inl (k3, 6032, .inl (fun _ => 0))), (q4, .inl (k4, 7, .inl (fun _ => 0)))] H := hP
  have hD : va_D A [(h_this, .inr (0, ([.ref q1, .ref q2, .ref q3, .int 0, .ref q4, .int 0, .int (-1)] : List Value))), (q1, .inl (k1, 6032, .inl (fun _ => 0))), (q2, .inl (k2, 6032, .inl (fun _ => 0))), (q3, .inl (k3, 6032, .inl (fun _ => 0))), (q4, .inl (k4, 7, .inl (fun _ => 0)))] := hD
  have hP9 := hP.sub (ws' := [(h_this, .inr (0, ([.ref q1, .ref q2, .ref q3, .int 0, .ref q4, .int 0, .int (-1)] : List Value))), (q1, .inl (k1, 6032, .inl (fun _ => 0))), (q2, .inl (k2, 6032, .inl (fun _ => 0))), (q3, .inl (k3, 6032, .inl (fun _ => 0))), (q4, .inl (k4, 7, .inl (fun _ => 0)))]) [0, 1, 2, 3, 4] rfl
  have hD9 := hD.sub (ws' := [(h_this, .inr (0, ([.ref q1, .ref q2, .ref q3, .int 0, .ref q4, .int 0, .int (-1)] : List Value))), (q1, .inl (k1, 6032, .inl (fun _ => 0))), (q2, .inl (k2, 6032, .inl (fun _ => 0))), (q3, .inl (k3, 6032, .inl (fun _ => 0))), (q4, .inl (k4, 7, .inl (fun _ => 0)))]) [0, 1, 2, 3, 4] (by decide) rfl
  have hK9 := hK.sub (tys' := [(k1, .int), (k2, .int), (k3, .int), (k4, .int)]) [0, 1, 2, 3] rfl
  have hv5 : ([.ref q1, .ref q2, .ref q3, .int 0, .ref q4, .int 0, .int (-1)] : List Value)[0]? = some (.ref q1) := rfl
  have hv6 : ([.ref q1, .ref q2, .ref q3, .int 0, .ref q4, .int 0, .int (-1)] : List Value)[1]? = some (.ref q2) := rfl
  have hv7 : ([.ref q1, .ref q2, .ref q3, .int 0, .ref q4, .int 0, .int (-1)] : List Value)[2]? = some (.ref q3) := rfl
  have hv8 : ([.ref q1, .ref q2, .ref q3, .int 0, .ref q4, .int 0, .int (-1)] : List Value)[3]? = some (.int 0) := rfl
  have hv9 : ([.ref q1, .ref q2, .ref q3, .int 0, .ref q4, .int 0, .int (-1)] : List Value)[4]? = some (.ref q4) := rfl
  have hv10 : ([.ref q1, .ref q2, .ref q3, .int 0, .ref q4, .int 0, .int (-1)] : List Value)[5]? = some (.int 0) := rfl
  have hv11 : ([.ref q1, .ref q2, .ref q3, .int 0, .ref q4, .int 0, .int (-1)] : List Value)[6]? = some (.int (-1)) := rfl
  refine W.widen (k := 4) (n := 18103) (Nat.le_of_ble_eq_true rfl) (Nat.le_of_ble_eq_true rfl) ?_
  exact W.vret hx hb hr (fun t ht hW => ⟨⟨(), rfl, trivial, ([.ref q1, .ref q2, .ref q3, .int 0, .ref q4, .int 0, .int (-1)] : List Value), q1, k1, q2, k2, q3, k3, q4, k4, ⟨rfl, (by first | exact hv5 | (rw [hv5]; refine congrArg some (congrArg _ ?_); first | (subst_vars; rfl) | (subst_vars; decide) | (simp_all; done) | omega)), (by first | exact hv6 | (rw [hv6]; refine congrArg some (congrArg _ ?_); first | (subst_vars; rfl) | (subst_vars; decide) | (simp_all; done) | omega)), (by first | exact hv7 | (rw [hv7]; refine congrArg some (congrArg _ ?_); first | (subst_vars; rfl) | (subst_vars; decide) | (simp_all; done) | omega)), (by first | exact hv8 | (rw [hv8]; refine congrArg some (congrArg _ ?_); first | (subst_vars; rfl) | (subst_vars; decide) | (simp_all; done) | omega)), (by first | exact hv9 | (rw [hv9]; refine congrArg some (congrArg _ ?_); first | (subst_vars; rfl) | (subst_vars; decide) | (simp_all; done) | omega)), (by first | exact hv10 | (rw [hv10]; refine congrArg some (congrArg _ ?_); first | (subst_vars; rfl) | (subst_vars; decide) | (simp_all; done) | omega)), (by first | exact hv11 | (rw [hv11]; refine congrArg some (congrArg _ ?_); first | (subst_vars; rfl) | (subst_vars; decide) | (simp_all; done) | omega))⟩, by rw [ht]; exact hP9, va_K.moved hW.alike hK9, hD9⟩, hS.F ht⟩) hS.2.2 d_Code_init_44
