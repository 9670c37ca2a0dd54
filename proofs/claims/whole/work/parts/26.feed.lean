abbrev b_House_addFour : ByteArray := prog_1_method_3_code
abbrev y_House_addFour : MethodName := ⟨R_House, "addFour", "(I)V"⟩
theorem co_House_addFour : Cond.code y_House_addFour b_House_addFour 3 none ∈ lw_good := lg_in (tin_4 _ (List.mem_of_getElem? (i := 19) rfl)) rfl
abbrev w_House_addFour : List Cond := Cond.code y_House_addFour b_House_addFour 3 none :: lw_good
theorem im_House_addFour : Cond.instanceMethod y_House_addFour ∈ lw_good := lg_right (i := 738) (by decide +kernel) rfl
theorem se_House_addFour : Cond.selects R_House y_House_addFour y_House_addFour ∈ lw_good := lg_left (i := 0) (by decide +kernel) rfl
theorem d_House_addFour_0 : decode b_House_addFour 0 = .ok (.bipush 24, 2) := by decide +kernel
theorem d_House_addFour_2 : decode b_House_addFour 2 = .ok (.istore_n 2, 1) := by decide +kernel
theorem d_House_addFour_3 : decode b_House_addFour 3 = .ok (.iload_n 2, 1) := by decide +kernel
theorem d_House_addFour_4 : decode b_House_addFour 4 = .ok (.ifCond .lt 48, 3) := by decide +kernel
theorem d_House_addFour_7 : decode b_House_addFour 7 = .ok (.aload_n 0, 1) := by decide +kernel
theorem d_House_addFour_8 : decode b_House_addFour 8 = .ok (.getfield 83, 3) := by decide +kernel
theorem d_House_addFour_11 : decode b_House_addFour 11 = .ok (.aload_n 0, 1) := by decide +kernel
theorem d_House_addFour_12 : decode b_House_addFour 12 = .ok (.getfield 9, 3) := by decide +kernel
theorem d_House_addFour_15 : decode b_House_addFour 15 = .ok (.arraylength, 1) := by decide +kernel
theorem d_House_addFour_16 : decode b_House_addFour 16 = .ok (.if_icmp .ge 36, 3) := by decide +kernel
theorem d_House_addFour_19 : decode b_House_addFour 19 = .ok (.aload_n 0, 1) := by decide +kernel
theorem d_House_addFour_20 : decode b_House_addFour 20 = .ok (.getfield 9, 3) := by decide +kernel
theorem d_House_addFour_23 : decode b_House_addFour 23 = .ok (.aload_n 0, 1) := by decide +kernel
theorem d_House_addFour_24 : decode b_House_addFour 24 = .ok (.getfield 83, 3) := by decide +kernel
theorem d_House_addFour_27 : decode b_House_addFour 27 = .ok (.iload_n 1, 1) := by decide +kernel
theorem d_House_addFour_28 : decode b_House_addFour 28 = .ok (.iload_n 2, 1) := by decide +kernel
theorem d_House_addFour_29 : decode b_House_addFour 29 = .ok (.iushr, 1) := by decide +kernel
theorem d_House_addFour_30 : decode b_House_addFour 30 = .ok (.sipush 255, 3) := by decide +kernel
theorem d_House_addFour_33 : decode b_House_addFour 33 = .ok (.iand, 1) := by decide +kernel
theorem d_House_addFour_34 : decode b_House_addFour 34 = .ok (.i2c, 1) := by decide +kernel
theorem d_House_addFour_35 : decode b_House_addFour 35 = .ok (.castore, 1) := by decide +kernel
theorem d_House_addFour_36 : decode b_House_addFour 36 = .ok (.aload_n 0, 1) := by decide +kernel
theorem d_House_addFour_37 : decode b_House_addFour 37 = .ok (.dup, 1) := by decide +kernel
theorem d_House_addFour_38 : decode b_House_addFour 38 = .ok (.getfield 83, 3) := by decide +kernel
theorem d_House_addFour_41 : decode b_House_addFour 41 = .ok (.iconst 1, 1) := by decide +kernel
theorem d_House_addFour_42 : decode b_House_addFour 42 = .ok (.iadd, 1) := by decide +kernel
theorem d_House_addFour_43 : decode b_House_addFour 43 = .ok (.putfield 83, 3) := by decide +kernel
theorem d_House_addFour_46 : decode b_House_addFour 46 = .ok (.iinc 2 (-8), 3) := by decide +kernel
theorem d_House_addFour_49 : decode b_House_addFour 49 = .ok (.goto (-46), 3) := by decide +kernel
theorem d_House_addFour_52 : decode b_House_addFour 52 = .ok (.return_, 1) := by decide +kernel
abbrev b_House_feed : ByteArray := prog_1_method_2_code
abbrev y_House_feed : MethodName := ⟨R_House, "feed", "(IIIII)I"⟩
theorem co_House_feed : Cond.code y_House_feed b_House_feed 6 (some .int) ∈ lw_good := lg_in (tin_4 _ (List.mem_of_getElem? (i := 15) rfl)) rfl
abbrev w_House_feed : List Cond := Cond.code y_House_feed b_House_feed 6 (some .int) :: lw_good
theorem im_House_feed : Cond.instanceMethod y_House_feed ∈ lw_good := lg_right (i := 733) (by decide +kernel) rfl
theorem se_House_feed : Cond.selects R_House y_House_feed y_House_feed ∈ lw_good := lg_right (i := 734) (by decide +kernel) rfl
theorem d_House_feed_0 : decode b_House_feed 0 = .ok (.aload_n 0, 1) := by decide +kernel
theorem d_House_feed_1 : decode b_House_feed 1 = .ok (.getfield 83, 3) := by decide +kernel
theorem d_House_feed_4 : decode b_House_feed 4 = .ok (.bipush 20, 2) := by decide +kernel
theorem d_House_feed_6 : decode b_House_feed 6 = .ok (.iadd, 1) := by decide +kernel
theorem d_House_feed_7 : decode b_House_feed 7 = .ok (.sipush 4000, 3) := by decide +kernel
theorem d_House_feed_10 : decode b_House_feed 10 = .ok (.if_icmp .le 5, 3) := by decide +kernel
theorem d_House_feed_13 : decode b_House_feed 13 = .ok (.iconst (-1), 1) := by decide +kernel
theorem d_House_feed_14 : decode b_House_feed 14 = .ok (.ireturn, 1) := by decide +kernel
theorem d_House_feed_15 : decode b_House_feed 15 = .ok (.aload_n 0, 1) := by decide +kernel
theorem d_House_feed_16 : decode b_House_feed 16 = .ok (.iload_n 1, 1) := by decide +kernel
theorem d_House_feed_17 : decode b_House_feed 17 = .ok (.invokevirtual 87, 3) := by decide +kernel
theorem ml_House_87 : Cond.methodLink R_House 87 ⟨"PointerHouse", "addFour", "(I)V"⟩ ∈ lw_good := lg_right (i := 736) (by decide +kernel) rfl
theorem d_House_feed_20 : decode b_House_feed 20 = .ok (.aload_n 0, 1) := by decide +kernel
theorem d_House_feed_21 : decode b_House_feed 21 = .ok (.iload_n 2, 1) := by decide +kernel
theorem d_House_feed_22 : decode b_House_feed 22 = .ok (.invokevirtual 87, 3) := by decide +kernel
theorem d_House_feed_25 : decode b_House_feed 25 = .ok (.aload_n 0, 1) := by decide +kernel
theorem d_House_feed_26 : decode b_House_feed 26 = .ok (.iload_n 3, 1) := by decide +kernel
theorem d_House_feed_27 : decode b_House_feed 27 = .ok (.invokevirtual 87, 3) := by decide +kernel
theorem d_House_feed_30 : decode b_House_feed 30 = .ok (.aload_n 0, 1) := by decide +kernel
theorem d_House_feed_31 : decode b_House_feed 31 = .ok (.iload 4, 2) := by decide +kernel
theorem d_House_feed_33 : decode b_House_feed 33 = .ok (.invokevirtual 87, 3) := by decide +kernel
theorem d_House_feed_36 : decode b_House_feed 36 = .ok (.aload_n 0, 1) := by decide +kernel
theorem d_House_feed_37 : decode b_House_feed 37 = .ok (.iload 5, 2) := by decide +kernel
theorem d_House_feed_39 : decode b_House_feed 39 = .ok (.invokevirtual 87, 3) := by decide +kernel
theorem d_House_feed_42 : decode b_House_feed 42 = .ok (.aload_n 0, 1) := by decide +kernel
theorem d_House_feed_43 : decode b_House_feed 43 = .ok (.getfield 83, 3) := by decide +kernel
theorem d_House_feed_46 : decode b_House_feed 46 = .ok (.ireturn, 1) := by decide +kernel
set_option maxHeartbeats 1000000 in
set_option maxRecDepth 100000 in
theorem c_House_addFour (l : Launch) (dC : Nat → ClassId) (dI : Nat → Nat → Nat) (sz : Nat) (h_this : Nat) (h_text : Nat) (fs_this : List Value) (k_text : ClassId) (f_text : Nat → Int32) (p1 : Int32) (n : Nat) (len_this : fs_this.length = 11) (g_this_length : fs_this[1]? = some (.int (nI n))) (g_this_text : fs_this[0]? = some (.ref h_text)) (hn : n + 4 ≤ 4000) : Met l y_House_addFour w_House_addFour ({ frames := 0, cells := 0, slots := 0, locals := 0 } : Room) (va_Pc [.ref h_this, .int p1] (fun U => U.heap.size = sz ∧ va_P (dC, dI) cls_all [oc h_this 11 fs_this, ic h_text k_text 4000 f_text] U.heap ∧ va_K (dC, dI) cls_all [(k_text, .char)] U ∧ va_D (fun _ => True) [oc h_this 11 fs_this, ic h_text k_text 4000 f_text])) (va_Qv (fun (_ : Unit) => True) (fun _ t => ∃ (fs_this' : List Value) (f_text' : Nat → Int32), (fs_this'.length = 11 ∧ (∀ j : Nat, j ≠ 1 → fs_this'[j]? = fs_this[j]?) ∧ fs_this'[1]? = some (.int (nI (n + 4))) ∧ (f_text' = put4 f_text n p1)) ∧ va_P (dC, dI) cls_all [oc h_this 11 fs_this', ic h_text k_text 4000 f_text'] t.heap ∧ va_K (dC, dI) cls_all [(k_text, .char)] t ∧ va_D (va_A [oc h_this 11 fs_this, ic h_text k_text 4000 f_text] sz) [oc h_this 11 fs_this', ic h_text k_text 4000 f_text']) (va_A [oc h_this 11 fs_this, ic h_text k_text 4000 f_text] sz)) 0 0 (va_A [oc h_this 11 fs_this, ic h_text k_text 4000 f_text] sz) := by
  refine Met.ofW (cc := b_House_addFour) (maxL := 3) (ret := none) (by decide) rfl ?_
  intro p e s m args below meth c s₁ B hml hv
  obtain ⟨rfl, hsz, hP, hK, hD0⟩ := hv
  have hx := B.exec
  have hb := B.bytes
  have hr := B.returns
  have hT : ∀ w ∈ lw_good, w.before _ s = true := fun w h => atoms_spec (ws := w_House_addFour) B.pre w (List.mem_cons_of_mem _ h)
  have hown : s.vm.findClass R_House = some m.cls := findClass_of_methodNamed B.named
  have hlocks := B.notSynchronized
  subst hsz
  have hD := hD0.self (sz := s.heap.size)
  generalize hAe : va_A [oc h_this 11 fs_this, ic h_text k_text 4000 f_text] s.heap.size = A at hD ⊢
  have hA : ∀ q : Nat, s.heap.size ≤ q → A q := fun q h => by rw [← hAe]; exact Or.inr h
  have hS : va_S A s.heap s.heap [] := va_S.rf
  have hP : va_P (dC, dI) cls_all [oc h_this 11 fs_this, ic h_text k_text 4000 f_text] s.heap := hP
  have hl := lv_entry ([.ref h_this, .int p1]) (n := 3) (Nat.le_of_ble_eq_true rfl)
  rw [lg_entry_eq]
  generalize (lg_sl ([.ref h_this, .int p1]) ++ List.replicate (3 - (lg_sl ([.ref h_this, .int p1])).length) Slot.unset).toArray = ls at hl ⊢
  have hl : lv_has ls 3 [(0, .ref h_this), (1, .int p1)] := hl
  refine lv_bipush (v := 24) hx hb d_House_addFour_0 (by decide) ?_
  refine lv_istore_n (lv' := [(2, .int 24), (0, .ref h_this), (1, .int p1)]) hx hb d_House_addFour_2 rfl hl (by decide) rfl (fun ls hl => ?_)
  refine lv_iload_n hx hb d_House_addFour_3 rfl (lv_at hl 0 rfl) ?_
  refine lv_if_lt (tgt := 52) hx hb d_House_addFour_4 (by decide) (fun c1 => absurd c1 (by decide)) (fun _ => ?_)
  refine lv_aload_n hx hb d_House_addFour_7 rfl (lv_at hl 1 rfl) ?_
  refine va_get (D := (dC, dI)) (ci := 11) (v := .int (nI n)) (C := R_House) (T := F_House) (N := 11) hx hb hT i_House hown hK hP 0 rfl rfl 1 (by decide) (hT _ fl_House_83) (fun _ h9 => h9) g_this_length d_House_addFour_8 ?_
  refine lv_aload_n hx hb d_House_addFour_11 rfl (lv_at hl 1 rfl) ?_
  refine va_get (D := (dC, dI)) (ci := 11) (v := .ref h_text) (C := R_House) (T := F_House) (N := 11) hx hb hT i_House hown hK hP 0 rfl rfl 0 (by decide) (hT _ fl_House_9) (fun _ h9 => h9) g_this_text d_House_addFour_12 ?_
  refine va_alen (v := 4000) hx hb hK hP 1 0 rfl rfl rfl d_House_addFour_15 ?_
  refine lv_icmp_ge (tgt := 52) hx hb d_House_addFour_16 (by decide) (fun c2 => absurd c2 (nle_lit (N := 4000) (by omega) (by decide))) (fun c2 => ?_)
  refine lv_aload_n hx hb d_House_addFour_19 rfl (lv_at hl 1 rfl) ?_
  refine va_get (D := (dC, dI)) (ci := 11) (v := .ref h_text) (C := R_House) (T := F_House) (N := 11) hx hb hT i_House hown hK hP 0 rfl rfl 0 (by decide) (hT _ fl_House_9) (fun _ h9 => h9) g_this_text d_House_addFour_20 ?_
  refine lv_aload_n hx hb d_House_addFour_23 rfl (lv_at hl 1 rfl) ?_
  refine va_get (D := (dC, dI)) (ci := 11) (v := .int (nI n)) (C := R_House) (T := F_House) (N := 11) hx hb hT i_House hown hK hP 0 rfl rfl 1 (by decide) (hT _ fl_House_83) (fun _ h9 => h9) g_this_length d_House_addFour_24 ?_
  refine lv_iload_n hx hb d_House_addFour_27 rfl (lv_at hl 2 rfl) ?_
  refine lv_iload_n hx hb d_House_addFour_28 rfl (lv_at hl 0 rfl) ?_
  obtain ⟨x3, e3⟩ : ∃ z : Int32, (p1.toUInt32 >>> (Int32.toUInt32 24 &&& Int32.toUInt32 31)).toInt32 = z := ⟨_, rfl⟩
  refine lv_iushr (v := x3) hx hb d_House_addFour_29 e3 ?_
  refine lv_sipush (v := 255) hx hb d_House_addFour_30 (by decide) ?_
  refine lv_iand hx hb d_House_addFour_33 ?_
  refine lv_topi (fun x4 e4 => ?_)
  obtain ⟨x5, e5⟩ : ∃ z : Int32, ((x4 : Int32).toUInt32 % 65536).toInt32 = z := ⟨_, rfl⟩
  refine lv_i2c (v := x5) hx hb d_House_addFour_34 e5 ?_
  refine va_cast hx hb hK hP hD hS 1 0 rfl rfl (vp_in_nI (by omega) (by decide)) d_House_addFour_35 (fun H locs hP hD hS => ?_)
  have es6 : upd f_text (nI n).toNatClampNeg (vp_nar .char x5) = upd f_text (n) (by4 p1 24) := by rw [nI_clamp (by omega), by4_ok (p := p1) (sh := 24) e3 e4 e5]
  have hP : va_P (dC, dI) cls_all [oc h_this 11 fs_this, ic h_text k_text 4000 (upd f_text (nI n).toNatClampNeg (vp_nar .char x5))] H := hP
  have hD : va_D A [oc h_this 11 fs_this, ic h_text k_text 4000 (upd f_text (nI n).toNatClampNeg (vp_nar .char x5))] := hD
  rw [es6] at hP hD
  obtain ⟨f6, ef6⟩ : ∃ g, g = upd f_text (n) (by4 p1 24) := ⟨_, rfl⟩
  rw [← ef6] at hP hD
  refine lv_aload_n hx hb d_House_addFour_36 rfl (lv_at hl 1 rfl) ?_
  refine lv_dup hx hb d_House_addFour_37 rfl ?_
  refine va_get (D := (dC, dI)) (ci := 11) (v := .int (nI n)) (C := R_House) (T := F_House) (N := 11) hx hb hT i_House hown hK hP 0 rfl rfl 1 (by decide) (hT _ fl_House_83) (fun _ h9 => h9) g_this_length d_House_addFour_38 ?_
  refine lv_iconst (v := 1) hx hb d_House_addFour_41 (by decide) ?_
  refine lv_iadd hx hb d_House_addFour_42 ?_
  refine lv_topi (fun x7 e7 => ?_)
  obtain rfl : x7 = nI (n + 1) := e7.trans (nI_add n 1)
  refine va_put (D := (dC, dI)) (ci := 11) (v := .int (nI (n + 1))) (ty := .int) (C := R_House) (T := F_House) (N := 11) hx hb hT i_House t_House t_House_ok n_House hown hK hP hD hS 0 rfl rfl 1 (by decide) (hT _ fl_House_83) (fun _ h9 => h9) rfl (by decide +kernel) rfl rfl (by simp only [List.length_set, len_this]; decide) d_House_addFour_43 (fun H locs hP hD hS => ?_)
  have hP : va_P (dC, dI) cls_all [oc h_this 11 (fs_this.set 1 (.int (nI (n + 1)))), ic h_text k_text 4000 f6] H := hP
  have hD : va_D A [oc h_this 11 (fs_this.set 1 (.int (nI (n + 1)))), ic h_text k_text 4000 f6] := hD
  refine lv_iinc (v := 16) (lv' := [(2, .int 16), (0, .ref h_this), (1, .int p1)]) hx hb d_House_addFour_46 hl (k := 0) rfl (by decide) (by decide) rfl (fun ls hl => ?_)
  refine lv_goto (tgt := 3) hx hb d_House_addFour_49 (by decide) ?_
  refine lv_iload_n hx hb d_House_addFour_3 rfl (lv_at hl 0 rfl) ?_
  refine lv_if_lt (tgt := 52) hx hb d_House_addFour_4 (by decide) (fun c8 => absurd c8 (by decide)) (fun _ => ?_)
  refine lv_aload_n hx hb d_House_addFour_7 rfl (lv_at hl 1 rfl) ?_
  refine va_get (D := (dC, dI)) (ci := 11) (v := .int (nI (n + 1))) (C := R_House) (T := F_House) (N := 11) hx hb hT i_House hown hK hP 0 rfl rfl 1 (by decide) (hT _ fl_House_83) (fun _ h9 => h9) (ls_eq (by simp only [List.length_set, len_this]; decide)) d_House_addFour_8 ?_
  refine lv_aload_n hx hb d_House_addFour_11 rfl (lv_at hl 1 rfl) ?_
  refine va_get (D := (dC, dI)) (ci := 11) (v := .ref h_text) (C := R_House) (T := F_House) (N := 11) hx hb hT i_House hown hK hP 0 rfl rfl 0 (by decide) (hT _ fl_House_9) (fun _ h9 => h9) ((ls_ne (by decide)).trans g_this_text) d_House_addFour_12 ?_
  refine va_alen (v := 4000) hx hb hK hP 1 0 rfl rfl rfl d_House_addFour_15 ?_
  refine lv_icmp_ge (tgt := 52) hx hb d_House_addFour_16 (by decide) (fun c9 => absurd c9 (nle_lit (N := 4000) (by omega) (by decide))) (fun c9 => ?_)
  refine lv_aload_n hx hb d_House_addFour_19 rfl (lv_at hl 1 rfl) ?_
  refine va_get (D := (dC, dI)) (ci := 11) (v := .ref h_text) (C := R_House) (T := F_House) (N := 11) hx hb hT i_House hown hK hP 0 rfl rfl 0 (by decide) (hT _ fl_House_9) (fun _ h9 => h9) ((ls_ne (by decide)).trans g_this_text) d_House_addFour_20 ?_
  refine lv_aload_n hx hb d_House_addFour_23 rfl (lv_at hl 1 rfl) ?_
  refine va_get (D := (dC, dI)) (ci := 11) (v := .int (nI (n + 1))) (C := R_House) (T := F_House) (N := 11) hx hb hT i_House hown hK hP 0 rfl rfl 1 (by decide) (hT _ fl_House_83) (fun _ h9 => h9) (ls_eq (by simp only [List.length_set, len_this]; decide)) d_House_addFour_24 ?_
  refine lv_iload_n hx hb d_House_addFour_27 rfl (lv_at hl 2 rfl) ?_
  refine lv_iload_n hx hb d_House_addFour_28 rfl (lv_at hl 0 rfl) ?_
  obtain ⟨x10, e10⟩ : ∃ z : Int32, (p1.toUInt32 >>> (Int32.toUInt32 16 &&& Int32.toUInt32 31)).toInt32 = z := ⟨_, rfl⟩
  refine lv_iushr (v := x10) hx hb d_House_addFour_29 e10 ?_
  refine lv_sipush (v := 255) hx hb d_House_addFour_30 (by decide) ?_
  refine lv_iand hx hb d_House_addFour_33 ?_
  refine lv_topi (fun x11 e11 => ?_)
  obtain ⟨x12, e12⟩ : ∃ z : Int32, ((x11 : Int32).toUInt32 % 65536).toInt32 = z := ⟨_, rfl⟩
  refine lv_i2c (v := x12) hx hb d_House_addFour_34 e12 ?_
  refine va_cast hx hb hK hP hD hS 1 0 rfl rfl (vp_in_nI (by omega) (by decide)) d_House_addFour_35 (fun H locs hP hD hS => ?_)
  have es13 : upd f6 (nI (n + 1)).toNatClampNeg (vp_nar .char x12) = upd f6 (n + 1) (by4 p1 16) := by rw [nI_clamp (by omega), by4_ok (p := p1) (sh := 16) e10 e11 e12]
  have hP : va_P (dC, dI) cls_all [oc h_this 11 (fs_this.set 1 (.int (nI (n + 1)))), ic h_text k_text 4000 (upd f6 (nI (n + 1)).toNatClampNeg (vp_nar .char x12))] H := hP
  have hD : va_D A [oc h_this 11 (fs_this.set 1 (.int (nI (n + 1)))), ic h_text k_text 4000 (upd f6 (nI (n + 1)).toNatClampNeg (vp_nar .char x12))] := hD
  rw [es13] at hP hD
  obtain ⟨f13, ef13⟩ : ∃ g, g = upd f6 (n + 1) (by4 p1 16) := ⟨_, rfl⟩
  rw [← ef13] at hP hD
  refine lv_aload_n hx hb d_House_addFour_36 rfl (lv_at hl 1 rfl) ?_
  refine lv_dup hx hb d_House_addFour_37 rfl ?_
  refine va_get (D := (dC, dI)) (ci := 11) (v := .int (nI (n + 1))) (C := R_House) (T := F_House) (N := 11) hx hb hT i_House hown hK hP 0 rfl rfl 1 (by decide) (hT _ fl_House_83) (fun _ h9 => h9) (ls_eq (by simp only [List.length_set, len_this]; decide)) d_House_addFour_38 ?_
  refine lv_iconst (v := 1) hx hb d_House_addFour_41 (by decide) ?_
  refine lv_iadd hx hb d_House_addFour_42 ?_
  refine lv_topi (fun x14 e14 => ?_)
  obtain rfl : x14 = nI (n + 2) := e14.trans (nI_add (n + 1) 1)
  refine va_put (D := (dC, dI)) (ci := 11) (v := .int (nI (n + 2))) (ty := .int) (C := R_House) (T := F_House) (N := 11) hx hb hT i_House t_House t_House_ok n_House hown hK hP hD hS 0 rfl rfl 1 (by decide) (hT _ fl_House_83) (fun _ h9 => h9) rfl (by decide +kernel) rfl rfl (by simp only [List.length_set, len_this]; decide) d_House_addFour_43 (fun H locs hP hD hS => ?_)
  have hP : va_P (dC, dI) cls_all [oc h_this 11 ((fs_this.set 1 (.int (nI (n + 1)))).set 1 (.int (nI (n + 2)))), ic h_text k_text 4000 f13] H := hP
  have hD : va_D A [oc h_this 11 ((fs_this.set 1 (.int (nI (n + 1)))).set 1 (.int (nI (n + 2)))), ic h_text k_text 4000 f13] := hD
  refine lv_iinc (v := 8) (lv' := [(2, .int 8), (0, .ref h_this), (1, .int p1)]) hx hb d_House_addFour_46 hl (k := 0) rfl (by decide) (by decide) rfl (fun ls hl => ?_)
  refine lv_goto (tgt := 3) hx hb d_House_addFour_49 (by decide) ?_
  refine lv_iload_n hx hb d_House_addFour_3 rfl (lv_at hl 0 rfl) ?_
  refine lv_if_lt (tgt := 52) hx hb d_House_addFour_4 (by decide) (fun c15 => absurd c15 (by decide)) (fun _ => ?_)
  refine lv_aload_n hx hb d_House_addFour_7 rfl (lv_at hl 1 rfl) ?_
  refine va_get (D := (dC, dI)) (ci := 11) (v := .int (nI (n + 2))) (C := R_House) (T := F_House) (N := 11) hx hb hT i_House hown hK hP 0 rfl rfl 1 (by decide) (hT _ fl_House_83) (fun _ h9 => h9) (ls_eq (by simp only [List.length_set, len_this]; decide)) d_House_addFour_8 ?_
  refine lv_aload_n hx hb d_House_addFour_11 rfl (lv_at hl 1 rfl) ?_
  refine va_get (D := (dC, dI)) (ci := 11) (v := .ref h_text) (C := R_House) (T := F_House) (N := 11) hx hb hT i_House hown hK hP 0 rfl rfl 0 (by decide) (hT _ fl_House_9) (fun _ h9 => h9) ((ls_ne (by decide)).trans ((ls_ne (by decide)).trans g_this_text)) d_House_addFour_12 ?_
  refine va_alen (v := 4000) hx hb hK hP 1 0 rfl rfl rfl d_House_addFour_15 ?_
  refine lv_icmp_ge (tgt := 52) hx hb d_House_addFour_16 (by decide) (fun c16 => absurd c16 (nle_lit (N := 4000) (by omega) (by decide))) (fun c16 => ?_)
  refine lv_aload_n hx hb d_House_addFour_19 rfl (lv_at hl 1 rfl) ?_
  refine va_get (D := (dC, dI)) (ci := 11) (v := .ref h_text) (C := R_House) (T := F_House) (N := 11) hx hb hT i_House hown hK hP 0 rfl rfl 0 (by decide) (hT _ fl_House_9) (fun _ h9 => h9) ((ls_ne (by decide)).trans ((ls_ne (by decide)).trans g_this_text)) d_House_addFour_20 ?_
  refine lv_aload_n hx hb d_House_addFour_23 rfl (lv_at hl 1 rfl) ?_
  refine va_get (D := (dC, dI)) (ci := 11) (v := .int (nI (n + 2))) (C := R_House) (T := F_House) (N := 11) hx hb hT i_House hown hK hP 0 rfl rfl 1 (by decide) (hT _ fl_House_83) (fun _ h9 => h9) (ls_eq (by simp only [List.length_set, len_this]; decide)) d_House_addFour_24 ?_
  refine lv_iload_n hx hb d_House_addFour_27 rfl (lv_at hl 2 rfl) ?_
  refine lv_iload_n hx hb d_House_addFour_28 rfl (lv_at hl 0 rfl) ?_
  obtain ⟨x17, e17⟩ : ∃ z : Int32, (p1.toUInt32 >>> (Int32.toUInt32 8 &&& Int32.toUInt32 31)).toInt32 = z := ⟨_, rfl⟩
  refine lv_iushr (v := x17) hx hb d_House_addFour_29 e17 ?_
  refine lv_sipush (v := 255) hx hb d_House_addFour_30 (by decide) ?_
  refine lv_iand hx hb d_House_addFour_33 ?_
  refine lv_topi (fun x18 e18 => ?_)
  obtain ⟨x19, e19⟩ : ∃ z : Int32, ((x18 : Int32).toUInt32 % 65536).toInt32 = z := ⟨_, rfl⟩
  refine lv_i2c (v := x19) hx hb d_House_addFour_34 e19 ?_
  refine va_cast hx hb hK hP hD hS 1 0 rfl rfl (vp_in_nI (by omega) (by decide)) d_House_addFour_35 (fun H locs hP hD hS => ?_)
  have es20 : upd f13 (nI (n + 2)).toNatClampNeg (vp_nar .char x19) = upd f13 (n + 2) (by4 p1 8) := by rw [nI_clamp (by omega), by4_ok (p := p1) (sh := 8) e17 e18 e19]
  have hP : va_P (dC, dI) cls_all [oc h_this 11 ((fs_this.set 1 (.int (nI (n + 1)))).set 1 (.int (nI (n + 2)))), ic h_text k_text 4000 (upd f13 (nI (n + 2)).toNatClampNeg (vp_nar .char x19))] H := hP
  have hD : va_D A [oc h_this 11 ((fs_this.set 1 (.int (nI (n + 1)))).set 1 (.int (nI (n + 2)))), ic h_text k_text 4000 (upd f13 (nI (n + 2)).toNatClampNeg (vp_nar .char x19))] := hD
  rw [es20] at hP hD
  obtain ⟨f20, ef20⟩ : ∃ g, g = upd f13 (n + 2) (by4 p1 8) := ⟨_, rfl⟩
  rw [← ef20] at hP hD
  refine lv_aload_n hx hb d_House_addFour_36 rfl (lv_at hl 1 rfl) ?_
  refine lv_dup hx hb d_House_addFour_37 rfl ?_
  refine va_get (D := (dC, dI)) (ci := 11) (v := .int (nI (n + 2))) (C := R_House) (T := F_House) (N := 11) hx hb hT i_House hown hK hP 0 rfl rfl 1 (by decide) (hT _ fl_House_83) (fun _ h9 => h9) (ls_eq (by simp only [List.length_set, len_this]; decide)) d_House_addFour_38 ?_
  refine lv_iconst (v := 1) hx hb d_House_addFour_41 (by decide) ?_
  refine lv_iadd hx hb d_House_addFour_42 ?_
  refine lv_topi (fun x21 e21 => ?_)
  obtain rfl : x21 = nI (n + 3) := e21.trans (nI_add (n + 2) 1)
  refine va_put (D := (dC, dI)) (ci := 11) (v := .int (nI (n + 3))) (ty := .int) (C := R_House) (T := F_House) (N := 11) hx hb hT i_House t_House t_House_ok n_House hown hK hP hD hS 0 rfl rfl 1 (by decide) (hT _ fl_House_83) (fun _ h9 => h9) rfl (by decide +kernel) rfl rfl (by simp only [List.length_set, len_this]; decide) d_House_addFour_43 (fun H locs hP hD hS => ?_)
  have hP : va_P (dC, dI) cls_all [oc h_this 11 (((fs_this.set 1 (.int (nI (n + 1)))).set 1 (.int (nI (n + 2)))).set 1 (.int (nI (n + 3)))), ic h_text k_text 4000 f20] H := hP
  have hD : va_D A [oc h_this 11 (((fs_this.set 1 (.int (nI (n + 1)))).set 1 (.int (nI (n + 2)))).set 1 (.int (nI (n + 3)))), ic h_text k_text 4000 f20] := hD
  refine lv_iinc (v := 0) (lv' := [(2, .int 0), (0, .ref h_this), (1, .int p1)]) hx hb d_House_addFour_46 hl (k := 0) rfl (by decide) (by decide) rfl (fun ls hl => ?_)
  refine lv_goto (tgt := 3) hx hb d_House_addFour_49 (by decide) ?_
  refine lv_iload_n hx hb d_House_addFour_3 rfl (lv_at hl 0 rfl) ?_
  refine lv_if_lt (tgt := 52) hx hb d_House_addFour_4 (by decide) (fun c22 => absurd c22 (by decide)) (fun _ => ?_)
  refine lv_aload_n hx hb d_House_addFour_7 rfl (lv_at hl 1 rfl) ?_
  refine va_get (D := (dC, dI)) (ci := 11) (v := .int (nI (n + 3))) (C := R_House) (T := F_House) (N := 11) hx hb hT i_House hown hK hP 0 rfl rfl 1 (by decide) (hT _ fl_House_83) (fun _ h9 => h9) (ls_eq (by simp only [List.length_set, len_this]; decide)) d_House_addFour_8 ?_
  refine lv_aload_n hx hb d_House_addFour_11 rfl (lv_at hl 1 rfl) ?_
  refine va_get (D := (dC, dI)) (ci := 11) (v := .ref h_text) (C := R_House) (T := F_House) (N := 11) hx hb hT i_House hown hK hP 0 rfl rfl 0 (by decide) (hT _ fl_House_9) (fun _ h9 => h9) ((ls_ne (by decide)).trans ((ls_ne (by decide)).trans ((ls_ne (by decide)).trans g_this_text))) d_House_addFour_12 ?_
  refine va_alen (v := 4000) hx hb hK hP 1 0 rfl rfl rfl d_House_addFour_15 ?_
  refine lv_icmp_ge (tgt := 52) hx hb d_House_addFour_16 (by decide) (fun c23 => absurd c23 (nle_lit (N := 4000) (by omega) (by decide))) (fun c23 => ?_)
  refine lv_aload_n hx hb d_House_addFour_19 rfl (lv_at hl 1 rfl) ?_
  refine va_get (D := (dC, dI)) (ci := 11) (v := .ref h_text) (C := R_House) (T := F_House) (N := 11) hx hb hT i_House hown hK hP 0 rfl rfl 0 (by decide) (hT _ fl_House_9) (fun _ h9 => h9) ((ls_ne (by decide)).trans ((ls_ne (by decide)).trans ((ls_ne (by decide)).trans g_this_text))) d_House_addFour_20 ?_
  refine lv_aload_n hx hb d_House_addFour_23 rfl (lv_at hl 1 rfl) ?_
  refine va_get (D := (dC, dI)) (ci := 11) (v := .int (nI (n + 3))) (C := R_House) (T := F_House) (N := 11) hx hb hT i_House hown hK hP 0 rfl rfl 1 (by decide) (hT _ fl_House_83) (fun _ h9 => h9) (ls_eq (by simp only [List.length_set, len_this]; decide)) d_House_addFour_24 ?_
  refine lv_iload_n hx hb d_House_addFour_27 rfl (lv_at hl 2 rfl) ?_
  refine lv_iload_n hx hb d_House_addFour_28 rfl (lv_at hl 0 rfl) ?_
  obtain ⟨x24, e24⟩ : ∃ z : Int32, (p1.toUInt32 >>> (Int32.toUInt32 0 &&& Int32.toUInt32 31)).toInt32 = z := ⟨_, rfl⟩
  refine lv_iushr (v := x24) hx hb d_House_addFour_29 e24 ?_
  refine lv_sipush (v := 255) hx hb d_House_addFour_30 (by decide) ?_
  refine lv_iand hx hb d_House_addFour_33 ?_
  refine lv_topi (fun x25 e25 => ?_)
  obtain ⟨x26, e26⟩ : ∃ z : Int32, ((x25 : Int32).toUInt32 % 65536).toInt32 = z := ⟨_, rfl⟩
  refine lv_i2c (v := x26) hx hb d_House_addFour_34 e26 ?_
  refine va_cast hx hb hK hP hD hS 1 0 rfl rfl (vp_in_nI (by omega) (by decide)) d_House_addFour_35 (fun H locs hP hD hS => ?_)
  have es27 : upd f20 (nI (n + 3)).toNatClampNeg (vp_nar .char x26) = upd f20 (n + 3) (by4 p1 0) := by rw [nI_clamp (by omega), by4_ok (p := p1) (sh := 0) e24 e25 e26]
  have hP : va_P (dC, dI) cls_all [oc h_this 11 (((fs_this.set 1 (.int (nI (n + 1)))).set 1 (.int (nI (n + 2)))).set 1 (.int (nI (n + 3)))), ic h_text k_text 4000 (upd f20 (nI (n + 3)).toNatClampNeg (vp_nar .char x26))] H := hP
  have hD : va_D A [oc h_this 11 (((fs_this.set 1 (.int (nI (n + 1)))).set 1 (.int (nI (n + 2)))).set 1 (.int (nI (n + 3)))), ic h_text k_text 4000 (upd f20 (nI (n + 3)).toNatClampNeg (vp_nar .char x26))] := hD
  rw [es27] at hP hD
  obtain ⟨f27, ef27⟩ : ∃ g, g = upd f20 (n + 3) (by4 p1 0) := ⟨_, rfl⟩
  rw [← ef27] at hP hD
  refine lv_aload_n hx hb d_House_addFour_36 rfl (lv_at hl 1 rfl) ?_
  refine lv_dup hx hb d_House_addFour_37 rfl ?_
  refine va_get (D := (dC, dI)) (ci := 11) (v := .int (nI (n + 3))) (C := R_House) (T := F_House) (N := 11) hx hb hT i_House hown hK hP 0 rfl rfl 1 (by decide) (hT _ fl_House_83) (fun _ h9 => h9) (ls_eq (by simp only [List.length_set, len_this]; decide)) d_House_addFour_38 ?_
  refine lv_iconst (v := 1) hx hb d_House_addFour_41 (by decide) ?_
  refine lv_iadd hx hb d_House_addFour_42 ?_
  refine lv_topi (fun x28 e28 => ?_)
  obtain rfl : x28 = nI (n + 4) := e28.trans (nI_add (n + 3) 1)
  refine va_put (D := (dC, dI)) (ci := 11) (v := .int (nI (n + 4))) (ty := .int) (C := R_House) (T := F_House) (N := 11) hx hb hT i_House t_House t_House_ok n_House hown hK hP hD hS 0 rfl rfl 1 (by decide) (hT _ fl_House_83) (fun _ h9 => h9) rfl (by decide +kernel) rfl rfl (by simp only [List.length_set, len_this]; decide) d_House_addFour_43 (fun H locs hP hD hS => ?_)
  have hP : va_P (dC, dI) cls_all [oc h_this 11 ((((fs_this.set 1 (.int (nI (n + 1)))).set 1 (.int (nI (n + 2)))).set 1 (.int (nI (n + 3)))).set 1 (.int (nI (n + 4)))), ic h_text k_text 4000 f27] H := hP
  have hD : va_D A [oc h_this 11 ((((fs_this.set 1 (.int (nI (n + 1)))).set 1 (.int (nI (n + 2)))).set 1 (.int (nI (n + 3)))).set 1 (.int (nI (n + 4)))), ic h_text k_text 4000 f27] := hD
  refine lv_iinc (v := (-8)) (lv' := [(2, .int (-8)), (0, .ref h_this), (1, .int p1)]) hx hb d_House_addFour_46 hl (k := 0) rfl (by decide) (by decide) rfl (fun ls hl => ?_)
  refine lv_goto (tgt := 3) hx hb d_House_addFour_49 (by decide) ?_
  refine lv_iload_n hx hb d_House_addFour_3 rfl (lv_at hl 0 rfl) ?_
  refine lv_if_lt (tgt := 52) hx hb d_House_addFour_4 (by decide) (fun _ => ?_) (fun c29 => absurd (by decide) c29)
  have hP9 := hP.sub (ws' := [oc h_this 11 ((((fs_this.set 1 (.int (nI (n + 1)))).set 1 (.int (nI (n + 2)))).set 1 (.int (nI (n + 3)))).set 1 (.int (nI (n + 4)))), ic h_text k_text 4000 f27]) [0, 1] rfl
  have hD9 := hD.sub (ws' := [oc h_this 11 ((((fs_this.set 1 (.int (nI (n + 1)))).set 1 (.int (nI (n + 2)))).set 1 (.int (nI (n + 3)))).set 1 (.int (nI (n + 4)))), ic h_text k_text 4000 f27]) [0, 1] (by decide) rfl
  have hK9 := hK.sub (tys' := [(k_text, .char)]) [0] rfl
  have hv30 : ((((fs_this.set 1 (.int (nI (n + 1)))).set 1 (.int (nI (n + 2)))).set 1 (.int (nI (n + 3)))).set 1 (.int (nI (n + 4))))[1]? = some (.int (nI (n + 4))) := (ls_eq (by simp only [List.length_set, len_this]; decide))
  exact W.vret hx hb hr (fun t ht hW => ⟨⟨(), rfl, trivial, ((((fs_this.set 1 (.int (nI (n + 1)))).set 1 (.int (nI (n + 2)))).set 1 (.int (nI (n + 3)))).set 1 (.int (nI (n + 4)))), f27, ⟨(by first | exact len_this | (simp only [List.length_set]; exact len_this)), (fun j n1 => ((ls_ne n1).trans ((ls_ne n1).trans ((ls_ne n1).trans ((ls_ne n1).trans rfl))))), (by first | exact hv30 | (rw [hv30]; refine congrArg some (congrArg _ ?_); subst_vars; rfl)), (by subst_vars; rfl)⟩, by rw [ht]; exact hP9, va_K.moved hW.alike hK9, hD9⟩, hS.F ht⟩) hS.2.2 d_House_addFour_52
set_option maxHeartbeats 1000000 in
set_option maxRecDepth 100000 in
theorem c_House_feed_in (l : Launch) (dC : Nat → ClassId) (dI : Nat → Nat → Nat) (sz : Nat) (h_this : Nat) (h_text : Nat) (fs_this : List Value) (k_text : ClassId) (f_text : Nat → Int32) (p1 : Int32) (p2 : Int32) (p3 : Int32) (p4 : Int32) (p5 : Int32) (n : Nat) (len_this : fs_this.length = 11) (g_this_length : fs_this[1]? = some (.int (nI n))) (g_this_text : fs_this[0]? = some (.ref h_text)) (hn : n + 20 ≤ 4000) : Met l y_House_feed w_House_feed ({ frames := 1, cells := 0, slots := 0, locals := 22 } : Room) (va_Pc [.ref h_this, .int p1, .int p2, .int p3, .int p4, .int p5] (fun U => U.heap.size = sz ∧ va_P (dC, dI) cls_all [oc h_this 11 fs_this, ic h_text k_text 4000 f_text] U.heap ∧ va_K (dC, dI) cls_all [(k_text, .char)] U ∧ va_D (fun _ => True) [oc h_this 11 fs_this, ic h_text k_text 4000 f_text])) (va_Qi (fun (z r : Int32) => z = r) (fun r t => ∃ (fs_this' : List Value) (f_text' : Nat → Int32), (fs_this'.length = 11 ∧ (∀ j : Nat, j ≠ 1 → fs_this'[j]? = fs_this[j]?) ∧ fs_this'[1]? = some (.int (nI (n + 20))) ∧ (f_text' = put20 f_text n p1 p2 p3 p4 p5) ∧ (r = nI (n + 20))) ∧ va_P (dC, dI) cls_all [oc h_this 11 fs_this', ic h_text k_text 4000 f_text'] t.heap ∧ va_K (dC, dI) cls_all [(k_text, .char)] t ∧ va_D (va_A [oc h_this 11 fs_this, ic h_text k_text 4000 f_text] sz) [oc h_this 11 fs_this', ic h_text k_text 4000 f_text']) (va_A [oc h_this 11 fs_this, ic h_text k_text 4000 f_text] sz)) 0 0 (va_A [oc h_this 11 fs_this, ic h_text k_text 4000 f_text] sz) := by
  refine Met.ofW (cc := b_House_feed) (maxL := 6) (ret := (some .int)) (by decide) rfl ?_
  intro p e s m args below meth c s₁ B hml hv
  obtain ⟨rfl, hsz, hP, hK, hD0⟩ := hv
  have hx := B.exec
  have hb := B.bytes
  have hr := B.returns
  have hT : ∀ w ∈ lw_good, w.before _ s = true := fun w h => atoms_spec (ws := w_House_feed) B.pre w (List.mem_cons_of_mem _ h)
  have hown : s.vm.findClass R_House = some m.cls := findClass_of_methodNamed B.named
  have hlocks := B.notSynchronized
  subst hsz
  have hD := hD0.self (sz := s.heap.size)
  generalize hAe : va_A [oc h_this 11 fs_this, ic h_text k_text 4000 f_text] s.heap.size = A at hD ⊢
  have hA : ∀ q : Nat, s.heap.size ≤ q → A q := fun q h => by rw [← hAe]; exact Or.inr h
  have hS : va_S A s.heap s.heap [] := va_S.rf
  have hP : va_P (dC, dI) cls_all [oc h_this 11 fs_this, ic h_text k_text 4000 f_text] s.heap := hP
  have hl := lv_entry ([.ref h_this, .int p1, .int p2, .int p3, .int p4, .int p5]) (n := 6) (Nat.le_of_ble_eq_true rfl)
  rw [lg_entry_eq]
  generalize (lg_sl ([.ref h_this, .int p1, .int p2, .int p3, .int p4, .int p5]) ++ List.replicate (6 - (lg_sl ([.ref h_this, .int p1, .int p2, .int p3, .int p4, .int p5])).length) Slot.unset).toArray = ls at hl ⊢
  have hl : lv_has ls 6 [(0, .ref h_this), (1, .int p1), (2, .int p2), (3, .int p3), (4, .int p4), (5, .int p5)] := hl
  refine lv_aload_n hx hb d_House_feed_0 rfl (lv_at hl 0 rfl) ?_
  refine va_get (D := (dC, dI)) (ci := 11) (v := .int (nI n)) (C := R_House) (T := F_House) (N := 11) hx hb hT i_House hown hK hP 0 rfl rfl 1 (by decide) (hT _ fl_House_83) (fun _ h9 => h9) g_this_length d_House_feed_1 ?_
  refine lv_bipush (v := 20) hx hb d_House_feed_4 (by decide) ?_
  refine lv_iadd hx hb d_House_feed_6 ?_
  refine lv_topi (fun x1 e1 => ?_)
  obtain rfl : x1 = nI (n + 20) := e1.trans (nI_add n 20)
  refine lv_sipush (v := 4000) hx hb d_House_feed_7 (by decide) ?_
  refine lv_icmp_le (tgt := 15) hx hb d_House_feed_10 (by decide) (fun c2 => ?_) (fun c2 => absurd ((nI_leI (b := 4000) (by omega) (by decide)).mpr (by omega)) c2)
  refine lv_aload_n hx hb d_House_feed_15 rfl (lv_at hl 0 rfl) ?_
  refine lv_iload_n hx hb d_House_feed_16 rfl (lv_at hl 1 rfl) ?_
  have hPc := hP.sub (ws' := [oc h_this 11 fs_this, ic h_text k_text 4000 f_text]) [0, 1] rfl
  have hKc := hK.sub (tys' := [(k_text, .char)]) [0] rfl
  have hDc := hD.sub (ws' := [oc h_this 11 fs_this, ic h_text k_text 4000 f_text]) [0, 1] (by decide) rfl
  have hFc := va_free (wc := [oc h_this 11 fs_this, ic h_text k_text 4000 f_text]) hD hS hA [0, 1] rfl
  refine va_callv (va_runV (As := [.int p1]) (rest := []) ⟨hx, hb, hml, hown, hT⟩ (c_House_addFour l dC dI (sz := s.heap.size) (h_this := h_this) (h_text := h_text) (fs_this := fs_this) (k_text := k_text) (f_text := f_text) (p1 := p1) (n := n) (len_this := (by first | exact len_this | (simp only [List.length_set]; exact len_this))) (g_this_length := g_this_length) (g_this_text := g_this_text) (hn := (by omega))) (cwV 1 hT (gV ml_House_87 im_House_addFour se_House_addFour ini_House co_House_addFour) rfl rfl rfl (by decide +kernel) ⟨Nat.le_of_ble_eq_true rfl, Nat.le_of_ble_eq_true rfl⟩) ⟨fbQ, va_recv hKc hPc (ci := 11) (q0 := 0) rfl rfl, fun U hU hW => ⟨rfl, by rw [hU], by rw [hU]; exact hPc, va_K.moved hW.alike hKc, hDc.weaken (fun _ _ _ _ => trivial)⟩⟩ rfl rfl hl.1 rfl (lv_room (Nat.le_of_ble_eq_true rfl)) d_House_feed_17 ⟨Nat.le_of_ble_eq_true rfl, Nat.le_of_ble_eq_true rfl⟩) hS (fun q _ h => hFc q h) hFc (fun u t H1 locs ht hvm hw hB hz1 hk1 hS => ?_)
  obtain ⟨fs_this_3, f_text_3, ⟨hw3_0, hw3_1, hw3_2, hw3_3⟩, hP1, hK1, hD1⟩ := hB
  rw [ht] at hP1
  have hK1 := va_K.moved hvm.symm hK1
  obtain ⟨hP, hD⟩ := va_join (wr := []) (w1 := [oc h_this 11 fs_this_3, ic h_text k_text 4000 f_text_3]) hP hD [0, 1] [] rfl rfl (by decide) (by decide) hk1 hFc hP1 hD1
  generalize H1 = H at hP hS ⊢
  have hP : va_P (dC, dI) cls_all [oc h_this 11 fs_this_3, ic h_text k_text 4000 f_text_3] H := hP
  have hD : va_D A [oc h_this 11 fs_this_3, ic h_text k_text 4000 f_text_3] := hD
  refine lv_aload_n hx hb d_House_feed_20 rfl (lv_at hl 0 rfl) ?_
  refine lv_iload_n hx hb d_House_feed_21 rfl (lv_at hl 2 rfl) ?_
  have hPc := hP.sub (ws' := [oc h_this 11 fs_this_3, ic h_text k_text 4000 f_text_3]) [0, 1] rfl
  have hKc := hK.sub (tys' := [(k_text, .char)]) [0] rfl
  have hDc := hD.sub (ws' := [oc h_this 11 fs_this_3, ic h_text k_text 4000 f_text_3]) [0, 1] (by decide) rfl
  have hFc := va_free (wc := [oc h_this 11 fs_this_3, ic h_text k_text 4000 f_text_3]) hD hS hA [0, 1] rfl
  refine va_callv (va_runV (As := [.int p2]) (rest := []) ⟨hx, hb, hml, hown, hT⟩ (c_House_addFour l dC dI (sz := H.size) (h_this := h_this) (h_text := h_text) (fs_this := fs_this_3) (k_text := k_text) (f_text := f_text_3) (p1 := p2) (n := (n + 4)) (len_this := (by first | exact hw3_0 | (simp only [List.length_set]; exact hw3_0))) (g_this_length := hw3_2) (g_this_text := ((hw3_1 0 (by decide)).trans g_this_text)) (hn := (by omega))) (cwV 1 hT (gV ml_House_87 im_House_addFour se_House_addFour ini_House co_House_addFour) rfl rfl rfl (by decide +kernel) ⟨Nat.le_of_ble_eq_true rfl, Nat.le_of_ble_eq_true rfl⟩) ⟨fbQ, va_recv hKc hPc (ci := 11) (q0 := 0) rfl rfl, fun U hU hW => ⟨rfl, by rw [hU], by rw [hU]; exact hPc, va_K.moved hW.alike hKc, hDc.weaken (fun _ _ _ _ => trivial)⟩⟩ rfl rfl hl.1 rfl (lv_room (Nat.le_of_ble_eq_true rfl)) d_House_feed_22 ⟨Nat.le_of_ble_eq_true rfl, Nat.le_of_ble_eq_true rfl⟩) hS (fun q _ h => hFc q h) hFc (fun u t H1 locs ht hvm hw hB hz1 hk1 hS => ?_)
  obtain ⟨fs_this_4, f_text_4, ⟨hw4_0, hw4_1, hw4_2, hw4_3⟩, hP1, hK1, hD1⟩ := hB
  rw [ht] at hP1
  have hK1 := va_K.moved hvm.symm hK1
  obtain ⟨hP, hD⟩ := va_join (wr := []) (w1 := [oc h_this 11 fs_this_4, ic h_text k_text 4000 f_text_4]) hP hD [0, 1] [] rfl rfl (by decide) (by decide) hk1 hFc hP1 hD1
  generalize H1 = H at hP hS ⊢
  have hP : va_P (dC, dI) cls_all [oc h_this 11 fs_this_4, ic h_text k_text 4000 f_text_4] H := hP
  have hD : va_D A [oc h_this 11 fs_this_4, ic h_text k_text 4000 f_text_4] := hD
  refine lv_aload_n hx hb d_House_feed_25 rfl (lv_at hl 0 rfl) ?_
  refine lv_iload_n hx hb d_House_feed_26 rfl (lv_at hl 3 rfl) ?_
  have hPc := hP.sub (ws' := [oc h_this 11 fs_this_4, ic h_text k_text 4000 f_text_4]) [0, 1] rfl
  have hKc := hK.sub (tys' := [(k_text, .char)]) [0] rfl
  have hDc := hD.sub (ws' := [oc h_this 11 fs_this_4, ic h_text k_text 4000 f_text_4]) [0, 1] (by decide) rfl
  have hFc := va_free (wc := [oc h_this 11 fs_this_4, ic h_text k_text 4000 f_text_4]) hD hS hA [0, 1] rfl
  refine va_callv (va_runV (As := [.int p3]) (rest := []) ⟨hx, hb, hml, hown, hT⟩ (c_House_addFour l dC dI (sz := H.size) (h_this := h_this) (h_text := h_text) (fs_this := fs_this_4) (k_text := k_text) (f_text := f_text_4) (p1 := p3) (n := (n + 8)) (len_this := (by first | exact hw4_0 | (simp only [List.length_set]; exact hw4_0))) (g_this_length := hw4_2) (g_this_text := ((hw4_1 0 (by decide)).trans ((hw3_1 0 (by decide)).trans g_this_text))) (hn := (by omega))) (cwV 1 hT (gV ml_House_87 im_House_addFour se_House_addFour ini_House co_House_addFour) rfl rfl rfl (by decide +kernel) ⟨Nat.le_of_ble_eq_true rfl, Nat.le_of_ble_eq_true rfl⟩) ⟨fbQ, va_recv hKc hPc (ci := 11) (q0 := 0) rfl rfl, fun U hU hW => ⟨rfl, by rw [hU], by rw [hU]; exact hPc, va_K.moved hW.alike hKc, hDc.weaken (fun _ _ _ _ => trivial)⟩⟩ rfl rfl hl.1 rfl (lv_room (Nat.le_of_ble_eq_true rfl)) d_House_feed_27 ⟨Nat.le_of_ble_eq_true rfl, Nat.le_of_ble_eq_true rfl⟩) hS (fun q _ h => hFc q h) hFc (fun u t H1 locs ht hvm hw hB hz1 hk1 hS => ?_)
  obtain ⟨fs_this_5, f_text_5, ⟨hw5_0, hw5_1, hw5_2, hw5_3⟩, hP1, hK1, hD1⟩ := hB
  rw [ht] at hP1
  have hK1 := va_K.moved hvm.symm hK1
  obtain ⟨hP, hD⟩ := va_join (wr := []) (w1 := [oc h_this 11 fs_this_5, ic h_text k_text 4000 f_text_5]) hP hD [0, 1] [] rfl rfl (by decide) (by decide) hk1 hFc hP1 hD1
  generalize H1 = H at hP hS ⊢
  have hP : va_P (dC, dI) cls_all [oc h_this 11 fs_this_5, ic h_text k_text 4000 f_text_5] H := hP
  have hD : va_D A [oc h_this 11 fs_this_5, ic h_text k_text 4000 f_text_5] := hD
  refine lv_aload_n hx hb d_House_feed_30 rfl (lv_at hl 0 rfl) ?_
  refine lv_iload hx hb d_House_feed_31 (lv_at hl 4 rfl) ?_
  have hPc := hP.sub (ws' := [oc h_this 11 fs_this_5, ic h_text k_text 4000 f_text_5]) [0, 1] rfl
  have hKc := hK.sub (tys' := [(k_text, .char)]) [0] rfl
  have hDc := hD.sub (ws' := [oc h_this 11 fs_this_5, ic h_text k_text 4000 f_text_5]) [0, 1] (by decide) rfl
  have hFc := va_free (wc := [oc h_this 11 fs_this_5, ic h_text k_text 4000 f_text_5]) hD hS hA [0, 1] rfl
  refine va_callv (va_runV (As := [.int p4]) (rest := []) ⟨hx, hb, hml, hown, hT⟩ (c_House_addFour l dC dI (sz := H.size) (h_this := h_this) (h_text := h_text) (fs_this := fs_this_5) (k_text := k_text) (f_text := f_text_5) (p1 := p4) (n := (n + 12)) (len_this := (by first | exact hw5_0 | (simp only [List.length_set]; exact hw5_0))) (g_this_length := hw5_2) (g_this_text := ((hw5_1 0 (by decide)).trans ((hw4_1 0 (by decide)).trans ((hw3_1 0 (by decide)).trans g_this_text)))) (hn := (by omega))) (cwV 1 hT (gV ml_House_87 im_House_addFour se_House_addFour ini_House co_House_addFour) rfl rfl rfl (by decide +kernel) ⟨Nat.le_of_ble_eq_true rfl, Nat.le_of_ble_eq_true rfl⟩) ⟨fbQ, va_recv hKc hPc (ci := 11) (q0 := 0) rfl rfl, fun U hU hW => ⟨rfl, by rw [hU], by rw [hU]; exact hPc, va_K.moved hW.alike hKc, hDc.weaken (fun _ _ _ _ => trivial)⟩⟩ rfl rfl hl.1 rfl (lv_room (Nat.le_of_ble_eq_true rfl)) d_House_feed_33 ⟨Nat.le_of_ble_eq_true rfl, Nat.le_of_ble_eq_true rfl⟩) hS (fun q _ h => hFc q h) hFc (fun u t H1 locs ht hvm hw hB hz1 hk1 hS => ?_)
  obtain ⟨fs_this_6, f_text_6, ⟨hw6_0, hw6_1, hw6_2, hw6_3⟩, hP1, hK1, hD1⟩ := hB
  rw [ht] at hP1
  have hK1 := va_K.moved hvm.symm hK1
  obtain ⟨hP, hD⟩ := va_join (wr := []) (w1 := [oc h_this 11 fs_this_6, ic h_text k_text 4000 f_text_6]) hP hD [0, 1] [] rfl rfl (by decide) (by decide) hk1 hFc hP1 hD1
  generalize H1 = H at hP hS ⊢
  have hP : va_P (dC, dI) cls_all [oc h_this 11 fs_this_6, ic h_text k_text 4000 f_text_6] H := hP
  have hD : va_D A [oc h_this 11 fs_this_6, ic h_text k_text 4000 f_text_6] := hD
  refine lv_aload_n hx hb d_House_feed_36 rfl (lv_at hl 0 rfl) ?_
  refine lv_iload hx hb d_House_feed_37 (lv_at hl 5 rfl) ?_
  have hPc := hP.sub (ws' := [oc h_this 11 fs_this_6, ic h_text k_text 4000 f_text_6]) [0, 1] rfl
  have hKc := hK.sub (tys' := [(k_text, .char)]) [0] rfl
  have hDc := hD.sub (ws' := [oc h_this 11 fs_this_6, ic h_text k_text 4000 f_text_6]) [0, 1] (by decide) rfl
  have hFc := va_free (wc := [oc h_this 11 fs_this_6, ic h_text k_text 4000 f_text_6]) hD hS hA [0, 1] rfl
  refine va_callv (va_runV (As := [.int p5]) (rest := []) ⟨hx, hb, hml, hown, hT⟩ (c_House_addFour l dC dI (sz := H.size) (h_this := h_this) (h_text := h_text) (fs_this := fs_this_6) (k_text := k_text) (f_text := f_text_6) (p1 := p5) (n := (n + 16)) (len_this := (by first | exact hw6_0 | (simp only [List.length_set]; exact hw6_0))) (g_this_length := hw6_2) (g_this_text := ((hw6_1 0 (by decide)).trans ((hw5_1 0 (by decide)).trans ((hw4_1 0 (by decide)).trans ((hw3_1 0 (by decide)).trans g_this_text))))) (hn := (by omega))) (cwV 1 hT (gV ml_House_87 im_House_addFour se_House_addFour ini_House co_House_addFour) rfl rfl rfl (by decide +kernel) ⟨Nat.le_of_ble_eq_true rfl, Nat.le_of_ble_eq_true rfl⟩) ⟨fbQ, va_recv hKc hPc (ci := 11) (q0 := 0) rfl rfl, fun U hU hW => ⟨rfl, by rw [hU], by rw [hU]; exact hPc, va_K.moved hW.alike hKc, hDc.weaken (fun _ _ _ _ => trivial)⟩⟩ rfl rfl hl.1 rfl (lv_room (Nat.le_of_ble_eq_true rfl)) d_House_feed_39 ⟨Nat.le_of_ble_eq_true rfl, Nat.le_of_ble_eq_true rfl⟩) hS (fun q _ h => hFc q h) hFc (fun u t H1 locs ht hvm hw hB hz1 hk1 hS => ?_)
  obtain ⟨fs_this_7, f_text_7, ⟨hw7_0, hw7_1, hw7_2, hw7_3⟩, hP1, hK1, hD1⟩ := hB
  rw [ht] at hP1
  have hK1 := va_K.moved hvm.symm hK1
  obtain ⟨hP, hD⟩ := va_join (wr := []) (w1 := [oc h_this 11 fs_this_7, ic h_text k_text 4000 f_text_7]) hP hD [0, 1] [] rfl rfl (by decide) (by decide) hk1 hFc hP1 hD1
  generalize H1 = H at hP hS ⊢
  have hP : va_P (dC, dI) cls_all [oc h_this 11 fs_this_7, ic h_text k_text 4000 f_text_7] H := hP
  have hD : va_D A [oc h_this 11 fs_this_7, ic h_text k_text 4000 f_text_7] := hD
  refine lv_aload_n hx hb d_House_feed_42 rfl (lv_at hl 0 rfl) ?_
  refine va_get (D := (dC, dI)) (ci := 11) (v := .int (nI ((n + 16) + 4))) (C := R_House) (T := F_House) (N := 11) hx hb hT i_House hown hK hP 0 rfl rfl 1 (by decide) (hT _ fl_House_83) (fun _ h9 => h9) hw7_2 d_House_feed_43 ?_
  have hP9 := hP.sub (ws' := [oc h_this 11 fs_this_7, ic h_text k_text 4000 f_text_7]) [0, 1] rfl
  have hD9 := hD.sub (ws' := [oc h_this 11 fs_this_7, ic h_text k_text 4000 f_text_7]) [0, 1] (by decide) rfl
  have hK9 := hK.sub (tys' := [(k_text, .char)]) [0] rfl
  have hv8 : fs_this_7[1]? = some (.int (nI ((n + 16) + 4))) := hw7_2
  exact W.iret (v := (nI ((n + 16) + 4))) hx hb hr (fun t ht hW => ⟨⟨(nI ((n + 16) + 4)), (nI ((n + 16) + 4)), rfl, rfl, fs_this_7, f_text_7, ⟨(by first | exact hw7_0 | (simp only [List.length_set]; exact hw7_0)), (fun j n1 => ((hw7_1 j n1).trans ((hw6_1 j n1).trans ((hw5_1 j n1).trans ((hw4_1 j n1).trans ((hw3_1 j n1).trans rfl)))))), (by first | exact hv8 | (rw [hv8]; refine congrArg some (congrArg _ ?_); subst_vars; rfl)), (by subst_vars; rfl), (by subst_vars; rfl)⟩, by rw [ht]; exact hP9, va_K.moved hW.alike hK9, hD9⟩, hS.F ht⟩) hS.2.2 d_House_feed_46
set_option maxHeartbeats 1000000 in
set_option maxRecDepth 100000 in
theorem c_House_feed_out (l : Launch) (dC : Nat → ClassId) (dI : Nat → Nat → Nat)  (h_this : Nat) (fs_this : List Value) (p1 : Int32) (p2 : Int32) (p3 : Int32) (p4 : Int32) (p5 : Int32) (n : Nat) (len_this : fs_this.length = 11) (g_this_length : fs_this[1]? = some (.int (nI n))) (hn : 4000 < n + 20) (hn2 : n ≤ 4000) : Met l y_House_feed w_House_feed ({ frames := 0, cells := 0, slots := 0, locals := 0 } : Room) (va_Pc [.ref h_this, .int p1, .int p2, .int p3, .int p4, .int p5] (fun U => va_P (dC, dI) cls_all [oc h_this 11 fs_this] U.heap ∧ va_K (dC, dI) cls_all [] U)) (vp_Si (fun r : Int32 => (r = -1))) 0 0 (fun _ => False) := by
  refine Met.ofW (cc := b_House_feed) (maxL := 6) (ret := (some .int)) (by decide) rfl ?_
  intro p e s m args below meth c s₁ B hml hv
  obtain ⟨rfl, hP, hK⟩ := hv
  have hx := B.exec
  have hb := B.bytes
  have hr := B.returns
  have hT : ∀ w ∈ lw_good, w.before _ s = true := fun w h => atoms_spec (ws := w_House_feed) B.pre w (List.mem_cons_of_mem _ h)
  have hown : s.vm.findClass R_House = some m.cls := findClass_of_methodNamed B.named
  have hlocks := B.notSynchronized
  have hl := lv_entry ([.ref h_this, .int p1, .int p2, .int p3, .int p4, .int p5]) (n := 6) (Nat.le_of_ble_eq_true rfl)
  rw [lg_entry_eq]
  generalize (lg_sl ([.ref h_this, .int p1, .int p2, .int p3, .int p4, .int p5]) ++ List.replicate (6 - (lg_sl ([.ref h_this, .int p1, .int p2, .int p3, .int p4, .int p5])).length) Slot.unset).toArray = ls at hl ⊢
  have hl : lv_has ls 6 [(0, .ref h_this), (1, .int p1), (2, .int p2), (3, .int p3), (4, .int p4), (5, .int p5)] := hl
  refine lv_aload_n hx hb d_House_feed_0 rfl (lv_at hl 0 rfl) ?_
  refine va_get (D := (dC, dI)) (ci := 11) (v := .int (nI n)) (C := R_House) (T := F_House) (N := 11) hx hb hT i_House hown hK hP 0 rfl rfl 1 (by decide) (hT _ fl_House_83) (fun _ h9 => h9) g_this_length d_House_feed_1 ?_
  refine lv_bipush (v := 20) hx hb d_House_feed_4 (by decide) ?_
  refine lv_iadd hx hb d_House_feed_6 ?_
  refine lv_topi (fun x1 e1 => ?_)
  obtain rfl : x1 = nI (n + 20) := e1.trans (nI_add n 20)
  refine lv_sipush (v := 4000) hx hb d_House_feed_7 (by decide) ?_
  refine lv_icmp_le (tgt := 15) hx hb d_House_feed_10 (by decide) (fun c2 => absurd c2 (fun q => absurd ((nI_leI (b := 4000) (by omega) (by decide)).mp q) (by omega))) (fun c2 => ?_)
  refine lv_iconst (v := (-1)) hx hb d_House_feed_13 (by decide) ?_
  refine W.iret (v := (-1)) hx hb hr (fun t ht hW => ⟨(-1), rfl, ?_, ht⟩) (fun q h => by cases h) d_House_feed_14
  rfl
