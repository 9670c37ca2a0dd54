set_option maxHeartbeats 1000000 in
set_option maxRecDepth 100000 in
theorem c_Model_four (l : Launch) (dC : Nat → ClassId) (dI : Nat → Nat → Nat) (sz : Nat) (h_this : Nat) (h_text : Nat) (fs_this : List Value) (k_text : ClassId) (f_text : Nat → Int32) (p1 : Int32) (n : Nat) (len_this : fs_this.length = 153) (g_this_size : fs_this[1]? = some (.int (nI n))) (g_this_text : fs_this[0]? = some (.ref h_text)) (hn : n + 4 ≤ 4000) : Met l y_Model_four w_Model_four ({ frames := 0, cells := 0, slots := 0, locals := 0 } : Room) (va_Pc [.ref h_this, .int p1] (fun U => U.heap.size = sz ∧ va_P (dC, dI) cls_all [oc h_this 12 fs_this, ic h_text k_text 4000 f_text] U.heap ∧ va_K (dC, dI) cls_all [(k_text, .int)] U ∧ va_D (fun _ => True) [oc h_this 12 fs_this, ic h_text k_text 4000 f_text])) (va_Qv (fun (_ : Unit) => True) (fun _ t => ∃ (fs_this' : List Value) (f_text' : Nat → Int32), (fs_this'.length = 153 ∧ (∀ j : Nat, j ≠ 1 → fs_this'[j]? = fs_this[j]?) ∧ fs_this'[1]? = some (.int (nI (n + 4))) ∧ (f_text' = put4 f_text n p1)) ∧ va_P (dC, dI) cls_all [oc h_this 12 fs_this', ic h_text k_text 4000 f_text'] t.heap ∧ va_K (dC, dI) cls_all [(k_text, .int)] t ∧ va_D (va_A [oc h_this 12 fs_this, ic h_text k_text 4000 f_text] sz) [oc h_this 12 fs_this', ic h_text k_text 4000 f_text']) (va_A [oc h_this 12 fs_this, ic h_text k_text 4000 f_text] sz)) 0 0 (va_A [oc h_this 12 fs_this, ic h_text k_text 4000 f_text] sz) := by
  refine Met.ofW (cc := b_Model_four) (maxL := 3) (ret := none) (by decide) rfl ?_
  intro p e s m args below meth c s₁ B hml hv
  obtain ⟨rfl, hsz, hP, hK, hD0⟩ := hv
  have hx := B.exec
  have hb := B.bytes
  have hr := B.returns
  have hT : ∀ w ∈ lw_good, w.before _ s = true := fun w h => atoms_spec (ws := w_Model_four) B.pre w (List.mem_cons_of_mem _ h)
  have hown : s.vm.findClass R_Model = some m.cls := findClass_of_methodNamed B.named
  have hlocks := B.notSynchronized
  subst hsz
  have hD := hD0.self (sz := s.heap.size)
  generalize hAe : va_A [oc h_this 12 fs_this, ic h_text k_text 4000 f_text] s.heap.size = A at hD ⊢
  have hA : ∀ q : Nat, s.heap.size ≤ q → A q := fun q h => by rw [← hAe]; exact Or.inr h
  have hS : va_S A s.heap s.heap [] := va_S.rf
  have hP : va_P (dC, dI) cls_all [oc h_this 12 fs_this, ic h_text k_text 4000 f_text] s.heap := hP
  have hl := lv_entry ([.ref h_this, .int p1]) (n := 3) (Nat.le_of_ble_eq_true rfl)
  rw [lg_entry_eq]
  generalize (lg_sl ([.ref h_this, .int p1]) ++ List.replicate (3 - (lg_sl ([.ref h_this, .int p1])).length) Slot.unset).toArray = ls at hl ⊢
  have hl : lv_has ls 3 [(0, .ref h_this), (1, .int p1)] := hl
  refine lv_bipush (v := 24) hx hb d_Model_four_0 (by decide) ?_
  refine lv_istore_n (lv' := [(2, .int 24), (0, .ref h_this), (1, .int p1)]) hx hb d_Model_four_2 rfl hl (by decide) rfl (fun ls hl => ?_)
  refine lv_iload_n hx hb d_Model_four_3 rfl (lv_at hl 0 rfl) ?_
  refine lv_if_lt (tgt := 39) hx hb d_Model_four_4 (by decide) (fun c1 => absurd c1 (by decide)) (fun _ => ?_)
  refine lv_aload_n hx hb d_Model_four_7 rfl (lv_at hl 1 rfl) ?_
  refine va_get (D := (dC, dI)) (ci := 12) (v := .ref h_text) (C := R_Model) (T := F_Model) (N := 153) hx hb hT i_Model hown hK hP 0 rfl rfl 0 (by decide) (hT _ fl_Model_7) (fun _ h9 => h9) g_this_text d_Model_four_8 ?_
  refine lv_aload_n hx hb d_Model_four_11 rfl (lv_at hl 1 rfl) ?_
  refine va_get (D := (dC, dI)) (ci := 12) (v := .int (nI n)) (C := R_Model) (T := F_Model) (N := 153) hx hb hT i_Model hown hK hP 0 rfl rfl 1 (by decide) (hT _ fl_Model_313) (fun _ h9 => h9) g_this_size d_Model_four_12 ?_
  refine lv_iload_n hx hb d_Model_four_15 rfl (lv_at hl 2 rfl) ?_
  refine lv_iload_n hx hb d_Model_four_16 rfl (lv_at hl 0 rfl) ?_
  refine lv_ishr hx hb d_Model_four_17 ?_
  refine lv_topi (fun x2 e2 => ?_)
  refine lv_sipush (v := 255) hx hb d_Model_four_18 (by decide) ?_
  refine lv_iand hx hb d_Model_four_21 ?_
  refine lv_topi (fun x3 e3 => ?_)
  refine va_iast hx hb hK hP hD hS 1 0 rfl rfl (vp_in_nI (by omega) (by decide)) d_Model_four_22 (fun H locs hP hD hS => ?_)
  have es4 : upd f_text (nI n).toNatClampNeg x3 = upd f_text (n) (by4 p1 24) := by rw [nI_clamp (by omega), by4_m (sh := 24) 24 (by decide) rfl e2 e3]
  have hP : va_P (dC, dI) cls_all [oc h_this 12 fs_this, ic h_text k_text 4000 (upd f_text (nI n).toNatClampNeg x3)] H := hP
  have hD : va_D A [oc h_this 12 fs_this, ic h_text k_text 4000 (upd f_text (nI n).toNatClampNeg x3)] := hD
  rw [es4] at hP hD
  obtain ⟨f4, ef4⟩ : ∃ g, g = upd f_text (n) (by4 p1 24) := ⟨_, rfl⟩
  rw [← ef4] at hP hD
  refine lv_aload_n hx hb d_Model_four_23 rfl (lv_at hl 1 rfl) ?_
  refine lv_dup hx hb d_Model_four_24 rfl ?_
  refine va_get (D := (dC, dI)) (ci := 12) (v := .int (nI n)) (C := R_Model) (T := F_Model) (N := 153) hx hb hT i_Model hown hK hP 0 rfl rfl 1 (by decide) (hT _ fl_Model_313) (fun _ h9 => h9) g_this_size d_Model_four_25 ?_
  refine lv_iconst (v := 1) hx hb d_Model_four_28 (by decide) ?_
  refine lv_iadd hx hb d_Model_four_29 ?_
  refine lv_topi (fun x5 e5 => ?_)
  obtain rfl : x5 = nI (n + 1) := e5.trans (nI_add n 1)
  refine va_put (D := (dC, dI)) (ci := 12) (v := .int (nI (n + 1))) (ty := .int) (C := R_Model) (T := F_Model) (N := 153) hx hb hT i_Model t_Model t_Model_ok n_Model hown hK hP hD hS 0 rfl rfl 1 (by decide) (hT _ fl_Model_313) (fun _ h9 => h9) rfl (by decide +kernel) rfl rfl (by simp only [List.length_set, len_this]; decide) d_Model_four_30 (fun H locs hP hD hS => ?_)
  have hP : va_P (dC, dI) cls_all [oc h_this 12 (fs_this.set 1 (.int (nI (n + 1)))), ic h_text k_text 4000 f4] H := hP
  have hD : va_D A [oc h_this 12 (fs_this.set 1 (.int (nI (n + 1)))), ic h_text k_text 4000 f4] := hD
  refine lv_iinc (v := 16) (lv' := [(2, .int 16), (0, .ref h_this), (1, .int p1)]) hx hb d_Model_four_33 hl (k := 0) rfl (by decide) (by decide) rfl (fun ls hl => ?_)
  refine lv_goto (tgt := 3) hx hb d_Model_four_36 (by decide) ?_
  refine lv_iload_n hx hb d_Model_four_3 rfl (lv_at hl 0 rfl) ?_
  refine lv_if_lt (tgt := 39) hx hb d_Model_four_4 (by decide) (fun c6 => absurd c6 (by decide)) (fun _ => ?_)
  refine lv_aload_n hx hb d_Model_four_7 rfl (lv_at hl 1 rfl) ?_
  refine va_get (D := (dC, dI)) (ci := 12) (v := .ref h_text) (C := R_Model) (T := F_Model) (N := 153) hx hb hT i_Model hown hK hP 0 rfl rfl 0 (by decide) (hT _ fl_Model_7) (fun _ h9 => h9) ((ls_ne (by decide)).trans g_this_text) d_Model_four_8 ?_
  refine lv_aload_n hx hb d_Model_four_11 rfl (lv_at hl 1 rfl) ?_
  refine va_get (D := (dC, dI)) (ci := 12) (v := .int (nI (n + 1))) (C := R_Model) (T := F_Model) (N := 153) hx hb hT i_Model hown hK hP 0 rfl rfl 1 (by decide) (hT _ fl_Model_313) (fun _ h9 => h9) (ls_eq (by simp only [List.length_set, len_this]; decide)) d_Model_four_12 ?_
  refine lv_iload_n hx hb d_Model_four_15 rfl (lv_at hl 2 rfl) ?_
  refine lv_iload_n hx hb d_Model_four_16 rfl (lv_at hl 0 rfl) ?_
  refine lv_ishr hx hb d_Model_four_17 ?_
  refine lv_topi (fun x7 e7 => ?_)
  refine lv_sipush (v := 255) hx hb d_Model_four_18 (by decide) ?_
  refine lv_iand hx hb d_Model_four_21 ?_
  refine lv_topi (fun x8 e8 => ?_)
  refine va_iast hx hb hK hP hD hS 1 0 rfl rfl (vp_in_nI (by omega) (by decide)) d_Model_four_22 (fun H locs hP hD hS => ?_)
  have es9 : upd f4 (nI (n + 1)).toNatClampNeg x8 = upd f4 (n + 1) (by4 p1 16) := by rw [nI_clamp (by omega), by4_m (sh := 16) 16 (by decide) rfl e7 e8]
  have hP : va_P (dC, dI) cls_all [oc h_this 12 (fs_this.set 1 (.int (nI (n + 1)))), ic h_text k_text 4000 (upd f4 (nI (n + 1)).toNatClampNeg x8)] H := hP
  have hD : va_D A [oc h_this 12 (fs_this.set 1 (.int (nI (n + 1)))), ic h_text k_text 4000 (upd f4 (nI (n + 1)).toNatClampNeg x8)] := hD
  rw [es9] at hP hD
  obtain ⟨f9, ef9⟩ : ∃ g, g = upd f4 (n + 1) (by4 p1 16) := ⟨_, rfl⟩
  rw [← ef9] at hP hD
  refine lv_aload_n hx hb d_Model_four_23 rfl (lv_at hl 1 rfl) ?_
  refine lv_dup hx hb d_Model_four_24 rfl ?_
  refine va_get (D := (dC, dI)) (ci := 12) (v := .int (nI (n + 1))) (C := R_Model) (T := F_Model) (N := 153) hx hb hT i_Model hown hK hP 0 rfl rfl 1 (by decide) (hT _ fl_Model_313) (fun _ h9 => h9) (ls_eq (by simp only [List.length_set, len_this]; decide)) d_Model_four_25 ?_
  refine lv_iconst (v := 1) hx hb d_Model_four_28 (by decide) ?_
  refine lv_iadd hx hb d_Model_four_29 ?_
  refine lv_topi (fun x10 e10 => ?_)
  obtain rfl : x10 = nI (n + 2) := e10.trans (nI_add (n + 1) 1)
  refine va_put (D := (dC, dI)) (ci := 12) (v := .int (nI (n + 2))) (ty := .int) (C := R_Model) (T := F_Model) (N := 153) hx hb hT i_Model t_Model t_Model_ok n_Model hown hK hP hD hS 0 rfl rfl 1 (by decide) (hT _ fl_Model_313) (fun _ h9 => h9) rfl (by decide +kernel) rfl rfl (by simp only [List.length_set, len_this]; decide) d_Model_four_30 (fun H locs hP hD hS => ?_)
  have hP : va_P (dC, dI) cls_all [oc h_this 12 ((fs_this.set 1 (.int (nI (n + 1)))).set 1 (.int (nI (n + 2)))), ic h_text k_text 4000 f9] H := hP
  have hD : va_D A [oc h_this 12 ((fs_this.set 1 (.int (nI (n + 1)))).set 1 (.int (nI (n + 2)))), ic h_text k_text 4000 f9] := hD
  refine lv_iinc (v := 8) (lv' := [(2, .int 8), (0, .ref h_this), (1, .int p1)]) hx hb d_Model_four_33 hl (k := 0) rfl (by decide) (by decide) rfl (fun ls hl => ?_)
  refine lv_goto (tgt := 3) hx hb d_Model_four_36 (by decide) ?_
  refine lv_iload_n hx hb d_Model_four_3 rfl (lv_at hl 0 rfl) ?_
  refine lv_if_lt (tgt := 39) hx hb d_Model_four_4 (by decide) (fun c11 => absurd c11 (by decide)) (fun _ => ?_)
  refine lv_aload_n hx hb d_Model_four_7 rfl (lv_at hl 1 rfl) ?_
  refine va_get (D := (dC, dI)) (ci := 12) (v := .ref h_text) (C := R_Model) (T := F_Model) (N := 153) hx hb hT i_Model hown hK hP 0 rfl rfl 0 (by decide) (hT _ fl_Model_7) (fun _ h9 => h9) ((ls_ne (by decide)).trans ((ls_ne (by decide)).trans g_this_text)) d_Model_four_8 ?_
  refine lv_aload_n hx hb d_Model_four_11 rfl (lv_at hl 1 rfl) ?_
  refine va_get (D := (dC, dI)) (ci := 12) (v := .int (nI (n + 2))) (C := R_Model) (T := F_Model) (N := 153) hx hb hT i_Model hown hK hP 0 rfl rfl 1 (by decide) (hT _ fl_Model_313) (fun _ h9 => h9) (ls_eq (by simp only [List.length_set, len_this]; decide)) d_Model_four_12 ?_
  refine lv_iload_n hx hb d_Model_four_15 rfl (lv_at hl 2 rfl) ?_
  refine lv_iload_n hx hb d_Model_four_16 rfl (lv_at hl 0 rfl) ?_
  refine lv_ishr hx hb d_Model_four_17 ?_
  refine lv_topi (fun x12 e12 => ?_)
  refine lv_sipush (v := 255) hx hb d_Model_four_18 (by decide) ?_
  refine lv_iand hx hb d_Model_four_21 ?_
  refine lv_topi (fun x13 e13 => ?_)
  refine va_iast hx hb hK hP hD hS 1 0 rfl rfl (vp_in_nI (by omega) (by decide)) d_Model_four_22 (fun H locs hP hD hS => ?_)
  have es14 : upd f9 (nI (n + 2)).toNatClampNeg x13 = upd f9 (n + 2) (by4 p1 8) := by rw [nI_clamp (by omega), by4_m (sh := 8) 8 (by decide) rfl e12 e13]
  have hP : va_P (dC, dI) cls_all [oc h_this 12 ((fs_this.set 1 (.int (nI (n + 1)))).set 1 (.int (nI (n + 2)))), ic h_text k_text 4000 (upd f9 (nI (n + 2)).toNatClampNeg x13)] H := hP
  have hD : va_D A [oc h_this 12 ((fs_this.set 1 (.int (nI (n + 1)))).set 1 (.int (nI (n + 2)))), ic h_text k_text 4000 (upd f9 (nI (n + 2)).toNatClampNeg x13)] := hD
  rw [es14] at hP hD
  obtain ⟨f14, ef14⟩ : ∃ g, g = upd f9 (n + 2) (by4 p1 8) := ⟨_, rfl⟩
  rw [← ef14] at hP hD
  refine lv_aload_n hx hb d_Model_four_23 rfl (lv_at hl 1 rfl) ?_
  refine lv_dup hx hb d_Model_four_24 rfl ?_
  refine va_get (D := (dC, dI)) (ci := 12) (v := .int (nI (n + 2))) (C := R_Model) (T := F_Model) (N := 153) hx hb hT i_Model hown hK hP 0 rfl rfl 1 (by decide) (hT _ fl_Model_313) (fun _ h9 => h9) (ls_eq (by simp only [List.length_set, len_this]; decide)) d_Model_four_25 ?_
  refine lv_iconst (v := 1) hx hb d_Model_four_28 (by decide) ?_
  refine lv_iadd hx hb d_Model_four_29 ?_
  refine lv_topi (fun x15 e15 => ?_)
  obtain rfl : x15 = nI (n + 3) := e15.trans (nI_add (n + 2) 1)
  refine va_put (D := (dC, dI)) (ci := 12) (v := .int (nI (n + 3))) (ty := .int) (C := R_Model) (T := F_Model) (N := 153) hx hb hT i_Model t_Model t_Model_ok n_Model hown hK hP hD hS 0 rfl rfl 1 (by decide) (hT _ fl_Model_313) (fun _ h9 => h9) rfl (by decide +kernel) rfl rfl (by simp only [List.length_set, len_this]; decide) d_Model_four_30 (fun H locs hP hD hS => ?_)
  have hP : va_P (dC, dI) cls_all [oc h_this 12 (((fs_this.set 1 (.int (nI (n + 1)))).set 1 (.int (nI (n + 2)))).set 1 (.int (nI (n + 3)))), ic h_text k_text 4000 f14] H := hP
  have hD : va_D A [oc h_this 12 (((fs_this.set 1 (.int (nI (n + 1)))).set 1 (.int (nI (n + 2)))).set 1 (.int (nI (n + 3)))), ic h_text k_text 4000 f14] := hD
  refine lv_iinc (v := 0) (lv' := [(2, .int 0), (0, .ref h_this), (1, .int p1)]) hx hb d_Model_four_33 hl (k := 0) rfl (by decide) (by decide) rfl (fun ls hl => ?_)
  refine lv_goto (tgt := 3) hx hb d_Model_four_36 (by decide) ?_
  refine lv_iload_n hx hb d_Model_four_3 rfl (lv_at hl 0 rfl) ?_
  refine lv_if_lt (tgt := 39) hx hb d_Model_four_4 (by decide) (fun c16 => absurd c16 (by decide)) (fun _ => ?_)
  refine lv_aload_n hx hb d_Model_four_7 rfl (lv_at hl 1 rfl) ?_
  refine va_get (D := (dC, dI)) (ci := 12) (v := .ref h_text) (C := R_Model) (T := F_Model) (N := 153) hx hb hT i_Model hown hK hP 0 rfl rfl 0 (by decide) (hT _ fl_Model_7) (fun _ h9 => h9) ((ls_ne (by decide)).trans ((ls_ne (by decide)).trans ((ls_ne (by decide)).trans g_this_text))) d_Model_four_8 ?_
  refine lv_aload_n hx hb d_Model_four_11 rfl (lv_at hl 1 rfl) ?_
  refine va_get (D := (dC, dI)) (ci := 12) (v := .int (nI (n + 3))) (C := R_Model) (T := F_Model) (N := 153) hx hb hT i_Model hown hK hP 0 rfl rfl 1 (by decide) (hT _ fl_Model_313) (fun _ h9 => h9) (ls_eq (by simp only [List.length_set, len_this]; decide)) d_Model_four_12 ?_
  refine lv_iload_n hx hb d_Model_four_15 rfl (lv_at hl 2 rfl) ?_
  refine lv_iload_n hx hb d_Model_four_16 rfl (lv_at hl 0 rfl) ?_
  refine lv_ishr hx hb d_Model_four_17 ?_
  refine lv_topi (fun x17 e17 => ?_)
  refine lv_sipush (v := 255) hx hb d_Model_four_18 (by decide) ?_
  refine lv_iand hx hb d_Model_four_21 ?_
  refine lv_topi (fun x18 e18 => ?_)
  refine va_iast hx hb hK hP hD hS 1 0 rfl rfl (vp_in_nI (by omega) (by decide)) d_Model_four_22 (fun H locs hP hD hS => ?_)
  have es19 : upd f14 (nI (n + 3)).toNatClampNeg x18 = upd f14 (n + 3) (by4 p1 0) := by rw [nI_clamp (by omega), by4_m (sh := 0) 0 (by decide) rfl e17 e18]
  have hP : va_P (dC, dI) cls_all [oc h_this 12 (((fs_this.set 1 (.int (nI (n + 1)))).set 1 (.int (nI (n + 2)))).set 1 (.int (nI (n + 3)))), ic h_text k_text 4000 (upd f14 (nI (n + 3)).toNatClampNeg x18)] H := hP
  have hD : va_D A [oc h_this 12 (((fs_this.set 1 (.int (nI (n + 1)))).set 1 (.int (nI (n + 2)))).set 1 (.int (nI (n + 3)))), ic h_text k_text 4000 (upd f14 (nI (n + 3)).toNatClampNeg x18)] := hD
  rw [es19] at hP hD
  obtain ⟨f19, ef19⟩ : ∃ g, g = upd f14 (n + 3) (by4 p1 0) := ⟨_, rfl⟩
  rw [← ef19] at hP hD
  refine lv_aload_n hx hb d_Model_four_23 rfl (lv_at hl 1 rfl) ?_
  refine lv_dup hx hb d_Model_four_24 rfl ?_
  refine va_get (D := (dC, dI)) (ci := 12) (v := .int (nI (n + 3))) (C := R_Model) (T := F_Model) (N := 153) hx hb hT i_Model hown hK hP 0 rfl rfl 1 (by decide) (hT _ fl_Model_313) (fun _ h9 => h9) (ls_eq (by simp only [List.length_set, len_this]; decide)) d_Model_four_25 ?_
  refine lv_iconst (v := 1) hx hb d_Model_four_28 (by decide) ?_
  refine lv_iadd hx hb d_Model_four_29 ?_
  refine lv_topi (fun x20 e20 => ?_)
  obtain rfl : x20 = nI (n + 4) := e20.trans (nI_add (n + 3) 1)
  refine va_put (D := (dC, dI)) (ci := 12) (v := .int (nI (n + 4))) (ty := .int) (C := R_Model) (T := F_Model) (N := 153) hx hb hT i_Model t_Model t_Model_ok n_Model hown hK hP hD hS 0 rfl rfl 1 (by decide) (hT _ fl_Model_313) (fun _ h9 => h9) rfl (by decide +kernel) rfl rfl (by simp only [List.length_set, len_this]; decide) d_Model_four_30 (fun H locs hP hD hS => ?_)
  have hP : va_P (dC, dI) cls_all [oc h_this 12 ((((fs_this.set 1 (.int (nI (n + 1)))).set 1 (.int (nI (n + 2)))).set 1 (.int (nI (n + 3)))).set 1 (.int (nI (n + 4)))), ic h_text k_text 4000 f19] H := hP
  have hD : va_D A [oc h_this 12 ((((fs_this.set 1 (.int (nI (n + 1)))).set 1 (.int (nI (n + 2)))).set 1 (.int (nI (n + 3)))).set 1 (.int (nI (n + 4)))), ic h_text k_text 4000 f19] := hD
  refine lv_iinc (v := (-8)) (lv' := [(2, .int (-8)), (0, .ref h_this), (1, .int p1)]) hx hb d_Model_four_33 hl (k := 0) rfl (by decide) (by decide) rfl (fun ls hl => ?_)
  refine lv_goto (tgt := 3) hx hb d_Model_four_36 (by decide) ?_
  refine lv_iload_n hx hb d_Model_four_3 rfl (lv_at hl 0 rfl) ?_
  refine lv_if_lt (tgt := 39) hx hb d_Model_four_4 (by decide) (fun _ => ?_) (fun c21 => absurd (by decide) c21)
  have hP9 := hP.sub (ws' := [oc h_this 12 ((((fs_this.set 1 (.int (nI (n + 1)))).set 1 (.int (nI (n + 2)))).set 1 (.int (nI (n + 3)))).set 1 (.int (nI (n + 4)))), ic h_text k_text 4000 f19]) [0, 1] rfl
  have hD9 := hD.sub (ws' := [oc h_this 12 ((((fs_this.set 1 (.int (nI (n + 1)))).set 1 (.int (nI (n + 2)))).set 1 (.int (nI (n + 3)))).set 1 (.int (nI (n + 4)))), ic h_text k_text 4000 f19]) [0, 1] (by decide) rfl
  have hK9 := hK.sub (tys' := [(k_text, .int)]) [0] rfl
  have hv22 : ((((fs_this.set 1 (.int (nI (n + 1)))).set 1 (.int (nI (n + 2)))).set 1 (.int (nI (n + 3)))).set 1 (.int (nI (n + 4))))[1]? = some (.int (nI (n + 4))) := (ls_eq (by simp only [List.length_set, len_this]; decide))
  exact W.vret hx hb hr (fun t ht hW => ⟨⟨(), rfl, trivial, ((((fs_this.set 1 (.int (nI (n + 1)))).set 1 (.int (nI (n + 2)))).set 1 (.int (nI (n + 3)))).set 1 (.int (nI (n + 4)))), f19, ⟨(by first | exact len_this | (simp only [List.length_set]; exact len_this)), (fun j n1 => ((ls_ne n1).trans ((ls_ne n1).trans ((ls_ne n1).trans ((ls_ne n1).trans rfl))))), (by first | exact hv22 | (rw [hv22]; refine congrArg some (congrArg _ ?_); subst_vars; rfl)), (by subst_vars; rfl)⟩, by rw [ht]; exact hP9, va_K.moved hW.alike hK9, hD9⟩, hS.F ht⟩) hS.2.2 d_Model_four_39
set_option maxHeartbeats 1000000 in
set_option maxRecDepth 100000 in
theorem c_Model_feed_in (l : Launch) (dC : Nat → ClassId) (dI : Nat → Nat → Nat) (sz : Nat) (h_this : Nat) (h_text : Nat) (fs_this : List Value) (k_text : ClassId) (f_text : Nat → Int32) (p1 : Int32) (p2 : Int32) (p3 : Int32) (p4 : Int32) (p5 : Int32) (n : Nat) (len_this : fs_this.length = 153) (g_this_size : fs_this[1]? = some (.int (nI n))) (g_this_text : fs_this[0]? = some (.ref h_text)) (hn : n + 20 ≤ 4000) : Met l y_Model_feed w_Model_feed ({ frames := 1, cells := 0, slots := 0, locals := 22 } : Room) (va_Pc [.ref h_this, .int p1, .int p2, .int p3, .int p4, .int p5] (fun U => U.heap.size = sz ∧ va_P (dC, dI) cls_all [oc h_this 12 fs_this, ic h_text k_text 4000 f_text] U.heap ∧ va_K (dC, dI) cls_all [(k_text, .int)] U ∧ va_D (fun _ => True) [oc h_this 12 fs_this, ic h_text k_text 4000 f_text])) (va_Qi (fun (z r : Int32) => z = r) (fun r t => ∃ (fs_this' : List Value) (f_text' : Nat → Int32), (fs_this'.length = 153 ∧ (∀ j : Nat, j ≠ 1 → fs_this'[j]? = fs_this[j]?) ∧ fs_this'[1]? = some (.int (nI (n + 20))) ∧ (f_text' = put20 f_text n p1 p2 p3 p4 p5) ∧ (r = nI (n + 20))) ∧ va_P (dC, dI) cls_all [oc h_this 12 fs_this', ic h_text k_text 4000 f_text'] t.heap ∧ va_K (dC, dI) cls_all [(k_text, .int)] t ∧ va_D (va_A [oc h_this 12 fs_this, ic h_text k_text 4000 f_text] sz) [oc h_this 12 fs_this', ic h_text k_text 4000 f_text']) (va_A [oc h_this 12 fs_this, ic h_text k_text 4000 f_text] sz)) 0 0 (va_A [oc h_this 12 fs_this, ic h_text k_text 4000 f_text] sz) := by
  refine Met.ofW (cc := b_Model_feed) (maxL := 6) (ret := (some .int)) (by decide) rfl ?_
  intro p e s m args below meth c s₁ B hml hv
  obtain ⟨rfl, hsz, hP, hK, hD0⟩ := hv
  have hx := B.exec
  have hb := B.bytes
  have hr := B.returns
  have hT : ∀ w ∈ lw_good, w.before _ s = true := fun w h => atoms_spec (ws := w_Model_feed) B.pre w (List.mem_cons_of_mem _ h)
  have hown : s.vm.findClass R_Model = some m.cls := findClass_of_methodNamed B.named
  have hlocks := B.notSynchronized
  subst hsz
  have hD := hD0.self (sz := s.heap.size)
  generalize hAe : va_A [oc h_this 12 fs_this, ic h_text k_text 4000 f_text] s.heap.size = A at hD ⊢
  have hA : ∀ q : Nat, s.heap.size ≤ q → A q := fun q h => by rw [← hAe]; exact Or.inr h
  have hS : va_S A s.heap s.heap [] := va_S.rf
  have hP : va_P (dC, dI) cls_all [oc h_this 12 fs_this, ic h_text k_text 4000 f_text] s.heap := hP
  have hl := lv_entry ([.ref h_this, .int p1, .int p2, .int p3, .int p4, .int p5]) (n := 6) (Nat.le_of_ble_eq_true rfl)
  rw [lg_entry_eq]
  generalize (lg_sl ([.ref h_this, .int p1, .int p2, .int p3, .int p4, .int p5]) ++ List.replicate (6 - (lg_sl ([.ref h_this, .int p1, .int p2, .int p3, .int p4, .int p5])).length) Slot.unset).toArray = ls at hl ⊢
  have hl : lv_has ls 6 [(0, .ref h_this), (1, .int p1), (2, .int p2), (3, .int p3), (4, .int p4), (5, .int p5)] := hl
  refine lv_aload_n hx hb d_Model_feed_0 rfl (lv_at hl 0 rfl) ?_
  refine va_get (D := (dC, dI)) (ci := 12) (v := .int (nI n)) (C := R_Model) (T := F_Model) (N := 153) hx hb hT i_Model hown hK hP 0 rfl rfl 1 (by decide) (hT _ fl_Model_313) (fun _ h9 => h9) g_this_size d_Model_feed_1 ?_
  refine lv_bipush (v := 20) hx hb d_Model_feed_4 (by decide) ?_
  refine lv_iadd hx hb d_Model_feed_6 ?_
  refine lv_topi (fun x1 e1 => ?_)
  obtain rfl : x1 = nI (n + 20) := e1.trans (nI_add n 20)
  refine lv_sipush (v := 4000) hx hb d_Model_feed_7 (by decide) ?_
  refine lv_icmp_le (tgt := 15) hx hb d_Model_feed_10 (by decide) (fun c2 => ?_) (fun c2 => absurd ((nI_leI (b := 4000) (by omega) (by decide)).mpr (by omega)) c2)
  refine lv_aload_n hx hb d_Model_feed_15 rfl (lv_at hl 0 rfl) ?_
  refine lv_iload_n hx hb d_Model_feed_16 rfl (lv_at hl 1 rfl) ?_
  have hPc := hP.sub (ws' := [oc h_this 12 fs_this, ic h_text k_text 4000 f_text]) [0, 1] rfl
  have hKc := hK.sub (tys' := [(k_text, .int)]) [0] rfl
  have hDc := hD.sub (ws' := [oc h_this 12 fs_this, ic h_text k_text 4000 f_text]) [0, 1] (by decide) rfl
  have hFc := va_free (wc := [oc h_this 12 fs_this, ic h_text k_text 4000 f_text]) hD hS hA [0, 1] rfl
  refine va_callv (va_runV (As := [.int p1]) (rest := []) ⟨hx, hb, hml, hown, hT⟩ (c_Model_four l dC dI (sz := s.heap.size) (h_this := h_this) (h_text := h_text) (fs_this := fs_this) (k_text := k_text) (f_text := f_text) (p1 := p1) (n := n) (len_this := (by first | exact len_this | (simp only [List.length_set]; exact len_this))) (g_this_size := g_this_size) (g_this_text := g_this_text) (hn := (by omega))) (cwV 1 hT (gV ml_Model_316 im_Model_four se_Model_four ini_Model co_Model_four) rfl rfl rfl (by decide +kernel) ⟨Nat.le_of_ble_eq_true rfl, Nat.le_of_ble_eq_true rfl⟩) ⟨fbQ, va_recv hKc hPc (ci := 12) (q0 := 0) rfl rfl, fun U hU hW => ⟨rfl, by rw [hU], by rw [hU]; exact hPc, va_K.moved hW.alike hKc, hDc.weaken (fun _ _ _ _ => trivial)⟩⟩ rfl rfl hl.1 rfl (lv_room (Nat.le_of_ble_eq_true rfl)) d_Model_feed_17 ⟨Nat.le_of_ble_eq_true rfl, Nat.le_of_ble_eq_true rfl⟩) hS (fun q _ h => hFc q h) hFc (fun u t H1 locs ht hvm hw hB hz1 hk1 hS => ?_)
  obtain ⟨fs_this_3, f_text_3, ⟨hw3_0, hw3_1, hw3_2, hw3_3⟩, hP1, hK1, hD1⟩ := hB
  rw [ht] at hP1
  have hK1 := va_K.moved hvm.symm hK1
  obtain ⟨hP, hD⟩ := va_join (wr := []) (w1 := [oc h_this 12 fs_this_3, ic h_text k_text 4000 f_text_3]) hP hD [0, 1] [] rfl rfl (by decide) (by decide) hk1 hFc hP1 hD1
  generalize H1 = H at hP hS ⊢
  have hP : va_P (dC, dI) cls_all [oc h_this 12 fs_this_3, ic h_text k_text 4000 f_text_3] H := hP
  have hD : va_D A [oc h_this 12 fs_this_3, ic h_text k_text 4000 f_text_3] := hD
  refine lv_aload_n hx hb d_Model_feed_20 rfl (lv_at hl 0 rfl) ?_
  refine lv_iload_n hx hb d_Model_feed_21 rfl (lv_at hl 2 rfl) ?_
  have hPc := hP.sub (ws' := [oc h_this 12 fs_this_3, ic h_text k_text 4000 f_text_3]) [0, 1] rfl
  have hKc := hK.sub (tys' := [(k_text, .int)]) [0] rfl
  have hDc := hD.sub (ws' := [oc h_this 12 fs_this_3, ic h_text k_text 4000 f_text_3]) [0, 1] (by decide) rfl
  have hFc := va_free (wc := [oc h_this 12 fs_this_3, ic h_text k_text 4000 f_text_3]) hD hS hA [0, 1] rfl
  refine va_callv (va_runV (As := [.int p2]) (rest := []) ⟨hx, hb, hml, hown, hT⟩ (c_Model_four l dC dI (sz := H.size) (h_this := h_this) (h_text := h_text) (fs_this := fs_this_3) (k_text := k_text) (f_text := f_text_3) (p1 := p2) (n := (n + 4)) (len_this := (by first | exact hw3_0 | (simp only [List.length_set]; exact hw3_0))) (g_this_size := hw3_2) (g_this_text := ((hw3_1 0 (by decide)).trans g_this_text)) (hn := (by omega))) (cwV 1 hT (gV ml_Model_316 im_Model_four se_Model_four ini_Model co_Model_four) rfl rfl rfl (by decide +kernel) ⟨Nat.le_of_ble_eq_true rfl, Nat.le_of_ble_eq_true rfl⟩) ⟨fbQ, va_recv hKc hPc (ci := 12) (q0 := 0) rfl rfl, fun U hU hW => ⟨rfl, by rw [hU], by rw [hU]; exact hPc, va_K.moved hW.alike hKc, hDc.weaken (fun _ _ _ _ => trivial)⟩⟩ rfl rfl hl.1 rfl (lv_room (Nat.le_of_ble_eq_true rfl)) d_Model_feed_22 ⟨Nat.le_of_ble_eq_true rfl, Nat.le_of_ble_eq_true rfl⟩) hS (fun q _ h => hFc q h) hFc (fun u t H1 locs ht hvm hw hB hz1 hk1 hS => ?_)
  obtain ⟨fs_this_4, f_text_4, ⟨hw4_0, hw4_1, hw4_2, hw4_3⟩, hP1, hK1, hD1⟩ := hB
  rw [ht] at hP1
  have hK1 := va_K.moved hvm.symm hK1
  obtain ⟨hP, hD⟩ := va_join (wr := []) (w1 := [oc h_this 12 fs_this_4, ic h_text k_text 4000 f_text_4]) hP hD [0, 1] [] rfl rfl (by decide) (by decide) hk1 hFc hP1 hD1
  generalize H1 = H at hP hS ⊢
  have hP : va_P (dC, dI) cls_all [oc h_this 12 fs_this_4, ic h_text k_text 4000 f_text_4] H := hP
  have hD : va_D A [oc h_this 12 fs_this_4, ic h_text k_text 4000 f_text_4] := hD
  refine lv_aload_n hx hb d_Model_feed_25 rfl (lv_at hl 0 rfl) ?_
  refine lv_iload_n hx hb d_Model_feed_26 rfl (lv_at hl 3 rfl) ?_
  have hPc := hP.sub (ws' := [oc h_this 12 fs_this_4, ic h_text k_text 4000 f_text_4]) [0, 1] rfl
  have hKc := hK.sub (tys' := [(k_text, .int)]) [0] rfl
  have hDc := hD.sub (ws' := [oc h_this 12 fs_this_4, ic h_text k_text 4000 f_text_4]) [0, 1] (by decide) rfl
  have hFc := va_free (wc := [oc h_this 12 fs_this_4, ic h_text k_text 4000 f_text_4]) hD hS hA [0, 1] rfl
  refine va_callv (va_runV (As := [.int p3]) (rest := []) ⟨hx, hb, hml, hown, hT⟩ (c_Model_four l dC dI (sz := H.size) (h_this := h_this) (h_text := h_text) (fs_this := fs_this_4) (k_text := k_text) (f_text := f_text_4) (p1 := p3) (n := (n + 8)) (len_this := (by first | exact hw4_0 | (simp only [List.length_set]; exact hw4_0))) (g_this_size := hw4_2) (g_this_text := ((hw4_1 0 (by decide)).trans ((hw3_1 0 (by decide)).trans g_this_text))) (hn := (by omega))) (cwV 1 hT (gV ml_Model_316 im_Model_four se_Model_four ini_Model co_Model_four) rfl rfl rfl (by decide +kernel) ⟨Nat.le_of_ble_eq_true rfl, Nat.le_of_ble_eq_true rfl⟩) ⟨fbQ, va_recv hKc hPc (ci := 12) (q0 := 0) rfl rfl, fun U hU hW => ⟨rfl, by rw [hU], by rw [hU]; exact hPc, va_K.moved hW.alike hKc, hDc.weaken (fun _ _ _ _ => trivial)⟩⟩ rfl rfl hl.1 rfl (lv_room (Nat.le_of_ble_eq_true rfl)) d_Model_feed_27 ⟨Nat.le_of_ble_eq_true rfl, Nat.le_of_ble_eq_true rfl⟩) hS (fun q _ h => hFc q h) hFc (fun u t H1 locs ht hvm hw hB hz1 hk1 hS => ?_)
  obtain ⟨fs_this_5, f_text_5, ⟨hw5_0, hw5_1, hw5_2, hw5_3⟩, hP1, hK1, hD1⟩ := hB
  rw [ht] at hP1
  have hK1 := va_K.moved hvm.symm hK1
  obtain ⟨hP, hD⟩ := va_join (wr := []) (w1 := [oc h_this 12 fs_this_5, ic h_text k_text 4000 f_text_5]) hP hD [0, 1] [] rfl rfl (by decide) (by decide) hk1 hFc hP1 hD1
  generalize H1 = H at hP hS ⊢
  have hP : va_P (dC, dI) cls_all [oc h_this 12 fs_this_5, ic h_text k_text 4000 f_text_5] H := hP
  have hD : va_D A [oc h_this 12 fs_this_5, ic h_text k_text 4000 f_text_5] := hD
  refine lv_aload_n hx hb d_Model_feed_30 rfl (lv_at hl 0 rfl) ?_
  refine lv_iload hx hb d_Model_feed_31 (lv_at hl 4 rfl) ?_
  have hPc := hP.sub (ws' := [oc h_this 12 fs_this_5, ic h_text k_text 4000 f_text_5]) [0, 1] rfl
  have hKc := hK.sub (tys' := [(k_text, .int)]) [0] rfl
  have hDc := hD.sub (ws' := [oc h_this 12 fs_this_5, ic h_text k_text 4000 f_text_5]) [0, 1] (by decide) rfl
  have hFc := va_free (wc := [oc h_this 12 fs_this_5, ic h_text k_text 4000 f_text_5]) hD hS hA [0, 1] rfl
  refine va_callv (va_runV (As := [.int p4]) (rest := []) ⟨hx, hb, hml, hown, hT⟩ (c_Model_four l dC dI (sz := H.size) (h_this := h_this) (h_text := h_text) (fs_this := fs_this_5) (k_text := k_text) (f_text := f_text_5) (p1 := p4) (n := (n + 12)) (len_this := (by first | exact hw5_0 | (simp only [List.length_set]; exact hw5_0))) (g_this_size := hw5_2) (g_this_text := ((hw5_1 0 (by decide)).trans ((hw4_1 0 (by decide)).trans ((hw3_1 0 (by decide)).trans g_this_text)))) (hn := (by omega))) (cwV 1 hT (gV ml_Model_316 im_Model_four se_Model_four ini_Model co_Model_four) rfl rfl rfl (by decide +kernel) ⟨Nat.le_of_ble_eq_true rfl, Nat.le_of_ble_eq_true rfl⟩) ⟨fbQ, va_recv hKc hPc (ci := 12) (q0 := 0) rfl rfl, fun U hU hW => ⟨rfl, by rw [hU], by rw [hU]; exact hPc, va_K.moved hW.alike hKc, hDc.weaken (fun _ _ _ _ => trivial)⟩⟩ rfl rfl hl.1 rfl (lv_room (Nat.le_of_ble_eq_true rfl)) d_Model_feed_33 ⟨Nat.le_of_ble_eq_true rfl, Nat.le_of_ble_eq_true rfl⟩) hS (fun q _ h => hFc q h) hFc (fun u t H1 locs ht hvm hw hB hz1 hk1 hS => ?_)
  obtain ⟨fs_this_6, f_text_6, ⟨hw6_0, hw6_1, hw6_2, hw6_3⟩, hP1, hK1, hD1⟩ := hB
  rw [ht] at hP1
  have hK1 := va_K.moved hvm.symm hK1
  obtain ⟨hP, hD⟩ := va_join (wr := []) (w1 := [oc h_this 12 fs_this_6, ic h_text k_text 4000 f_text_6]) hP hD [0, 1] [] rfl rfl (by decide) (by decide) hk1 hFc hP1 hD1
  generalize H1 = H at hP hS ⊢
  have hP : va_P (dC, dI) cls_all [oc h_this 12 fs_this_6, ic h_text k_text 4000 f_text_6] H := hP
  have hD : va_D A [oc h_this 12 fs_this_6, ic h_text k_text 4000 f_text_6] := hD
  refine lv_aload_n hx hb d_Model_feed_36 rfl (lv_at hl 0 rfl) ?_
  refine lv_iload hx hb d_Model_feed_37 (lv_at hl 5 rfl) ?_
  have hPc := hP.sub (ws' := [oc h_this 12 fs_this_6, ic h_text k_text 4000 f_text_6]) [0, 1] rfl
  have hKc := hK.sub (tys' := [(k_text, .int)]) [0] rfl
  have hDc := hD.sub (ws' := [oc h_this 12 fs_this_6, ic h_text k_text 4000 f_text_6]) [0, 1] (by decide) rfl
  have hFc := va_free (wc := [oc h_this 12 fs_this_6, ic h_text k_text 4000 f_text_6]) hD hS hA [0, 1] rfl
  refine va_callv (va_runV (As := [.int p5]) (rest := []) ⟨hx, hb, hml, hown, hT⟩ (c_Model_four l dC dI (sz := H.size) (h_this := h_this) (h_text := h_text) (fs_this := fs_this_6) (k_text := k_text) (f_text := f_text_6) (p1 := p5) (n := (n + 16)) (len_this := (by first | exact hw6_0 | (simp only [List.length_set]; exact hw6_0))) (g_this_size := hw6_2) (g_this_text := ((hw6_1 0 (by decide)).trans ((hw5_1 0 (by decide)).trans ((hw4_1 0 (by decide)).trans ((hw3_1 0 (by decide)).trans g_this_text))))) (hn := (by omega))) (cwV 1 hT (gV ml_Model_316 im_Model_four se_Model_four ini_Model co_Model_four) rfl rfl rfl (by decide +kernel) ⟨Nat.le_of_ble_eq_true rfl, Nat.le_of_ble_eq_true rfl⟩) ⟨fbQ, va_recv hKc hPc (ci := 12) (q0 := 0) rfl rfl, fun U hU hW => ⟨rfl, by rw [hU], by rw [hU]; exact hPc, va_K.moved hW.alike hKc, hDc.weaken (fun _ _ _ _ => trivial)⟩⟩ rfl rfl hl.1 rfl (lv_room (Nat.le_of_ble_eq_true rfl)) d_Model_feed_39 ⟨Nat.le_of_ble_eq_true rfl, Nat.le_of_ble_eq_true rfl⟩) hS (fun q _ h => hFc q h) hFc (fun u t H1 locs ht hvm hw hB hz1 hk1 hS => ?_)
  obtain ⟨fs_this_7, f_text_7, ⟨hw7_0, hw7_1, hw7_2, hw7_3⟩, hP1, hK1, hD1⟩ := hB
  rw [ht] at hP1
  have hK1 := va_K.moved hvm.symm hK1
  obtain ⟨hP, hD⟩ := va_join (wr := []) (w1 := [oc h_this 12 fs_this_7, ic h_text k_text 4000 f_text_7]) hP hD [0, 1] [] rfl rfl (by decide) (by decide) hk1 hFc hP1 hD1
  generalize H1 = H at hP hS ⊢
  have hP : va_P (dC, dI) cls_all [oc h_this 12 fs_this_7, ic h_text k_text 4000 f_text_7] H := hP
  have hD : va_D A [oc h_this 12 fs_this_7, ic h_text k_text 4000 f_text_7] := hD
  refine lv_aload_n hx hb d_Model_feed_42 rfl (lv_at hl 0 rfl) ?_
  refine va_get (D := (dC, dI)) (ci := 12) (v := .int (nI ((n + 16) + 4))) (C := R_Model) (T := F_Model) (N := 153) hx hb hT i_Model hown hK hP 0 rfl rfl 1 (by decide) (hT _ fl_Model_313) (fun _ h9 => h9) hw7_2 d_Model_feed_43 ?_
  have hP9 := hP.sub (ws' := [oc h_this 12 fs_this_7, ic h_text k_text 4000 f_text_7]) [0, 1] rfl
  have hD9 := hD.sub (ws' := [oc h_this 12 fs_this_7, ic h_text k_text 4000 f_text_7]) [0, 1] (by decide) rfl
  have hK9 := hK.sub (tys' := [(k_text, .int)]) [0] rfl
  have hv8 : fs_this_7[1]? = some (.int (nI ((n + 16) + 4))) := hw7_2
  exact W.iret (v := (nI ((n + 16) + 4))) hx hb hr (fun t ht hW => ⟨⟨(nI ((n + 16) + 4)), (nI ((n + 16) + 4)), rfl, rfl, fs_this_7, f_text_7, ⟨(by first | exact hw7_0 | (simp only [List.length_set]; exact hw7_0)), (fun j n1 => ((hw7_1 j n1).trans ((hw6_1 j n1).trans ((hw5_1 j n1).trans ((hw4_1 j n1).trans ((hw3_1 j n1).trans rfl)))))), (by first | exact hv8 | (rw [hv8]; refine congrArg some (congrArg _ ?_); subst_vars; rfl)), (by subst_vars; rfl), (by subst_vars; rfl)⟩, by rw [ht]; exact hP9, va_K.moved hW.alike hK9, hD9⟩, hS.F ht⟩) hS.2.2 d_Model_feed_46
set_option maxHeartbeats 1000000 in
set_option maxRecDepth 100000 in
theorem c_Model_feed_out (l : Launch) (dC : Nat → ClassId) (dI : Nat → Nat → Nat)  (h_this : Nat) (fs_this : List Value) (p1 : Int32) (p2 : Int32) (p3 : Int32) (p4 : Int32) (p5 : Int32) (n : Nat) (len_this : fs_this.length = 153) (g_this_size : fs_this[1]? = some (.int (nI n))) (hn : 4000 < n + 20) (hn2 : n ≤ 4000) : Met l y_Model_feed w_Model_feed ({ frames := 0, cells := 0, slots := 0, locals := 0 } : Room) (va_Pc [.ref h_this, .int p1, .int p2, .int p3, .int p4, .int p5] (fun U => va_P (dC, dI) cls_all [oc h_this 12 fs_this] U.heap ∧ va_K (dC, dI) cls_all [] U)) (vp_Si (fun r : Int32 => (r = -1))) 0 0 (fun _ => False) := by
  refine Met.ofW (cc := b_Model_feed) (maxL := 6) (ret := (some .int)) (by decide) rfl ?_
  intro p e s m args below meth c s₁ B hml hv
  obtain ⟨rfl, hP, hK⟩ := hv
  have hx := B.exec
  have hb := B.bytes
  have hr := B.returns
  have hT : ∀ w ∈ lw_good, w.before _ s = true := fun w h => atoms_spec (ws := w_Model_feed) B.pre w (List.mem_cons_of_mem _ h)
  have hown : s.vm.findClass R_Model = some m.cls := findClass_of_methodNamed B.named
  have hlocks := B.notSynchronized
  have hl := lv_entry ([.ref h_this, .int p1, .int p2, .int p3, .int p4, .int p5]) (n := 6) (Nat.le_of_ble_eq_true rfl)
  rw [lg_entry_eq]
  generalize (lg_sl ([.ref h_this, .int p1, .int p2, .int p3, .int p4, .int p5]) ++ List.replicate (6 - (lg_sl ([.ref h_this, .int p1, .int p2, .int p3, .int p4, .int p5])).length) Slot.unset).toArray = ls at hl ⊢
  have hl : lv_has ls 6 [(0, .ref h_this), (1, .int p1), (2, .int p2), (3, .int p3), (4, .int p4), (5, .int p5)] := hl
  refine lv_aload_n hx hb d_Model_feed_0 rfl (lv_at hl 0 rfl) ?_
  refine va_get (D := (dC, dI)) (ci := 12) (v := .int (nI n)) (C := R_Model) (T := F_Model) (N := 153) hx hb hT i_Model hown hK hP 0 rfl rfl 1 (by decide) (hT _ fl_Model_313) (fun _ h9 => h9) g_this_size d_Model_feed_1 ?_
  refine lv_bipush (v := 20) hx hb d_Model_feed_4 (by decide) ?_
  refine lv_iadd hx hb d_Model_feed_6 ?_
  refine lv_topi (fun x1 e1 => ?_)
  obtain rfl : x1 = nI (n + 20) := e1.trans (nI_add n 20)
  refine lv_sipush (v := 4000) hx hb d_Model_feed_7 (by decide) ?_
  refine lv_icmp_le (tgt := 15) hx hb d_Model_feed_10 (by decide) (fun c2 => absurd c2 (fun q => absurd ((nI_leI (b := 4000) (by omega) (by decide)).mp q) (by omega))) (fun c2 => ?_)
  refine lv_iconst (v := (-1)) hx hb d_Model_feed_13 (by decide) ?_
  refine W.iret (v := (-1)) hx hb hr (fun t ht hW => ⟨(-1), rfl, ?_, ht⟩) (fun q h => by cases h) d_Model_feed_14
  rfl
set_option maxHeartbeats 1000000 in
set_option maxRecDepth 100000 in
theorem c_Model_end (l : Launch) (dC : Nat → ClassId) (dI : Nat → Nat → Nat) (sz : Nat) (h_this : Nat) (fs_this : List Value) (v_this_size : Int32) (p1 : Int32) (len_this : fs_this.length = 153) (g_this_size : fs_this[1]? = some (.int v_this_size)) : Met l y_Model_end w_Model_end ({ frames := 0, cells := 0, slots := 0, locals := 0 } : Room) (va_Pc [.ref h_this, .int p1] (fun U => U.heap.size = sz ∧ va_P (dC, dI) cls_all [oc h_this 12 fs_this] U.heap ∧ va_K (dC, dI) cls_all [] U ∧ va_D (fun _ => True) [oc h_this 12 fs_this])) (va_Qi (fun (z r : Int32) => z = r) (fun r t => ∃ (fs_this' : List Value), (fs_this'.length = 153 ∧ (∀ j : Nat, j ≠ 1 → fs_this'[j]? = fs_this[j]?) ∧ fs_this'[1]? = some (.int (if p1 < 0 ∨ v_this_size < p1 then v_this_size else p1)) ∧ (r = if p1 < 0 ∨ v_this_size < p1 then -1 else p1)) ∧ va_P (dC, dI) cls_all [oc h_this 12 fs_this'] t.heap ∧ va_K (dC, dI) cls_all [] t ∧ va_D (va_A [oc h_this 12 fs_this] sz) [oc h_this 12 fs_this']) (va_A [oc h_this 12 fs_this] sz)) 0 0 (va_A [oc h_this 12 fs_this] sz) := by
  refine Met.ofW (cc := b_Model_end) (maxL := 2) (ret := (some .int)) (by decide) rfl ?_
  intro p e s m args below meth c s₁ B hml hv
  obtain ⟨rfl, hsz, hP, hK, hD0⟩ := hv
  have hx := B.exec
  have hb := B.bytes
  have hr := B.returns
  have hT : ∀ w ∈ lw_good, w.before _ s = true := fun w h => atoms_spec (ws := w_Model_end) B.pre w (List.mem_cons_of_mem _ h)
  have hown : s.vm.findClass R_Model = some m.cls := findClass_of_methodNamed B.named
  have hlocks := B.notSynchronized
  subst hsz
  have hD := hD0.self (sz := s.heap.size)
  generalize hAe : va_A [oc h_this 12 fs_this] s.heap.size = A at hD ⊢
  have hA : ∀ q : Nat, s.heap.size ≤ q → A q := fun q h => by rw [← hAe]; exact Or.inr h
  have hS : va_S A s.heap s.heap [] := va_S.rf
  have hP : va_P (dC, dI) cls_all [oc h_this 12 fs_this] s.heap := hP
  have hl := lv_entry ([.ref h_this, .int p1]) (n := 2) (Nat.le_of_ble_eq_true rfl)
  rw [lg_entry_eq]
  generalize (lg_sl ([.ref h_this, .int p1]) ++ List.replicate (2 - (lg_sl ([.ref h_this, .int p1])).length) Slot.unset).toArray = ls at hl ⊢
  have hl : lv_has ls 2 [(0, .ref h_this), (1, .int p1)] := hl
  refine lv_iload_n hx hb d_Model_end_0 rfl (lv_at hl 1 rfl) ?_
  refine lv_if_lt (tgt := 12) hx hb d_Model_end_1 (by decide) (fun c1 => ?_) (fun c1 => ?_)
  · refine lv_iconst (v := (-1)) hx hb d_Model_end_12 (by decide) ?_
    have hP9 := hP.sub (ws' := [oc h_this 12 fs_this]) [0] rfl
    have hD9 := hD.sub (ws' := [oc h_this 12 fs_this]) [0] (by decide) rfl
    have hK9 := hK.sub (tys' := []) [] rfl
    have hv2 : fs_this[1]? = some (.int v_this_size) := g_this_size
    exact W.iret (v := (-1)) hx hb hr (fun t ht hW => ⟨⟨(-1), (-1), rfl, rfl, fs_this, ⟨(by first | exact len_this | (simp only [List.length_set]; exact len_this)), (fun j n1 => rfl), (by first | exact hv2 | (rw [hv2]; refine congrArg some (congrArg _ ?_); (repeat' split) <;> first | rfl | (simp_all; done) | (exfalso; simp only [i_lt, i_le, i_eq, Int32.reduceToInt] at *; omega) | (subst_vars; simp_all; done))), (by (repeat' split) <;> first | rfl | (simp_all; done) | (exfalso; simp only [i_lt, i_le, i_eq, Int32.reduceToInt] at *; omega) | (subst_vars; simp_all; done))⟩, by rw [ht]; exact hP9, va_K.moved hW.alike hK9, hD9⟩, hS.F ht⟩) hS.2.2 d_Model_end_13
  · refine lv_iload_n hx hb d_Model_end_4 rfl (lv_at hl 1 rfl) ?_
    refine lv_aload_n hx hb d_Model_end_5 rfl (lv_at hl 0 rfl) ?_
    refine va_get (D := (dC, dI)) (ci := 12) (v := .int v_this_size) (C := R_Model) (T := F_Model) (N := 153) hx hb hT i_Model hown hK hP 0 rfl rfl 1 (by decide) (hT _ fl_Model_313) (fun _ h9 => h9) g_this_size d_Model_end_6 ?_
    refine lv_icmp_le (tgt := 14) hx hb d_Model_end_9 (by decide) (fun c3 => ?_) (fun c3 => ?_)
    · refine lv_aload_n hx hb d_Model_end_14 rfl (lv_at hl 0 rfl) ?_
      refine lv_iload_n hx hb d_Model_end_15 rfl (lv_at hl 1 rfl) ?_
      refine va_put (D := (dC, dI)) (ci := 12) (v := .int p1) (ty := .int) (C := R_Model) (T := F_Model) (N := 153) hx hb hT i_Model t_Model t_Model_ok n_Model hown hK hP hD hS 0 rfl rfl 1 (by decide) (hT _ fl_Model_313) (fun _ h9 => h9) rfl (by decide +kernel) rfl rfl (by simp only [List.length_set, len_this]; decide) d_Model_end_16 (fun H locs hP hD hS => ?_)
      have hP : va_P (dC, dI) cls_all [oc h_this 12 (fs_this.set 1 (.int p1))] H := hP
      have hD : va_D A [oc h_this 12 (fs_this.set 1 (.int p1))] := hD
      refine lv_iload_n hx hb d_Model_end_19 rfl (lv_at hl 1 rfl) ?_
      have hP9 := hP.sub (ws' := [oc h_this 12 (fs_this.set 1 (.int p1))]) [0] rfl
      have hD9 := hD.sub (ws' := [oc h_this 12 (fs_this.set 1 (.int p1))]) [0] (by decide) rfl
      have hK9 := hK.sub (tys' := []) [] rfl
      have hv4 : (fs_this.set 1 (.int p1))[1]? = some (.int p1) := (ls_eq (by simp only [List.length_set, len_this]; decide))
      exact W.iret (v := p1) hx hb hr (fun t ht hW => ⟨⟨p1, p1, rfl, rfl, (fs_this.set 1 (.int p1)), ⟨(by first | exact len_this | (simp only [List.length_set]; exact len_this)), (fun j n1 => ((ls_ne n1).trans rfl)), (by first | exact hv4 | (rw [hv4]; refine congrArg some (congrArg _ ?_); (repeat' split) <;> first | rfl | (simp_all; done) | (exfalso; simp only [i_lt, i_le, i_eq, Int32.reduceToInt] at *; omega) | (subst_vars; simp_all; done))), (by (repeat' split) <;> first | rfl | (simp_all; done) | (exfalso; simp only [i_lt, i_le, i_eq, Int32.reduceToInt] at *; omega) | (subst_vars; simp_all; done))⟩, by rw [ht]; exact hP9, va_K.moved hW.alike hK9, hD9⟩, hS.F ht⟩) hS.2.2 d_Model_end_20
    · refine lv_iconst (v := (-1)) hx hb d_Model_end_12 (by decide) ?_
      have hP9 := hP.sub (ws' := [oc h_this 12 fs_this]) [0] rfl
      have hD9 := hD.sub (ws' := [oc h_this 12 fs_this]) [0] (by decide) rfl
      have hK9 := hK.sub (tys' := []) [] rfl
      have hv5 : fs_this[1]? = some (.int v_this_size) := g_this_size
      exact W.iret (v := (-1)) hx hb hr (fun t ht hW => ⟨⟨(-1), (-1), rfl, rfl, fs_this, ⟨(by first | exact len_this | (simp only [List.length_set]; exact len_this)), (fun j n1 => rfl), (by first | exact hv5 | (rw [hv5]; refine congrArg some (congrArg _ ?_); (repeat' split) <;> first | rfl | (simp_all; done) | (exfalso; simp only [i_lt, i_le, i_eq, Int32.reduceToInt] at *; omega) | (subst_vars; simp_all; done))), (by (repeat' split) <;> first | rfl | (simp_all; done) | (exfalso; simp only [i_lt, i_le, i_eq, Int32.reduceToInt] at *; omega) | (subst_vars; simp_all; done))⟩, by rw [ht]; exact hP9, va_K.moved hW.alike hK9, hD9⟩, hS.F ht⟩) hS.2.2 d_Model_end_13
set_option maxHeartbeats 1000000 in
set_option maxRecDepth 100000 in
theorem c_Model_fault (l : Launch) (dC : Nat → ClassId) (dI : Nat → Nat → Nat)  (h_this : Nat) (fs_this : List Value) (v_this_tried : Int32) (v_this_fault : Int32) (v_this_faultPlace : Int32) (p1 : Int32) (len_this : fs_this.length = 153) (g_this_tried : fs_this[9]? = some (.int v_this_tried)) (g_this_fault : fs_this[7]? = some (.int v_this_fault)) (g_this_faultPlace : fs_this[8]? = some (.int v_this_faultPlace)) : Met l y_Model_fault w_Model_fault ({ frames := 0, cells := 0, slots := 0, locals := 0 } : Room) (va_Pc [.ref h_this, .int p1] (fun U => va_P (dC, dI) cls_all [oc h_this 12 fs_this] U.heap ∧ va_K (dC, dI) cls_all [] U)) (vp_Si (fun r : Int32 => (r = if v_this_tried = 0 ∨ p1 < 0 ∨ 1 < p1 then -1 else if p1 = 0 then v_this_fault else v_this_faultPlace))) 0 0 (fun _ => False) := by
  refine Met.ofW (cc := b_Model_fault) (maxL := 2) (ret := (some .int)) (by decide) rfl ?_
  intro p e s m args below meth c s₁ B hml hv
  obtain ⟨rfl, hP, hK⟩ := hv
  have hx := B.exec
  have hb := B.bytes
  have hr := B.returns
  have hT : ∀ w ∈ lw_good, w.before _ s = true := fun w h => atoms_spec (ws := w_Model_fault) B.pre w (List.mem_cons_of_mem _ h)
  have hown : s.vm.findClass R_Model = some m.cls := findClass_of_methodNamed B.named
  have hlocks := B.notSynchronized
  have hl := lv_entry ([.ref h_this, .int p1]) (n := 2) (Nat.le_of_ble_eq_true rfl)
  rw [lg_entry_eq]
  generalize (lg_sl ([.ref h_this, .int p1]) ++ List.replicate (2 - (lg_sl ([.ref h_this, .int p1])).length) Slot.unset).toArray = ls at hl ⊢
  have hl : lv_has ls 2 [(0, .ref h_this), (1, .int p1)] := hl
  refine lv_aload_n hx hb d_Model_fault_0 rfl (lv_at hl 0 rfl) ?_
  refine va_get (D := (dC, dI)) (ci := 12) (v := .int v_this_tried) (C := R_Model) (T := F_Model) (N := 153) hx hb hT i_Model hown hK hP 0 rfl rfl 9 (by decide) (hT _ fl_Model_912) (fun _ h9 => h9) g_this_tried d_Model_fault_1 ?_
  refine lv_if_ne (tgt := 9) hx hb d_Model_fault_4 (by decide) (fun c1 => ?_) (fun c1 => ?_)
  · refine lv_iload_n hx hb d_Model_fault_9 rfl (lv_at hl 1 rfl) ?_
    refine lv_if_ne (tgt := 20) hx hb d_Model_fault_10 (by decide) (fun c2 => ?_) (fun c2 => ?_)
    · refine lv_iload_n hx hb d_Model_fault_20 rfl (lv_at hl 1 rfl) ?_
      refine lv_iconst (v := 1) hx hb d_Model_fault_21 (by decide) ?_
      refine lv_icmp_ne (tgt := 32) hx hb d_Model_fault_22 (by decide) (fun c3 => ?_) (fun c3 => ?_)
      · refine lv_iconst (v := (-1)) hx hb d_Model_fault_32 (by decide) ?_
        refine W.iret (v := (-1)) hx hb hr (fun t ht hW => ⟨(-1), rfl, ?_, ht⟩) (fun q h => by cases h) d_Model_fault_33
        (repeat' split) <;> first | rfl | (simp_all; done) | (exfalso; simp only [i_lt, i_le, i_eq, Int32.reduceToInt] at *; omega) | (subst_vars; simp_all; done)
      · refine lv_aload_n hx hb d_Model_fault_25 rfl (lv_at hl 0 rfl) ?_
        refine va_get (D := (dC, dI)) (ci := 12) (v := .int v_this_faultPlace) (C := R_Model) (T := F_Model) (N := 153) hx hb hT i_Model hown hK hP 0 rfl rfl 8 (by decide) (hT _ fl_Model_13) (fun _ h9 => h9) g_this_faultPlace d_Model_fault_26 ?_
        refine lv_goto (tgt := 33) hx hb d_Model_fault_29 (by decide) ?_
        refine W.iret (v := v_this_faultPlace) hx hb hr (fun t ht hW => ⟨v_this_faultPlace, rfl, ?_, ht⟩) (fun q h => by cases h) d_Model_fault_33
        (repeat' split) <;> first | rfl | (simp_all; done) | (exfalso; simp only [i_lt, i_le, i_eq, Int32.reduceToInt] at *; omega) | (subst_vars; simp_all; done)
    · refine lv_aload_n hx hb d_Model_fault_13 rfl (lv_at hl 0 rfl) ?_
      refine va_get (D := (dC, dI)) (ci := 12) (v := .int v_this_fault) (C := R_Model) (T := F_Model) (N := 153) hx hb hT i_Model hown hK hP 0 rfl rfl 7 (by decide) (hT _ fl_Model_378) (fun _ h9 => h9) g_this_fault d_Model_fault_14 ?_
      refine lv_goto (tgt := 33) hx hb d_Model_fault_17 (by decide) ?_
      refine W.iret (v := v_this_fault) hx hb hr (fun t ht hW => ⟨v_this_fault, rfl, ?_, ht⟩) (fun q h => by cases h) d_Model_fault_33
      (repeat' split) <;> first | rfl | (simp_all; done) | (exfalso; simp only [i_lt, i_le, i_eq, Int32.reduceToInt] at *; omega) | (subst_vars; simp_all; done)
  · refine lv_iconst (v := (-1)) hx hb d_Model_fault_7 (by decide) ?_
    refine W.iret (v := (-1)) hx hb hr (fun t ht hW => ⟨(-1), rfl, ?_, ht⟩) (fun q h => by cases h) d_Model_fault_8
    (repeat' split) <;> first | rfl | (simp_all; done) | (exfalso; simp only [i_lt, i_le, i_eq, Int32.reduceToInt] at *; omega) | (subst_vars; simp_all; done)
set_option maxHeartbeats 1000000 in
set_option maxRecDepth 100000 in
theorem c_Model_printed (l : Launch) (dC : Nat → ClassId) (dI : Nat → Nat → Nat)  (h_this : Nat) (h_printed : Nat) (fs_this : List Value) (v_this_prints : Int32) (k_printed : ClassId) (f_printed : Nat → Int32) (p1 : Int32) (len_this : fs_this.length = 153) (g_this_prints : fs_this[104]? = some (.int v_this_prints)) (g_this_printed : fs_this[152]? = some (.ref h_printed)) : Met l y_Model_printed w_Model_printed ({ frames := 0, cells := 0, slots := 0, locals := 0 } : Room) (va_Pc [.ref h_this, .int p1] (fun U => va_P (dC, dI) cls_all [oc h_this 12 fs_this, ic h_printed k_printed 300 f_printed] U.heap ∧ va_K (dC, dI) cls_all [(k_printed, .int)] U)) (vp_Si (fun r : Int32 => (r = if p1 < 0 ∨ v_this_prints ≤ p1 ∨ 300 ≤ p1 then 0 else f_printed p1.toNatClampNeg))) 0 0 (fun _ => False) := by
  refine Met.ofW (cc := b_Model_printed) (maxL := 2) (ret := (some .int)) (by decide) rfl ?_
  intro p e s m args below meth c s₁ B hml hv
  obtain ⟨rfl, hP, hK⟩ := hv
  have hx := B.exec
  have hb := B.bytes
  have hr := B.returns
  have hT : ∀ w ∈ lw_good, w.before _ s = true := fun w h => atoms_spec (ws := w_Model_printed) B.pre w (List.mem_cons_of_mem _ h)
  have hown : s.vm.findClass R_Model = some m.cls := findClass_of_methodNamed B.named
  have hlocks := B.notSynchronized
  have hl := lv_entry ([.ref h_this, .int p1]) (n := 2) (Nat.le_of_ble_eq_true rfl)
  rw [lg_entry_eq]
  generalize (lg_sl ([.ref h_this, .int p1]) ++ List.replicate (2 - (lg_sl ([.ref h_this, .int p1])).length) Slot.unset).toArray = ls at hl ⊢
  have hl : lv_has ls 2 [(0, .ref h_this), (1, .int p1)] := hl
  refine lv_iload_n hx hb d_Model_printed_0 rfl (lv_at hl 1 rfl) ?_
  refine lv_if_lt (tgt := 19) hx hb d_Model_printed_1 (by decide) (fun c1 => ?_) (fun c1 => ?_)
  · refine lv_iconst (v := 0) hx hb d_Model_printed_19 (by decide) ?_
    refine lv_goto (tgt := 29) hx hb d_Model_printed_20 (by decide) ?_
    refine W.iret (v := 0) hx hb hr (fun t ht hW => ⟨0, rfl, ?_, ht⟩) (fun q h => by cases h) d_Model_printed_29
    (repeat' split) <;> first | rfl | (simp_all; done) | (exfalso; simp only [i_lt, i_le, i_eq, Int32.reduceToInt] at *; omega) | (subst_vars; simp_all; done)
  · refine lv_iload_n hx hb d_Model_printed_4 rfl (lv_at hl 1 rfl) ?_
    refine lv_aload_n hx hb d_Model_printed_5 rfl (lv_at hl 0 rfl) ?_
    refine va_get (D := (dC, dI)) (ci := 12) (v := .int v_this_prints) (C := R_Model) (T := F_Model) (N := 153) hx hb hT i_Model hown hK hP 0 rfl rfl 104 (by decide) (hT _ fl_Model_811) (fun _ h9 => h9) g_this_prints d_Model_printed_6 ?_
    refine lv_icmp_ge (tgt := 19) hx hb d_Model_printed_9 (by decide) (fun c2 => ?_) (fun c2 => ?_)
    · refine lv_iconst (v := 0) hx hb d_Model_printed_19 (by decide) ?_
      refine lv_goto (tgt := 29) hx hb d_Model_printed_20 (by decide) ?_
      refine W.iret (v := 0) hx hb hr (fun t ht hW => ⟨0, rfl, ?_, ht⟩) (fun q h => by cases h) d_Model_printed_29
      (repeat' split) <;> first | rfl | (simp_all; done) | (exfalso; simp only [i_lt, i_le, i_eq, Int32.reduceToInt] at *; omega) | (subst_vars; simp_all; done)
    · refine lv_iload_n hx hb d_Model_printed_12 rfl (lv_at hl 1 rfl) ?_
      refine lv_sipush (v := 300) hx hb d_Model_printed_13 (by decide) ?_
      refine lv_icmp_lt (tgt := 23) hx hb d_Model_printed_16 (by decide) (fun c3 => ?_) (fun c3 => ?_)
      · refine lv_aload_n hx hb d_Model_printed_23 rfl (lv_at hl 0 rfl) ?_
        refine va_get (D := (dC, dI)) (ci := 12) (v := .ref h_printed) (C := R_Model) (T := F_Model) (N := 153) hx hb hT i_Model hown hK hP 0 rfl rfl 152 (by decide) (hT _ fl_Model_310) (fun _ h9 => h9) g_this_printed d_Model_printed_24 ?_
        refine lv_iload_n hx hb d_Model_printed_27 rfl (lv_at hl 1 rfl) ?_
        refine va_iald hx hb hK hP 1 0 rfl rfl (by first | exact has_in (by assumption) (by assumption) (by assumption) | (refine vp_in_iff.mpr ?_; simp only [i_lt, i_le, i_eq, Int32.reduceToInt] at *; omega)) d_Model_printed_28 ?_
        refine lv_topi (fun x4 e4 => ?_)
        refine W.iret (v := x4) hx hb hr (fun t ht hW => ⟨x4, rfl, ?_, ht⟩) (fun q h => by cases h) d_Model_printed_29
        (repeat' split) <;> first | rfl | (simp_all; done) | (exfalso; simp only [i_lt, i_le, i_eq, Int32.reduceToInt] at *; omega) | (subst_vars; simp_all; done)
      · refine lv_iconst (v := 0) hx hb d_Model_printed_19 (by decide) ?_
        refine lv_goto (tgt := 29) hx hb d_Model_printed_20 (by decide) ?_
        refine W.iret (v := 0) hx hb hr (fun t ht hW => ⟨0, rfl, ?_, ht⟩) (fun q h => by cases h) d_Model_printed_29
        (repeat' split) <;> first | rfl | (simp_all; done) | (exfalso; simp only [i_lt, i_le, i_eq, Int32.reduceToInt] at *; omega) | (subst_vars; simp_all; done)
set_option maxHeartbeats 1000000 in
set_option maxRecDepth 100000 in
theorem c_Model_region (l : Launch) (dC : Nat → ClassId) (dI : Nat → Nat → Nat)  (h_this : Nat) (h_pagesOf : Nat) (h_wordsIn : Nat) (h_objectsIn : Nat) (fs_this : List Value) (v_this_alive : Int32) (k_pagesOf : ClassId) (f_pagesOf : Nat → Int32) (k_wordsIn : ClassId) (f_wordsIn : Nat → Int32) (k_objectsIn : ClassId) (f_objectsIn : Nat → Int32) (p1 : Int32) (p2 : Int32) (len_this : fs_this.length = 153) (g_this_alive : fs_this[129]? = some (.int v_this_alive)) (g_this_pagesOf : fs_this[133]? = some (.ref h_pagesOf)) (g_this_wordsIn : fs_this[135]? = some (.ref h_wordsIn)) (g_this_objectsIn : fs_this[136]? = some (.ref h_objectsIn)) (hal : v_this_alive ≤ 400) : Met l y_Model_region w_Model_region ({ frames := 0, cells := 0, slots := 0, locals := 0 } : Room) (va_Pc [.ref h_this, .int p1, .int p2] (fun U => va_P (dC, dI) cls_all [oc h_this 12 fs_this, ic h_pagesOf k_pagesOf 400 f_pagesOf, ic h_wordsIn k_wordsIn 400 f_wordsIn, ic h_objectsIn k_objectsIn 400 f_objectsIn] U.heap ∧ va_K (dC, dI) cls_all [(k_pagesOf, .int), (k_wordsIn, .int), (k_objectsIn, .int)] U)) (vp_Si (fun r : Int32 => (r = if p1 < 0 ∨ v_this_alive ≤ p1 ∨ p2 < 0 ∨ 2 < p2 then -1 else if p2 = 0 then f_pagesOf p1.toNatClampNeg else if p2 = 1 then f_wordsIn p1.toNatClampNeg else f_objectsIn p1.toNatClampNeg))) 0 0 (fun _ => False) := by
  refine Met.ofW (cc := b_Model_region) (maxL := 3) (ret := (some .int)) (by decide) rfl ?_
  intro p e s m args below meth c s₁ B hml hv
  obtain ⟨rfl, hP, hK⟩ := hv
  have hx := B.exec
  have hb := B.bytes
  have hr := B.returns
  have hT : ∀ w ∈ lw_good, w.before _ s = true := fun w h => atoms_spec (ws := w_Model_region) B.pre w (List.mem_cons_of_mem _ h)
  have hown : s.vm.findClass R_Model = some m.cls := findClass_of_methodNamed B.named
  have hlocks := B.notSynchronized
  have hl := lv_entry ([.ref h_this, .int p1, .int p2]) (n := 3) (Nat.le_of_ble_eq_true rfl)
  rw [lg_entry_eq]
  generalize (lg_sl ([.ref h_this, .int p1, .int p2]) ++ List.replicate (3 - (lg_sl ([.ref h_this, .int p1, .int p2])).length) Slot.unset).toArray = ls at hl ⊢
  have hl : lv_has ls 3 [(0, .ref h_this), (1, .int p1), (2, .int p2)] := hl
  refine lv_iload_n hx hb d_Model_region_0 rfl (lv_at hl 1 rfl) ?_
  refine lv_if_lt (tgt := 21) hx hb d_Model_region_1 (by decide) (fun c1 => ?_) (fun c1 => ?_)
  · refine lv_iconst (v := (-1)) hx hb d_Model_region_21 (by decide) ?_
    refine W.iret (v := (-1)) hx hb hr (fun t ht hW => ⟨(-1), rfl, ?_, ht⟩) (fun q h => by cases h) d_Model_region_22
    first | (simp [c1]; done) | ((repeat' split) <;> first | rfl | (simp_all; done) | (exfalso; simp only [i_lt, i_le, i_eq, Int32.reduceToInt] at *; omega) | (subst_vars; simp_all; done))
  · refine lv_iload_n hx hb d_Model_region_4 rfl (lv_at hl 1 rfl) ?_
    refine lv_aload_n hx hb d_Model_region_5 rfl (lv_at hl 0 rfl) ?_
    refine va_get (D := (dC, dI)) (ci := 12) (v := .int v_this_alive) (C := R_Model) (T := F_Model) (N := 153) hx hb hT i_Model hown hK hP 0 rfl rfl 129 (by decide) (hT _ fl_Model_826) (fun _ h9 => h9) g_this_alive d_Model_region_6 ?_
    refine lv_icmp_ge (tgt := 21) hx hb d_Model_region_9 (by decide) (fun c2 => ?_) (fun c2 => ?_)
    · refine lv_iconst (v := (-1)) hx hb d_Model_region_21 (by decide) ?_
      refine W.iret (v := (-1)) hx hb hr (fun t ht hW => ⟨(-1), rfl, ?_, ht⟩) (fun q h => by cases h) d_Model_region_22
      first | (simp [c1, c2]; done) | ((repeat' split) <;> first | rfl | (simp_all; done) | (exfalso; simp only [i_lt, i_le, i_eq, Int32.reduceToInt] at *; omega) | (subst_vars; simp_all; done))
    · refine lv_iload_n hx hb d_Model_region_12 rfl (lv_at hl 2 rfl) ?_
      refine lv_if_lt (tgt := 21) hx hb d_Model_region_13 (by decide) (fun c3 => ?_) (fun c3 => ?_)
      · refine lv_iconst (v := (-1)) hx hb d_Model_region_21 (by decide) ?_
        refine W.iret (v := (-1)) hx hb hr (fun t ht hW => ⟨(-1), rfl, ?_, ht⟩) (fun q h => by cases h) d_Model_region_22
        first | (simp [c1, c2, c3]; done) | ((repeat' split) <;> first | rfl | (simp_all; done) | (exfalso; simp only [i_lt, i_le, i_eq, Int32.reduceToInt] at *; omega) | (subst_vars; simp_all; done))
      · refine lv_iload_n hx hb d_Model_region_16 rfl (lv_at hl 2 rfl) ?_
        refine lv_iconst (v := 2) hx hb d_Model_region_17 (by decide) ?_
        refine lv_icmp_le (tgt := 23) hx hb d_Model_region_18 (by decide) (fun c4 => ?_) (fun c4 => ?_)
        · refine lv_iload_n hx hb d_Model_region_23 rfl (lv_at hl 2 rfl) ?_
          refine lv_if_ne (tgt := 36) hx hb d_Model_region_24 (by decide) (fun c5 => ?_) (fun c5 => ?_)
          · refine lv_iload_n hx hb d_Model_region_36 rfl (lv_at hl 2 rfl) ?_
            refine lv_iconst (v := 1) hx hb d_Model_region_37 (by decide) ?_
            refine lv_icmp_ne (tgt := 50) hx hb d_Model_region_38 (by decide) (fun c6 => ?_) (fun c6 => ?_)
            · refine lv_aload_n hx hb d_Model_region_50 rfl (lv_at hl 0 rfl) ?_
              refine va_get (D := (dC, dI)) (ci := 12) (v := .ref h_objectsIn) (C := R_Model) (T := F_Model) (N := 153) hx hb hT i_Model hown hK hP 0 rfl rfl 136 (by decide) (hT _ fl_Model_270) (fun _ h9 => h9) g_this_objectsIn d_Model_region_51 ?_
              refine lv_iload_n hx hb d_Model_region_54 rfl (lv_at hl 1 rfl) ?_
              refine va_iald hx hb hK hP 3 2 rfl rfl (by first | exact has_in (by assumption) (by assumption) (by assumption) | (refine vp_in_iff.mpr ?_; simp only [i_lt, i_le, i_eq, Int32.reduceToInt] at *; omega)) d_Model_region_55 ?_
              refine lv_topi (fun x7 e7 => ?_)
              refine W.iret (v := x7) hx hb hr (fun t ht hW => ⟨x7, rfl, ?_, ht⟩) (fun q h => by cases h) d_Model_region_56
              first | (simp [c1, c2, c3, c4, c5, c6]; done) | ((repeat' split) <;> first | rfl | (simp_all; done) | (exfalso; simp only [i_lt, i_le, i_eq, Int32.reduceToInt] at *; omega) | (subst_vars; simp_all; done))
            · refine lv_aload_n hx hb d_Model_region_41 rfl (lv_at hl 0 rfl) ?_
              refine va_get (D := (dC, dI)) (ci := 12) (v := .ref h_wordsIn) (C := R_Model) (T := F_Model) (N := 153) hx hb hT i_Model hown hK hP 0 rfl rfl 135 (by decide) (hT _ fl_Model_267) (fun _ h9 => h9) g_this_wordsIn d_Model_region_42 ?_
              refine lv_iload_n hx hb d_Model_region_45 rfl (lv_at hl 1 rfl) ?_
              refine va_iald hx hb hK hP 2 1 rfl rfl (by first | exact has_in (by assumption) (by assumption) (by assumption) | (refine vp_in_iff.mpr ?_; simp only [i_lt, i_le, i_eq, Int32.reduceToInt] at *; omega)) d_Model_region_46 ?_
              refine lv_topi (fun x8 e8 => ?_)
              refine lv_goto (tgt := 56) hx hb d_Model_region_47 (by decide) ?_
              refine W.iret (v := x8) hx hb hr (fun t ht hW => ⟨x8, rfl, ?_, ht⟩) (fun q h => by cases h) d_Model_region_56
              first | (simp [c1, c2, c3, c4, c5, c6]; done) | ((repeat' split) <;> first | rfl | (simp_all; done) | (exfalso; simp only [i_lt, i_le, i_eq, Int32.reduceToInt] at *; omega) | (subst_vars; simp_all; done))
          · refine lv_aload_n hx hb d_Model_region_27 rfl (lv_at hl 0 rfl) ?_
            refine va_get (D := (dC, dI)) (ci := 12) (v := .ref h_pagesOf) (C := R_Model) (T := F_Model) (N := 153) hx hb hT i_Model hown hK hP 0 rfl rfl 133 (by decide) (hT _ fl_Model_261) (fun _ h9 => h9) g_this_pagesOf d_Model_region_28 ?_
            refine lv_iload_n hx hb d_Model_region_31 rfl (lv_at hl 1 rfl) ?_
            refine va_iald hx hb hK hP 1 0 rfl rfl (by first | exact has_in (by assumption) (by assumption) (by assumption) | (refine vp_in_iff.mpr ?_; simp only [i_lt, i_le, i_eq, Int32.reduceToInt] at *; omega)) d_Model_region_32 ?_
            refine lv_topi (fun x9 e9 => ?_)
            refine lv_goto (tgt := 56) hx hb d_Model_region_33 (by decide) ?_
            refine W.iret (v := x9) hx hb hr (fun t ht hW => ⟨x9, rfl, ?_, ht⟩) (fun q h => by cases h) d_Model_region_56
            first | (simp [c1, c2, c3, c4, c5]; done) | ((repeat' split) <;> first | rfl | (simp_all; done) | (exfalso; simp only [i_lt, i_le, i_eq, Int32.reduceToInt] at *; omega) | (subst_vars; simp_all; done))
        · refine lv_iconst (v := (-1)) hx hb d_Model_region_21 (by decide) ?_
          refine W.iret (v := (-1)) hx hb hr (fun t ht hW => ⟨(-1), rfl, ?_, ht⟩) (fun q h => by cases h) d_Model_region_22
          first | (simp [c1, c2, c3, c4]; done) | ((repeat' split) <;> first | rfl | (simp_all; done) | (exfalso; simp only [i_lt, i_le, i_eq, Int32.reduceToInt] at *; omega) | (subst_vars; simp_all; done))
set_option maxHeartbeats 1000000 in
set_option maxRecDepth 100000 in
theorem c_Model_world (l : Launch) (dC : Nat → ClassId) (dI : Nat → Nat → Nat)  (h_this : Nat) (fs_this : List Value) (v_this_steps : Int32) (v_this_pages : Int32) (v_this_freePages : Int32) (v_this_alive : Int32) (v_this_depth : Int32) (v_this_prints : Int32) (v_this_made : Int32) (v_this_waiting : Int32) (v_this_errors : Int32) (v_this_touches : Int32) (p1 : Int32) (len_this : fs_this.length = 153) (g_this_steps : fs_this[101]? = some (.int v_this_steps)) (g_this_pages : fs_this[130]? = some (.int v_this_pages)) (g_this_freePages : fs_this[132]? = some (.int v_this_freePages)) (g_this_alive : fs_this[129]? = some (.int v_this_alive)) (g_this_depth : fs_this[103]? = some (.int v_this_depth)) (g_this_prints : fs_this[104]? = some (.int v_this_prints)) (g_this_made : fs_this[105]? = some (.int v_this_made)) (g_this_waiting : fs_this[150]? = some (.int v_this_waiting)) (g_this_errors : fs_this[106]? = some (.int v_this_errors)) (g_this_touches : fs_this[107]? = some (.int v_this_touches)) : Met l y_Model_world w_Model_world ({ frames := 0, cells := 0, slots := 0, locals := 0 } : Room) (va_Pc [.ref h_this, .int p1] (fun U => va_P (dC, dI) cls_all [oc h_this 12 fs_this] U.heap ∧ va_K (dC, dI) cls_all [] U)) (vp_Si (fun r : Int32 => (r = if p1 = 0 then v_this_steps else if p1 = 1 then v_this_pages - v_this_freePages else if p1 = 2 then v_this_alive else if p1 = 3 then v_this_depth else if p1 = 4 then v_this_prints else if p1 = 5 then v_this_made else if p1 = 6 then v_this_waiting else if p1 = 7 then v_this_errors else if p1 = 8 then v_this_touches else -1))) 0 0 (fun _ => False) := by
  refine Met.ofW (cc := b_Model_world) (maxL := 2) (ret := (some .int)) (by decide) rfl ?_
  intro p e s m args below meth c s₁ B hml hv
  obtain ⟨rfl, hP, hK⟩ := hv
  have hx := B.exec
  have hb := B.bytes
  have hr := B.returns
  have hT : ∀ w ∈ lw_good, w.before _ s = true := fun w h => atoms_spec (ws := w_Model_world) B.pre w (List.mem_cons_of_mem _ h)
  have hown : s.vm.findClass R_Model = some m.cls := findClass_of_methodNamed B.named
  have hlocks := B.notSynchronized
  have hl := lv_entry ([.ref h_this, .int p1]) (n := 2) (Nat.le_of_ble_eq_true rfl)
  rw [lg_entry_eq]
  generalize (lg_sl ([.ref h_this, .int p1]) ++ List.replicate (2 - (lg_sl ([.ref h_this, .int p1])).length) Slot.unset).toArray = ls at hl ⊢
  have hl : lv_has ls 2 [(0, .ref h_this), (1, .int p1)] := hl
  refine lv_iload_n hx hb d_Model_world_0 rfl (lv_at hl 1 rfl) ?_
  by_cases c1 : p1 = 0
  · have h11 : ¬ (p1 : Int32).toInt < 0 := by rw [c1]; decide
    have h21 : ¬ 8 < (p1 : Int32).toInt := by rw [c1]; decide
    refine lv_tableIn (off := 51) (tgt := 52) hx hb d_Model_world_1 h11 h21 (by rw [c1]; decide) (by decide) ?_
    refine lv_aload_n hx hb d_Model_world_52 rfl (lv_at hl 0 rfl) ?_
    refine va_get (D := (dC, dI)) (ci := 12) (v := .int v_this_steps) (C := R_Model) (T := F_Model) (N := 153) hx hb hT i_Model hown hK hP 0 rfl rfl 101 (by decide) (hT _ fl_Model_805) (fun _ h9 => h9) g_this_steps d_Model_world_53 ?_
    refine W.iret (v := v_this_steps) hx hb hr (fun t ht hW => ⟨v_this_steps, rfl, ?_, ht⟩) (fun q h => by cases h) d_Model_world_56
    first | (simp [c1]; done) | (subst_vars; simp_all; done)
  by_cases c2 : p1 = 1
  · have h12 : ¬ (p1 : Int32).toInt < 0 := by rw [c2]; decide
    have h22 : ¬ 8 < (p1 : Int32).toInt := by rw [c2]; decide
    refine lv_tableIn (off := 56) (tgt := 57) hx hb d_Model_world_1 h12 h22 (by rw [c2]; decide) (by decide) ?_
    refine lv_aload_n hx hb d_Model_world_57 rfl (lv_at hl 0 rfl) ?_
    refine va_get (D := (dC, dI)) (ci := 12) (v := .int v_this_pages) (C := R_Model) (T := F_Model) (N := 153) hx hb hT i_Model hown hK hP 0 rfl rfl 130 (by decide) (hT _ fl_Model_835) (fun _ h9 => h9) g_this_pages d_Model_world_58 ?_
    refine lv_aload_n hx hb d_Model_world_61 rfl (lv_at hl 0 rfl) ?_
    refine va_get (D := (dC, dI)) (ci := 12) (v := .int v_this_freePages) (C := R_Model) (T := F_Model) (N := 153) hx hb hT i_Model hown hK hP 0 rfl rfl 132 (by decide) (hT _ fl_Model_838) (fun _ h9 => h9) g_this_freePages d_Model_world_62 ?_
    refine lv_isub hx hb d_Model_world_65 ?_
    refine lv_topi (fun x3 e3 => ?_)
    refine W.iret (v := x3) hx hb hr (fun t ht hW => ⟨x3, rfl, ?_, ht⟩) (fun q h => by cases h) d_Model_world_66
    first | (simp [c1, c2]; done) | (subst_vars; simp_all; done)
  by_cases c4 : p1 = 2
  · have h14 : ¬ (p1 : Int32).toInt < 0 := by rw [c4]; decide
    have h24 : ¬ 8 < (p1 : Int32).toInt := by rw [c4]; decide
    refine lv_tableIn (off := 66) (tgt := 67) hx hb d_Model_world_1 h14 h24 (by rw [c4]; decide) (by decide) ?_
    refine lv_aload_n hx hb d_Model_world_67 rfl (lv_at hl 0 rfl) ?_
    refine va_get (D := (dC, dI)) (ci := 12) (v := .int v_this_alive) (C := R_Model) (T := F_Model) (N := 153) hx hb hT i_Model hown hK hP 0 rfl rfl 129 (by decide) (hT _ fl_Model_826) (fun _ h9 => h9) g_this_alive d_Model_world_68 ?_
    refine W.iret (v := v_this_alive) hx hb hr (fun t ht hW => ⟨v_this_alive, rfl, ?_, ht⟩) (fun q h => by cases h) d_Model_world_71
    first | (simp [c1, c2, c4]; done) | (subst_vars; simp_all; done)
  by_cases c5 : p1 = 3
  · have h15 : ¬ (p1 : Int32).toInt < 0 := by rw [c5]; decide
    have h25 : ¬ 8 < (p1 : Int32).toInt := by rw [c5]; decide
    refine lv_tableIn (off := 71) (tgt := 72) hx hb d_Model_world_1 h15 h25 (by rw [c5]; decide) (by decide) ?_
    refine lv_aload_n hx hb d_Model_world_72 rfl (lv_at hl 0 rfl) ?_
    refine va_get (D := (dC, dI)) (ci := 12) (v := .int v_this_depth) (C := R_Model) (T := F_Model) (N := 153) hx hb hT i_Model hown hK hP 0 rfl rfl 103 (by decide) (hT _ fl_Model_808) (fun _ h9 => h9) g_this_depth d_Model_world_73 ?_
    refine W.iret (v := v_this_depth) hx hb hr (fun t ht hW => ⟨v_this_depth, rfl, ?_, ht⟩) (fun q h => by cases h) d_Model_world_76
    first | (simp [c1, c2, c4, c5]; done) | (subst_vars; simp_all; done)
  by_cases c6 : p1 = 4
  · have h16 : ¬ (p1 : Int32).toInt < 0 := by rw [c6]; decide
    have h26 : ¬ 8 < (p1 : Int32).toInt := by rw [c6]; decide
    refine lv_tableIn (off := 76) (tgt := 77) hx hb d_Model_world_1 h16 h26 (by rw [c6]; decide) (by decide) ?_
    refine lv_aload_n hx hb d_Model_world_77 rfl (lv_at hl 0 rfl) ?_
    refine va_get (D := (dC, dI)) (ci := 12) (v := .int v_this_prints) (C := R_Model) (T := F_Model) (N := 153) hx hb hT i_Model hown hK hP 0 rfl rfl 104 (by decide) (hT _ fl_Model_811) (fun _ h9 => h9) g_this_prints d_Model_world_78 ?_
    refine W.iret (v := v_this_prints) hx hb hr (fun t ht hW => ⟨v_this_prints, rfl, ?_, ht⟩) (fun q h => by cases h) d_Model_world_81
    first | (simp [c1, c2, c4, c5, c6]; done) | (subst_vars; simp_all; done)
  by_cases c7 : p1 = 5
  · have h17 : ¬ (p1 : Int32).toInt < 0 := by rw [c7]; decide
    have h27 : ¬ 8 < (p1 : Int32).toInt := by rw [c7]; decide
    refine lv_tableIn (off := 81) (tgt := 82) hx hb d_Model_world_1 h17 h27 (by rw [c7]; decide) (by decide) ?_
    refine lv_aload_n hx hb d_Model_world_82 rfl (lv_at hl 0 rfl) ?_
    refine va_get (D := (dC, dI)) (ci := 12) (v := .int v_this_made) (C := R_Model) (T := F_Model) (N := 153) hx hb hT i_Model hown hK hP 0 rfl rfl 105 (by decide) (hT _ fl_Model_814) (fun _ h9 => h9) g_this_made d_Model_world_83 ?_
    refine W.iret (v := v_this_made) hx hb hr (fun t ht hW => ⟨v_this_made, rfl, ?_, ht⟩) (fun q h => by cases h) d_Model_world_86
    first | (simp [c1, c2, c4, c5, c6, c7]; done) | (subst_vars; simp_all; done)
  by_cases c8 : p1 = 6
  · have h18 : ¬ (p1 : Int32).toInt < 0 := by rw [c8]; decide
    have h28 : ¬ 8 < (p1 : Int32).toInt := by rw [c8]; decide
    refine lv_tableIn (off := 86) (tgt := 87) hx hb d_Model_world_1 h18 h28 (by rw [c8]; decide) (by decide) ?_
    refine lv_aload_n hx hb d_Model_world_87 rfl (lv_at hl 0 rfl) ?_
    refine va_get (D := (dC, dI)) (ci := 12) (v := .int v_this_waiting) (C := R_Model) (T := F_Model) (N := 153) hx hb hT i_Model hown hK hP 0 rfl rfl 150 (by decide) (hT _ fl_Model_829) (fun _ h9 => h9) g_this_waiting d_Model_world_88 ?_
    refine W.iret (v := v_this_waiting) hx hb hr (fun t ht hW => ⟨v_this_waiting, rfl, ?_, ht⟩) (fun q h => by cases h) d_Model_world_91
    first | (simp [c1, c2, c4, c5, c6, c7, c8]; done) | (subst_vars; simp_all; done)
  by_cases c9 : p1 = 7
  · have h19 : ¬ (p1 : Int32).toInt < 0 := by rw [c9]; decide
    have h29 : ¬ 8 < (p1 : Int32).toInt := by rw [c9]; decide
    refine lv_tableIn (off := 91) (tgt := 92) hx hb d_Model_world_1 h19 h29 (by rw [c9]; decide) (by decide) ?_
    refine lv_aload_n hx hb d_Model_world_92 rfl (lv_at hl 0 rfl) ?_
    refine va_get (D := (dC, dI)) (ci := 12) (v := .int v_this_errors) (C := R_Model) (T := F_Model) (N := 153) hx hb hT i_Model hown hK hP 0 rfl rfl 106 (by decide) (hT _ fl_Model_817) (fun _ h9 => h9) g_this_errors d_Model_world_93 ?_
    refine W.iret (v := v_this_errors) hx hb hr (fun t ht hW => ⟨v_this_errors, rfl, ?_, ht⟩) (fun q h => by cases h) d_Model_world_96
    first | (simp [c1, c2, c4, c5, c6, c7, c8, c9]; done) | (subst_vars; simp_all; done)
  by_cases c10 : p1 = 8
  · have h110 : ¬ (p1 : Int32).toInt < 0 := by rw [c10]; decide
    have h210 : ¬ 8 < (p1 : Int32).toInt := by rw [c10]; decide
    refine lv_tableIn (off := 96) (tgt := 97) hx hb d_Model_world_1 h110 h210 (by rw [c10]; decide) (by decide) ?_
    refine lv_aload_n hx hb d_Model_world_97 rfl (lv_at hl 0 rfl) ?_
    refine va_get (D := (dC, dI)) (ci := 12) (v := .int v_this_touches) (C := R_Model) (T := F_Model) (N := 153) hx hb hT i_Model hown hK hP 0 rfl rfl 107 (by decide) (hT _ fl_Model_820) (fun _ h9 => h9) g_this_touches d_Model_world_98 ?_
    refine W.iret (v := v_this_touches) hx hb hr (fun t ht hW => ⟨v_this_touches, rfl, ?_, ht⟩) (fun q h => by cases h) d_Model_world_101
    first | (simp [c1, c2, c4, c5, c6, c7, c8, c9, c10]; done) | (subst_vars; simp_all; done)
  have h311 : (p1 : Int32).toInt < 0 ∨ 8 < (p1 : Int32).toInt := by
    simp only [i_eq, Int32.reduceToInt] at c1 c2 c4 c5 c6 c7 c8 c9 c10; omega
  refine lv_tableOut (tgt := 102) hx hb d_Model_world_1 h311 (by decide) ?_
  refine lv_iconst (v := (-1)) hx hb d_Model_world_102 (by decide) ?_
  refine W.iret (v := (-1)) hx hb hr (fun t ht hW => ⟨(-1), rfl, ?_, ht⟩) (fun q h => by cases h) d_Model_world_103
  first | (simp [c1, c2, c4, c5, c6, c7, c8, c9, c10]; done) | (subst_vars; simp_all; done)
set_option maxHeartbeats 1000000 in
set_option maxRecDepth 100000 in
theorem c_Model_program_no (l : Launch) (dC : Nat → ClassId) (dI : Nat → Nat → Nat)  (h_this : Nat) (fs_this : List Value) (p1 : Int32) (len_this : fs_this.length = 153) (g_this_hasProgram : fs_this[10]? = some (.int 0)) : Met l y_Model_program_I w_Model_program_I ({ frames := 0, cells := 0, slots := 0, locals := 0 } : Room) (va_Pc [.ref h_this, .int p1] (fun U => va_P (dC, dI) cls_all [oc h_this 12 fs_this] U.heap ∧ va_K (dC, dI) cls_all [] U)) (vp_Si (fun r : Int32 => (r = -1))) 0 0 (fun _ => False) := by
  refine Met.ofW (cc := b_Model_program_I) (maxL := 4) (ret := (some .int)) (by decide) rfl ?_
  intro p e s m args below meth c s₁ B hml hv
  obtain ⟨rfl, hP, hK⟩ := hv
  have hx := B.exec
  have hb := B.bytes
  have hr := B.returns
  have hT : ∀ w ∈ lw_good, w.before _ s = true := fun w h => atoms_spec (ws := w_Model_program_I) B.pre w (List.mem_cons_of_mem _ h)
  have hown : s.vm.findClass R_Model = some m.cls := findClass_of_methodNamed B.named
  have hlocks := B.notSynchronized
  have hl := lv_entry ([.ref h_this, .int p1]) (n := 4) (Nat.le_of_ble_eq_true rfl)
  rw [lg_entry_eq]
  generalize (lg_sl ([.ref h_this, .int p1]) ++ List.replicate (4 - (lg_sl ([.ref h_this, .int p1])).length) Slot.unset).toArray = ls at hl ⊢
  have hl : lv_has ls 4 [(0, .ref h_this), (1, .int p1)] := hl
  refine lv_aload_n hx hb d_Model_program_I_0 rfl (lv_at hl 0 rfl) ?_
  refine va_get (D := (dC, dI)) (ci := 12) (v := .int 0) (C := R_Model) (T := F_Model) (N := 153) hx hb hT i_Model hown hK hP 0 rfl rfl 10 (by decide) (hT _ fl_Model_915) (fun _ h9 => h9) g_this_hasProgram d_Model_program_I_1 ?_
  refine lv_if_ne (tgt := 9) hx hb d_Model_program_I_4 (by decide) (fun c1 => absurd c1 (by decide)) (fun _ => ?_)
  refine lv_iconst (v := (-1)) hx hb d_Model_program_I_7 (by decide) ?_
  refine W.iret (v := (-1)) hx hb hr (fun t ht hW => ⟨(-1), rfl, ?_, ht⟩) (fun q h => by cases h) d_Model_program_I_8
  rfl
set_option maxHeartbeats 1000000 in
set_option maxRecDepth 100000 in
theorem c_Model_start_no (l : Launch) (dC : Nat → ClassId) (dI : Nat → Nat → Nat)  (h_this : Nat) (fs_this : List Value) (v_this_hasProgram : Int32) (p1 : Int32) (p2 : Int32) (len_this : fs_this.length = 153) (g_this_hasProgram : fs_this[10]? = some (.int v_this_hasProgram)) (hno : v_this_hasProgram = 0 ∨ p1 < 1 ∨ 64 < p1 ∨ p2 < 4 ∨ 64 < p2) : Met l y_Model_start w_Model_start ({ frames := 0, cells := 0, slots := 0, locals := 0 } : Room) (va_Pc [.ref h_this, .int p1, .int p2] (fun U => va_P (dC, dI) cls_all [oc h_this 12 fs_this] U.heap ∧ va_K (dC, dI) cls_all [] U)) (vp_Si (fun r : Int32 => (r = 0))) 0 0 (fun _ => False) := by
  refine Met.ofW (cc := b_Model_start) (maxL := 4) (ret := (some .boolean)) (by decide) rfl ?_
  intro p e s m args below meth c s₁ B hml hv
  obtain ⟨rfl, hP, hK⟩ := hv
  have hx := B.exec
  have hb := B.bytes
  have hr := B.returns
  have hT : ∀ w ∈ lw_good, w.before _ s = true := fun w h => atoms_spec (ws := w_Model_start) B.pre w (List.mem_cons_of_mem _ h)
  have hown : s.vm.findClass R_Model = some m.cls := findClass_of_methodNamed B.named
  have hlocks := B.notSynchronized
  have hl := lv_entry ([.ref h_this, .int p1, .int p2]) (n := 4) (Nat.le_of_ble_eq_true rfl)
  rw [lg_entry_eq]
  generalize (lg_sl ([.ref h_this, .int p1, .int p2]) ++ List.replicate (4 - (lg_sl ([.ref h_this, .int p1, .int p2])).length) Slot.unset).toArray = ls at hl ⊢
  have hl : lv_has ls 4 [(0, .ref h_this), (1, .int p1), (2, .int p2)] := hl
  refine lv_aload_n hx hb d_Model_start_0 rfl (lv_at hl 0 rfl) ?_
  refine va_get (D := (dC, dI)) (ci := 12) (v := .int v_this_hasProgram) (C := R_Model) (T := F_Model) (N := 153) hx hb hT i_Model hown hK hP 0 rfl rfl 10 (by decide) (hT _ fl_Model_915) (fun _ h9 => h9) g_this_hasProgram d_Model_start_1 ?_
  refine lv_if_eq (tgt := 29) hx hb d_Model_start_4 (by decide) (fun c1 => ?_) (fun c1 => ?_)
  · refine lv_iconst (v := 0) hx hb d_Model_start_29 (by decide) ?_
    refine W.zret (v := 0) hx hb hr (by first | rfl | decide | assumption) (fun t ht hW => ⟨0, rfl, ?_, ht⟩) (fun q h => by cases h) d_Model_start_30
    (repeat' split) <;> first | rfl | (simp_all; done) | (exfalso; simp only [i_lt, i_le, i_eq, Int32.reduceToInt] at *; omega) | (subst_vars; simp_all; done)
  · refine lv_iload_n hx hb d_Model_start_7 rfl (lv_at hl 1 rfl) ?_
    refine lv_iconst (v := 1) hx hb d_Model_start_8 (by decide) ?_
    refine lv_icmp_lt (tgt := 29) hx hb d_Model_start_9 (by decide) (fun c2 => ?_) (fun c2 => ?_)
    · refine lv_iconst (v := 0) hx hb d_Model_start_29 (by decide) ?_
      refine W.zret (v := 0) hx hb hr (by first | rfl | decide | assumption) (fun t ht hW => ⟨0, rfl, ?_, ht⟩) (fun q h => by cases h) d_Model_start_30
      (repeat' split) <;> first | rfl | (simp_all; done) | (exfalso; simp only [i_lt, i_le, i_eq, Int32.reduceToInt] at *; omega) | (subst_vars; simp_all; done)
    · refine lv_iload_n hx hb d_Model_start_12 rfl (lv_at hl 1 rfl) ?_
      refine lv_bipush (v := 64) hx hb d_Model_start_13 (by decide) ?_
      refine lv_icmp_gt (tgt := 29) hx hb d_Model_start_15 (by decide) (fun c3 => ?_) (fun c3 => ?_)
      · refine lv_iconst (v := 0) hx hb d_Model_start_29 (by decide) ?_
        refine W.zret (v := 0) hx hb hr (by first | rfl | decide | assumption) (fun t ht hW => ⟨0, rfl, ?_, ht⟩) (fun q h => by cases h) d_Model_start_30
        (repeat' split) <;> first | rfl | (simp_all; done) | (exfalso; simp only [i_lt, i_le, i_eq, Int32.reduceToInt] at *; omega) | (subst_vars; simp_all; done)
      · refine lv_iload_n hx hb d_Model_start_18 rfl (lv_at hl 2 rfl) ?_
        refine lv_iconst (v := 4) hx hb d_Model_start_19 (by decide) ?_
        refine lv_icmp_lt (tgt := 29) hx hb d_Model_start_20 (by decide) (fun c4 => ?_) (fun c4 => ?_)
        · refine lv_iconst (v := 0) hx hb d_Model_start_29 (by decide) ?_
          refine W.zret (v := 0) hx hb hr (by first | rfl | decide | assumption) (fun t ht hW => ⟨0, rfl, ?_, ht⟩) (fun q h => by cases h) d_Model_start_30
          (repeat' split) <;> first | rfl | (simp_all; done) | (exfalso; simp only [i_lt, i_le, i_eq, Int32.reduceToInt] at *; omega) | (subst_vars; simp_all; done)
        · refine lv_iload_n hx hb d_Model_start_23 rfl (lv_at hl 2 rfl) ?_
          refine lv_bipush (v := 64) hx hb d_Model_start_24 (by decide) ?_
          refine lv_icmp_le (tgt := 31) hx hb d_Model_start_26 (by decide) (fun c5 => ?_) (fun c5 => ?_)
          · exfalso; simp only [i_lt, i_le, i_eq, Int32.reduceToInt] at hno c1 c2 c3 c4 c5; omega
          · refine lv_iconst (v := 0) hx hb d_Model_start_29 (by decide) ?_
            refine W.zret (v := 0) hx hb hr (by first | rfl | decide | assumption) (fun t ht hW => ⟨0, rfl, ?_, ht⟩) (fun q h => by cases h) d_Model_start_30
            (repeat' split) <;> first | rfl | (simp_all; done) | (exfalso; simp only [i_lt, i_le, i_eq, Int32.reduceToInt] at *; omega) | (subst_vars; simp_all; done)
set_option maxHeartbeats 1000000 in
set_option maxRecDepth 100000 in
theorem c_Model_run_no (l : Launch) (dC : Nat → ClassId) (dI : Nat → Nat → Nat)  (h_this : Nat) (fs_this : List Value) (v_this_state : Int32) (p1 : Int32) (len_this : fs_this.length = 153) (g_this_state : fs_this[100]? = some (.int v_this_state)) (hno : p1 < 1 ∨ 500 < p1 ∨ ¬ v_this_state = 1) : Met l y_Model_run_I w_Model_run_I ({ frames := 0, cells := 0, slots := 0, locals := 0 } : Room) (va_Pc [.ref h_this, .int p1] (fun U => va_P (dC, dI) cls_all [oc h_this 12 fs_this] U.heap ∧ va_K (dC, dI) cls_all [] U)) (vp_Si (fun r : Int32 => (r = -1))) 0 0 (fun _ => False) := by
  refine Met.ofW (cc := b_Model_run_I) (maxL := 3) (ret := (some .int)) (by decide) rfl ?_
  intro p e s m args below meth c s₁ B hml hv
  obtain ⟨rfl, hP, hK⟩ := hv
  have hx := B.exec
  have hb := B.bytes
  have hr := B.returns
  have hT : ∀ w ∈ lw_good, w.before _ s = true := fun w h => atoms_spec (ws := w_Model_run_I) B.pre w (List.mem_cons_of_mem _ h)
  have hown : s.vm.findClass R_Model = some m.cls := findClass_of_methodNamed B.named
  have hlocks := B.notSynchronized
  have hl := lv_entry ([.ref h_this, .int p1]) (n := 3) (Nat.le_of_ble_eq_true rfl)
  rw [lg_entry_eq]
  generalize (lg_sl ([.ref h_this, .int p1]) ++ List.replicate (3 - (lg_sl ([.ref h_this, .int p1])).length) Slot.unset).toArray = ls at hl ⊢
  have hl : lv_has ls 3 [(0, .ref h_this), (1, .int p1)] := hl
  refine lv_iload_n hx hb d_Model_run_I_0 rfl (lv_at hl 1 rfl) ?_
  refine lv_iconst (v := 1) hx hb d_Model_run_I_1 (by decide) ?_
  refine lv_icmp_lt (tgt := 20) hx hb d_Model_run_I_2 (by decide) (fun c1 => ?_) (fun c1 => ?_)
  · refine lv_iconst (v := (-1)) hx hb d_Model_run_I_20 (by decide) ?_
    refine W.iret (v := (-1)) hx hb hr (fun t ht hW => ⟨(-1), rfl, ?_, ht⟩) (fun q h => by cases h) d_Model_run_I_21
    (repeat' split) <;> first | rfl | (simp_all; done) | (exfalso; simp only [i_lt, i_le, i_eq, Int32.reduceToInt] at *; omega) | (subst_vars; simp_all; done)
  · refine lv_iload_n hx hb d_Model_run_I_5 rfl (lv_at hl 1 rfl) ?_
    refine lv_sipush (v := 500) hx hb d_Model_run_I_6 (by decide) ?_
    refine lv_icmp_gt (tgt := 20) hx hb d_Model_run_I_9 (by decide) (fun c2 => ?_) (fun c2 => ?_)
    · refine lv_iconst (v := (-1)) hx hb d_Model_run_I_20 (by decide) ?_
      refine W.iret (v := (-1)) hx hb hr (fun t ht hW => ⟨(-1), rfl, ?_, ht⟩) (fun q h => by cases h) d_Model_run_I_21
      (repeat' split) <;> first | rfl | (simp_all; done) | (exfalso; simp only [i_lt, i_le, i_eq, Int32.reduceToInt] at *; omega) | (subst_vars; simp_all; done)
    · refine lv_aload_n hx hb d_Model_run_I_12 rfl (lv_at hl 0 rfl) ?_
      refine va_get (D := (dC, dI)) (ci := 12) (v := .int v_this_state) (C := R_Model) (T := F_Model) (N := 153) hx hb hT i_Model hown hK hP 0 rfl rfl 100 (by decide) (hT _ fl_Model_802) (fun _ h9 => h9) g_this_state d_Model_run_I_13 ?_
      refine lv_iconst (v := 1) hx hb d_Model_run_I_16 (by decide) ?_
      refine lv_icmp_eq (tgt := 22) hx hb d_Model_run_I_17 (by decide) (fun c3 => ?_) (fun c3 => ?_)
      · exfalso; simp only [i_lt, i_le, i_eq, Int32.reduceToInt] at hno c1 c2 c3; omega
      · refine lv_iconst (v := (-1)) hx hb d_Model_run_I_20 (by decide) ?_
        refine W.iret (v := (-1)) hx hb hr (fun t ht hW => ⟨(-1), rfl, ?_, ht⟩) (fun q h => by cases h) d_Model_run_I_21
        (repeat' split) <;> first | rfl | (simp_all; done) | (exfalso; simp only [i_lt, i_le, i_eq, Int32.reduceToInt] at *; omega) | (subst_vars; simp_all; done)
