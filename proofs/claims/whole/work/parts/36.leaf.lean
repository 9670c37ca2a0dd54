set_option maxHeartbeats 1000000 in
set_option maxRecDepth 100000 in
theorem c_Machine_halt (l : Launch) (dC : Nat → ClassId) (dI : Nat → Nat → Nat) (sz : Nat) (h_this : Nat) (fs_this : List Value) (v_this_state : Int32) (len_this : fs_this.length = 18) (g_this_state : fs_this[10]? = some (.int v_this_state)) : Met l y_Machine_halt w_Machine_halt ({ frames := 0, cells := 0, slots := 0, locals := 0 } : Room) (va_Pc [.ref h_this] (fun U => U.heap.size = sz ∧ va_P (dC, dI) cls_all [oc h_this 4 fs_this] U.heap ∧ va_K (dC, dI) cls_all [] U ∧ va_D (fun _ => True) [oc h_this 4 fs_this])) (va_Qv (fun (_ : Unit) => True) (fun _ t => ∃ (fs_this' : List Value), (fs_this'.length = 18 ∧ (∀ j : Nat, j ≠ 10 → fs_this'[j]? = fs_this[j]?) ∧ fs_this'[10]? = some (.int (0))) ∧ va_P (dC, dI) cls_all [oc h_this 4 fs_this'] t.heap ∧ va_K (dC, dI) cls_all [] t ∧ va_D (va_A [oc h_this 4 fs_this] sz) [oc h_this 4 fs_this']) (va_A [oc h_this 4 fs_this] sz)) 0 0 (va_A [oc h_this 4 fs_this] sz) := by
  refine Met.ofW (cc := b_Machine_halt) (maxL := 1) (ret := none) (by decide) rfl ?_
  intro p e s m args below meth c s₁ B hml hv
  obtain ⟨rfl, hsz, hP, hK, hD0⟩ := hv
  have hx := B.exec
  have hb := B.bytes
  have hr := B.returns
  have hT : ∀ w ∈ lw_good, w.before _ s = true := fun w h => atoms_spec (ws := w_Machine_halt) B.pre w (List.mem_cons_of_mem _ h)
  have hown : s.vm.findClass R_Machine = some m.cls := findClass_of_methodNamed B.named
  have hlocks := B.notSynchronized
  subst hsz
  have hD := hD0.self (sz := s.heap.size)
  generalize hAe : va_A [oc h_this 4 fs_this] s.heap.size = A at hD ⊢
  have hA : ∀ q : Nat, s.heap.size ≤ q → A q := fun q h => by rw [← hAe]; exact Or.inr h
  have hS : va_S A s.heap s.heap [] := va_S.rf
  have hP : va_P (dC, dI) cls_all [oc h_this 4 fs_this] s.heap := hP
  have hl := lv_entry ([.ref h_this]) (n := 1) (Nat.le_of_ble_eq_true rfl)
  rw [lg_entry_eq]
  generalize (lg_sl ([.ref h_this]) ++ List.replicate (1 - (lg_sl ([.ref h_this])).length) Slot.unset).toArray = ls at hl ⊢
  have hl : lv_has ls 1 [(0, .ref h_this)] := hl
  refine lv_aload_n hx hb d_Machine_halt_0 rfl (lv_at hl 0 rfl) ?_
  refine lv_iconst (v := 0) hx hb d_Machine_halt_1 (by decide) ?_
  refine va_put (D := (dC, dI)) (ci := 4) (v := .int 0) (ty := .int) (C := R_Machine) (T := F_Machine) (N := 18) hx hb hT i_Machine t_Machine t_Machine_ok n_Machine hown hK hP hD hS 0 rfl rfl 10 (by decide) (hT _ fl_Machine_44) (fun _ h9 => h9) rfl (by decide +kernel) rfl rfl (by simp only [List.length_set, len_this]; decide) d_Machine_halt_2 (fun H locs hP hD hS => ?_)
  have hP : va_P (dC, dI) cls_all [oc h_this 4 (fs_this.set 10 (.int 0))] H := hP
  have hD : va_D A [oc h_this 4 (fs_this.set 10 (.int 0))] := hD
  have hP9 := hP.sub (ws' := [oc h_this 4 (fs_this.set 10 (.int 0))]) [0] rfl
  have hD9 := hD.sub (ws' := [oc h_this 4 (fs_this.set 10 (.int 0))]) [0] (by decide) rfl
  have hK9 := hK.sub (tys' := []) [] rfl
  have hv1 : (fs_this.set 10 (.int 0))[10]? = some (.int 0) := (ls_eq (by simp only [List.length_set, len_this]; decide))
  exact W.vret hx hb hr (fun t ht hW => ⟨⟨(), rfl, trivial, (fs_this.set 10 (.int 0)), ⟨(by first | exact len_this | (simp only [List.length_set]; exact len_this)), (fun j n10 => ((ls_ne n10).trans rfl)), (by first | exact hv1 | (rw [hv1]; refine congrArg some (congrArg _ ?_); rfl))⟩, by rw [ht]; exact hP9, va_K.moved hW.alike hK9, hD9⟩, hS.F ht⟩) hS.2.2 d_Machine_halt_5
set_option maxHeartbeats 1000000 in
set_option maxRecDepth 100000 in
theorem c_Code_tally (l : Launch) (dC : Nat → ClassId) (dI : Nat → Nat → Nat) (sz : Nat) (h_this : Nat) (h_counts : Nat) (fs_this : List Value) (k_counts : ClassId) (f_counts : Nat → Int32) (p1 : Int32) (len_this : fs_this.length = 7) (g_this_counts : fs_this[4]? = some (.ref h_counts)) : Met l y_Code_tally w_Code_tally ({ frames := 0, cells := 0, slots := 0, locals := 0 } : Room) (va_Pc [.ref h_this, .int p1] (fun U => U.heap.size = sz ∧ va_P (dC, dI) cls_all [oc h_this 0 fs_this, ic h_counts k_counts 7 f_counts] U.heap ∧ va_K (dC, dI) cls_all [(k_counts, .int)] U ∧ va_D (fun _ => True) [oc h_this 0 fs_this, ic h_counts k_counts 7 f_counts])) (va_Qv (fun (_ : Unit) => True) (fun _ t => ∃ (f_counts' : Nat → Int32), ((f_counts' = if p1 < 0 ∨ 7 ≤ p1 then f_counts else upd f_counts p1.toNatClampNeg (f_counts p1.toNatClampNeg + 1))) ∧ va_P (dC, dI) cls_all [oc h_this 0 fs_this, ic h_counts k_counts 7 f_counts'] t.heap ∧ va_K (dC, dI) cls_all [(k_counts, .int)] t ∧ va_D (va_A [oc h_this 0 fs_this, ic h_counts k_counts 7 f_counts] sz) [oc h_this 0 fs_this, ic h_counts k_counts 7 f_counts']) (va_A [oc h_this 0 fs_this, ic h_counts k_counts 7 f_counts] sz)) 0 0 (va_A [oc h_this 0 fs_this, ic h_counts k_counts 7 f_counts] sz) := by
  refine Met.ofW (cc := b_Code_tally) (maxL := 2) (ret := none) (by decide) rfl ?_
  intro p e s m args below meth c s₁ B hml hv
  obtain ⟨rfl, hsz, hP, hK, hD0⟩ := hv
  have hx := B.exec
  have hb := B.bytes
  have hr := B.returns
  have hT : ∀ w ∈ lw_good, w.before _ s = true := fun w h => atoms_spec (ws := w_Code_tally) B.pre w (List.mem_cons_of_mem _ h)
  have hown : s.vm.findClass R_Code = some m.cls := findClass_of_methodNamed B.named
  have hlocks := B.notSynchronized
  subst hsz
  have hD := hD0.self (sz := s.heap.size)
  generalize hAe : va_A [oc h_this 0 fs_this, ic h_counts k_counts 7 f_counts] s.heap.size = A at hD ⊢
  have hA : ∀ q : Nat, s.heap.size ≤ q → A q := fun q h => by rw [← hAe]; exact Or.inr h
  have hS : va_S A s.heap s.heap [] := va_S.rf
  have hP : va_P (dC, dI) cls_all [oc h_this 0 fs_this, ic h_counts k_counts 7 f_counts] s.heap := hP
  have hl := lv_entry ([.ref h_this, .int p1]) (n := 2) (Nat.le_of_ble_eq_true rfl)
  rw [lg_entry_eq]
  generalize (lg_sl ([.ref h_this, .int p1]) ++ List.replicate (2 - (lg_sl ([.ref h_this, .int p1])).length) Slot.unset).toArray = ls at hl ⊢
  have hl : lv_has ls 2 [(0, .ref h_this), (1, .int p1)] := hl
  refine lv_iload_n hx hb d_Code_tally_0 rfl (lv_at hl 1 rfl) ?_
  refine lv_if_lt (tgt := 23) hx hb d_Code_tally_1 (by decide) (fun c1 => ?_) (fun c1 => ?_)
  · have hP9 := hP.sub (ws' := [oc h_this 0 fs_this, ic h_counts k_counts 7 f_counts]) [0, 1] rfl
    have hD9 := hD.sub (ws' := [oc h_this 0 fs_this, ic h_counts k_counts 7 f_counts]) [0, 1] (by decide) rfl
    have hK9 := hK.sub (tys' := [(k_counts, .int)]) [0] rfl
    exact W.vret hx hb hr (fun t ht hW => ⟨⟨(), rfl, trivial, f_counts, (by subst_vars; (repeat' split) <;> first | rfl | (exfalso; simp only [i_lt, i_le, i_eq, Int32.reduceToInt] at *; omega)), by rw [ht]; exact hP9, va_K.moved hW.alike hK9, hD9⟩, hS.F ht⟩) hS.2.2 d_Code_tally_23
  · refine lv_iload_n hx hb d_Code_tally_4 rfl (lv_at hl 1 rfl) ?_
    refine lv_aload_n hx hb d_Code_tally_5 rfl (lv_at hl 0 rfl) ?_
    refine va_get (D := (dC, dI)) (ci := 0) (v := .ref h_counts) (C := R_Code) (T := F_Code) (N := 7) hx hb hT i_Code hown hK hP 0 rfl rfl 4 (by decide) (hT _ fl_Code_21) (fun _ h9 => h9) g_this_counts d_Code_tally_6 ?_
    refine va_alen (v := 7) hx hb hK hP 1 0 rfl rfl rfl d_Code_tally_9 ?_
    refine lv_icmp_ge (tgt := 23) hx hb d_Code_tally_10 (by decide) (fun c2 => ?_) (fun c2 => ?_)
    · have hP9 := hP.sub (ws' := [oc h_this 0 fs_this, ic h_counts k_counts 7 f_counts]) [0, 1] rfl
      have hD9 := hD.sub (ws' := [oc h_this 0 fs_this, ic h_counts k_counts 7 f_counts]) [0, 1] (by decide) rfl
      have hK9 := hK.sub (tys' := [(k_counts, .int)]) [0] rfl
      exact W.vret hx hb hr (fun t ht hW => ⟨⟨(), rfl, trivial, f_counts, (by subst_vars; (repeat' split) <;> first | rfl | (exfalso; simp only [i_lt, i_le, i_eq, Int32.reduceToInt] at *; omega)), by rw [ht]; exact hP9, va_K.moved hW.alike hK9, hD9⟩, hS.F ht⟩) hS.2.2 d_Code_tally_23
    · refine lv_aload_n hx hb d_Code_tally_13 rfl (lv_at hl 0 rfl) ?_
      refine va_get (D := (dC, dI)) (ci := 0) (v := .ref h_counts) (C := R_Code) (T := F_Code) (N := 7) hx hb hT i_Code hown hK hP 0 rfl rfl 4 (by decide) (hT _ fl_Code_21) (fun _ h9 => h9) g_this_counts d_Code_tally_14 ?_
      refine lv_iload_n hx hb d_Code_tally_17 rfl (lv_at hl 1 rfl) ?_
      refine lv_dup2_11 hx hb d_Code_tally_18 rfl rfl ?_
      refine va_iald hx hb hK hP 1 0 rfl rfl (by first | exact has_in (by assumption) (by assumption) (by assumption) | (refine vp_in_iff.mpr ?_; simp only [i_lt, i_le, i_eq, Int32.reduceToInt] at *; omega)) d_Code_tally_19 ?_
      refine lv_topi (fun x3 e3 => ?_)
      refine lv_iconst (v := 1) hx hb d_Code_tally_20 (by decide) ?_
      refine lv_iadd hx hb d_Code_tally_21 ?_
      refine lv_topi (fun x4 e4 => ?_)
      refine va_iast hx hb hK hP hD hS 1 0 rfl rfl (by first | exact has_in (by assumption) (by assumption) (by assumption) | (refine vp_in_iff.mpr ?_; simp only [i_lt, i_le, i_eq, Int32.reduceToInt] at *; omega)) d_Code_tally_22 (fun H locs hP hD hS => ?_)
      have hP : va_P (dC, dI) cls_all [oc h_this 0 fs_this, ic h_counts k_counts 7 (upd f_counts p1.toNatClampNeg x4)] H := hP
      have hD : va_D A [oc h_this 0 fs_this, ic h_counts k_counts 7 (upd f_counts p1.toNatClampNeg x4)] := hD
      obtain ⟨f5, ef5⟩ : ∃ g, g = upd f_counts p1.toNatClampNeg x4 := ⟨_, rfl⟩
      rw [← ef5] at hP hD
      have hP9 := hP.sub (ws' := [oc h_this 0 fs_this, ic h_counts k_counts 7 f5]) [0, 1] rfl
      have hD9 := hD.sub (ws' := [oc h_this 0 fs_this, ic h_counts k_counts 7 f5]) [0, 1] (by decide) rfl
      have hK9 := hK.sub (tys' := [(k_counts, .int)]) [0] rfl
      exact W.vret hx hb hr (fun t ht hW => ⟨⟨(), rfl, trivial, f5, (by subst_vars; (repeat' split) <;> first | rfl | (exfalso; simp only [i_lt, i_le, i_eq, Int32.reduceToInt] at *; omega)), by rw [ht]; exact hP9, va_K.moved hW.alike hK9, hD9⟩, hS.F ht⟩) hS.2.2 d_Code_tally_23
set_option maxHeartbeats 1000000 in
set_option maxRecDepth 100000 in
theorem c_Code_emit_in (l : Launch) (dC : Nat → ClassId) (dI : Nat → Nat → Nat) (sz : Nat) (h_this : Nat) (h_op : Nat) (h_first : Nat) (h_second : Nat) (fs_this : List Value) (k_op : ClassId) (f_op : Nat → Int32) (k_first : ClassId) (f_first : Nat → Int32) (k_second : ClassId) (f_second : Nat → Int32) (p1 : Int32) (p2 : Int32) (p3 : Int32) (n : Nat) (len_this : fs_this.length = 7) (g_this_count : fs_this[3]? = some (.int (nI n))) (g_this_op : fs_this[0]? = some (.ref h_op)) (g_this_first : fs_this[1]? = some (.ref h_first)) (g_this_second : fs_this[2]? = some (.ref h_second)) (hn : n < 6032) : Met l y_Code_emit w_Code_emit ({ frames := 0, cells := 0, slots := 0, locals := 0 } : Room) (va_Pc [.ref h_this, .int p1, .int p2, .int p3] (fun U => U.heap.size = sz ∧ va_P (dC, dI) cls_all [oc h_this 0 fs_this, ic h_op k_op 6032 f_op, ic h_first k_first 6032 f_first, ic h_second k_second 6032 f_second] U.heap ∧ va_K (dC, dI) cls_all [(k_op, .int), (k_first, .int), (k_second, .int)] U ∧ va_D (fun _ => True) [oc h_this 0 fs_this, ic h_op k_op 6032 f_op, ic h_first k_first 6032 f_first, ic h_second k_second 6032 f_second])) (va_Qi (fun (z r : Int32) => z = r) (fun r t => ∃ (fs_this' : List Value) (f_op' : Nat → Int32) (f_first' : Nat → Int32) (f_second' : Nat → Int32), (fs_this'.length = 7 ∧ (∀ j : Nat, j ≠ 3 → fs_this'[j]? = fs_this[j]?) ∧ fs_this'[3]? = some (.int (nI (n + 1))) ∧ (f_op' = upd f_op n p1) ∧ (f_first' = upd f_first n p2) ∧ (f_second' = upd f_second n p3) ∧ (r = nI n)) ∧ va_P (dC, dI) cls_all [oc h_this 0 fs_this', ic h_op k_op 6032 f_op', ic h_first k_first 6032 f_first', ic h_second k_second 6032 f_second'] t.heap ∧ va_K (dC, dI) cls_all [(k_op, .int), (k_first, .int), (k_second, .int)] t ∧ va_D (va_A [oc h_this 0 fs_this, ic h_op k_op 6032 f_op, ic h_first k_first 6032 f_first, ic h_second k_second 6032 f_second] sz) [oc h_this 0 fs_this', ic h_op k_op 6032 f_op', ic h_first k_first 6032 f_first', ic h_second k_second 6032 f_second']) (va_A [oc h_this 0 fs_this, ic h_op k_op 6032 f_op, ic h_first k_first 6032 f_first, ic h_second k_second 6032 f_second] sz)) 0 0 (va_A [oc h_this 0 fs_this, ic h_op k_op 6032 f_op, ic h_first k_first 6032 f_first, ic h_second k_second 6032 f_second] sz) := by
  refine Met.ofW (cc := b_Code_emit) (maxL := 4) (ret := (some .int)) (by decide) rfl ?_
  intro p e s m args below meth c s₁ B hml hv
  obtain ⟨rfl, hsz, hP, hK, hD0⟩ := hv
  have hx := B.exec
  have hb := B.bytes
  have hr := B.returns
  have hT : ∀ w ∈ lw_good, w.before _ s = true := fun w h => atoms_spec (ws := w_Code_emit) B.pre w (List.mem_cons_of_mem _ h)
  have hown : s.vm.findClass R_Code = some m.cls := findClass_of_methodNamed B.named
  have hlocks := B.notSynchronized
  subst hsz
  have hD := hD0.self (sz := s.heap.size)
  generalize hAe : va_A [oc h_this 0 fs_this, ic h_op k_op 6032 f_op, ic h_first k_first 6032 f_first, ic h_second k_second 6032 f_second] s.heap.size = A at hD ⊢
  have hA : ∀ q : Nat, s.heap.size ≤ q → A q := fun q h => by rw [← hAe]; exact Or.inr h
  have hS : va_S A s.heap s.heap [] := va_S.rf
  have hP : va_P (dC, dI) cls_all [oc h_this 0 fs_this, ic h_op k_op 6032 f_op, ic h_first k_first 6032 f_first, ic h_second k_second 6032 f_second] s.heap := hP
  have hl := lv_entry ([.ref h_this, .int p1, .int p2, .int p3]) (n := 4) (Nat.le_of_ble_eq_true rfl)
  rw [lg_entry_eq]
  generalize (lg_sl ([.ref h_this, .int p1, .int p2, .int p3]) ++ List.replicate (4 - (lg_sl ([.ref h_this, .int p1, .int p2, .int p3])).length) Slot.unset).toArray = ls at hl ⊢
  have hl : lv_has ls 4 [(0, .ref h_this), (1, .int p1), (2, .int p2), (3, .int p3)] := hl
  refine lv_aload_n hx hb d_Code_emit_0 rfl (lv_at hl 0 rfl) ?_
  refine va_get (D := (dC, dI)) (ci := 0) (v := .int (nI n)) (C := R_Code) (T := F_Code) (N := 7) hx hb hT i_Code hown hK hP 0 rfl rfl 3 (by decide) (hT _ fl_Code_28) (fun _ h9 => h9) g_this_count d_Code_emit_1 ?_
  refine lv_sipush (v := 6032) hx hb d_Code_emit_4 (by decide) ?_
  refine lv_icmp_lt (tgt := 12) hx hb d_Code_emit_7 (by decide) (fun c1 => ?_) (fun c1 => absurd (nI_lt (b := 6032) hn (by decide)) c1)
  refine lv_aload_n hx hb d_Code_emit_12 rfl (lv_at hl 0 rfl) ?_
  refine va_get (D := (dC, dI)) (ci := 0) (v := .ref h_op) (C := R_Code) (T := F_Code) (N := 7) hx hb hT i_Code hown hK hP 0 rfl rfl 0 (by decide) (hT _ fl_Code_11) (fun _ h9 => h9) g_this_op d_Code_emit_13 ?_
  refine lv_aload_n hx hb d_Code_emit_16 rfl (lv_at hl 0 rfl) ?_
  refine va_get (D := (dC, dI)) (ci := 0) (v := .int (nI n)) (C := R_Code) (T := F_Code) (N := 7) hx hb hT i_Code hown hK hP 0 rfl rfl 3 (by decide) (hT _ fl_Code_28) (fun _ h9 => h9) g_this_count d_Code_emit_17 ?_
  refine lv_iload_n hx hb d_Code_emit_20 rfl (lv_at hl 1 rfl) ?_
  refine va_iast hx hb hK hP hD hS 1 0 rfl rfl (vp_in_nI (by omega) (by decide)) d_Code_emit_21 (fun H locs hP hD hS => ?_)
  have es2 : upd f_op (nI n).toNatClampNeg p1 = upd f_op n p1 := by rw [nI_clamp (by omega)]
  have hP : va_P (dC, dI) cls_all [oc h_this 0 fs_this, ic h_op k_op 6032 (upd f_op (nI n).toNatClampNeg p1), ic h_first k_first 6032 f_first, ic h_second k_second 6032 f_second] H := hP
  have hD : va_D A [oc h_this 0 fs_this, ic h_op k_op 6032 (upd f_op (nI n).toNatClampNeg p1), ic h_first k_first 6032 f_first, ic h_second k_second 6032 f_second] := hD
  rw [es2] at hP hD
  obtain ⟨f2, ef2⟩ : ∃ g, g = upd f_op n p1 := ⟨_, rfl⟩
  rw [← ef2] at hP hD
  refine lv_aload_n hx hb d_Code_emit_22 rfl (lv_at hl 0 rfl) ?_
  refine va_get (D := (dC, dI)) (ci := 0) (v := .ref h_first) (C := R_Code) (T := F_Code) (N := 7) hx hb hT i_Code hown hK hP 0 rfl rfl 1 (by decide) (hT _ fl_Code_15) (fun _ h9 => h9) g_this_first d_Code_emit_23 ?_
  refine lv_aload_n hx hb d_Code_emit_26 rfl (lv_at hl 0 rfl) ?_
  refine va_get (D := (dC, dI)) (ci := 0) (v := .int (nI n)) (C := R_Code) (T := F_Code) (N := 7) hx hb hT i_Code hown hK hP 0 rfl rfl 3 (by decide) (hT _ fl_Code_28) (fun _ h9 => h9) g_this_count d_Code_emit_27 ?_
  refine lv_iload_n hx hb d_Code_emit_30 rfl (lv_at hl 2 rfl) ?_
  refine va_iast hx hb hK hP hD hS 2 1 rfl rfl (vp_in_nI (by omega) (by decide)) d_Code_emit_31 (fun H locs hP hD hS => ?_)
  have es3 : upd f_first (nI n).toNatClampNeg p2 = upd f_first n p2 := by rw [nI_clamp (by omega)]
  have hP : va_P (dC, dI) cls_all [oc h_this 0 fs_this, ic h_op k_op 6032 f2, ic h_first k_first 6032 (upd f_first (nI n).toNatClampNeg p2), ic h_second k_second 6032 f_second] H := hP
  have hD : va_D A [oc h_this 0 fs_this, ic h_op k_op 6032 f2, ic h_first k_first 6032 (upd f_first (nI n).toNatClampNeg p2), ic h_second k_second 6032 f_second] := hD
  rw [es3] at hP hD
  obtain ⟨f3, ef3⟩ : ∃ g, g = upd f_first n p2 := ⟨_, rfl⟩
  rw [← ef3] at hP hD
  refine lv_aload_n hx hb d_Code_emit_32 rfl (lv_at hl 0 rfl) ?_
  refine va_get (D := (dC, dI)) (ci := 0) (v := .ref h_second) (C := R_Code) (T := F_Code) (N := 7) hx hb hT i_Code hown hK hP 0 rfl rfl 2 (by decide) (hT _ fl_Code_18) (fun _ h9 => h9) g_this_second d_Code_emit_33 ?_
  refine lv_aload_n hx hb d_Code_emit_36 rfl (lv_at hl 0 rfl) ?_
  refine va_get (D := (dC, dI)) (ci := 0) (v := .int (nI n)) (C := R_Code) (T := F_Code) (N := 7) hx hb hT i_Code hown hK hP 0 rfl rfl 3 (by decide) (hT _ fl_Code_28) (fun _ h9 => h9) g_this_count d_Code_emit_37 ?_
  refine lv_iload_n hx hb d_Code_emit_40 rfl (lv_at hl 3 rfl) ?_
  refine va_iast hx hb hK hP hD hS 3 2 rfl rfl (vp_in_nI (by omega) (by decide)) d_Code_emit_41 (fun H locs hP hD hS => ?_)
  have es4 : upd f_second (nI n).toNatClampNeg p3 = upd f_second n p3 := by rw [nI_clamp (by omega)]
  have hP : va_P (dC, dI) cls_all [oc h_this 0 fs_this, ic h_op k_op 6032 f2, ic h_first k_first 6032 f3, ic h_second k_second 6032 (upd f_second (nI n).toNatClampNeg p3)] H := hP
  have hD : va_D A [oc h_this 0 fs_this, ic h_op k_op 6032 f2, ic h_first k_first 6032 f3, ic h_second k_second 6032 (upd f_second (nI n).toNatClampNeg p3)] := hD
  rw [es4] at hP hD
  obtain ⟨f4, ef4⟩ : ∃ g, g = upd f_second n p3 := ⟨_, rfl⟩
  rw [← ef4] at hP hD
  refine lv_aload_n hx hb d_Code_emit_42 rfl (lv_at hl 0 rfl) ?_
  refine lv_dup hx hb d_Code_emit_43 rfl ?_
  refine va_get (D := (dC, dI)) (ci := 0) (v := .int (nI n)) (C := R_Code) (T := F_Code) (N := 7) hx hb hT i_Code hown hK hP 0 rfl rfl 3 (by decide) (hT _ fl_Code_28) (fun _ h9 => h9) g_this_count d_Code_emit_44 ?_
  refine lv_iconst (v := 1) hx hb d_Code_emit_47 (by decide) ?_
  refine lv_iadd hx hb d_Code_emit_48 ?_
  refine lv_topi (fun x5 e5 => ?_)
  obtain rfl : x5 = nI (n + 1) := e5.trans (nI_add n 1)
  refine va_put (D := (dC, dI)) (ci := 0) (v := .int (nI (n + 1))) (ty := .int) (C := R_Code) (T := F_Code) (N := 7) hx hb hT i_Code t_Code t_Code_ok n_Code hown hK hP hD hS 0 rfl rfl 3 (by decide) (hT _ fl_Code_28) (fun _ h9 => h9) rfl (by decide +kernel) rfl rfl (by simp only [List.length_set, len_this]; decide) d_Code_emit_49 (fun H locs hP hD hS => ?_)
  have hP : va_P (dC, dI) cls_all [oc h_this 0 (fs_this.set 3 (.int (nI (n + 1)))), ic h_op k_op 6032 f2, ic h_first k_first 6032 f3, ic h_second k_second 6032 f4] H := hP
  have hD : va_D A [oc h_this 0 (fs_this.set 3 (.int (nI (n + 1)))), ic h_op k_op 6032 f2, ic h_first k_first 6032 f3, ic h_second k_second 6032 f4] := hD
  refine lv_aload_n hx hb d_Code_emit_52 rfl (lv_at hl 0 rfl) ?_
  refine va_get (D := (dC, dI)) (ci := 0) (v := .int (nI (n + 1))) (C := R_Code) (T := F_Code) (N := 7) hx hb hT i_Code hown hK hP 0 rfl rfl 3 (by decide) (hT _ fl_Code_28) (fun _ h9 => h9) (ls_eq (by simp only [List.length_set, len_this]; decide)) d_Code_emit_53 ?_
  refine lv_iconst (v := 1) hx hb d_Code_emit_56 (by decide) ?_
  refine lv_isub hx hb d_Code_emit_57 ?_
  refine lv_topi (fun x6 e6 => ?_)
  obtain rfl : x6 = nI n := e6.trans ((pk_sub (a := n + 1) (b := 1) (by omega)).trans (congrArg nI (by omega)))
  have hP9 := hP.sub (ws' := [oc h_this 0 (fs_this.set 3 (.int (nI (n + 1)))), ic h_op k_op 6032 f2, ic h_first k_first 6032 f3, ic h_second k_second 6032 f4]) [0, 1, 2, 3] rfl
  have hD9 := hD.sub (ws' := [oc h_this 0 (fs_this.set 3 (.int (nI (n + 1)))), ic h_op k_op 6032 f2, ic h_first k_first 6032 f3, ic h_second k_second 6032 f4]) [0, 1, 2, 3] (by decide) rfl
  have hK9 := hK.sub (tys' := [(k_op, .int), (k_first, .int), (k_second, .int)]) [0, 1, 2] rfl
  have hv7 : (fs_this.set 3 (.int (nI (n + 1))))[3]? = some (.int (nI (n + 1))) := (ls_eq (by simp only [List.length_set, len_this]; decide))
  exact W.iret (v := (nI n)) hx hb hr (fun t ht hW => ⟨⟨(nI n), (nI n), rfl, rfl, (fs_this.set 3 (.int (nI (n + 1)))), f2, f3, f4, ⟨(by first | exact len_this | (simp only [List.length_set]; exact len_this)), (fun j n3 => ((ls_ne n3).trans rfl)), (by first | exact hv7 | (rw [hv7]; refine congrArg some (congrArg _ ?_); subst_vars; rfl)), (by subst_vars; rfl), (by subst_vars; rfl), (by subst_vars; rfl), (by subst_vars; rfl)⟩, by rw [ht]; exact hP9, va_K.moved hW.alike hK9, hD9⟩, hS.F ht⟩) hS.2.2 d_Code_emit_58
set_option maxHeartbeats 1000000 in
set_option maxRecDepth 100000 in
theorem c_Code_emit_out (l : Launch) (dC : Nat → ClassId) (dI : Nat → Nat → Nat)  (h_this : Nat) (fs_this : List Value) (v_this_count : Int32) (p1 : Int32) (p2 : Int32) (p3 : Int32) (len_this : fs_this.length = 7) (g_this_count : fs_this[3]? = some (.int v_this_count)) (hn : 6032 ≤ v_this_count) : Met l y_Code_emit w_Code_emit ({ frames := 0, cells := 0, slots := 0, locals := 0 } : Room) (va_Pc [.ref h_this, .int p1, .int p2, .int p3] (fun U => va_P (dC, dI) cls_all [oc h_this 0 fs_this] U.heap ∧ va_K (dC, dI) cls_all [] U)) (vp_Si (fun r : Int32 => (r = -1))) 0 0 (fun _ => False) := by
  refine Met.ofW (cc := b_Code_emit) (maxL := 4) (ret := (some .int)) (by decide) rfl ?_
  intro p e s m args below meth c s₁ B hml hv
  obtain ⟨rfl, hP, hK⟩ := hv
  have hx := B.exec
  have hb := B.bytes
  have hr := B.returns
  have hT : ∀ w ∈ lw_good, w.before _ s = true := fun w h => atoms_spec (ws := w_Code_emit) B.pre w (List.mem_cons_of_mem _ h)
  have hown : s.vm.findClass R_Code = some m.cls := findClass_of_methodNamed B.named
  have hlocks := B.notSynchronized
  have hl := lv_entry ([.ref h_this, .int p1, .int p2, .int p3]) (n := 4) (Nat.le_of_ble_eq_true rfl)
  rw [lg_entry_eq]
  generalize (lg_sl ([.ref h_this, .int p1, .int p2, .int p3]) ++ List.replicate (4 - (lg_sl ([.ref h_this, .int p1, .int p2, .int p3])).length) Slot.unset).toArray = ls at hl ⊢
  have hl : lv_has ls 4 [(0, .ref h_this), (1, .int p1), (2, .int p2), (3, .int p3)] := hl
  refine lv_aload_n hx hb d_Code_emit_0 rfl (lv_at hl 0 rfl) ?_
  refine va_get (D := (dC, dI)) (ci := 0) (v := .int v_this_count) (C := R_Code) (T := F_Code) (N := 7) hx hb hT i_Code hown hK hP 0 rfl rfl 3 (by decide) (hT _ fl_Code_28) (fun _ h9 => h9) g_this_count d_Code_emit_1 ?_
  refine lv_sipush (v := 6032) hx hb d_Code_emit_4 (by decide) ?_
  refine lv_icmp_lt (tgt := 12) hx hb d_Code_emit_7 (by decide) (fun c1 => absurd c1 (by simp only [i_lt, i_le, Int32.reduceToInt] at *; omega)) (fun c1 => ?_)
  refine lv_iconst (v := (-1)) hx hb d_Code_emit_10 (by decide) ?_
  refine W.iret (v := (-1)) hx hb hr (fun t ht hW => ⟨(-1), rfl, ?_, ht⟩) (fun q h => by cases h) d_Code_emit_11
  rfl
set_option maxHeartbeats 1000000 in
set_option maxRecDepth 100000 in
theorem c_Source_kindAt (l : Launch) (dC : Nat → ClassId) (dI : Nat → Nat → Nat)  (h_this : Nat) (h_tokenKind : Nat) (fs_this : List Value) (v_this_tokens : Int32) (k_tokenKind : ClassId) (f_tokenKind : Nat → Int32) (p1 : Int32) (len_this : fs_this.length = 16) (g_this_tokens : fs_this[14]? = some (.int v_this_tokens)) (g_this_tokenKind : fs_this[11]? = some (.ref h_tokenKind)) (ht : v_this_tokens ≤ 4001) : Met l y_Source_kindAt w_Source_kindAt ({ frames := 0, cells := 0, slots := 0, locals := 0 } : Room) (va_Pc [.ref h_this, .int p1] (fun U => va_P (dC, dI) cls_all [oc h_this 8 fs_this, ic h_tokenKind k_tokenKind 4001 f_tokenKind] U.heap ∧ va_K (dC, dI) cls_all [(k_tokenKind, .int)] U)) (vp_Si (fun r : Int32 => (r = if p1 < 0 ∨ v_this_tokens ≤ p1 then 0 else f_tokenKind p1.toNatClampNeg))) 0 0 (fun _ => False) := by
  refine Met.ofW (cc := b_Source_kindAt) (maxL := 2) (ret := (some .int)) (by decide) rfl ?_
  intro p e s m args below meth c s₁ B hml hv
  obtain ⟨rfl, hP, hK⟩ := hv
  have hx := B.exec
  have hb := B.bytes
  have hr := B.returns
  have hT : ∀ w ∈ lw_good, w.before _ s = true := fun w h => atoms_spec (ws := w_Source_kindAt) B.pre w (List.mem_cons_of_mem _ h)
  have hown : s.vm.findClass R_Source = some m.cls := findClass_of_methodNamed B.named
  have hlocks := B.notSynchronized
  have hl := lv_entry ([.ref h_this, .int p1]) (n := 2) (Nat.le_of_ble_eq_true rfl)
  rw [lg_entry_eq]
  generalize (lg_sl ([.ref h_this, .int p1]) ++ List.replicate (2 - (lg_sl ([.ref h_this, .int p1])).length) Slot.unset).toArray = ls at hl ⊢
  have hl : lv_has ls 2 [(0, .ref h_this), (1, .int p1)] := hl
  refine lv_iload_n hx hb d_Source_kindAt_0 rfl (lv_at hl 1 rfl) ?_
  refine lv_if_lt (tgt := 12) hx hb d_Source_kindAt_1 (by decide) (fun c1 => ?_) (fun c1 => ?_)
  · refine lv_iconst (v := 0) hx hb d_Source_kindAt_12 (by decide) ?_
    refine lv_goto (tgt := 22) hx hb d_Source_kindAt_13 (by decide) ?_
    refine W.iret (v := 0) hx hb hr (fun t ht hW => ⟨0, rfl, ?_, ht⟩) (fun q h => by cases h) d_Source_kindAt_22
    (repeat' split) <;> first | rfl | (simp_all; done) | (exfalso; simp only [i_lt, i_le, i_eq, Int32.reduceToInt] at *; omega) | (subst_vars; simp_all; done)
  · refine lv_iload_n hx hb d_Source_kindAt_4 rfl (lv_at hl 1 rfl) ?_
    refine lv_aload_n hx hb d_Source_kindAt_5 rfl (lv_at hl 0 rfl) ?_
    refine va_get (D := (dC, dI)) (ci := 8) (v := .int v_this_tokens) (C := R_Source) (T := F_Source) (N := 16) hx hb hT i_Source hown hK hP 0 rfl rfl 14 (by decide) (hT _ fl_Source_86) (fun _ h9 => h9) g_this_tokens d_Source_kindAt_6 ?_
    refine lv_icmp_lt (tgt := 16) hx hb d_Source_kindAt_9 (by decide) (fun c2 => ?_) (fun c2 => ?_)
    · refine lv_aload_n hx hb d_Source_kindAt_16 rfl (lv_at hl 0 rfl) ?_
      refine va_get (D := (dC, dI)) (ci := 8) (v := .ref h_tokenKind) (C := R_Source) (T := F_Source) (N := 16) hx hb hT i_Source hown hK hP 0 rfl rfl 11 (by decide) (hT _ fl_Source_36) (fun _ h9 => h9) g_this_tokenKind d_Source_kindAt_17 ?_
      refine lv_iload_n hx hb d_Source_kindAt_20 rfl (lv_at hl 1 rfl) ?_
      refine va_iald hx hb hK hP 1 0 rfl rfl (by first | exact has_in (by assumption) (by assumption) (by assumption) | (refine vp_in_iff.mpr ?_; simp only [i_lt, i_le, i_eq, Int32.reduceToInt] at *; omega)) d_Source_kindAt_21 ?_
      refine lv_topi (fun x3 e3 => ?_)
      refine W.iret (v := x3) hx hb hr (fun t ht hW => ⟨x3, rfl, ?_, ht⟩) (fun q h => by cases h) d_Source_kindAt_22
      (repeat' split) <;> first | rfl | (simp_all; done) | (exfalso; simp only [i_lt, i_le, i_eq, Int32.reduceToInt] at *; omega) | (subst_vars; simp_all; done)
    · refine lv_iconst (v := 0) hx hb d_Source_kindAt_12 (by decide) ?_
      refine lv_goto (tgt := 22) hx hb d_Source_kindAt_13 (by decide) ?_
      refine W.iret (v := 0) hx hb hr (fun t ht hW => ⟨0, rfl, ?_, ht⟩) (fun q h => by cases h) d_Source_kindAt_22
      (repeat' split) <;> first | rfl | (simp_all; done) | (exfalso; simp only [i_lt, i_le, i_eq, Int32.reduceToInt] at *; omega) | (subst_vars; simp_all; done)
set_option maxHeartbeats 1000000 in
set_option maxRecDepth 100000 in
theorem c_Source_startOf (l : Launch) (dC : Nat → ClassId) (dI : Nat → Nat → Nat)  (h_this : Nat) (h_tokenStart : Nat) (fs_this : List Value) (v_this_tokens : Int32) (v_this_length : Int32) (k_tokenStart : ClassId) (f_tokenStart : Nat → Int32) (p1 : Int32) (len_this : fs_this.length = 16) (g_this_tokens : fs_this[14]? = some (.int v_this_tokens)) (g_this_tokenStart : fs_this[12]? = some (.ref h_tokenStart)) (g_this_length : fs_this[10]? = some (.int v_this_length)) (ht : v_this_tokens ≤ 4001) : Met l y_Source_startOf w_Source_startOf ({ frames := 0, cells := 0, slots := 0, locals := 0 } : Room) (va_Pc [.ref h_this, .int p1] (fun U => va_P (dC, dI) cls_all [oc h_this 8 fs_this, ic h_tokenStart k_tokenStart 4001 f_tokenStart] U.heap ∧ va_K (dC, dI) cls_all [(k_tokenStart, .int)] U)) (vp_Si (fun r : Int32 => (r = if p1 < 0 ∨ v_this_tokens ≤ p1 then v_this_length else f_tokenStart p1.toNatClampNeg))) 0 0 (fun _ => False) := by
  refine Met.ofW (cc := b_Source_startOf) (maxL := 2) (ret := (some .int)) (by decide) rfl ?_
  intro p e s m args below meth c s₁ B hml hv
  obtain ⟨rfl, hP, hK⟩ := hv
  have hx := B.exec
  have hb := B.bytes
  have hr := B.returns
  have hT : ∀ w ∈ lw_good, w.before _ s = true := fun w h => atoms_spec (ws := w_Source_startOf) B.pre w (List.mem_cons_of_mem _ h)
  have hown : s.vm.findClass R_Source = some m.cls := findClass_of_methodNamed B.named
  have hlocks := B.notSynchronized
  have hl := lv_entry ([.ref h_this, .int p1]) (n := 2) (Nat.le_of_ble_eq_true rfl)
  rw [lg_entry_eq]
  generalize (lg_sl ([.ref h_this, .int p1]) ++ List.replicate (2 - (lg_sl ([.ref h_this, .int p1])).length) Slot.unset).toArray = ls at hl ⊢
  have hl : lv_has ls 2 [(0, .ref h_this), (1, .int p1)] := hl
  refine lv_iload_n hx hb d_Source_startOf_0 rfl (lv_at hl 1 rfl) ?_
  refine lv_if_lt (tgt := 12) hx hb d_Source_startOf_1 (by decide) (fun c1 => ?_) (fun c1 => ?_)
  · refine lv_aload_n hx hb d_Source_startOf_12 rfl (lv_at hl 0 rfl) ?_
    refine va_get (D := (dC, dI)) (ci := 8) (v := .int v_this_length) (C := R_Source) (T := F_Source) (N := 16) hx hb hT i_Source hown hK hP 0 rfl rfl 10 (by decide) (hT _ fl_Source_83) (fun _ h9 => h9) g_this_length d_Source_startOf_13 ?_
    refine lv_goto (tgt := 25) hx hb d_Source_startOf_16 (by decide) ?_
    refine W.iret (v := v_this_length) hx hb hr (fun t ht hW => ⟨v_this_length, rfl, ?_, ht⟩) (fun q h => by cases h) d_Source_startOf_25
    (repeat' split) <;> first | rfl | (simp_all; done) | (exfalso; simp only [i_lt, i_le, i_eq, Int32.reduceToInt] at *; omega) | (subst_vars; simp_all; done)
  · refine lv_iload_n hx hb d_Source_startOf_4 rfl (lv_at hl 1 rfl) ?_
    refine lv_aload_n hx hb d_Source_startOf_5 rfl (lv_at hl 0 rfl) ?_
    refine va_get (D := (dC, dI)) (ci := 8) (v := .int v_this_tokens) (C := R_Source) (T := F_Source) (N := 16) hx hb hT i_Source hown hK hP 0 rfl rfl 14 (by decide) (hT _ fl_Source_86) (fun _ h9 => h9) g_this_tokens d_Source_startOf_6 ?_
    refine lv_icmp_lt (tgt := 19) hx hb d_Source_startOf_9 (by decide) (fun c2 => ?_) (fun c2 => ?_)
    · refine lv_aload_n hx hb d_Source_startOf_19 rfl (lv_at hl 0 rfl) ?_
      refine va_get (D := (dC, dI)) (ci := 8) (v := .ref h_tokenStart) (C := R_Source) (T := F_Source) (N := 16) hx hb hT i_Source hown hK hP 0 rfl rfl 12 (by decide) (hT _ fl_Source_39) (fun _ h9 => h9) g_this_tokenStart d_Source_startOf_20 ?_
      refine lv_iload_n hx hb d_Source_startOf_23 rfl (lv_at hl 1 rfl) ?_
      refine va_iald hx hb hK hP 1 0 rfl rfl (by first | exact has_in (by assumption) (by assumption) (by assumption) | (refine vp_in_iff.mpr ?_; simp only [i_lt, i_le, i_eq, Int32.reduceToInt] at *; omega)) d_Source_startOf_24 ?_
      refine lv_topi (fun x3 e3 => ?_)
      refine W.iret (v := x3) hx hb hr (fun t ht hW => ⟨x3, rfl, ?_, ht⟩) (fun q h => by cases h) d_Source_startOf_25
      (repeat' split) <;> first | rfl | (simp_all; done) | (exfalso; simp only [i_lt, i_le, i_eq, Int32.reduceToInt] at *; omega) | (subst_vars; simp_all; done)
    · refine lv_aload_n hx hb d_Source_startOf_12 rfl (lv_at hl 0 rfl) ?_
      refine va_get (D := (dC, dI)) (ci := 8) (v := .int v_this_length) (C := R_Source) (T := F_Source) (N := 16) hx hb hT i_Source hown hK hP 0 rfl rfl 10 (by decide) (hT _ fl_Source_83) (fun _ h9 => h9) g_this_length d_Source_startOf_13 ?_
      refine lv_goto (tgt := 25) hx hb d_Source_startOf_16 (by decide) ?_
      refine W.iret (v := v_this_length) hx hb hr (fun t ht hW => ⟨v_this_length, rfl, ?_, ht⟩) (fun q h => by cases h) d_Source_startOf_25
      (repeat' split) <;> first | rfl | (simp_all; done) | (exfalso; simp only [i_lt, i_le, i_eq, Int32.reduceToInt] at *; omega) | (subst_vars; simp_all; done)
set_option maxHeartbeats 1000000 in
set_option maxRecDepth 100000 in
theorem c_Source_nameAt (l : Launch) (dC : Nat → ClassId) (dI : Nat → Nat → Nat)  (h_this : Nat) (h_tokenName : Nat) (fs_this : List Value) (v_this_tokens : Int32) (k_tokenName : ClassId) (f_tokenName : Nat → Int64) (p1 : Int32) (len_this : fs_this.length = 16) (g_this_tokens : fs_this[14]? = some (.int v_this_tokens)) (g_this_tokenName : fs_this[13]? = some (.ref h_tokenName)) (ht : v_this_tokens ≤ 4001) : Met l y_Source_nameAt w_Source_nameAt ({ frames := 0, cells := 0, slots := 0, locals := 0 } : Room) (va_Pc [.ref h_this, .int p1] (fun U => va_P (dC, dI) cls_all [oc h_this 8 fs_this, jc h_tokenName k_tokenName 4001 f_tokenName] U.heap ∧ va_K (dC, dI) cls_all [(k_tokenName, .long)] U)) (vp_Sl (fun r : Int64 => (r = if p1 < 0 ∨ v_this_tokens ≤ p1 then 0 else f_tokenName p1.toNatClampNeg))) 0 0 (fun _ => False) := by
  refine Met.ofW (cc := b_Source_nameAt) (maxL := 2) (ret := (some .long)) (by decide) rfl ?_
  intro p e s m args below meth c s₁ B hml hv
  obtain ⟨rfl, hP, hK⟩ := hv
  have hx := B.exec
  have hb := B.bytes
  have hr := B.returns
  have hT : ∀ w ∈ lw_good, w.before _ s = true := fun w h => atoms_spec (ws := w_Source_nameAt) B.pre w (List.mem_cons_of_mem _ h)
  have hown : s.vm.findClass R_Source = some m.cls := findClass_of_methodNamed B.named
  have hlocks := B.notSynchronized
  have hl := lv_entry ([.ref h_this, .int p1]) (n := 2) (Nat.le_of_ble_eq_true rfl)
  rw [lg_entry_eq]
  generalize (lg_sl ([.ref h_this, .int p1]) ++ List.replicate (2 - (lg_sl ([.ref h_this, .int p1])).length) Slot.unset).toArray = ls at hl ⊢
  have hl : lv_has ls 2 [(0, .ref h_this), (1, .int p1)] := hl
  refine lv_iload_n hx hb d_Source_nameAt_0 rfl (lv_at hl 1 rfl) ?_
  refine lv_if_lt (tgt := 12) hx hb d_Source_nameAt_1 (by decide) (fun c1 => ?_) (fun c1 => ?_)
  · refine lv_lconst (v := 0) hx hb d_Source_nameAt_12 (by decide) ?_
    refine lv_goto (tgt := 22) hx hb d_Source_nameAt_13 (by decide) ?_
    refine W.lret (v := 0) hx hb hr (fun t ht hW => ⟨0, rfl, ?_, ht⟩) (fun q h => by cases h) d_Source_nameAt_22
    (repeat' split) <;> first | rfl | (simp_all; done) | (exfalso; simp only [i_lt, i_le, i_eq, Int32.reduceToInt] at *; omega) | (subst_vars; simp_all; done)
  · refine lv_iload_n hx hb d_Source_nameAt_4 rfl (lv_at hl 1 rfl) ?_
    refine lv_aload_n hx hb d_Source_nameAt_5 rfl (lv_at hl 0 rfl) ?_
    refine va_get (D := (dC, dI)) (ci := 8) (v := .int v_this_tokens) (C := R_Source) (T := F_Source) (N := 16) hx hb hT i_Source hown hK hP 0 rfl rfl 14 (by decide) (hT _ fl_Source_86) (fun _ h9 => h9) g_this_tokens d_Source_nameAt_6 ?_
    refine lv_icmp_lt (tgt := 16) hx hb d_Source_nameAt_9 (by decide) (fun c2 => ?_) (fun c2 => ?_)
    · refine lv_aload_n hx hb d_Source_nameAt_16 rfl (lv_at hl 0 rfl) ?_
      refine va_get (D := (dC, dI)) (ci := 8) (v := .ref h_tokenName) (C := R_Source) (T := F_Source) (N := 16) hx hb hT i_Source hown hK hP 0 rfl rfl 13 (by decide) (hT _ fl_Source_42) (fun _ h9 => h9) g_this_tokenName d_Source_nameAt_17 ?_
      refine lv_iload_n hx hb d_Source_nameAt_20 rfl (lv_at hl 1 rfl) ?_
      refine va_lald hx hb hK hP 1 0 rfl rfl (by first | exact has_in (by assumption) (by assumption) (by assumption) | (refine vp_in_iff.mpr ?_; simp only [i_lt, i_le, i_eq, Int32.reduceToInt] at *; omega)) d_Source_nameAt_21 ?_
      refine lv_topl (fun x3 e3 => ?_)
      refine W.lret (v := x3) hx hb hr (fun t ht hW => ⟨x3, rfl, ?_, ht⟩) (fun q h => by cases h) d_Source_nameAt_22
      (repeat' split) <;> first | rfl | (simp_all; done) | (exfalso; simp only [i_lt, i_le, i_eq, Int32.reduceToInt] at *; omega) | (subst_vars; simp_all; done)
    · refine lv_lconst (v := 0) hx hb d_Source_nameAt_12 (by decide) ?_
      refine lv_goto (tgt := 22) hx hb d_Source_nameAt_13 (by decide) ?_
      refine W.lret (v := 0) hx hb hr (fun t ht hW => ⟨0, rfl, ?_, ht⟩) (fun q h => by cases h) d_Source_nameAt_22
      (repeat' split) <;> first | rfl | (simp_all; done) | (exfalso; simp only [i_lt, i_le, i_eq, Int32.reduceToInt] at *; omega) | (subst_vars; simp_all; done)
set_option maxHeartbeats 1000000 in
set_option maxRecDepth 100000 in
theorem c_Source_addNode_in (l : Launch) (dC : Nat → ClassId) (dI : Nat → Nat → Nat) (sz : Nat) (h_this : Nat) (h_kind : Nat) (h_tok : Nat) (h_next : Nat) (h_peer : Nat) (h_op : Nat) (h_left : Nat) (h_right : Nat) (h_tail : Nat) (fs_this : List Value) (k_kind : ClassId) (f_kind : Nat → Int32) (k_tok : ClassId) (f_tok : Nat → Int32) (k_next : ClassId) (f_next : Nat → Int32) (k_peer : ClassId) (f_peer : Nat → Int32) (k_op : ClassId) (f_op : Nat → Int32) (k_left : ClassId) (f_left : Nat → Int32) (k_right : ClassId) (f_right : Nat → Int32) (k_tail : ClassId) (f_tail : Nat → Int32) (p1 : Int32) (p2 : Int32) (n : Nat) (len_this : fs_this.length = 16) (g_this_nodes : fs_this[8]? = some (.int (nI n))) (g_this_kind : fs_this[0]? = some (.ref h_kind)) (g_this_tok : fs_this[1]? = some (.ref h_tok)) (g_this_next : fs_this[2]? = some (.ref h_next)) (g_this_peer : fs_this[3]? = some (.ref h_peer)) (g_this_op : fs_this[4]? = some (.ref h_op)) (g_this_left : fs_this[5]? = some (.ref h_left)) (g_this_right : fs_this[6]? = some (.ref h_right)) (g_this_tail : fs_this[7]? = some (.ref h_tail)) (hn : n < 4008) : Met l y_Source_addNode w_Source_addNode ({ frames := 0, cells := 0, slots := 0, locals := 0 } : Room) (va_Pc [.ref h_this, .int p1, .int p2] (fun U => U.heap.size = sz ∧ va_P (dC, dI) cls_all [oc h_this 8 fs_this, ic h_kind k_kind 4008 f_kind, ic h_tok k_tok 4008 f_tok, ic h_next k_next 4008 f_next, ic h_peer k_peer 4008 f_peer, ic h_op k_op 4008 f_op, ic h_left k_left 4008 f_left, ic h_right k_right 4008 f_right, ic h_tail k_tail 4008 f_tail] U.heap ∧ va_K (dC, dI) cls_all [(k_kind, .int), (k_tok, .int), (k_next, .int), (k_peer, .int), (k_op, .int), (k_left, .int), (k_right, .int), (k_tail, .int)] U ∧ va_D (fun _ => True) [oc h_this 8 fs_this, ic h_kind k_kind 4008 f_kind, ic h_tok k_tok 4008 f_tok, ic h_next k_next 4008 f_next, ic h_peer k_peer 4008 f_peer, ic h_op k_op 4008 f_op, ic h_left k_left 4008 f_left, ic h_right k_right 4008 f_right, ic h_tail k_tail 4008 f_tail])) (va_Qi (fun (z r : Int32) => z = r) (fun r t => ∃ (fs_this' : List Value) (f_kind' : Nat → Int32) (f_tok' : Nat → Int32) (f_next' : Nat → Int32) (f_peer' : Nat → Int32) (f_op' : Nat → Int32) (f_left' : Nat → Int32) (f_right' : Nat → Int32) (f_tail' : Nat → Int32), (fs_this'.length = 16 ∧ (∀ j : Nat, j ≠ 8 → fs_this'[j]? = fs_this[j]?) ∧ fs_this'[8]? = some (.int (nI (n + 1))) ∧ (f_kind' = upd f_kind n p1) ∧ (f_tok' = upd f_tok n p2) ∧ (f_next' = upd f_next n 0) ∧ (f_peer' = upd f_peer n 0) ∧ (f_op' = upd f_op n 0) ∧ (f_left' = upd f_left n 0) ∧ (f_right' = upd f_right n 0) ∧ (f_tail' = upd f_tail n 0) ∧ (r = nI n)) ∧ va_P (dC, dI) cls_all [oc h_this 8 fs_this', ic h_kind k_kind 4008 f_kind', ic h_tok k_tok 4008 f_tok', ic h_next k_next 4008 f_next', ic h_peer k_peer 4008 f_peer', ic h_op k_op 4008 f_op', ic h_left k_left 4008 f_left', ic h_right k_right 4008 f_right', ic h_tail k_tail 4008 f_tail'] t.heap ∧ va_K (dC, dI) cls_all [(k_kind, .int), (k_tok, .int), (k_next, .int), (k_peer, .int), (k_op, .int), (k_left, .int), (k_right, .int), (k_tail, .int)] t ∧ va_D (va_A [oc h_this 8 fs_this, ic h_kind k_kind 4008 f_kind, ic h_tok k_tok 4008 f_tok, ic h_next k_next 4008 f_next, ic h_peer k_peer 4008 f_peer, ic h_op k_op 4008 f_op, ic h_left k_left 4008 f_left, ic h_right k_right 4008 f_right, ic h_tail k_tail 4008 f_tail] sz) [oc h_this 8 fs_this', ic h_kind k_kind 4008 f_kind', ic h_tok k_tok 4008 f_tok', ic h_next k_next 4008 f_next', ic h_peer k_peer 4008 f_peer', ic h_op k_op 4008 f_op', ic h_left k_left 4008 f_left', ic h_right k_right 4008 f_right', ic h_tail k_tail 4008 f_tail']) (va_A [oc h_this 8 fs_this, ic h_kind k_kind 4008 f_kind, ic h_tok k_tok 4008 f_tok, ic h_next k_next 4008 f_next, ic h_peer k_peer 4008 f_peer, ic h_op k_op 4008 f_op, ic h_left k_left 4008 f_left, ic h_right k_right 4008 f_right, ic h_tail k_tail 4008 f_tail] sz)) 0 0 (va_A [oc h_this 8 fs_this, ic h_kind k_kind 4008 f_kind, ic h_tok k_tok 4008 f_tok, ic h_next k_next 4008 f_next, ic h_peer k_peer 4008 f_peer, ic h_op k_op 4008 f_op, ic h_left k_left 4008 f_left, ic h_right k_right 4008 f_right, ic h_tail k_tail 4008 f_tail] sz) := by
  refine Met.ofW (cc := b_Source_addNode) (maxL := 3) (ret := (some .int)) (by decide) rfl ?_
  intro p e s m args below meth c s₁ B hml hv
  obtain ⟨rfl, hsz, hP, hK, hD0⟩ := hv
  have hx := B.exec
  have hb := B.bytes
  have hr := B.returns
  have hT : ∀ w ∈ lw_good, w.before _ s = true := fun w h => atoms_spec (ws := w_Source_addNode) B.pre w (List.mem_cons_of_mem _ h)
  have hown : s.vm.findClass R_Source = some m.cls := findClass_of_methodNamed B.named
  have hlocks := B.notSynchronized
  subst hsz
  have hD := hD0.self (sz := s.heap.size)
  generalize hAe : va_A [oc h_this 8 fs_this, ic h_kind k_kind 4008 f_kind, ic h_tok k_tok 4008 f_tok, ic h_next k_next 4008 f_next, ic h_peer k_peer 4008 f_peer, ic h_op k_op 4008 f_op, ic h_left k_left 4008 f_left, ic h_right k_right 4008 f_right, ic h_tail k_tail 4008 f_tail] s.heap.size = A at hD ⊢
  have hA : ∀ q : Nat, s.heap.size ≤ q → A q := fun q h => by rw [← hAe]; exact Or.inr h
  have hS : va_S A s.heap s.heap [] := va_S.rf
  have hP : va_P (dC, dI) cls_all [oc h_this 8 fs_this, ic h_kind k_kind 4008 f_kind, ic h_tok k_tok 4008 f_tok, ic h_next k_next 4008 f_next, ic h_peer k_peer 4008 f_peer, ic h_op k_op 4008 f_op, ic h_left k_left 4008 f_left, ic h_right k_right 4008 f_right, ic h_tail k_tail 4008 f_tail] s.heap := hP
  have hl := lv_entry ([.ref h_this, .int p1, .int p2]) (n := 3) (Nat.le_of_ble_eq_true rfl)
  rw [lg_entry_eq]
  generalize (lg_sl ([.ref h_this, .int p1, .int p2]) ++ List.replicate (3 - (lg_sl ([.ref h_this, .int p1, .int p2])).length) Slot.unset).toArray = ls at hl ⊢
  have hl : lv_has ls 3 [(0, .ref h_this), (1, .int p1), (2, .int p2)] := hl
  refine lv_aload_n hx hb d_Source_addNode_0 rfl (lv_at hl 0 rfl) ?_
  refine va_get (D := (dC, dI)) (ci := 8) (v := .int (nI n)) (C := R_Source) (T := F_Source) (N := 16) hx hb hT i_Source hown hK hP 0 rfl rfl 8 (by decide) (hT _ fl_Source_96) (fun _ h9 => h9) g_this_nodes d_Source_addNode_1 ?_
  refine lv_sipush (v := 4008) hx hb d_Source_addNode_4 (by decide) ?_
  refine lv_icmp_lt (tgt := 12) hx hb d_Source_addNode_7 (by decide) (fun c1 => ?_) (fun c1 => absurd (nI_lt (b := 4008) hn (by decide)) c1)
  refine lv_aload_n hx hb d_Source_addNode_12 rfl (lv_at hl 0 rfl) ?_
  refine va_get (D := (dC, dI)) (ci := 8) (v := .ref h_kind) (C := R_Source) (T := F_Source) (N := 16) hx hb hT i_Source hown hK hP 0 rfl rfl 0 (by decide) (hT _ fl_Source_11) (fun _ h9 => h9) g_this_kind d_Source_addNode_13 ?_
  refine lv_aload_n hx hb d_Source_addNode_16 rfl (lv_at hl 0 rfl) ?_
  refine va_get (D := (dC, dI)) (ci := 8) (v := .int (nI n)) (C := R_Source) (T := F_Source) (N := 16) hx hb hT i_Source hown hK hP 0 rfl rfl 8 (by decide) (hT _ fl_Source_96) (fun _ h9 => h9) g_this_nodes d_Source_addNode_17 ?_
  refine lv_iload_n hx hb d_Source_addNode_20 rfl (lv_at hl 1 rfl) ?_
  refine va_iast hx hb hK hP hD hS 1 0 rfl rfl (vp_in_nI (by omega) (by decide)) d_Source_addNode_21 (fun H locs hP hD hS => ?_)
  have es2 : upd f_kind (nI n).toNatClampNeg p1 = upd f_kind n p1 := by rw [nI_clamp (by omega)]
  have hP : va_P (dC, dI) cls_all [oc h_this 8 fs_this, ic h_kind k_kind 4008 (upd f_kind (nI n).toNatClampNeg p1), ic h_tok k_tok 4008 f_tok, ic h_next k_next 4008 f_next, ic h_peer k_peer 4008 f_peer, ic h_op k_op 4008 f_op, ic h_left k_left 4008 f_left, ic h_right k_right 4008 f_right, ic h_tail k_tail 4008 f_tail] H := hP
  have hD : va_D A [oc h_this 8 fs_this, ic h_kind k_kind 4008 (upd f_kind (nI n).toNatClampNeg p1), ic h_tok k_tok 4008 f_tok, ic h_next k_next 4008 f_next, ic h_peer k_peer 4008 f_peer, ic h_op k_op 4008 f_op, ic h_left k_left 4008 f_left, ic h_right k_right 4008 f_right, ic h_tail k_tail 4008 f_tail] := hD
  rw [es2] at hP hD
  obtain ⟨f2, ef2⟩ : ∃ g, g = upd f_kind n p1 := ⟨_, rfl⟩
  rw [← ef2] at hP hD
  refine lv_aload_n hx hb d_Source_addNode_22 rfl (lv_at hl 0 rfl) ?_
  refine va_get (D := (dC, dI)) (ci := 8) (v := .ref h_tok) (C := R_Source) (T := F_Source) (N := 16) hx hb hT i_Source hown hK hP 0 rfl rfl 1 (by decide) (hT _ fl_Source_15) (fun _ h9 => h9) g_this_tok d_Source_addNode_23 ?_
  refine lv_aload_n hx hb d_Source_addNode_26 rfl (lv_at hl 0 rfl) ?_
  refine va_get (D := (dC, dI)) (ci := 8) (v := .int (nI n)) (C := R_Source) (T := F_Source) (N := 16) hx hb hT i_Source hown hK hP 0 rfl rfl 8 (by decide) (hT _ fl_Source_96) (fun _ h9 => h9) g_this_nodes d_Source_addNode_27 ?_
  refine lv_iload_n hx hb d_Source_addNode_30 rfl (lv_at hl 2 rfl) ?_
  refine va_iast hx hb hK hP hD hS 2 1 rfl rfl (vp_in_nI (by omega) (by decide)) d_Source_addNode_31 (fun H locs hP hD hS => ?_)
  have es3 : upd f_tok (nI n).toNatClampNeg p2 = upd f_tok n p2 := by rw [nI_clamp (by omega)]
  have hP : va_P (dC, dI) cls_all [oc h_this 8 fs_this, ic h_kind k_kind 4008 f2, ic h_tok k_tok 4008 (upd f_tok (nI n).toNatClampNeg p2), ic h_next k_next 4008 f_next, ic h_peer k_peer 4008 f_peer, ic h_op k_op 4008 f_op, ic h_left k_left 4008 f_left, ic h_right k_right 4008 f_right, ic h_tail k_tail 4008 f_tail] H := hP
  have hD : va_D A [oc h_this 8 fs_this, ic h_kind k_kind 4008 f2, ic h_tok k_tok 4008 (upd f_tok (nI n).toNatClampNeg p2), ic h_next k_next 4008 f_next, ic h_peer k_peer 4008 f_peer, ic h_op k_op 4008 f_op, ic h_left k_left 4008 f_left, ic h_right k_right 4008 f_right, ic h_tail k_tail 4008 f_tail] := hD
  rw [es3] at hP hD
  obtain ⟨f3, ef3⟩ : ∃ g, g = upd f_tok n p2 := ⟨_, rfl⟩
  rw [← ef3] at hP hD
  refine lv_aload_n hx hb d_Source_addNode_32 rfl (lv_at hl 0 rfl) ?_
  refine va_get (D := (dC, dI)) (ci := 8) (v := .ref h_next) (C := R_Source) (T := F_Source) (N := 16) hx hb hT i_Source hown hK hP 0 rfl rfl 2 (by decide) (hT _ fl_Source_18) (fun _ h9 => h9) g_this_next d_Source_addNode_33 ?_
  refine lv_aload_n hx hb d_Source_addNode_36 rfl (lv_at hl 0 rfl) ?_
  refine va_get (D := (dC, dI)) (ci := 8) (v := .int (nI n)) (C := R_Source) (T := F_Source) (N := 16) hx hb hT i_Source hown hK hP 0 rfl rfl 8 (by decide) (hT _ fl_Source_96) (fun _ h9 => h9) g_this_nodes d_Source_addNode_37 ?_
  refine lv_iconst (v := 0) hx hb d_Source_addNode_40 (by decide) ?_
  refine va_iast hx hb hK hP hD hS 3 2 rfl rfl (vp_in_nI (by omega) (by decide)) d_Source_addNode_41 (fun H locs hP hD hS => ?_)
  have es4 : upd f_next (nI n).toNatClampNeg 0 = upd f_next n 0 := by rw [nI_clamp (by omega)]
  have hP : va_P (dC, dI) cls_all [oc h_this 8 fs_this, ic h_kind k_kind 4008 f2, ic h_tok k_tok 4008 f3, ic h_next k_next 4008 (upd f_next (nI n).toNatClampNeg 0), ic h_peer k_peer 4008 f_peer, ic h_op k_op 4008 f_op, ic h_left k_left 4008 f_left, ic h_right k_right 4008 f_right, ic h_tail k_tail 4008 f_tail] H := hP
  have hD : va_D A [oc h_this 8 fs_this, ic h_kind k_kind 4008 f2, ic h_tok k_tok 4008 f3, ic h_next k_next 4008 (upd f_next (nI n).toNatClampNeg 0), ic h_peer k_peer 4008 f_peer, ic h_op k_op 4008 f_op, ic h_left k_left 4008 f_left, ic h_right k_right 4008 f_right, ic h_tail k_tail 4008 f_tail] := hD
  rw [es4] at hP hD
  obtain ⟨f4, ef4⟩ : ∃ g, g = upd f_next n 0 := ⟨_, rfl⟩
  rw [← ef4] at hP hD
  refine lv_aload_n hx hb d_Source_addNode_42 rfl (lv_at hl 0 rfl) ?_
  refine va_get (D := (dC, dI)) (ci := 8) (v := .ref h_peer) (C := R_Source) (T := F_Source) (N := 16) hx hb hT i_Source hown hK hP 0 rfl rfl 3 (by decide) (hT _ fl_Source_21) (fun _ h9 => h9) g_this_peer d_Source_addNode_43 ?_
  refine lv_aload_n hx hb d_Source_addNode_46 rfl (lv_at hl 0 rfl) ?_
  refine va_get (D := (dC, dI)) (ci := 8) (v := .int (nI n)) (C := R_Source) (T := F_Source) (N := 16) hx hb hT i_Source hown hK hP 0 rfl rfl 8 (by decide) (hT _ fl_Source_96) (fun _ h9 => h9) g_this_nodes d_Source_addNode_47 ?_
  refine lv_iconst (v := 0) hx hb d_Source_addNode_50 (by decide) ?_
  refine va_iast hx hb hK hP hD hS 4 3 rfl rfl (vp_in_nI (by omega) (by decide)) d_Source_addNode_51 (fun H locs hP hD hS => ?_)
  have es5 : upd f_peer (nI n).toNatClampNeg 0 = upd f_peer n 0 := by rw [nI_clamp (by omega)]
  have hP : va_P (dC, dI) cls_all [oc h_this 8 fs_this, ic h_kind k_kind 4008 f2, ic h_tok k_tok 4008 f3, ic h_next k_next 4008 f4, ic h_peer k_peer 4008 (upd f_peer (nI n).toNatClampNeg 0), ic h_op k_op 4008 f_op, ic h_left k_left 4008 f_left, ic h_right k_right 4008 f_right, ic h_tail k_tail 4008 f_tail] H := hP
  have hD : va_D A [oc h_this 8 fs_this, ic h_kind k_kind 4008 f2, ic h_tok k_tok 4008 f3, ic h_next k_next 4008 f4, ic h_peer k_peer 4008 (upd f_peer (nI n).toNatClampNeg 0), ic h_op k_op 4008 f_op, ic h_left k_left 4008 f_left, ic h_right k_right 4008 f_right, ic h_tail k_tail 4008 f_tail] := hD
  rw [es5] at hP hD
  obtain ⟨f5, ef5⟩ : ∃ g, g = upd f_peer n 0 := ⟨_, rfl⟩
  rw [← ef5] at hP hD
  refine lv_aload_n hx hb d_Source_addNode_52 rfl (lv_at hl 0 rfl) ?_
  refine va_get (D := (dC, dI)) (ci := 8) (v := .ref h_op) (C := R_Source) (T := F_Source) (N := 16) hx hb hT i_Source hown hK hP 0 rfl rfl 4 (by decide) (hT _ fl_Source_24) (fun _ h9 => h9) g_this_op d_Source_addNode_53 ?_
  refine lv_aload_n hx hb d_Source_addNode_56 rfl (lv_at hl 0 rfl) ?_
  refine va_get (D := (dC, dI)) (ci := 8) (v := .int (nI n)) (C := R_Source) (T := F_Source) (N := 16) hx hb hT i_Source hown hK hP 0 rfl rfl 8 (by decide) (hT _ fl_Source_96) (fun _ h9 => h9) g_this_nodes d_Source_addNode_57 ?_
  refine lv_iconst (v := 0) hx hb d_Source_addNode_60 (by decide) ?_
  refine va_iast hx hb hK hP hD hS 5 4 rfl rfl (vp_in_nI (by omega) (by decide)) d_Source_addNode_61 (fun H locs hP hD hS => ?_)
  have es6 : upd f_op (nI n).toNatClampNeg 0 = upd f_op n 0 := by rw [nI_clamp (by omega)]
  have hP : va_P (dC, dI) cls_all [oc h_this 8 fs_this, ic h_kind k_kind 4008 f2, ic h_tok k_tok 4008 f3, ic h_next k_next 4008 f4, ic h_peer k_peer 4008 f5, ic h_op k_op 4008 (upd f_op (nI n).toNatClampNeg 0), ic h_left k_left 4008 f_left, ic h_right k_right 4008 f_right, ic h_tail k_tail 4008 f_tail] H := hP
  have hD : va_D A [oc h_this 8 fs_this, ic h_kind k_kind 4008 f2, ic h_tok k_tok 4008 f3, ic h_next k_next 4008 f4, ic h_peer k_peer 4008 f5, ic h_op k_op 4008 (upd f_op (nI n).toNatClampNeg 0), ic h_left k_left 4008 f_left, ic h_right k_right 4008 f_right, ic h_tail k_tail 4008 f_tail] := hD
  rw [es6] at hP hD
  obtain ⟨f6, ef6⟩ : ∃ g, g = upd f_op n 0 := ⟨_, rfl⟩
  rw [← ef6] at hP hD
  refine lv_aload_n hx hb d_Source_addNode_62 rfl (lv_at hl 0 rfl) ?_
  refine va_get (D := (dC, dI)) (ci := 8) (v := .ref h_left) (C := R_Source) (T := F_Source) (N := 16) hx hb hT i_Source hown hK hP 0 rfl rfl 5 (by decide) (hT _ fl_Source_27) (fun _ h9 => h9) g_this_left d_Source_addNode_63 ?_
  refine lv_aload_n hx hb d_Source_addNode_66 rfl (lv_at hl 0 rfl) ?_
  refine va_get (D := (dC, dI)) (ci := 8) (v := .int (nI n)) (C := R_Source) (T := F_Source) (N := 16) hx hb hT i_Source hown hK hP 0 rfl rfl 8 (by decide) (hT _ fl_Source_96) (fun _ h9 => h9) g_this_nodes d_Source_addNode_67 ?_
  refine lv_iconst (v := 0) hx hb d_Source_addNode_70 (by decide) ?_
  refine va_iast hx hb hK hP hD hS 6 5 rfl rfl (vp_in_nI (by omega) (by decide)) d_Source_addNode_71 (fun H locs hP hD hS => ?_)
  have es7 : upd f_left (nI n).toNatClampNeg 0 = upd f_left n 0 := by rw [nI_clamp (by omega)]
  have hP : va_P (dC, dI) cls_all [oc h_this 8 fs_this, ic h_kind k_kind 4008 f2, ic h_tok k_tok 4008 f3, ic h_next k_next 4008 f4, ic h_peer k_peer 4008 f5, ic h_op k_op 4008 f6, ic h_left k_left 4008 (upd f_left (nI n).toNatClampNeg 0), ic h_right k_right 4008 f_right, ic h_tail k_tail 4008 f_tail] H := hP
  have hD : va_D A [oc h_this 8 fs_this, ic h_kind k_kind 4008 f2, ic h_tok k_tok 4008 f3, ic h_next k_next 4008 f4, ic h_peer k_peer 4008 f5, ic h_op k_op 4008 f6, ic h_left k_left 4008 (upd f_left (nI n).toNatClampNeg 0), ic h_right k_right 4008 f_right, ic h_tail k_tail 4008 f_tail] := hD
  rw [es7] at hP hD
  obtain ⟨f7, ef7⟩ : ∃ g, g = upd f_left n 0 := ⟨_, rfl⟩
  rw [← ef7] at hP hD
  refine lv_aload_n hx hb d_Source_addNode_72 rfl (lv_at hl 0 rfl) ?_
  refine va_get (D := (dC, dI)) (ci := 8) (v := .ref h_right) (C := R_Source) (T := F_Source) (N := 16) hx hb hT i_Source hown hK hP 0 rfl rfl 6 (by decide) (hT _ fl_Source_30) (fun _ h9 => h9) g_this_right d_Source_addNode_73 ?_
  refine lv_aload_n hx hb d_Source_addNode_76 rfl (lv_at hl 0 rfl) ?_
  refine va_get (D := (dC, dI)) (ci := 8) (v := .int (nI n)) (C := R_Source) (T := F_Source) (N := 16) hx hb hT i_Source hown hK hP 0 rfl rfl 8 (by decide) (hT _ fl_Source_96) (fun _ h9 => h9) g_this_nodes d_Source_addNode_77 ?_
  refine lv_iconst (v := 0) hx hb d_Source_addNode_80 (by decide) ?_
  refine va_iast hx hb hK hP hD hS 7 6 rfl rfl (vp_in_nI (by omega) (by decide)) d_Source_addNode_81 (fun H locs hP hD hS => ?_)
  have es8 : upd f_right (nI n).toNatClampNeg 0 = upd f_right n 0 := by rw [nI_clamp (by omega)]
  have hP : va_P (dC, dI) cls_all [oc h_this 8 fs_this, ic h_kind k_kind 4008 f2, ic h_tok k_tok 4008 f3, ic h_next k_next 4008 f4, ic h_peer k_peer 4008 f5, ic h_op k_op 4008 f6, ic h_left k_left 4008 f7, ic h_right k_right 4008 (upd f_right (nI n).toNatClampNeg 0), ic h_tail k_tail 4008 f_tail] H := hP
  have hD : va_D A [oc h_this 8 fs_this, ic h_kind k_kind 4008 f2, ic h_tok k_tok 4008 f3, ic h_next k_next 4008 f4, ic h_peer k_peer 4008 f5, ic h_op k_op 4008 f6, ic h_left k_left 4008 f7, ic h_right k_right 4008 (upd f_right (nI n).toNatClampNeg 0), ic h_tail k_tail 4008 f_tail] := hD
  rw [es8] at hP hD
  obtain ⟨f8, ef8⟩ : ∃ g, g = upd f_right n 0 := ⟨_, rfl⟩
  rw [← ef8] at hP hD
  refine lv_aload_n hx hb d_Source_addNode_82 rfl (lv_at hl 0 rfl) ?_
  refine va_get (D := (dC, dI)) (ci := 8) (v := .ref h_tail) (C := R_Source) (T := F_Source) (N := 16) hx hb hT i_Source hown hK hP 0 rfl rfl 7 (by decide) (hT _ fl_Source_33) (fun _ h9 => h9) g_this_tail d_Source_addNode_83 ?_
  refine lv_aload_n hx hb d_Source_addNode_86 rfl (lv_at hl 0 rfl) ?_
  refine va_get (D := (dC, dI)) (ci := 8) (v := .int (nI n)) (C := R_Source) (T := F_Source) (N := 16) hx hb hT i_Source hown hK hP 0 rfl rfl 8 (by decide) (hT _ fl_Source_96) (fun _ h9 => h9) g_this_nodes d_Source_addNode_87 ?_
  refine lv_iconst (v := 0) hx hb d_Source_addNode_90 (by decide) ?_
  refine va_iast hx hb hK hP hD hS 8 7 rfl rfl (vp_in_nI (by omega) (by decide)) d_Source_addNode_91 (fun H locs hP hD hS => ?_)
  have es9 : upd f_tail (nI n).toNatClampNeg 0 = upd f_tail n 0 := by rw [nI_clamp (by omega)]
  have hP : va_P (dC, dI) cls_all [oc h_this 8 fs_this, ic h_kind k_kind 4008 f2, ic h_tok k_tok 4008 f3, ic h_next k_next 4008 f4, ic h_peer k_peer 4008 f5, ic h_op k_op 4008 f6, ic h_left k_left 4008 f7, ic h_right k_right 4008 f8, ic h_tail k_tail 4008 (upd f_tail (nI n).toNatClampNeg 0)] H := hP
  have hD : va_D A [oc h_this 8 fs_this, ic h_kind k_kind 4008 f2, ic h_tok k_tok 4008 f3, ic h_next k_next 4008 f4, ic h_peer k_peer 4008 f5, ic h_op k_op 4008 f6, ic h_left k_left 4008 f7, ic h_right k_right 4008 f8, ic h_tail k_tail 4008 (upd f_tail (nI n).toNatClampNeg 0)] := hD
  rw [es9] at hP hD
  obtain ⟨f9, ef9⟩ : ∃ g, g = upd f_tail n 0 := ⟨_, rfl⟩
  rw [← ef9] at hP hD
  refine lv_aload_n hx hb d_Source_addNode_92 rfl (lv_at hl 0 rfl) ?_
  refine lv_dup hx hb d_Source_addNode_93 rfl ?_
  refine va_get (D := (dC, dI)) (ci := 8) (v := .int (nI n)) (C := R_Source) (T := F_Source) (N := 16) hx hb hT i_Source hown hK hP 0 rfl rfl 8 (by decide) (hT _ fl_Source_96) (fun _ h9 => h9) g_this_nodes d_Source_addNode_94 ?_
  refine lv_iconst (v := 1) hx hb d_Source_addNode_97 (by decide) ?_
  refine lv_iadd hx hb d_Source_addNode_98 ?_
  refine lv_topi (fun x10 e10 => ?_)
  obtain rfl : x10 = nI (n + 1) := e10.trans (nI_add n 1)
  refine va_put (D := (dC, dI)) (ci := 8) (v := .int (nI (n + 1))) (ty := .int) (C := R_Source) (T := F_Source) (N := 16) hx hb hT i_Source t_Source t_Source_ok n_Source hown hK hP hD hS 0 rfl rfl 8 (by decide) (hT _ fl_Source_96) (fun _ h9 => h9) rfl (by decide +kernel) rfl rfl (by simp only [List.length_set, len_this]; decide) d_Source_addNode_99 (fun H locs hP hD hS => ?_)
  have hP : va_P (dC, dI) cls_all [oc h_this 8 (fs_this.set 8 (.int (nI (n + 1)))), ic h_kind k_kind 4008 f2, ic h_tok k_tok 4008 f3, ic h_next k_next 4008 f4, ic h_peer k_peer 4008 f5, ic h_op k_op 4008 f6, ic h_left k_left 4008 f7, ic h_right k_right 4008 f8, ic h_tail k_tail 4008 f9] H := hP
  have hD : va_D A [oc h_this 8 (fs_this.set 8 (.int (nI (n + 1)))), ic h_kind k_kind 4008 f2, ic h_tok k_tok 4008 f3, ic h_next k_next 4008 f4, ic h_peer k_peer 4008 f5, ic h_op k_op 4008 f6, ic h_left k_left 4008 f7, ic h_right k_right 4008 f8, ic h_tail k_tail 4008 f9] := hD
  refine lv_aload_n hx hb d_Source_addNode_102 rfl (lv_at hl 0 rfl) ?_
  refine va_get (D := (dC, dI)) (ci := 8) (v := .int (nI (n + 1))) (C := R_Source) (T := F_Source) (N := 16) hx hb hT i_Source hown hK hP 0 rfl rfl 8 (by decide) (hT _ fl_Source_96) (fun _ h9 => h9) (ls_eq (by simp only [List.length_set, len_this]; decide)) d_Source_addNode_103 ?_
  refine lv_iconst (v := 1) hx hb d_Source_addNode_106 (by decide) ?_
  refine lv_isub hx hb d_Source_addNode_107 ?_
  refine lv_topi (fun x11 e11 => ?_)
  obtain rfl : x11 = nI n := e11.trans ((pk_sub (a := n + 1) (b := 1) (by omega)).trans (congrArg nI (by omega)))
  have hP9 := hP.sub (ws' := [oc h_this 8 (fs_this.set 8 (.int (nI (n + 1)))), ic h_kind k_kind 4008 f2, ic h_tok k_tok 4008 f3, ic h_next k_next 4008 f4, ic h_peer k_peer 4008 f5, ic h_op k_op 4008 f6, ic h_left k_left 4008 f7, ic h_right k_right 4008 f8, ic h_tail k_tail 4008 f9]) [0, 1, 2, 3, 4, 5, 6, 7, 8] rfl
  have hD9 := hD.sub (ws' := [oc h_this 8 (fs_this.set 8 (.int (nI (n + 1)))), ic h_kind k_kind 4008 f2, ic h_tok k_tok 4008 f3, ic h_next k_next 4008 f4, ic h_peer k_peer 4008 f5, ic h_op k_op 4008 f6, ic h_left k_left 4008 f7, ic h_right k_right 4008 f8, ic h_tail k_tail 4008 f9]) [0, 1, 2, 3, 4, 5, 6, 7, 8] (by decide) rfl
  have hK9 := hK.sub (tys' := [(k_kind, .int), (k_tok, .int), (k_next, .int), (k_peer, .int), (k_op, .int), (k_left, .int), (k_right, .int), (k_tail, .int)]) [0, 1, 2, 3, 4, 5, 6, 7] rfl
  have hv12 : (fs_this.set 8 (.int (nI (n + 1))))[8]? = some (.int (nI (n + 1))) := (ls_eq (by simp only [List.length_set, len_this]; decide))
  exact W.iret (v := (nI n)) hx hb hr (fun t ht hW => ⟨⟨(nI n), (nI n), rfl, rfl, (fs_this.set 8 (.int (nI (n + 1)))), f2, f3, f4, f5, f6, f7, f8, f9, ⟨(by first | exact len_this | (simp only [List.length_set]; exact len_this)), (fun j n8 => ((ls_ne n8).trans rfl)), (by first | exact hv12 | (rw [hv12]; refine congrArg some (congrArg _ ?_); subst_vars; rfl)), (by subst_vars; rfl), (by subst_vars; rfl), (by subst_vars; rfl), (by subst_vars; rfl), (by subst_vars; rfl), (by subst_vars; rfl), (by subst_vars; rfl), (by subst_vars; rfl), (by subst_vars; rfl)⟩, by rw [ht]; exact hP9, va_K.moved hW.alike hK9, hD9⟩, hS.F ht⟩) hS.2.2 d_Source_addNode_108
set_option maxHeartbeats 1000000 in
set_option maxRecDepth 100000 in
theorem c_Parser_sees (l : Launch) (dC : Nat → ClassId) (dI : Nat → Nat → Nat)  (h_this : Nat) (h_source : Nat) (h_source_tokenKind : Nat) (fs_this : List Value) (v_this_stopped : Int32) (v_this_at : Int32) (fs_source : List Value) (v_source_tokens : Int32) (k_source_tokenKind : ClassId) (f_source_tokenKind : Nat → Int32) (p1 : Int32) (len_this : fs_this.length = 7) (g_this_stopped : fs_this[4]? = some (.int v_this_stopped)) (g_this_at : fs_this[3]? = some (.int v_this_at)) (g_this_source : fs_this[0]? = some (.ref h_source)) (len_source : fs_source.length = 16) (g_source_tokens : fs_source[14]? = some (.int v_source_tokens)) (g_source_tokenKind : fs_source[11]? = some (.ref h_source_tokenKind)) (ht : v_source_tokens ≤ 4001) : Met l y_Parser_sees w_Parser_sees ({ frames := 1, cells := 0, slots := 0, locals := 21 } : Room) (va_Pc [.ref h_this, .int p1] (fun U => va_P (dC, dI) cls_all [oc h_this 6 fs_this, oc h_source 8 fs_source, ic h_source_tokenKind k_source_tokenKind 4001 f_source_tokenKind] U.heap ∧ va_K (dC, dI) cls_all [(k_source_tokenKind, .int)] U)) (vp_Si (fun r : Int32 => (r = if v_this_stopped = 0 ∧ (if v_this_at < 0 ∨ v_source_tokens ≤ v_this_at then 0 else f_source_tokenKind v_this_at.toNatClampNeg) = p1 then 1 else 0))) 0 0 (fun _ => False) := by
  refine Met.ofW (cc := b_Parser_sees) (maxL := 2) (ret := (some .boolean)) (by decide) rfl ?_
  intro p e s m args below meth c s₁ B hml hv
  obtain ⟨rfl, hP, hK⟩ := hv
  have hx := B.exec
  have hb := B.bytes
  have hr := B.returns
  have hT : ∀ w ∈ lw_good, w.before _ s = true := fun w h => atoms_spec (ws := w_Parser_sees) B.pre w (List.mem_cons_of_mem _ h)
  have hown : s.vm.findClass R_Parser = some m.cls := findClass_of_methodNamed B.named
  have hlocks := B.notSynchronized
  have hl := lv_entry ([.ref h_this, .int p1]) (n := 2) (Nat.le_of_ble_eq_true rfl)
  rw [lg_entry_eq]
  generalize (lg_sl ([.ref h_this, .int p1]) ++ List.replicate (2 - (lg_sl ([.ref h_this, .int p1])).length) Slot.unset).toArray = ls at hl ⊢
  have hl : lv_has ls 2 [(0, .ref h_this), (1, .int p1)] := hl
  refine lv_aload_n hx hb d_Parser_sees_0 rfl (lv_at hl 0 rfl) ?_
  refine va_get (D := (dC, dI)) (ci := 6) (v := .int v_this_stopped) (C := R_Parser) (T := F_Parser) (N := 7) hx hb hT i_Parser hown hK hP 0 rfl rfl 4 (by decide) (hT _ fl_Parser_27) (fun _ h9 => h9) g_this_stopped d_Parser_sees_1 ?_
  refine lv_if_ne (tgt := 26) hx hb d_Parser_sees_4 (by decide) (fun c1 => ?_) (fun c1 => ?_)
  · refine lv_iconst (v := 0) hx hb d_Parser_sees_26 (by decide) ?_
    refine W.zret (v := 0) hx hb hr (by first | rfl | decide | assumption) (fun t ht hW => ⟨0, rfl, ?_, ht⟩) (fun q h => by cases h) d_Parser_sees_27
    first | (simp [c1]; done) | (subst_vars; simp_all; done)
  · refine lv_aload_n hx hb d_Parser_sees_7 rfl (lv_at hl 0 rfl) ?_
    refine va_get (D := (dC, dI)) (ci := 6) (v := .ref h_source) (C := R_Parser) (T := F_Parser) (N := 7) hx hb hT i_Parser hown hK hP 0 rfl rfl 0 (by decide) (hT _ fl_Parser_9) (fun _ h9 => h9) g_this_source d_Parser_sees_8 ?_
    refine lv_aload_n hx hb d_Parser_sees_11 rfl (lv_at hl 0 rfl) ?_
    refine va_get (D := (dC, dI)) (ci := 6) (v := .int v_this_at) (C := R_Parser) (T := F_Parser) (N := 7) hx hb hT i_Parser hown hK hP 0 rfl rfl 3 (by decide) (hT _ fl_Parser_23) (fun _ h9 => h9) g_this_at d_Parser_sees_12 ?_
    have hPc := hP.sub (ws' := [oc h_source 8 fs_source, ic h_source_tokenKind k_source_tokenKind 4001 f_source_tokenKind]) [1, 2] rfl
    have hKc := hK.sub (tys' := [(k_source_tokenKind, .int)]) [0] rfl
    refine vp_callSi (va_Run.run (va_runV (As := [.int v_this_at]) (rest := []) ⟨hx, hb, hml, hown, hT⟩ (c_Source_kindAt l dC dI (h_this := h_source) (h_tokenKind := h_source_tokenKind) (fs_this := fs_source) (v_this_tokens := v_source_tokens) (k_tokenKind := k_source_tokenKind) (f_tokenKind := f_source_tokenKind) (p1 := v_this_at) (len_this := (by first | exact len_source | (simp only [List.length_set]; exact len_source))) (g_this_tokens := g_source_tokens) (g_this_tokenKind := g_source_tokenKind) (ht := (by first | assumption | (subst_vars; decide) | omega))) (cwV 1 hT (gV ml_Parser_44 im_Source_kindAt se_Source_kindAt ini_Source co_Source_kindAt) rfl rfl rfl (by decide +kernel) ⟨Nat.le_of_ble_eq_true rfl, Nat.le_of_ble_eq_true rfl⟩) ⟨fbS, va_recv hKc hPc (ci := 8) (q0 := 0) rfl rfl, fun U hU hW => ⟨rfl, by rw [hU]; exact hPc, va_K.moved hW.alike hKc⟩⟩ rfl rfl hl.1 rfl (lv_room (Nat.le_of_ble_eq_true rfl)) d_Parser_sees_15 ⟨Nat.le_of_ble_eq_true rfl, Nat.le_of_ble_eq_true rfl⟩)) (fun r2 hr2 => ?_)
    refine lv_iload_n hx hb d_Parser_sees_18 rfl (lv_at hl 1 rfl) ?_
    refine lv_icmp_ne (tgt := 26) hx hb d_Parser_sees_19 (by decide) (fun c3 => ?_) (fun c3 => ?_)
    · refine lv_iconst (v := 0) hx hb d_Parser_sees_26 (by decide) ?_
      refine W.zret (v := 0) hx hb hr (by first | rfl | decide | assumption) (fun t ht hW => ⟨0, rfl, ?_, ht⟩) (fun q h => by cases h) d_Parser_sees_27
      first | (simp [c1, hr2, c3]; done) | (subst_vars; simp_all; done)
    · refine lv_iconst (v := 1) hx hb d_Parser_sees_22 (by decide) ?_
      refine lv_goto (tgt := 27) hx hb d_Parser_sees_23 (by decide) ?_
      refine W.zret (v := 1) hx hb hr (by first | rfl | decide | assumption) (fun t ht hW => ⟨1, rfl, ?_, ht⟩) (fun q h => by cases h) d_Parser_sees_27
      first | (simp [c1, hr2, c3]; done) | (subst_vars; simp_all; done)
set_option maxHeartbeats 1000000 in
set_option maxRecDepth 100000 in
theorem c_Parser_stop (l : Launch) (dC : Nat → ClassId) (dI : Nat → Nat → Nat) (sz : Nat) (h_this : Nat) (h_source : Nat) (h_source_tokenStart : Nat) (h_code : Nat) (fs_this : List Value) (v_this_stopped : Int32) (v_this_at : Int32) (fs_source : List Value) (v_source_tokens : Int32) (v_source_length : Int32) (k_source_tokenStart : ClassId) (f_source_tokenStart : Nat → Int32) (fs_code : List Value) (v_code_faultKind : Int32) (v_code_faultPlace : Int32) (len_this : fs_this.length = 7) (g_this_stopped : fs_this[4]? = some (.int v_this_stopped)) (g_this_at : fs_this[3]? = some (.int v_this_at)) (g_this_source : fs_this[0]? = some (.ref h_source)) (g_this_code : fs_this[2]? = some (.ref h_code)) (len_source : fs_source.length = 16) (g_source_tokens : fs_source[14]? = some (.int v_source_tokens)) (g_source_tokenStart : fs_source[12]? = some (.ref h_source_tokenStart)) (g_source_length : fs_source[10]? = some (.int v_source_length)) (len_code : fs_code.length = 7) (g_code_faultKind : fs_code[5]? = some (.int v_code_faultKind)) (g_code_faultPlace : fs_code[6]? = some (.int v_code_faultPlace)) (ht : v_source_tokens ≤ 4001) : Met l y_Parser_stop w_Parser_stop ({ frames := 1, cells := 0, slots := 0, locals := 22 } : Room) (va_Pc [.ref h_this] (fun U => U.heap.size = sz ∧ va_P (dC, dI) cls_all [oc h_this 6 fs_this, oc h_source 8 fs_source, ic h_source_tokenStart k_source_tokenStart 4001 f_source_tokenStart, oc h_code 0 fs_code] U.heap ∧ va_K (dC, dI) cls_all [(k_source_tokenStart, .int)] U ∧ va_D (fun _ => True) [oc h_this 6 fs_this, oc h_source 8 fs_source, ic h_source_tokenStart k_source_tokenStart 4001 f_source_tokenStart, oc h_code 0 fs_code])) (va_Qv (fun (_ : Unit) => True) (fun _ t => ∃ (fs_this' : List Value) (fs_code' : List Value), (fs_this'.length = 7 ∧ (∀ j : Nat, j ≠ 4 → fs_this'[j]? = fs_this[j]?) ∧ fs_this'[4]? = some (.int (1)) ∧ fs_code'.length = 7 ∧ (∀ j : Nat, j ≠ 5 → j ≠ 6 → fs_code'[j]? = fs_code[j]?) ∧ fs_code'[5]? = some (.int (if v_code_faultKind = 0 then 1 else v_code_faultKind)) ∧ fs_code'[6]? = some (.int (if v_code_faultKind = 0 then (if v_this_at < 0 ∨ v_source_tokens ≤ v_this_at then v_source_length else f_source_tokenStart v_this_at.toNatClampNeg) else v_code_faultPlace))) ∧ va_P (dC, dI) cls_all [oc h_this 6 fs_this', oc h_source 8 fs_source, ic h_source_tokenStart k_source_tokenStart 4001 f_source_tokenStart, oc h_code 0 fs_code'] t.heap ∧ va_K (dC, dI) cls_all [(k_source_tokenStart, .int)] t ∧ va_D (va_A [oc h_this 6 fs_this, oc h_source 8 fs_source, ic h_source_tokenStart k_source_tokenStart 4001 f_source_tokenStart, oc h_code 0 fs_code] sz) [oc h_this 6 fs_this', oc h_source 8 fs_source, ic h_source_tokenStart k_source_tokenStart 4001 f_source_tokenStart, oc h_code 0 fs_code']) (va_A [oc h_this 6 fs_this, oc h_source 8 fs_source, ic h_source_tokenStart k_source_tokenStart 4001 f_source_tokenStart, oc h_code 0 fs_code] sz)) 0 0 (va_A [oc h_this 6 fs_this, oc h_source 8 fs_source, ic h_source_tokenStart k_source_tokenStart 4001 f_source_tokenStart, oc h_code 0 fs_code] sz) := by
  refine Met.ofW (cc := b_Parser_stop) (maxL := 1) (ret := none) (by decide) rfl ?_
  intro p e s m args below meth c s₁ B hml hv
  obtain ⟨rfl, hsz, hP, hK, hD0⟩ := hv
  have hx := B.exec
  have hb := B.bytes
  have hr := B.returns
  have hT : ∀ w ∈ lw_good, w.before _ s = true := fun w h => atoms_spec (ws := w_Parser_stop) B.pre w (List.mem_cons_of_mem _ h)
  have hown : s.vm.findClass R_Parser = some m.cls := findClass_of_methodNamed B.named
  have hlocks := B.notSynchronized
  subst hsz
  have hD := hD0.self (sz := s.heap.size)
  generalize hAe : va_A [oc h_this 6 fs_this, oc h_source 8 fs_source, ic h_source_tokenStart k_source_tokenStart 4001 f_source_tokenStart, oc h_code 0 fs_code] s.heap.size = A at hD ⊢
  have hA : ∀ q : Nat, s.heap.size ≤ q → A q := fun q h => by rw [← hAe]; exact Or.inr h
  have hS : va_S A s.heap s.heap [] := va_S.rf
  have hP : va_P (dC, dI) cls_all [oc h_this 6 fs_this, oc h_source 8 fs_source, ic h_source_tokenStart k_source_tokenStart 4001 f_source_tokenStart, oc h_code 0 fs_code] s.heap := hP
  have hl := lv_entry ([.ref h_this]) (n := 1) (Nat.le_of_ble_eq_true rfl)
  rw [lg_entry_eq]
  generalize (lg_sl ([.ref h_this]) ++ List.replicate (1 - (lg_sl ([.ref h_this])).length) Slot.unset).toArray = ls at hl ⊢
  have hl : lv_has ls 1 [(0, .ref h_this)] := hl
  refine lv_aload_n hx hb d_Parser_stop_0 rfl (lv_at hl 0 rfl) ?_
  refine lv_iconst (v := 1) hx hb d_Parser_stop_1 (by decide) ?_
  refine va_put (D := (dC, dI)) (ci := 6) (v := .int 1) (ty := .boolean) (C := R_Parser) (T := F_Parser) (N := 7) hx hb hT i_Parser t_Parser t_Parser_ok n_Parser hown hK hP hD hS 0 rfl rfl 4 (by decide) (hT _ fl_Parser_27) (fun _ h9 => h9) rfl (by decide +kernel) rfl rfl (by simp only [List.length_set, len_this]; decide) d_Parser_stop_2 (fun H locs hP hD hS => ?_)
  have hP : va_P (dC, dI) cls_all [oc h_this 6 (fs_this.set 4 (.int 1)), oc h_source 8 fs_source, ic h_source_tokenStart k_source_tokenStart 4001 f_source_tokenStart, oc h_code 0 fs_code] H := hP
  have hD : va_D A [oc h_this 6 (fs_this.set 4 (.int 1)), oc h_source 8 fs_source, ic h_source_tokenStart k_source_tokenStart 4001 f_source_tokenStart, oc h_code 0 fs_code] := hD
  refine lv_aload_n hx hb d_Parser_stop_5 rfl (lv_at hl 0 rfl) ?_
  refine va_get (D := (dC, dI)) (ci := 6) (v := .ref h_code) (C := R_Parser) (T := F_Parser) (N := 7) hx hb hT i_Parser hown hK hP 0 rfl rfl 2 (by decide) (hT _ fl_Parser_19) (fun _ h9 => h9) ((ls_ne (by decide)).trans g_this_code) d_Parser_stop_6 ?_
  refine lv_iconst (v := 1) hx hb d_Parser_stop_9 (by decide) ?_
  refine lv_aload_n hx hb d_Parser_stop_10 rfl (lv_at hl 0 rfl) ?_
  refine va_get (D := (dC, dI)) (ci := 6) (v := .ref h_source) (C := R_Parser) (T := F_Parser) (N := 7) hx hb hT i_Parser hown hK hP 0 rfl rfl 0 (by decide) (hT _ fl_Parser_9) (fun _ h9 => h9) ((ls_ne (by decide)).trans g_this_source) d_Parser_stop_11 ?_
  refine lv_aload_n hx hb d_Parser_stop_14 rfl (lv_at hl 0 rfl) ?_
  refine va_get (D := (dC, dI)) (ci := 6) (v := .int v_this_at) (C := R_Parser) (T := F_Parser) (N := 7) hx hb hT i_Parser hown hK hP 0 rfl rfl 3 (by decide) (hT _ fl_Parser_23) (fun _ h9 => h9) ((ls_ne (by decide)).trans g_this_at) d_Parser_stop_15 ?_
  have hPc := hP.sub (ws' := [oc h_source 8 fs_source, ic h_source_tokenStart k_source_tokenStart 4001 f_source_tokenStart]) [1, 2] rfl
  have hKc := hK.sub (tys' := [(k_source_tokenStart, .int)]) [0] rfl
  refine vp_callSi (va_Run.run (va_runV (As := [.int v_this_at]) (rest := [.int 1, .ref h_code]) ⟨hx, hb, hml, hown, hT⟩ (c_Source_startOf l dC dI (h_this := h_source) (h_tokenStart := h_source_tokenStart) (fs_this := fs_source) (v_this_tokens := v_source_tokens) (v_this_length := v_source_length) (k_tokenStart := k_source_tokenStart) (f_tokenStart := f_source_tokenStart) (p1 := v_this_at) (len_this := (by first | exact len_source | (simp only [List.length_set]; exact len_source))) (g_this_tokens := g_source_tokens) (g_this_tokenStart := g_source_tokenStart) (g_this_length := g_source_length) (ht := (by first | assumption | (subst_vars; decide) | omega))) (cwV 1 hT (gV ml_Parser_56 im_Source_startOf se_Source_startOf ini_Source co_Source_startOf) rfl rfl rfl (by decide +kernel) ⟨Nat.le_of_ble_eq_true rfl, Nat.le_of_ble_eq_true rfl⟩) ⟨fbS, va_recv hKc hPc (ci := 8) (q0 := 0) rfl rfl, fun U hU hW => ⟨rfl, by rw [hU]; exact hPc, va_K.moved hW.alike hKc⟩⟩ rfl rfl hl.1 rfl (lv_room (Nat.le_of_ble_eq_true rfl)) d_Parser_stop_18 ⟨Nat.le_of_ble_eq_true rfl, Nat.le_of_ble_eq_true rfl⟩)) (fun r1 hr1 => ?_)
  have hPc := hP.sub (ws' := [oc h_code 0 fs_code]) [3] rfl
  have hKc := hK.sub (tys' := []) [] rfl
  have hDc := hD.sub (ws' := [oc h_code 0 fs_code]) [3] (by decide) rfl
  have hFc := va_free (wc := [oc h_code 0 fs_code]) hD hS hA [3] rfl
  refine va_callv (va_runV (As := [.int 1, .int r1]) (rest := []) ⟨hx, hb, hml, hown, hT⟩ (c_Code_note l dC dI (sz := H.size) (h_this := h_code) (fs_this := fs_code) (v_this_faultKind := v_code_faultKind) (v_this_faultPlace := v_code_faultPlace) (p1 := 1) (p2 := r1) (len_this := (by first | exact len_code | (simp only [List.length_set]; exact len_code))) (g_this_faultKind := g_code_faultKind) (g_this_faultPlace := g_code_faultPlace)) (cwV 2 hT (gV ml_Parser_59 im_Code_note se_Code_note ini_Code co_Code_note) rfl rfl rfl (by decide +kernel) ⟨Nat.le_of_ble_eq_true rfl, Nat.le_of_ble_eq_true rfl⟩) ⟨fbQ, va_recv hKc hPc (ci := 0) (q0 := 0) rfl rfl, fun U hU hW => ⟨rfl, by rw [hU], by rw [hU]; exact hPc, va_K.moved hW.alike hKc, hDc.weaken (fun _ _ _ _ => trivial)⟩⟩ rfl rfl hl.1 rfl (lv_room (Nat.le_of_ble_eq_true rfl)) d_Parser_stop_21 ⟨Nat.le_of_ble_eq_true rfl, Nat.le_of_ble_eq_true rfl⟩) hS (fun q _ h => hFc q h) hFc (fun u t H1 locs ht hvm hw hB hz1 hk1 hS => ?_)
  obtain ⟨fs_this_2, ⟨hw2_0, hw2_1, hw2_2, hw2_3⟩, hP1, hK1, hD1⟩ := hB
  rw [ht] at hP1
  have hK1 := va_K.moved hvm.symm hK1
  obtain ⟨hP, hD⟩ := va_join (wr := [oc h_this 6 (fs_this.set 4 (.int 1)), oc h_source 8 fs_source, ic h_source_tokenStart k_source_tokenStart 4001 f_source_tokenStart]) (w1 := [oc h_code 0 fs_this_2]) hP hD [3] [0, 1, 2] rfl rfl (by decide) (by decide) hk1 hFc hP1 hD1
  generalize H1 = H at hP hS ⊢
  have hP : va_P (dC, dI) cls_all [oc h_this 6 (fs_this.set 4 (.int 1)), oc h_source 8 fs_source, ic h_source_tokenStart k_source_tokenStart 4001 f_source_tokenStart, oc h_code 0 fs_this_2] H := hP
  have hD : va_D A [oc h_this 6 (fs_this.set 4 (.int 1)), oc h_source 8 fs_source, ic h_source_tokenStart k_source_tokenStart 4001 f_source_tokenStart, oc h_code 0 fs_this_2] := hD
  have hP9 := hP.sub (ws' := [oc h_this 6 (fs_this.set 4 (.int 1)), oc h_source 8 fs_source, ic h_source_tokenStart k_source_tokenStart 4001 f_source_tokenStart, oc h_code 0 fs_this_2]) [0, 1, 2, 3] rfl
  have hD9 := hD.sub (ws' := [oc h_this 6 (fs_this.set 4 (.int 1)), oc h_source 8 fs_source, ic h_source_tokenStart k_source_tokenStart 4001 f_source_tokenStart, oc h_code 0 fs_this_2]) [0, 1, 2, 3] (by decide) rfl
  have hK9 := hK.sub (tys' := [(k_source_tokenStart, .int)]) [0] rfl
  have hv3 : (fs_this.set 4 (.int 1))[4]? = some (.int 1) := (ls_eq (by simp only [List.length_set, len_this]; decide))
  have hv4 : fs_this_2[5]? = some (.int (if v_code_faultKind = 0 then (1 : Int32) else v_code_faultKind)) := hw2_2
  have hv5 : fs_this_2[6]? = some (.int (if v_code_faultKind = 0 then r1 else v_code_faultPlace)) := hw2_3
  exact W.vret hx hb hr (fun t ht hW => ⟨⟨(), rfl, trivial, (fs_this.set 4 (.int 1)), fs_this_2, ⟨(by first | exact len_this | (simp only [List.length_set]; exact len_this)), (fun j n4 => ((ls_ne n4).trans rfl)), (by first | exact hv3 | (rw [hv3]; refine congrArg some (congrArg _ ?_); subst_vars; rfl)), (by first | exact hw2_0 | (simp only [List.length_set]; exact hw2_0)), (fun j n5 n6 => ((hw2_1 j n5 n6).trans rfl)), (by first | exact hv4 | (rw [hv4]; refine congrArg some (congrArg _ ?_); subst_vars; rfl)), (by first | exact hv5 | (rw [hv5]; refine congrArg some (congrArg _ ?_); subst_vars; rfl))⟩, by rw [ht]; exact hP9, va_K.moved hW.alike hK9, hD9⟩, hS.F ht⟩) hS.2.2 d_Parser_stop_24
