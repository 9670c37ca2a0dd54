set_option maxHeartbeats 1000000 in
set_option maxRecDepth 100000 in
theorem c_Machine_takeInput_in (l : Launch) (dC : Nat → ClassId) (dI : Nat → Nat → Nat) (sz : Nat) (h_this : Nat) (h_inputs : Nat) (fs_this : List Value) (k_inputs : ClassId) (f_inputs : Nat → Int32) (p1 : Int32) (n : Nat) (len_this : fs_this.length = 18) (g_this_state : fs_this[10]? = some (.int 1)) (g_this_inputCount : fs_this[15]? = some (.int (nI n))) (g_this_inputs : fs_this[14]? = some (.ref h_inputs)) (hn : n < 100) : Met l y_Machine_takeInput w_Machine_takeInput ({ frames := 0, cells := 0, slots := 0, locals := 0 } : Room) (va_Pc [.ref h_this, .int p1] (fun U => U.heap.size = sz ∧ va_P (dC, dI) cls_all [oc h_this 4 fs_this, ic h_inputs k_inputs 100 f_inputs] U.heap ∧ va_K (dC, dI) cls_all [(k_inputs, .int)] U ∧ va_D (fun _ => True) [oc h_this 4 fs_this, ic h_inputs k_inputs 100 f_inputs])) (va_Qi (fun (z r : Int32) => z = r) (fun r t => ∃ (fs_this' : List Value) (f_inputs' : Nat → Int32), (fs_this'.length = 18 ∧ (∀ j : Nat, j ≠ 15 → fs_this'[j]? = fs_this[j]?) ∧ fs_this'[15]? = some (.int (nI (n + 1))) ∧ (f_inputs' = upd f_inputs n p1) ∧ (r = nI (n + 1))) ∧ va_P (dC, dI) cls_all [oc h_this 4 fs_this', ic h_inputs k_inputs 100 f_inputs'] t.heap ∧ va_K (dC, dI) cls_all [(k_inputs, .int)] t ∧ va_D (va_A [oc h_this 4 fs_this, ic h_inputs k_inputs 100 f_inputs] sz) [oc h_this 4 fs_this', ic h_inputs k_inputs 100 f_inputs']) (va_A [oc h_this 4 fs_this, ic h_inputs k_inputs 100 f_inputs] sz)) 0 0 (va_A [oc h_this 4 fs_this, ic h_inputs k_inputs 100 f_inputs] sz) := by
  refine Met.ofW (cc := b_Machine_takeInput) (maxL := 2) (ret := (some .int)) (by decide) rfl ?_
  intro p e s m args below meth c s₁ B hml hv
  obtain ⟨rfl, hsz, hP, hK, hD0⟩ := hv
  have hx := B.exec
  have hb := B.bytes
  have hr := B.returns
  have hT : ∀ w ∈ lw_good, w.before _ s = true := fun w h => atoms_spec (ws := w_Machine_takeInput) B.pre w (List.mem_cons_of_mem _ h)
  have hown : s.vm.findClass R_Machine = some m.cls := findClass_of_methodNamed B.named
  have hlocks := B.notSynchronized
  subst hsz
  have hD := hD0.self (sz := s.heap.size)
  generalize hAe : va_A [oc h_this 4 fs_this, ic h_inputs k_inputs 100 f_inputs] s.heap.size = A at hD ⊢
  have hA : ∀ q : Nat, s.heap.size ≤ q → A q := fun q h => by rw [← hAe]; exact Or.inr h
  have hS : va_S A s.heap s.heap [] := va_S.rf
  have hP : va_P (dC, dI) cls_all [oc h_this 4 fs_this, ic h_inputs k_inputs 100 f_inputs] s.heap := hP
  have hl := lv_entry ([.ref h_this, .int p1]) (n := 2) (Nat.le_of_ble_eq_true rfl)
  rw [lg_entry_eq]
  generalize (lg_sl ([.ref h_this, .int p1]) ++ List.replicate (2 - (lg_sl ([.ref h_this, .int p1])).length) Slot.unset).toArray = ls at hl ⊢
  have hl : lv_has ls 2 [(0, .ref h_this), (1, .int p1)] := hl
  refine lv_aload_n hx hb d_Machine_takeInput_0 rfl (lv_at hl 0 rfl) ?_
  refine va_get (D := (dC, dI)) (ci := 4) (v := .int 1) (C := R_Machine) (T := F_Machine) (N := 18) hx hb hT i_Machine hown hK hP 0 rfl rfl 10 (by decide) (hT _ fl_Machine_44) (fun _ h9 => h9) g_this_state d_Machine_takeInput_1 ?_
  refine lv_iconst (v := 1) hx hb d_Machine_takeInput_4 (by decide) ?_
  refine lv_icmp_ne (tgt := 20) hx hb d_Machine_takeInput_5 (by decide) (fun c1 => absurd c1 (by decide)) (fun _ => ?_)
  refine lv_aload_n hx hb d_Machine_takeInput_8 rfl (lv_at hl 0 rfl) ?_
  refine va_get (D := (dC, dI)) (ci := 4) (v := .int (nI n)) (C := R_Machine) (T := F_Machine) (N := 18) hx hb hT i_Machine hown hK hP 0 rfl rfl 15 (by decide) (hT _ fl_Machine_73) (fun _ h9 => h9) g_this_inputCount d_Machine_takeInput_9 ?_
  refine lv_aload_n hx hb d_Machine_takeInput_12 rfl (lv_at hl 0 rfl) ?_
  refine va_get (D := (dC, dI)) (ci := 4) (v := .ref h_inputs) (C := R_Machine) (T := F_Machine) (N := 18) hx hb hT i_Machine hown hK hP 0 rfl rfl 14 (by decide) (hT _ fl_Machine_30) (fun _ h9 => h9) g_this_inputs d_Machine_takeInput_13 ?_
  refine va_alen (v := 100) hx hb hK hP 1 0 rfl rfl rfl d_Machine_takeInput_16 ?_
  refine lv_icmp_lt (tgt := 22) hx hb d_Machine_takeInput_17 (by decide) (fun c2 => ?_) (fun c2 => absurd (nI_lt (b := 100) hn (by decide)) c2)
  refine lv_aload_n hx hb d_Machine_takeInput_22 rfl (lv_at hl 0 rfl) ?_
  refine va_get (D := (dC, dI)) (ci := 4) (v := .ref h_inputs) (C := R_Machine) (T := F_Machine) (N := 18) hx hb hT i_Machine hown hK hP 0 rfl rfl 14 (by decide) (hT _ fl_Machine_30) (fun _ h9 => h9) g_this_inputs d_Machine_takeInput_23 ?_
  refine lv_aload_n hx hb d_Machine_takeInput_26 rfl (lv_at hl 0 rfl) ?_
  refine va_get (D := (dC, dI)) (ci := 4) (v := .int (nI n)) (C := R_Machine) (T := F_Machine) (N := 18) hx hb hT i_Machine hown hK hP 0 rfl rfl 15 (by decide) (hT _ fl_Machine_73) (fun _ h9 => h9) g_this_inputCount d_Machine_takeInput_27 ?_
  refine lv_iload_n hx hb d_Machine_takeInput_30 rfl (lv_at hl 1 rfl) ?_
  refine va_iast hx hb hK hP hD hS 1 0 rfl rfl (vp_in_nI (by omega) (by decide)) d_Machine_takeInput_31 (fun H locs hP hD hS => ?_)
  have es3 : upd f_inputs (nI n).toNatClampNeg p1 = upd f_inputs n p1 := by rw [nI_clamp (by omega)]
  have hP : va_P (dC, dI) cls_all [oc h_this 4 fs_this, ic h_inputs k_inputs 100 (upd f_inputs (nI n).toNatClampNeg p1)] H := hP
  have hD : va_D A [oc h_this 4 fs_this, ic h_inputs k_inputs 100 (upd f_inputs (nI n).toNatClampNeg p1)] := hD
  rw [es3] at hP hD
  obtain ⟨f3, ef3⟩ : ∃ g, g = upd f_inputs n p1 := ⟨_, rfl⟩
  rw [← ef3] at hP hD
  refine lv_aload_n hx hb d_Machine_takeInput_32 rfl (lv_at hl 0 rfl) ?_
  refine lv_dup hx hb d_Machine_takeInput_33 rfl ?_
  refine va_get (D := (dC, dI)) (ci := 4) (v := .int (nI n)) (C := R_Machine) (T := F_Machine) (N := 18) hx hb hT i_Machine hown hK hP 0 rfl rfl 15 (by decide) (hT _ fl_Machine_73) (fun _ h9 => h9) g_this_inputCount d_Machine_takeInput_34 ?_
  refine lv_iconst (v := 1) hx hb d_Machine_takeInput_37 (by decide) ?_
  refine lv_iadd hx hb d_Machine_takeInput_38 ?_
  refine lv_topi (fun x4 e4 => ?_)
  obtain rfl : x4 = nI (n + 1) := e4.trans (nI_add n 1)
  refine va_put (D := (dC, dI)) (ci := 4) (v := .int (nI (n + 1))) (ty := .int) (C := R_Machine) (T := F_Machine) (N := 18) hx hb hT i_Machine t_Machine t_Machine_ok n_Machine hown hK hP hD hS 0 rfl rfl 15 (by decide) (hT _ fl_Machine_73) (fun _ h9 => h9) rfl (by decide +kernel) rfl rfl (by simp only [List.length_set, len_this]; decide) d_Machine_takeInput_39 (fun H locs hP hD hS => ?_)
  have hP : va_P (dC, dI) cls_all [oc h_this 4 (fs_this.set 15 (.int (nI (n + 1)))), ic h_inputs k_inputs 100 f3] H := hP
  have hD : va_D A [oc h_this 4 (fs_this.set 15 (.int (nI (n + 1)))), ic h_inputs k_inputs 100 f3] := hD
  refine lv_aload_n hx hb d_Machine_takeInput_42 rfl (lv_at hl 0 rfl) ?_
  refine va_get (D := (dC, dI)) (ci := 4) (v := .int (nI (n + 1))) (C := R_Machine) (T := F_Machine) (N := 18) hx hb hT i_Machine hown hK hP 0 rfl rfl 15 (by decide) (hT _ fl_Machine_73) (fun _ h9 => h9) (ls_eq (by simp only [List.length_set, len_this]; decide)) d_Machine_takeInput_43 ?_
  have hP9 := hP.sub (ws' := [oc h_this 4 (fs_this.set 15 (.int (nI (n + 1)))), ic h_inputs k_inputs 100 f3]) [0, 1] rfl
  have hD9 := hD.sub (ws' := [oc h_this 4 (fs_this.set 15 (.int (nI (n + 1)))), ic h_inputs k_inputs 100 f3]) [0, 1] (by decide) rfl
  have hK9 := hK.sub (tys' := [(k_inputs, .int)]) [0] rfl
  have hv5 : (fs_this.set 15 (.int (nI (n + 1))))[15]? = some (.int (nI (n + 1))) := (ls_eq (by simp only [List.length_set, len_this]; decide))
  exact W.iret (v := (nI (n + 1))) hx hb hr (fun t ht hW => ⟨⟨(nI (n + 1)), (nI (n + 1)), rfl, rfl, (fs_this.set 15 (.int (nI (n + 1)))), f3, ⟨(by first | exact len_this | (simp only [List.length_set]; exact len_this)), (fun j n15 => ((ls_ne n15).trans rfl)), (by first | exact hv5 | (rw [hv5]; refine congrArg some (congrArg _ ?_); subst_vars; rfl)), (by subst_vars; rfl), (by subst_vars; rfl)⟩, by rw [ht]; exact hP9, va_K.moved hW.alike hK9, hD9⟩, hS.F ht⟩) hS.2.2 d_Machine_takeInput_46
set_option maxHeartbeats 1000000 in
set_option maxRecDepth 100000 in
theorem c_Machine_takeInput_no (l : Launch) (dC : Nat → ClassId) (dI : Nat → Nat → Nat)  (h_this : Nat) (h_inputs : Nat) (fs_this : List Value) (v_this_state : Int32) (v_this_inputCount : Int32) (k_inputs : ClassId) (f_inputs : Nat → Int32) (p1 : Int32) (len_this : fs_this.length = 18) (g_this_state : fs_this[10]? = some (.int v_this_state)) (g_this_inputCount : fs_this[15]? = some (.int v_this_inputCount)) (g_this_inputs : fs_this[14]? = some (.ref h_inputs)) (hno : ¬ v_this_state = 1 ∨ 100 ≤ v_this_inputCount) : Met l y_Machine_takeInput w_Machine_takeInput ({ frames := 0, cells := 0, slots := 0, locals := 0 } : Room) (va_Pc [.ref h_this, .int p1] (fun U => va_P (dC, dI) cls_all [oc h_this 4 fs_this, ic h_inputs k_inputs 100 f_inputs] U.heap ∧ va_K (dC, dI) cls_all [(k_inputs, .int)] U)) (vp_Si (fun r : Int32 => (r = -1))) 0 0 (fun _ => False) := by
  refine Met.ofW (cc := b_Machine_takeInput) (maxL := 2) (ret := (some .int)) (by decide) rfl ?_
  intro p e s m args below meth c s₁ B hml hv
  obtain ⟨rfl, hP, hK⟩ := hv
  have hx := B.exec
  have hb := B.bytes
  have hr := B.returns
  have hT : ∀ w ∈ lw_good, w.before _ s = true := fun w h => atoms_spec (ws := w_Machine_takeInput) B.pre w (List.mem_cons_of_mem _ h)
  have hown : s.vm.findClass R_Machine = some m.cls := findClass_of_methodNamed B.named
  have hlocks := B.notSynchronized
  have hl := lv_entry ([.ref h_this, .int p1]) (n := 2) (Nat.le_of_ble_eq_true rfl)
  rw [lg_entry_eq]
  generalize (lg_sl ([.ref h_this, .int p1]) ++ List.replicate (2 - (lg_sl ([.ref h_this, .int p1])).length) Slot.unset).toArray = ls at hl ⊢
  have hl : lv_has ls 2 [(0, .ref h_this), (1, .int p1)] := hl
  refine lv_aload_n hx hb d_Machine_takeInput_0 rfl (lv_at hl 0 rfl) ?_
  refine va_get (D := (dC, dI)) (ci := 4) (v := .int v_this_state) (C := R_Machine) (T := F_Machine) (N := 18) hx hb hT i_Machine hown hK hP 0 rfl rfl 10 (by decide) (hT _ fl_Machine_44) (fun _ h9 => h9) g_this_state d_Machine_takeInput_1 ?_
  refine lv_iconst (v := 1) hx hb d_Machine_takeInput_4 (by decide) ?_
  refine lv_icmp_ne (tgt := 20) hx hb d_Machine_takeInput_5 (by decide) (fun c1 => ?_) (fun c1 => ?_)
  · refine lv_iconst (v := (-1)) hx hb d_Machine_takeInput_20 (by decide) ?_
    refine W.iret (v := (-1)) hx hb hr (fun t ht hW => ⟨(-1), rfl, ?_, ht⟩) (fun q h => by cases h) d_Machine_takeInput_21
    rfl
  · refine lv_aload_n hx hb d_Machine_takeInput_8 rfl (lv_at hl 0 rfl) ?_
    refine va_get (D := (dC, dI)) (ci := 4) (v := .int v_this_inputCount) (C := R_Machine) (T := F_Machine) (N := 18) hx hb hT i_Machine hown hK hP 0 rfl rfl 15 (by decide) (hT _ fl_Machine_73) (fun _ h9 => h9) g_this_inputCount d_Machine_takeInput_9 ?_
    refine lv_aload_n hx hb d_Machine_takeInput_12 rfl (lv_at hl 0 rfl) ?_
    refine va_get (D := (dC, dI)) (ci := 4) (v := .ref h_inputs) (C := R_Machine) (T := F_Machine) (N := 18) hx hb hT i_Machine hown hK hP 0 rfl rfl 14 (by decide) (hT _ fl_Machine_30) (fun _ h9 => h9) g_this_inputs d_Machine_takeInput_13 ?_
    refine va_alen (v := 100) hx hb hK hP 1 0 rfl rfl rfl d_Machine_takeInput_16 ?_
    refine lv_icmp_lt (tgt := 22) hx hb d_Machine_takeInput_17 (by decide) (fun c2 => ?_) (fun c2 => ?_)
    · exfalso; simp only [i_lt, i_le, i_eq, Int32.reduceToInt] at hno c1 c2; omega
    · refine lv_iconst (v := (-1)) hx hb d_Machine_takeInput_20 (by decide) ?_
      refine W.iret (v := (-1)) hx hb hr (fun t ht hW => ⟨(-1), rfl, ?_, ht⟩) (fun q h => by cases h) d_Machine_takeInput_21
      rfl
set_option maxHeartbeats 1000000 in
set_option maxRecDepth 100000 in
theorem c_House_input_in (l : Launch) (dC : Nat → ClassId) (dI : Nat → Nat → Nat) (sz : Nat) (h_this : Nat) (h_machine : Nat) (h_machine_inputs : Nat) (fs_this : List Value) (fs_machine : List Value) (k_machine_inputs : ClassId) (f_machine_inputs : Nat → Int32) (p1 : Int32) (n : Nat) (len_this : fs_this.length = 11) (g_this_machine : fs_this[10]? = some (.ref h_machine)) (len_machine : fs_machine.length = 18) (g_machine_state : fs_machine[10]? = some (.int 1)) (g_machine_inputCount : fs_machine[15]? = some (.int (nI n))) (g_machine_inputs : fs_machine[14]? = some (.ref h_machine_inputs)) (hn : n < 100) : Met l y_House_input w_House_input ({ frames := 1, cells := 0, slots := 0, locals := 21 } : Room) (va_Pc [.ref h_this, .int p1] (fun U => U.heap.size = sz ∧ va_P (dC, dI) cls_all [oc h_this 11 fs_this, oc h_machine 4 fs_machine, ic h_machine_inputs k_machine_inputs 100 f_machine_inputs] U.heap ∧ va_K (dC, dI) cls_all [(k_machine_inputs, .int)] U ∧ va_D (fun _ => True) [oc h_this 11 fs_this, oc h_machine 4 fs_machine, ic h_machine_inputs k_machine_inputs 100 f_machine_inputs])) (va_Qi (fun (z r : Int32) => z = r) (fun r t => ∃ (fs_machine' : List Value) (f_machine_inputs' : Nat → Int32), (fs_machine'.length = 18 ∧ (∀ j : Nat, j ≠ 15 → fs_machine'[j]? = fs_machine[j]?) ∧ fs_machine'[15]? = some (.int (nI (n + 1))) ∧ (f_machine_inputs' = upd f_machine_inputs n p1) ∧ (r = nI (n + 1))) ∧ va_P (dC, dI) cls_all [oc h_this 11 fs_this, oc h_machine 4 fs_machine', ic h_machine_inputs k_machine_inputs 100 f_machine_inputs'] t.heap ∧ va_K (dC, dI) cls_all [(k_machine_inputs, .int)] t ∧ va_D (va_A [oc h_this 11 fs_this, oc h_machine 4 fs_machine, ic h_machine_inputs k_machine_inputs 100 f_machine_inputs] sz) [oc h_this 11 fs_this, oc h_machine 4 fs_machine', ic h_machine_inputs k_machine_inputs 100 f_machine_inputs']) (va_A [oc h_this 11 fs_this, oc h_machine 4 fs_machine, ic h_machine_inputs k_machine_inputs 100 f_machine_inputs] sz)) 0 0 (va_A [oc h_this 11 fs_this, oc h_machine 4 fs_machine, ic h_machine_inputs k_machine_inputs 100 f_machine_inputs] sz) := by
  refine Met.ofW (cc := b_House_input) (maxL := 2) (ret := (some .int)) (by decide) rfl ?_
  intro p e s m args below meth c s₁ B hml hv
  obtain ⟨rfl, hsz, hP, hK, hD0⟩ := hv
  have hx := B.exec
  have hb := B.bytes
  have hr := B.returns
  have hT : ∀ w ∈ lw_good, w.before _ s = true := fun w h => atoms_spec (ws := w_House_input) B.pre w (List.mem_cons_of_mem _ h)
  have hown : s.vm.findClass R_House = some m.cls := findClass_of_methodNamed B.named
  have hlocks := B.notSynchronized
  subst hsz
  have hD := hD0.self (sz := s.heap.size)
  generalize hAe : va_A [oc h_this 11 fs_this, oc h_machine 4 fs_machine, ic h_machine_inputs k_machine_inputs 100 f_machine_inputs] s.heap.size = A at hD ⊢
  have hA : ∀ q : Nat, s.heap.size ≤ q → A q := fun q h => by rw [← hAe]; exact Or.inr h
  have hS : va_S A s.heap s.heap [] := va_S.rf
  have hP : va_P (dC, dI) cls_all [oc h_this 11 fs_this, oc h_machine 4 fs_machine, ic h_machine_inputs k_machine_inputs 100 f_machine_inputs] s.heap := hP
  have hl := lv_entry ([.ref h_this, .int p1]) (n := 2) (Nat.le_of_ble_eq_true rfl)
  rw [lg_entry_eq]
  generalize (lg_sl ([.ref h_this, .int p1]) ++ List.replicate (2 - (lg_sl ([.ref h_this, .int p1])).length) Slot.unset).toArray = ls at hl ⊢
  have hl : lv_has ls 2 [(0, .ref h_this), (1, .int p1)] := hl
  refine lv_aload_n hx hb d_House_input_0 rfl (lv_at hl 0 rfl) ?_
  refine va_get (D := (dC, dI)) (ci := 11) (v := .ref h_machine) (C := R_House) (T := F_House) (N := 11) hx hb hT i_House hown hK hP 0 rfl rfl 10 (by decide) (hT _ fl_House_79) (fun _ h9 => h9) g_this_machine d_House_input_1 ?_
  refine lv_iload_n hx hb d_House_input_4 rfl (lv_at hl 1 rfl) ?_
  have hPc := hP.sub (ws' := [oc h_machine 4 fs_machine, ic h_machine_inputs k_machine_inputs 100 f_machine_inputs]) [1, 2] rfl
  have hKc := hK.sub (tys' := [(k_machine_inputs, .int)]) [0] rfl
  have hDc := hD.sub (ws' := [oc h_machine 4 fs_machine, ic h_machine_inputs k_machine_inputs 100 f_machine_inputs]) [1, 2] (by decide) rfl
  have hFc := va_free (wc := [oc h_machine 4 fs_machine, ic h_machine_inputs k_machine_inputs 100 f_machine_inputs]) hD hS hA [1, 2] rfl
  refine va_calli (va_runV (As := [.int p1]) (rest := []) ⟨hx, hb, hml, hown, hT⟩ (c_Machine_takeInput_in l dC dI (sz := s.heap.size) (h_this := h_machine) (h_inputs := h_machine_inputs) (fs_this := fs_machine) (k_inputs := k_machine_inputs) (f_inputs := f_machine_inputs) (p1 := p1) (n := n) (len_this := (by first | exact len_machine | (simp only [List.length_set]; exact len_machine))) (g_this_state := g_machine_state) (g_this_inputCount := g_machine_inputCount) (g_this_inputs := g_machine_inputs) (hn := hn)) (cwV 1 hT (gV ml_House_138 im_Machine_takeInput se_Machine_takeInput ini_Machine co_Machine_takeInput) rfl rfl rfl (by decide +kernel) ⟨Nat.le_of_ble_eq_true rfl, Nat.le_of_ble_eq_true rfl⟩) ⟨fbQ, va_recv hKc hPc (ci := 4) (q0 := 0) rfl rfl, fun U hU hW => ⟨rfl, by rw [hU], by rw [hU]; exact hPc, va_K.moved hW.alike hKc, hDc.weaken (fun _ _ _ _ => trivial)⟩⟩ rfl rfl hl.1 rfl (lv_room (Nat.le_of_ble_eq_true rfl)) d_House_input_5 ⟨Nat.le_of_ble_eq_true rfl, Nat.le_of_ble_eq_true rfl⟩) hS (fun q _ h => hFc q h) hFc (fun r1 u t H1 locs ht hvm hw hB hz1 hk1 hS => ?_)
  subst hw
  obtain ⟨fs_this_1, f_inputs_1, ⟨hw1_0, hw1_1, hw1_2, hw1_3, hw1_4⟩, hP1, hK1, hD1⟩ := hB
  rw [ht] at hP1
  have hK1 := va_K.moved hvm.symm hK1
  obtain ⟨hP, hD⟩ := va_join (wr := [oc h_this 11 fs_this]) (w1 := [oc h_machine 4 fs_this_1, ic h_machine_inputs k_machine_inputs 100 f_inputs_1]) hP hD [1, 2] [0] rfl rfl (by decide) (by decide) hk1 hFc hP1 hD1
  generalize H1 = H at hP hS ⊢
  have hP : va_P (dC, dI) cls_all [oc h_this 11 fs_this, oc h_machine 4 fs_this_1, ic h_machine_inputs k_machine_inputs 100 f_inputs_1] H := hP
  have hD : va_D A [oc h_this 11 fs_this, oc h_machine 4 fs_this_1, ic h_machine_inputs k_machine_inputs 100 f_inputs_1] := hD
  have hP9 := hP.sub (ws' := [oc h_this 11 fs_this, oc h_machine 4 fs_this_1, ic h_machine_inputs k_machine_inputs 100 f_inputs_1]) [0, 1, 2] rfl
  have hD9 := hD.sub (ws' := [oc h_this 11 fs_this, oc h_machine 4 fs_this_1, ic h_machine_inputs k_machine_inputs 100 f_inputs_1]) [0, 1, 2] (by decide) rfl
  have hK9 := hK.sub (tys' := [(k_machine_inputs, .int)]) [0] rfl
  have hv2 : fs_this_1[15]? = some (.int (nI (n + 1))) := hw1_2
  exact W.iret (v := r1) hx hb hr (fun t ht hW => ⟨⟨r1, r1, rfl, rfl, fs_this_1, f_inputs_1, ⟨(by first | exact hw1_0 | (simp only [List.length_set]; exact hw1_0)), (fun j n15 => ((hw1_1 j n15).trans rfl)), (by first | exact hv2 | (rw [hv2]; refine congrArg some (congrArg _ ?_); subst_vars; first | rfl | assumption)), (by first | assumption | (subst_vars; rfl)), (by subst_vars; first | rfl | assumption)⟩, by rw [ht]; exact hP9, va_K.moved hW.alike hK9, hD9⟩, hS.F ht⟩) hS.2.2 d_House_input_8
set_option maxHeartbeats 1000000 in
set_option maxRecDepth 100000 in
theorem c_House_input_no (l : Launch) (dC : Nat → ClassId) (dI : Nat → Nat → Nat)  (h_this : Nat) (h_machine : Nat) (h_machine_inputs : Nat) (fs_this : List Value) (fs_machine : List Value) (v_machine_state : Int32) (v_machine_inputCount : Int32) (k_machine_inputs : ClassId) (f_machine_inputs : Nat → Int32) (p1 : Int32) (len_this : fs_this.length = 11) (g_this_machine : fs_this[10]? = some (.ref h_machine)) (len_machine : fs_machine.length = 18) (g_machine_state : fs_machine[10]? = some (.int v_machine_state)) (g_machine_inputCount : fs_machine[15]? = some (.int v_machine_inputCount)) (g_machine_inputs : fs_machine[14]? = some (.ref h_machine_inputs)) (hno : ¬ v_machine_state = 1 ∨ 100 ≤ v_machine_inputCount) : Met l y_House_input w_House_input ({ frames := 1, cells := 0, slots := 0, locals := 21 } : Room) (va_Pc [.ref h_this, .int p1] (fun U => va_P (dC, dI) cls_all [oc h_this 11 fs_this, oc h_machine 4 fs_machine, ic h_machine_inputs k_machine_inputs 100 f_machine_inputs] U.heap ∧ va_K (dC, dI) cls_all [(k_machine_inputs, .int)] U)) (vp_Si (fun r : Int32 => (r = -1))) 0 0 (fun _ => False) := by
  refine Met.ofW (cc := b_House_input) (maxL := 2) (ret := (some .int)) (by decide) rfl ?_
  intro p e s m args below meth c s₁ B hml hv
  obtain ⟨rfl, hP, hK⟩ := hv
  have hx := B.exec
  have hb := B.bytes
  have hr := B.returns
  have hT : ∀ w ∈ lw_good, w.before _ s = true := fun w h => atoms_spec (ws := w_House_input) B.pre w (List.mem_cons_of_mem _ h)
  have hown : s.vm.findClass R_House = some m.cls := findClass_of_methodNamed B.named
  have hlocks := B.notSynchronized
  have hl := lv_entry ([.ref h_this, .int p1]) (n := 2) (Nat.le_of_ble_eq_true rfl)
  rw [lg_entry_eq]
  generalize (lg_sl ([.ref h_this, .int p1]) ++ List.replicate (2 - (lg_sl ([.ref h_this, .int p1])).length) Slot.unset).toArray = ls at hl ⊢
  have hl : lv_has ls 2 [(0, .ref h_this), (1, .int p1)] := hl
  refine lv_aload_n hx hb d_House_input_0 rfl (lv_at hl 0 rfl) ?_
  refine va_get (D := (dC, dI)) (ci := 11) (v := .ref h_machine) (C := R_House) (T := F_House) (N := 11) hx hb hT i_House hown hK hP 0 rfl rfl 10 (by decide) (hT _ fl_House_79) (fun _ h9 => h9) g_this_machine d_House_input_1 ?_
  refine lv_iload_n hx hb d_House_input_4 rfl (lv_at hl 1 rfl) ?_
  have hPc := hP.sub (ws' := [oc h_machine 4 fs_machine, ic h_machine_inputs k_machine_inputs 100 f_machine_inputs]) [1, 2] rfl
  have hKc := hK.sub (tys' := [(k_machine_inputs, .int)]) [0] rfl
  refine vp_callSi (va_Run.run (va_runV (As := [.int p1]) (rest := []) ⟨hx, hb, hml, hown, hT⟩ (c_Machine_takeInput_no l dC dI (h_this := h_machine) (h_inputs := h_machine_inputs) (fs_this := fs_machine) (v_this_state := v_machine_state) (v_this_inputCount := v_machine_inputCount) (k_inputs := k_machine_inputs) (f_inputs := f_machine_inputs) (p1 := p1) (len_this := (by first | exact len_machine | (simp only [List.length_set]; exact len_machine))) (g_this_state := g_machine_state) (g_this_inputCount := g_machine_inputCount) (g_this_inputs := g_machine_inputs) (hno := hno)) (cwV 1 hT (gV ml_House_138 im_Machine_takeInput se_Machine_takeInput ini_Machine co_Machine_takeInput) rfl rfl rfl (by decide +kernel) ⟨Nat.le_of_ble_eq_true rfl, Nat.le_of_ble_eq_true rfl⟩) ⟨fbS, va_recv hKc hPc (ci := 4) (q0 := 0) rfl rfl, fun U hU hW => ⟨rfl, by rw [hU]; exact hPc, va_K.moved hW.alike hKc⟩⟩ rfl rfl hl.1 rfl (lv_room (Nat.le_of_ble_eq_true rfl)) d_House_input_5 ⟨Nat.le_of_ble_eq_true rfl, Nat.le_of_ble_eq_true rfl⟩)) (fun r1 hr1 => ?_)
  refine W.iret (v := r1) hx hb hr (fun t ht hW => ⟨r1, rfl, ?_, ht⟩) (fun q h => by cases h) d_House_input_8
  assumption
set_option maxHeartbeats 1000000 in
set_option maxRecDepth 100000 in
theorem c_Model_input_in (l : Launch) (dC : Nat → ClassId) (dI : Nat → Nat → Nat) (sz : Nat) (h_this : Nat) (h_inputs : Nat) (fs_this : List Value) (k_inputs : ClassId) (f_inputs : Nat → Int32) (p1 : Int32) (n : Nat) (len_this : fs_this.length = 153) (g_this_state : fs_this[100]? = some (.int 1)) (g_this_waiting : fs_this[150]? = some (.int (nI n))) (g_this_inputs : fs_this[151]? = some (.ref h_inputs)) (hn : n < 100) : Met l y_Model_input_I w_Model_input_I ({ frames := 0, cells := 0, slots := 0, locals := 0 } : Room) (va_Pc [.ref h_this, .int p1] (fun U => U.heap.size = sz ∧ va_P (dC, dI) cls_all [oc h_this 12 fs_this, ic h_inputs k_inputs 100 f_inputs] U.heap ∧ va_K (dC, dI) cls_all [(k_inputs, .int)] U ∧ va_D (fun _ => True) [oc h_this 12 fs_this, ic h_inputs k_inputs 100 f_inputs])) (va_Qi (fun (z r : Int32) => z = r) (fun r t => ∃ (fs_this' : List Value) (f_inputs' : Nat → Int32), (fs_this'.length = 153 ∧ (∀ j : Nat, j ≠ 150 → fs_this'[j]? = fs_this[j]?) ∧ fs_this'[150]? = some (.int (nI (n + 1))) ∧ (f_inputs' = upd f_inputs n p1) ∧ (r = nI (n + 1))) ∧ va_P (dC, dI) cls_all [oc h_this 12 fs_this', ic h_inputs k_inputs 100 f_inputs'] t.heap ∧ va_K (dC, dI) cls_all [(k_inputs, .int)] t ∧ va_D (va_A [oc h_this 12 fs_this, ic h_inputs k_inputs 100 f_inputs] sz) [oc h_this 12 fs_this', ic h_inputs k_inputs 100 f_inputs']) (va_A [oc h_this 12 fs_this, ic h_inputs k_inputs 100 f_inputs] sz)) 0 0 (va_A [oc h_this 12 fs_this, ic h_inputs k_inputs 100 f_inputs] sz) := by
  refine Met.ofW (cc := b_Model_input_I) (maxL := 2) (ret := (some .int)) (by decide) rfl ?_
  intro p e s m args below meth c s₁ B hml hv
  obtain ⟨rfl, hsz, hP, hK, hD0⟩ := hv
  have hx := B.exec
  have hb := B.bytes
  have hr := B.returns
  have hT : ∀ w ∈ lw_good, w.before _ s = true := fun w h => atoms_spec (ws := w_Model_input_I) B.pre w (List.mem_cons_of_mem _ h)
  have hown : s.vm.findClass R_Model = some m.cls := findClass_of_methodNamed B.named
  have hlocks := B.notSynchronized
  subst hsz
  have hD := hD0.self (sz := s.heap.size)
  generalize hAe : va_A [oc h_this 12 fs_this, ic h_inputs k_inputs 100 f_inputs] s.heap.size = A at hD ⊢
  have hA : ∀ q : Nat, s.heap.size ≤ q → A q := fun q h => by rw [← hAe]; exact Or.inr h
  have hS : va_S A s.heap s.heap [] := va_S.rf
  have hP : va_P (dC, dI) cls_all [oc h_this 12 fs_this, ic h_inputs k_inputs 100 f_inputs] s.heap := hP
  have hl := lv_entry ([.ref h_this, .int p1]) (n := 2) (Nat.le_of_ble_eq_true rfl)
  rw [lg_entry_eq]
  generalize (lg_sl ([.ref h_this, .int p1]) ++ List.replicate (2 - (lg_sl ([.ref h_this, .int p1])).length) Slot.unset).toArray = ls at hl ⊢
  have hl : lv_has ls 2 [(0, .ref h_this), (1, .int p1)] := hl
  refine lv_aload_n hx hb d_Model_input_I_0 rfl (lv_at hl 0 rfl) ?_
  refine va_get (D := (dC, dI)) (ci := 12) (v := .int 1) (C := R_Model) (T := F_Model) (N := 153) hx hb hT i_Model hown hK hP 0 rfl rfl 100 (by decide) (hT _ fl_Model_802) (fun _ h9 => h9) g_this_state d_Model_input_I_1 ?_
  refine lv_iconst (v := 1) hx hb d_Model_input_I_4 (by decide) ?_
  refine lv_icmp_ne (tgt := 17) hx hb d_Model_input_I_5 (by decide) (fun c1 => absurd c1 (by decide)) (fun _ => ?_)
  refine lv_aload_n hx hb d_Model_input_I_8 rfl (lv_at hl 0 rfl) ?_
  refine va_get (D := (dC, dI)) (ci := 12) (v := .int (nI n)) (C := R_Model) (T := F_Model) (N := 153) hx hb hT i_Model hown hK hP 0 rfl rfl 150 (by decide) (hT _ fl_Model_829) (fun _ h9 => h9) g_this_waiting d_Model_input_I_9 ?_
  refine lv_bipush (v := 100) hx hb d_Model_input_I_12 (by decide) ?_
  refine lv_icmp_ne (tgt := 19) hx hb d_Model_input_I_14 (by decide) (fun c2 => ?_) (fun c2 => absurd c2 (fun q => absurd ((nI_eq (b := 100) (by omega) (by decide)).mp q) (by omega)))
  refine lv_aload_n hx hb d_Model_input_I_19 rfl (lv_at hl 0 rfl) ?_
  refine va_get (D := (dC, dI)) (ci := 12) (v := .ref h_inputs) (C := R_Model) (T := F_Model) (N := 153) hx hb hT i_Model hown hK hP 0 rfl rfl 151 (by decide) (hT _ fl_Model_307) (fun _ h9 => h9) g_this_inputs d_Model_input_I_20 ?_
  refine lv_aload_n hx hb d_Model_input_I_23 rfl (lv_at hl 0 rfl) ?_
  refine va_get (D := (dC, dI)) (ci := 12) (v := .int (nI n)) (C := R_Model) (T := F_Model) (N := 153) hx hb hT i_Model hown hK hP 0 rfl rfl 150 (by decide) (hT _ fl_Model_829) (fun _ h9 => h9) g_this_waiting d_Model_input_I_24 ?_
  refine lv_iload_n hx hb d_Model_input_I_27 rfl (lv_at hl 1 rfl) ?_
  refine va_iast hx hb hK hP hD hS 1 0 rfl rfl (vp_in_nI (by omega) (by decide)) d_Model_input_I_28 (fun H locs hP hD hS => ?_)
  have es3 : upd f_inputs (nI n).toNatClampNeg p1 = upd f_inputs n p1 := by rw [nI_clamp (by omega)]
  have hP : va_P (dC, dI) cls_all [oc h_this 12 fs_this, ic h_inputs k_inputs 100 (upd f_inputs (nI n).toNatClampNeg p1)] H := hP
  have hD : va_D A [oc h_this 12 fs_this, ic h_inputs k_inputs 100 (upd f_inputs (nI n).toNatClampNeg p1)] := hD
  rw [es3] at hP hD
  obtain ⟨f3, ef3⟩ : ∃ g, g = upd f_inputs n p1 := ⟨_, rfl⟩
  rw [← ef3] at hP hD
  refine lv_aload_n hx hb d_Model_input_I_29 rfl (lv_at hl 0 rfl) ?_
  refine lv_dup hx hb d_Model_input_I_30 rfl ?_
  refine va_get (D := (dC, dI)) (ci := 12) (v := .int (nI n)) (C := R_Model) (T := F_Model) (N := 153) hx hb hT i_Model hown hK hP 0 rfl rfl 150 (by decide) (hT _ fl_Model_829) (fun _ h9 => h9) g_this_waiting d_Model_input_I_31 ?_
  refine lv_iconst (v := 1) hx hb d_Model_input_I_34 (by decide) ?_
  refine lv_iadd hx hb d_Model_input_I_35 ?_
  refine lv_topi (fun x4 e4 => ?_)
  obtain rfl : x4 = nI (n + 1) := e4.trans (nI_add n 1)
  refine va_put (D := (dC, dI)) (ci := 12) (v := .int (nI (n + 1))) (ty := .int) (C := R_Model) (T := F_Model) (N := 153) hx hb hT i_Model t_Model t_Model_ok n_Model hown hK hP hD hS 0 rfl rfl 150 (by decide) (hT _ fl_Model_829) (fun _ h9 => h9) rfl (by decide +kernel) rfl rfl (by simp only [List.length_set, len_this]; decide) d_Model_input_I_36 (fun H locs hP hD hS => ?_)
  have hP : va_P (dC, dI) cls_all [oc h_this 12 (fs_this.set 150 (.int (nI (n + 1)))), ic h_inputs k_inputs 100 f3] H := hP
  have hD : va_D A [oc h_this 12 (fs_this.set 150 (.int (nI (n + 1)))), ic h_inputs k_inputs 100 f3] := hD
  refine lv_aload_n hx hb d_Model_input_I_39 rfl (lv_at hl 0 rfl) ?_
  refine va_get (D := (dC, dI)) (ci := 12) (v := .int (nI (n + 1))) (C := R_Model) (T := F_Model) (N := 153) hx hb hT i_Model hown hK hP 0 rfl rfl 150 (by decide) (hT _ fl_Model_829) (fun _ h9 => h9) (ls_eq (by simp only [List.length_set, len_this]; decide)) d_Model_input_I_40 ?_
  have hP9 := hP.sub (ws' := [oc h_this 12 (fs_this.set 150 (.int (nI (n + 1)))), ic h_inputs k_inputs 100 f3]) [0, 1] rfl
  have hD9 := hD.sub (ws' := [oc h_this 12 (fs_this.set 150 (.int (nI (n + 1)))), ic h_inputs k_inputs 100 f3]) [0, 1] (by decide) rfl
  have hK9 := hK.sub (tys' := [(k_inputs, .int)]) [0] rfl
  have hv5 : (fs_this.set 150 (.int (nI (n + 1))))[150]? = some (.int (nI (n + 1))) := (ls_eq (by simp only [List.length_set, len_this]; decide))
  exact W.iret (v := (nI (n + 1))) hx hb hr (fun t ht hW => ⟨⟨(nI (n + 1)), (nI (n + 1)), rfl, rfl, (fs_this.set 150 (.int (nI (n + 1)))), f3, ⟨(by first | exact len_this | (simp only [List.length_set]; exact len_this)), (fun j n150 => ((ls_ne n150).trans rfl)), (by first | exact hv5 | (rw [hv5]; refine congrArg some (congrArg _ ?_); subst_vars; rfl)), (by subst_vars; rfl), (by subst_vars; rfl)⟩, by rw [ht]; exact hP9, va_K.moved hW.alike hK9, hD9⟩, hS.F ht⟩) hS.2.2 d_Model_input_I_43
set_option maxHeartbeats 1000000 in
set_option maxRecDepth 100000 in
theorem c_Model_input_no (l : Launch) (dC : Nat → ClassId) (dI : Nat → Nat → Nat)  (h_this : Nat) (fs_this : List Value) (v_this_state : Int32) (v_this_waiting : Int32) (p1 : Int32) (len_this : fs_this.length = 153) (g_this_state : fs_this[100]? = some (.int v_this_state)) (g_this_waiting : fs_this[150]? = some (.int v_this_waiting)) (hno : ¬ v_this_state = 1 ∨ v_this_waiting = 100) : Met l y_Model_input_I w_Model_input_I ({ frames := 0, cells := 0, slots := 0, locals := 0 } : Room) (va_Pc [.ref h_this, .int p1] (fun U => va_P (dC, dI) cls_all [oc h_this 12 fs_this] U.heap ∧ va_K (dC, dI) cls_all [] U)) (vp_Si (fun r : Int32 => (r = -1))) 0 0 (fun _ => False) := by
  refine Met.ofW (cc := b_Model_input_I) (maxL := 2) (ret := (some .int)) (by decide) rfl ?_
  intro p e s m args below meth c s₁ B hml hv
  obtain ⟨rfl, hP, hK⟩ := hv
  have hx := B.exec
  have hb := B.bytes
  have hr := B.returns
  have hT : ∀ w ∈ lw_good, w.before _ s = true := fun w h => atoms_spec (ws := w_Model_input_I) B.pre w (List.mem_cons_of_mem _ h)
  have hown : s.vm.findClass R_Model = some m.cls := findClass_of_methodNamed B.named
  have hlocks := B.notSynchronized
  have hl := lv_entry ([.ref h_this, .int p1]) (n := 2) (Nat.le_of_ble_eq_true rfl)
  rw [lg_entry_eq]
  generalize (lg_sl ([.ref h_this, .int p1]) ++ List.replicate (2 - (lg_sl ([.ref h_this, .int p1])).length) Slot.unset).toArray = ls at hl ⊢
  have hl : lv_has ls 2 [(0, .ref h_this), (1, .int p1)] := hl
  refine lv_aload_n hx hb d_Model_input_I_0 rfl (lv_at hl 0 rfl) ?_
  refine va_get (D := (dC, dI)) (ci := 12) (v := .int v_this_state) (C := R_Model) (T := F_Model) (N := 153) hx hb hT i_Model hown hK hP 0 rfl rfl 100 (by decide) (hT _ fl_Model_802) (fun _ h9 => h9) g_this_state d_Model_input_I_1 ?_
  refine lv_iconst (v := 1) hx hb d_Model_input_I_4 (by decide) ?_
  refine lv_icmp_ne (tgt := 17) hx hb d_Model_input_I_5 (by decide) (fun c1 => ?_) (fun c1 => ?_)
  · refine lv_iconst (v := (-1)) hx hb d_Model_input_I_17 (by decide) ?_
    refine W.iret (v := (-1)) hx hb hr (fun t ht hW => ⟨(-1), rfl, ?_, ht⟩) (fun q h => by cases h) d_Model_input_I_18
    rfl
  · refine lv_aload_n hx hb d_Model_input_I_8 rfl (lv_at hl 0 rfl) ?_
    refine va_get (D := (dC, dI)) (ci := 12) (v := .int v_this_waiting) (C := R_Model) (T := F_Model) (N := 153) hx hb hT i_Model hown hK hP 0 rfl rfl 150 (by decide) (hT _ fl_Model_829) (fun _ h9 => h9) g_this_waiting d_Model_input_I_9 ?_
    refine lv_bipush (v := 100) hx hb d_Model_input_I_12 (by decide) ?_
    refine lv_icmp_ne (tgt := 19) hx hb d_Model_input_I_14 (by decide) (fun c2 => ?_) (fun c2 => ?_)
    · exfalso; simp only [i_lt, i_le, i_eq, Int32.reduceToInt] at hno c1 c2; omega
    · refine lv_iconst (v := (-1)) hx hb d_Model_input_I_17 (by decide) ?_
      refine W.iret (v := (-1)) hx hb hr (fun t ht hW => ⟨(-1), rfl, ?_, ht⟩) (fun q h => by cases h) d_Model_input_I_18
      rfl
set_option maxHeartbeats 1000000 in
set_option maxRecDepth 100000 in
theorem c_Machine_frame (l : Launch) (dC : Nat → ClassId) (dI : Nat → Nat → Nat)  (h_this : Nat) (h_frames : Nat) (fs_this : List Value) (v_this_calls : Int32) (k_frames : ClassId) (f_frames : Nat → Int32) (p1 : Int32) (len_this : fs_this.length = 18) (g_this_calls : fs_this[6]? = some (.int v_this_calls)) (g_this_frames : fs_this[5]? = some (.ref h_frames)) : Met l y_Machine_frame w_Machine_frame ({ frames := 0, cells := 0, slots := 0, locals := 0 } : Room) (va_Pc [.ref h_this, .int p1] (fun U => va_P (dC, dI) cls_all [oc h_this 4 fs_this, ic h_frames k_frames 697 f_frames] U.heap ∧ va_K (dC, dI) cls_all [(k_frames, .int)] U)) (vp_Si (fun r : Int32 => (r = if v_this_calls * 17 + p1 < 0 ∨ 697 ≤ v_this_calls * 17 + p1 then 0 else f_frames (v_this_calls * 17 + p1).toNatClampNeg))) 0 0 (fun _ => False) := by
  refine Met.ofW (cc := b_Machine_frame) (maxL := 3) (ret := (some .int)) (by decide) rfl ?_
  intro p e s m args below meth c s₁ B hml hv
  obtain ⟨rfl, hP, hK⟩ := hv
  have hx := B.exec
  have hb := B.bytes
  have hr := B.returns
  have hT : ∀ w ∈ lw_good, w.before _ s = true := fun w h => atoms_spec (ws := w_Machine_frame) B.pre w (List.mem_cons_of_mem _ h)
  have hown : s.vm.findClass R_Machine = some m.cls := findClass_of_methodNamed B.named
  have hlocks := B.notSynchronized
  have hl := lv_entry ([.ref h_this, .int p1]) (n := 3) (Nat.le_of_ble_eq_true rfl)
  rw [lg_entry_eq]
  generalize (lg_sl ([.ref h_this, .int p1]) ++ List.replicate (3 - (lg_sl ([.ref h_this, .int p1])).length) Slot.unset).toArray = ls at hl ⊢
  have hl : lv_has ls 3 [(0, .ref h_this), (1, .int p1)] := hl
  refine lv_aload_n hx hb d_Machine_frame_0 rfl (lv_at hl 0 rfl) ?_
  refine va_get (D := (dC, dI)) (ci := 4) (v := .int v_this_calls) (C := R_Machine) (T := F_Machine) (N := 18) hx hb hT i_Machine hown hK hP 0 rfl rfl 6 (by decide) (hT _ fl_Machine_55) (fun _ h9 => h9) g_this_calls d_Machine_frame_1 ?_
  refine lv_bipush (v := 17) hx hb d_Machine_frame_4 (by decide) ?_
  refine lv_imul hx hb d_Machine_frame_6 ?_
  refine lv_topi (fun x1 e1 => ?_)
  refine lv_iload_n hx hb d_Machine_frame_7 rfl (lv_at hl 1 rfl) ?_
  refine lv_iadd hx hb d_Machine_frame_8 ?_
  refine lv_topi (fun x2 e2 => ?_)
  refine lv_istore_n (lv' := [(2, .int x2), (0, .ref h_this), (1, .int p1)]) hx hb d_Machine_frame_9 rfl hl (by decide) rfl (fun ls hl => ?_)
  refine lv_iload_n hx hb d_Machine_frame_10 rfl (lv_at hl 0 rfl) ?_
  refine lv_if_lt (tgt := 23) hx hb d_Machine_frame_11 (by decide) (fun c3 => ?_) (fun c3 => ?_)
  · refine lv_iconst (v := 0) hx hb d_Machine_frame_23 (by decide) ?_
    refine lv_goto (tgt := 33) hx hb d_Machine_frame_24 (by decide) ?_
    refine W.iret (v := 0) hx hb hr (fun t ht hW => ⟨0, rfl, ?_, ht⟩) (fun q h => by cases h) d_Machine_frame_33
    subst_vars; first | (simp [c3]; done) | ((repeat' split) <;> first | rfl | (simp_all; done) | (exfalso; simp only [i_lt, i_le, i_eq, Int32.reduceToInt] at *; omega) | (subst_vars; simp_all; done))
  · refine lv_iload_n hx hb d_Machine_frame_14 rfl (lv_at hl 0 rfl) ?_
    refine lv_aload_n hx hb d_Machine_frame_15 rfl (lv_at hl 1 rfl) ?_
    refine va_get (D := (dC, dI)) (ci := 4) (v := .ref h_frames) (C := R_Machine) (T := F_Machine) (N := 18) hx hb hT i_Machine hown hK hP 0 rfl rfl 5 (by decide) (hT _ fl_Machine_24) (fun _ h9 => h9) g_this_frames d_Machine_frame_16 ?_
    refine va_alen (v := 697) hx hb hK hP 1 0 rfl rfl rfl d_Machine_frame_19 ?_
    refine lv_icmp_lt (tgt := 27) hx hb d_Machine_frame_20 (by decide) (fun c4 => ?_) (fun c4 => ?_)
    · refine lv_aload_n hx hb d_Machine_frame_27 rfl (lv_at hl 1 rfl) ?_
      refine va_get (D := (dC, dI)) (ci := 4) (v := .ref h_frames) (C := R_Machine) (T := F_Machine) (N := 18) hx hb hT i_Machine hown hK hP 0 rfl rfl 5 (by decide) (hT _ fl_Machine_24) (fun _ h9 => h9) g_this_frames d_Machine_frame_28 ?_
      refine lv_iload_n hx hb d_Machine_frame_31 rfl (lv_at hl 0 rfl) ?_
      refine va_iald hx hb hK hP 1 0 rfl rfl (by first | exact has_in (by assumption) (by assumption) (by assumption) | (refine vp_in_iff.mpr ?_; simp only [i_lt, i_le, i_eq, Int32.reduceToInt] at *; omega)) d_Machine_frame_32 ?_
      refine lv_topi (fun x5 e5 => ?_)
      refine W.iret (v := x5) hx hb hr (fun t ht hW => ⟨x5, rfl, ?_, ht⟩) (fun q h => by cases h) d_Machine_frame_33
      subst_vars; first | (simp [c3, c4]; done) | ((repeat' split) <;> first | rfl | (simp_all; done) | (exfalso; simp only [i_lt, i_le, i_eq, Int32.reduceToInt] at *; omega) | (subst_vars; simp_all; done))
    · refine lv_iconst (v := 0) hx hb d_Machine_frame_23 (by decide) ?_
      refine lv_goto (tgt := 33) hx hb d_Machine_frame_24 (by decide) ?_
      refine W.iret (v := 0) hx hb hr (fun t ht hW => ⟨0, rfl, ?_, ht⟩) (fun q h => by cases h) d_Machine_frame_33
      subst_vars; first | (simp [c3, c4]; done) | ((repeat' split) <;> first | rfl | (simp_all; done) | (exfalso; simp only [i_lt, i_le, i_eq, Int32.reduceToInt] at *; omega) | (subst_vars; simp_all; done))
set_option maxHeartbeats 1000000 in
set_option maxRecDepth 100000 in
theorem c_Machine_placeOfStep (l : Launch) (dC : Nat → ClassId) (dI : Nat → Nat → Nat)  (h_this : Nat) (h_code : Nat) (h_code_first : Nat) (h_frames : Nat) (fs_this : List Value) (v_this_state : Int32) (v_this_pc : Int32) (v_this_calls : Int32) (fs_code : List Value) (v_code_count : Int32) (k_code_first : ClassId) (f_code_first : Nat → Int32) (k_frames : ClassId) (f_frames : Nat → Int32) (len_this : fs_this.length = 18) (g_this_state : fs_this[10]? = some (.int v_this_state)) (g_this_code : fs_this[0]? = some (.ref h_code)) (g_this_pc : fs_this[9]? = some (.int v_this_pc)) (g_this_calls : fs_this[6]? = some (.int v_this_calls)) (g_this_frames : fs_this[5]? = some (.ref h_frames)) (len_code : fs_code.length = 7) (g_code_count : fs_code[3]? = some (.int v_code_count)) (g_code_first : fs_code[1]? = some (.ref h_code_first)) (hc : v_code_count ≤ 6032) : Met l y_Machine_placeOfStep w_Machine_placeOfStep ({ frames := 2, cells := 0, slots := 0, locals := 42 } : Room) (va_Pc [.ref h_this] (fun U => va_P (dC, dI) cls_all [oc h_this 4 fs_this, oc h_code 0 fs_code, ic h_code_first k_code_first 6032 f_code_first, ic h_frames k_frames 697 f_frames] U.heap ∧ va_K (dC, dI) cls_all [(k_code_first, .int), (k_frames, .int)] U)) (vp_Si (fun r : Int32 => (r = if v_this_state = 1 then (if 0 ≤ v_this_pc ∧ v_this_pc < v_code_count then f_code_first v_this_pc.toNatClampNeg else 0) else if v_this_state = 0 ∨ v_this_state = 2 then -1 else if v_this_calls * 17 + 2 < 0 ∨ 697 ≤ v_this_calls * 17 + 2 then 0 else f_frames (v_this_calls * 17 + 2).toNatClampNeg))) 0 0 (fun _ => False) := by
  refine Met.ofW (cc := b_Machine_placeOfStep) (maxL := 1) (ret := (some .int)) (by decide) rfl ?_
  intro p e s m args below meth c s₁ B hml hv
  obtain ⟨rfl, hP, hK⟩ := hv
  have hx := B.exec
  have hb := B.bytes
  have hr := B.returns
  have hT : ∀ w ∈ lw_good, w.before _ s = true := fun w h => atoms_spec (ws := w_Machine_placeOfStep) B.pre w (List.mem_cons_of_mem _ h)
  have hown : s.vm.findClass R_Machine = some m.cls := findClass_of_methodNamed B.named
  have hlocks := B.notSynchronized
  have hl := lv_entry ([.ref h_this]) (n := 1) (Nat.le_of_ble_eq_true rfl)
  rw [lg_entry_eq]
  generalize (lg_sl ([.ref h_this]) ++ List.replicate (1 - (lg_sl ([.ref h_this])).length) Slot.unset).toArray = ls at hl ⊢
  have hl : lv_has ls 1 [(0, .ref h_this)] := hl
  refine lv_aload_n hx hb d_Machine_placeOfStep_0 rfl (lv_at hl 0 rfl) ?_
  refine va_get (D := (dC, dI)) (ci := 4) (v := .int v_this_state) (C := R_Machine) (T := F_Machine) (N := 18) hx hb hT i_Machine hown hK hP 0 rfl rfl 10 (by decide) (hT _ fl_Machine_44) (fun _ h9 => h9) g_this_state d_Machine_placeOfStep_1 ?_
  refine lv_iconst (v := 1) hx hb d_Machine_placeOfStep_4 (by decide) ?_
  refine lv_icmp_ne (tgt := 20) hx hb d_Machine_placeOfStep_5 (by decide) (fun c1 => ?_) (fun c1 => ?_)
  · refine lv_aload_n hx hb d_Machine_placeOfStep_20 rfl (lv_at hl 0 rfl) ?_
    refine va_get (D := (dC, dI)) (ci := 4) (v := .int v_this_state) (C := R_Machine) (T := F_Machine) (N := 18) hx hb hT i_Machine hown hK hP 0 rfl rfl 10 (by decide) (hT _ fl_Machine_44) (fun _ h9 => h9) g_this_state d_Machine_placeOfStep_21 ?_
    refine lv_if_eq (tgt := 35) hx hb d_Machine_placeOfStep_24 (by decide) (fun c2 => ?_) (fun c2 => ?_)
    · refine lv_iconst (v := (-1)) hx hb d_Machine_placeOfStep_35 (by decide) ?_
      refine lv_goto (tgt := 44) hx hb d_Machine_placeOfStep_36 (by decide) ?_
      refine W.iret (v := (-1)) hx hb hr (fun t ht hW => ⟨(-1), rfl, ?_, ht⟩) (fun q h => by cases h) d_Machine_placeOfStep_44
      first | (simp [c1, c2]; done) | ((repeat' split) <;> first | rfl | (simp_all; done) | (exfalso; simp only [i_lt, i_le, i_eq, Int32.reduceToInt] at *; omega) | (subst_vars; simp_all; done))
    · refine lv_aload_n hx hb d_Machine_placeOfStep_27 rfl (lv_at hl 0 rfl) ?_
      refine va_get (D := (dC, dI)) (ci := 4) (v := .int v_this_state) (C := R_Machine) (T := F_Machine) (N := 18) hx hb hT i_Machine hown hK hP 0 rfl rfl 10 (by decide) (hT _ fl_Machine_44) (fun _ h9 => h9) g_this_state d_Machine_placeOfStep_28 ?_
      refine lv_iconst (v := 2) hx hb d_Machine_placeOfStep_31 (by decide) ?_
      refine lv_icmp_ne (tgt := 39) hx hb d_Machine_placeOfStep_32 (by decide) (fun c3 => ?_) (fun c3 => ?_)
      · refine lv_aload_n hx hb d_Machine_placeOfStep_39 rfl (lv_at hl 0 rfl) ?_
        refine lv_iconst (v := 2) hx hb d_Machine_placeOfStep_40 (by decide) ?_
        have hPc := hP.sub (ws' := [oc h_this 4 fs_this, ic h_frames k_frames 697 f_frames]) [0, 3] rfl
        have hKc := hK.sub (tys' := [(k_frames, .int)]) [1] rfl
        refine vp_callSi (va_Run.run (va_runV (As := [.int 2]) (rest := []) ⟨hx, hb, hml, hown, hT⟩ (c_Machine_frame l dC dI (h_this := h_this) (h_frames := h_frames) (fs_this := fs_this) (v_this_calls := v_this_calls) (k_frames := k_frames) (f_frames := f_frames) (p1 := 2) (len_this := (by first | exact len_this | (simp only [List.length_set]; exact len_this))) (g_this_calls := g_this_calls) (g_this_frames := g_this_frames)) (cwV 1 hT (gV ml_Machine_136 im_Machine_frame se_Machine_frame ini_Machine co_Machine_frame) rfl rfl rfl (by decide +kernel) ⟨Nat.le_of_ble_eq_true rfl, Nat.le_of_ble_eq_true rfl⟩) ⟨fbS, va_recv hKc hPc (ci := 4) (q0 := 0) rfl rfl, fun U hU hW => ⟨rfl, by rw [hU]; exact hPc, va_K.moved hW.alike hKc⟩⟩ rfl rfl hl.1 rfl (lv_room (Nat.le_of_ble_eq_true rfl)) d_Machine_placeOfStep_41 ⟨Nat.le_of_ble_eq_true rfl, Nat.le_of_ble_eq_true rfl⟩)) (fun r4 hr4 => ?_)
        refine W.iret (v := r4) hx hb hr (fun t ht hW => ⟨r4, rfl, ?_, ht⟩) (fun q h => by cases h) d_Machine_placeOfStep_44
        first | (simp [c1, c2, c3, hr4]; done) | ((repeat' split) <;> first | rfl | (simp_all; done) | (exfalso; simp only [i_lt, i_le, i_eq, Int32.reduceToInt] at *; omega) | (subst_vars; simp_all; done))
      · refine lv_iconst (v := (-1)) hx hb d_Machine_placeOfStep_35 (by decide) ?_
        refine lv_goto (tgt := 44) hx hb d_Machine_placeOfStep_36 (by decide) ?_
        refine W.iret (v := (-1)) hx hb hr (fun t ht hW => ⟨(-1), rfl, ?_, ht⟩) (fun q h => by cases h) d_Machine_placeOfStep_44
        first | (simp [c1, c2, c3]; done) | ((repeat' split) <;> first | rfl | (simp_all; done) | (exfalso; simp only [i_lt, i_le, i_eq, Int32.reduceToInt] at *; omega) | (subst_vars; simp_all; done))
  · refine lv_aload_n hx hb d_Machine_placeOfStep_8 rfl (lv_at hl 0 rfl) ?_
    refine va_get (D := (dC, dI)) (ci := 4) (v := .ref h_code) (C := R_Machine) (T := F_Machine) (N := 18) hx hb hT i_Machine hown hK hP 0 rfl rfl 0 (by decide) (hT _ fl_Machine_36) (fun _ h9 => h9) g_this_code d_Machine_placeOfStep_9 ?_
    refine lv_aload_n hx hb d_Machine_placeOfStep_12 rfl (lv_at hl 0 rfl) ?_
    refine va_get (D := (dC, dI)) (ci := 4) (v := .int v_this_pc) (C := R_Machine) (T := F_Machine) (N := 18) hx hb hT i_Machine hown hK hP 0 rfl rfl 9 (by decide) (hT _ fl_Machine_61) (fun _ h9 => h9) g_this_pc d_Machine_placeOfStep_13 ?_
    have hPc := hP.sub (ws' := [oc h_code 0 fs_code, ic h_code_first k_code_first 6032 f_code_first]) [1, 2] rfl
    have hKc := hK.sub (tys' := [(k_code_first, .int)]) [0] rfl
    refine vp_callSi (va_Run.run (va_runV (As := [.int v_this_pc]) (rest := []) ⟨hx, hb, hml, hown, hT⟩ (c_Code_firstAt l dC dI (h_this := h_code) (h_first := h_code_first) (fs_this := fs_code) (v_this_count := v_code_count) (k_first := k_code_first) (f_first := f_code_first) (p1 := v_this_pc) (len_this := (by first | exact len_code | (simp only [List.length_set]; exact len_code))) (g_this_count := g_code_count) (g_this_first := g_code_first) (hc := (by first | assumption | (subst_vars; decide) | omega))) (cwV 1 hT (gV ml_Machine_97 im_Code_firstAt se_Code_firstAt ini_Code co_Code_firstAt) rfl rfl rfl (by decide +kernel) ⟨Nat.le_of_ble_eq_true rfl, Nat.le_of_ble_eq_true rfl⟩) ⟨fbS, va_recv hKc hPc (ci := 0) (q0 := 0) rfl rfl, fun U hU hW => ⟨rfl, by rw [hU]; exact hPc, va_K.moved hW.alike hKc⟩⟩ rfl rfl hl.1 rfl (lv_room (Nat.le_of_ble_eq_true rfl)) d_Machine_placeOfStep_16 ⟨Nat.le_of_ble_eq_true rfl, Nat.le_of_ble_eq_true rfl⟩)) (fun r5 hr5 => ?_)
    refine W.iret (v := r5) hx hb hr (fun t ht hW => ⟨r5, rfl, ?_, ht⟩) (fun q h => by cases h) d_Machine_placeOfStep_19
    first | (simp [c1, hr5]; done) | ((repeat' split) <;> first | rfl | (simp_all; done) | (exfalso; simp only [i_lt, i_le, i_eq, Int32.reduceToInt] at *; omega) | (subst_vars; simp_all; done))
set_option maxHeartbeats 1000000 in
set_option maxRecDepth 100000 in
theorem c_House_state (l : Launch) (dC : Nat → ClassId) (dI : Nat → Nat → Nat)  (h_this : Nat) (h_machine : Nat) (h_machine_code : Nat) (h_machine_code_first : Nat) (h_machine_frames : Nat) (fs_this : List Value) (fs_machine : List Value) (v_machine_state : Int32) (v_machine_error : Int32) (v_machine_pc : Int32) (v_machine_calls : Int32) (fs_machine_code : List Value) (v_machine_code_count : Int32) (k_machine_code_first : ClassId) (f_machine_code_first : Nat → Int32) (k_machine_frames : ClassId) (f_machine_frames : Nat → Int32) (p1 : Int32) (len_this : fs_this.length = 11) (g_this_machine : fs_this[10]? = some (.ref h_machine)) (len_machine : fs_machine.length = 18) (g_machine_state : fs_machine[10]? = some (.int v_machine_state)) (g_machine_error : fs_machine[11]? = some (.int v_machine_error)) (g_machine_code : fs_machine[0]? = some (.ref h_machine_code)) (g_machine_pc : fs_machine[9]? = some (.int v_machine_pc)) (g_machine_calls : fs_machine[6]? = some (.int v_machine_calls)) (g_machine_frames : fs_machine[5]? = some (.ref h_machine_frames)) (len_machine_code : fs_machine_code.length = 7) (g_machine_code_count : fs_machine_code[3]? = some (.int v_machine_code_count)) (g_machine_code_first : fs_machine_code[1]? = some (.ref h_machine_code_first)) (hc : v_machine_code_count ≤ 6032) : Met l y_House_state w_House_state ({ frames := 3, cells := 0, slots := 0, locals := 62 } : Room) (va_Pc [.ref h_this, .int p1] (fun U => va_P (dC, dI) cls_all [oc h_this 11 fs_this, oc h_machine 4 fs_machine, oc h_machine_code 0 fs_machine_code, ic h_machine_code_first k_machine_code_first 6032 f_machine_code_first, ic h_machine_frames k_machine_frames 697 f_machine_frames] U.heap ∧ va_K (dC, dI) cls_all [(k_machine_code_first, .int), (k_machine_frames, .int)] U)) (vp_Si (fun r : Int32 => (r = if p1 = 0 then v_machine_state else if p1 = 1 then (if v_machine_state = 3 then v_machine_error else 0) else if p1 = 2 then (if v_machine_state = 1 then (if 0 ≤ v_machine_pc ∧ v_machine_pc < v_machine_code_count then f_machine_code_first v_machine_pc.toNatClampNeg else 0) else if v_machine_state = 0 ∨ v_machine_state = 2 then -1 else if v_machine_calls * 17 + 2 < 0 ∨ 697 ≤ v_machine_calls * 17 + 2 then 0 else f_machine_frames (v_machine_calls * 17 + 2).toNatClampNeg) else -1))) 0 0 (fun _ => False) := by
  refine Met.ofW (cc := b_House_state) (maxL := 2) (ret := (some .int)) (by decide) rfl ?_
  intro p e s m args below meth c s₁ B hml hv
  obtain ⟨rfl, hP, hK⟩ := hv
  have hx := B.exec
  have hb := B.bytes
  have hr := B.returns
  have hT : ∀ w ∈ lw_good, w.before _ s = true := fun w h => atoms_spec (ws := w_House_state) B.pre w (List.mem_cons_of_mem _ h)
  have hown : s.vm.findClass R_House = some m.cls := findClass_of_methodNamed B.named
  have hlocks := B.notSynchronized
  have hl := lv_entry ([.ref h_this, .int p1]) (n := 2) (Nat.le_of_ble_eq_true rfl)
  rw [lg_entry_eq]
  generalize (lg_sl ([.ref h_this, .int p1]) ++ List.replicate (2 - (lg_sl ([.ref h_this, .int p1])).length) Slot.unset).toArray = ls at hl ⊢
  have hl : lv_has ls 2 [(0, .ref h_this), (1, .int p1)] := hl
  refine lv_iload_n hx hb d_House_state_0 rfl (lv_at hl 1 rfl) ?_
  by_cases c1 : p1 = 0
  · have h11 : ¬ (p1 : Int32).toInt < 0 := by rw [c1]; decide
    have h21 : ¬ 2 < (p1 : Int32).toInt := by rw [c1]; decide
    refine lv_tableIn (off := 27) (tgt := 28) hx hb d_House_state_1 h11 h21 (by rw [c1]; decide) (by decide) ?_
    refine lv_aload_n hx hb d_House_state_28 rfl (lv_at hl 0 rfl) ?_
    refine va_get (D := (dC, dI)) (ci := 11) (v := .ref h_machine) (C := R_House) (T := F_House) (N := 11) hx hb hT i_House hown hK hP 0 rfl rfl 10 (by decide) (hT _ fl_House_79) (fun _ h9 => h9) g_this_machine d_House_state_29 ?_
    refine va_get (D := (dC, dI)) (ci := 4) (v := .int v_machine_state) (C := R_Machine) (T := F_Machine) (N := 18) hx hb hT i_Machine hown hK hP 1 rfl rfl 10 (by decide) (hT _ fl_House_142) (fun _ h9 => h9) g_machine_state d_House_state_32 ?_
    refine W.iret (v := v_machine_state) hx hb hr (fun t ht hW => ⟨v_machine_state, rfl, ?_, ht⟩) (fun q h => by cases h) d_House_state_35
    first | (simp [c1]; done) | ((repeat' split) <;> first | rfl | (simp_all; done) | (exfalso; simp only [i_lt, i_le, i_eq, Int32.reduceToInt] at *; omega) | (subst_vars; simp_all; done))
  by_cases c2 : p1 = 1
  · have h12 : ¬ (p1 : Int32).toInt < 0 := by rw [c2]; decide
    have h22 : ¬ 2 < (p1 : Int32).toInt := by rw [c2]; decide
    refine lv_tableIn (off := 35) (tgt := 36) hx hb d_House_state_1 h12 h22 (by rw [c2]; decide) (by decide) ?_
    refine lv_aload_n hx hb d_House_state_36 rfl (lv_at hl 0 rfl) ?_
    refine va_get (D := (dC, dI)) (ci := 11) (v := .ref h_machine) (C := R_House) (T := F_House) (N := 11) hx hb hT i_House hown hK hP 0 rfl rfl 10 (by decide) (hT _ fl_House_79) (fun _ h9 => h9) g_this_machine d_House_state_37 ?_
    refine va_get (D := (dC, dI)) (ci := 4) (v := .int v_machine_state) (C := R_Machine) (T := F_Machine) (N := 18) hx hb hT i_Machine hown hK hP 1 rfl rfl 10 (by decide) (hT _ fl_House_142) (fun _ h9 => h9) g_machine_state d_House_state_40 ?_
    refine lv_iconst (v := 3) hx hb d_House_state_43 (by decide) ?_
    refine lv_icmp_ne (tgt := 57) hx hb d_House_state_44 (by decide) (fun c3 => ?_) (fun c3 => ?_)
    · refine lv_iconst (v := 0) hx hb d_House_state_57 (by decide) ?_
      refine W.iret (v := 0) hx hb hr (fun t ht hW => ⟨0, rfl, ?_, ht⟩) (fun q h => by cases h) d_House_state_58
      first | (simp [c1, c2, c3]; done) | ((repeat' split) <;> first | rfl | (simp_all; done) | (exfalso; simp only [i_lt, i_le, i_eq, Int32.reduceToInt] at *; omega) | (subst_vars; simp_all; done))
    · refine lv_aload_n hx hb d_House_state_47 rfl (lv_at hl 0 rfl) ?_
      refine va_get (D := (dC, dI)) (ci := 11) (v := .ref h_machine) (C := R_House) (T := F_House) (N := 11) hx hb hT i_House hown hK hP 0 rfl rfl 10 (by decide) (hT _ fl_House_79) (fun _ h9 => h9) g_this_machine d_House_state_48 ?_
      refine va_get (D := (dC, dI)) (ci := 4) (v := .int v_machine_error) (C := R_Machine) (T := F_Machine) (N := 18) hx hb hT i_Machine hown hK hP 1 rfl rfl 11 (by decide) (hT _ fl_House_148) (fun _ h9 => h9) g_machine_error d_House_state_51 ?_
      refine lv_goto (tgt := 58) hx hb d_House_state_54 (by decide) ?_
      refine W.iret (v := v_machine_error) hx hb hr (fun t ht hW => ⟨v_machine_error, rfl, ?_, ht⟩) (fun q h => by cases h) d_House_state_58
      first | (simp [c1, c2, c3]; done) | ((repeat' split) <;> first | rfl | (simp_all; done) | (exfalso; simp only [i_lt, i_le, i_eq, Int32.reduceToInt] at *; omega) | (subst_vars; simp_all; done))
  by_cases c4 : p1 = 2
  · have h14 : ¬ (p1 : Int32).toInt < 0 := by rw [c4]; decide
    have h24 : ¬ 2 < (p1 : Int32).toInt := by rw [c4]; decide
    refine lv_tableIn (off := 58) (tgt := 59) hx hb d_House_state_1 h14 h24 (by rw [c4]; decide) (by decide) ?_
    refine lv_aload_n hx hb d_House_state_59 rfl (lv_at hl 0 rfl) ?_
    refine va_get (D := (dC, dI)) (ci := 11) (v := .ref h_machine) (C := R_House) (T := F_House) (N := 11) hx hb hT i_House hown hK hP 0 rfl rfl 10 (by decide) (hT _ fl_House_79) (fun _ h9 => h9) g_this_machine d_House_state_60 ?_
    have hPc := hP.sub (ws' := [oc h_machine 4 fs_machine, oc h_machine_code 0 fs_machine_code, ic h_machine_code_first k_machine_code_first 6032 f_machine_code_first, ic h_machine_frames k_machine_frames 697 f_machine_frames]) [1, 2, 3, 4] rfl
    have hKc := hK.sub (tys' := [(k_machine_code_first, .int), (k_machine_frames, .int)]) [0, 1] rfl
    refine vp_callSi (va_Run.run (va_runV (As := []) (rest := []) ⟨hx, hb, hml, hown, hT⟩ (c_Machine_placeOfStep l dC dI (h_this := h_machine) (h_code := h_machine_code) (h_code_first := h_machine_code_first) (h_frames := h_machine_frames) (fs_this := fs_machine) (v_this_state := v_machine_state) (v_this_pc := v_machine_pc) (v_this_calls := v_machine_calls) (fs_code := fs_machine_code) (v_code_count := v_machine_code_count) (k_code_first := k_machine_code_first) (f_code_first := f_machine_code_first) (k_frames := k_machine_frames) (f_frames := f_machine_frames) (len_this := (by first | exact len_machine | (simp only [List.length_set]; exact len_machine))) (g_this_state := g_machine_state) (g_this_code := g_machine_code) (g_this_pc := g_machine_pc) (g_this_calls := g_machine_calls) (g_this_frames := g_machine_frames) (len_code := (by first | exact len_machine_code | (simp only [List.length_set]; exact len_machine_code))) (g_code_count := g_machine_code_count) (g_code_first := g_machine_code_first) (hc := (by first | assumption | (subst_vars; decide) | omega))) (cwV 0 hT (gV ml_House_151 im_Machine_placeOfStep se_Machine_placeOfStep ini_Machine co_Machine_placeOfStep) rfl rfl rfl (by decide +kernel) ⟨Nat.le_of_ble_eq_true rfl, Nat.le_of_ble_eq_true rfl⟩) ⟨fbS, va_recv hKc hPc (ci := 4) (q0 := 0) rfl rfl, fun U hU hW => ⟨rfl, by rw [hU]; exact hPc, va_K.moved hW.alike hKc⟩⟩ rfl rfl hl.1 rfl (lv_room (Nat.le_of_ble_eq_true rfl)) d_House_state_63 ⟨Nat.le_of_ble_eq_true rfl, Nat.le_of_ble_eq_true rfl⟩)) (fun r5 hr5 => ?_)
    refine W.iret (v := r5) hx hb hr (fun t ht hW => ⟨r5, rfl, ?_, ht⟩) (fun q h => by cases h) d_House_state_66
    first | (simp [c1, c2, c4, hr5]; done) | ((repeat' split) <;> first | rfl | (simp_all; done) | (exfalso; simp only [i_lt, i_le, i_eq, Int32.reduceToInt] at *; omega) | (subst_vars; simp_all; done))
  have h36 : (p1 : Int32).toInt < 0 ∨ 2 < (p1 : Int32).toInt := by
    simp only [i_eq, Int32.reduceToInt] at c1 c2 c4; omega
  refine lv_tableOut (tgt := 67) hx hb d_House_state_1 h36 (by decide) ?_
  refine lv_iconst (v := (-1)) hx hb d_House_state_67 (by decide) ?_
  refine W.iret (v := (-1)) hx hb hr (fun t ht hW => ⟨(-1), rfl, ?_, ht⟩) (fun q h => by cases h) d_House_state_68
  first | (simp [c1, c2, c4]; done) | ((repeat' split) <;> first | rfl | (simp_all; done) | (exfalso; simp only [i_lt, i_le, i_eq, Int32.reduceToInt] at *; omega) | (subst_vars; simp_all; done))
set_option maxHeartbeats 1000000 in
set_option maxRecDepth 100000 in
theorem c_Model_state (l : Launch) (dC : Nat → ClassId) (dI : Nat → Nat → Nat)  (h_this : Nat) (h_first : Nat) (h_stepPlace : Nat) (fs_this : List Value) (v_this_state : Int32) (v_this_errorNumber : Int32) (v_this_counter : Int32) (v_this_depth : Int32) (k_first : ClassId) (f_first : Nat → Int32) (k_stepPlace : ClassId) (f_stepPlace : Nat → Int32) (p1 : Int32) (len_this : fs_this.length = 153) (g_this_state : fs_this[100]? = some (.int v_this_state)) (g_this_errorNumber : fs_this[108]? = some (.int v_this_errorNumber)) (g_this_counter : fs_this[102]? = some (.int v_this_counter)) (g_this_depth : fs_this[103]? = some (.int v_this_depth)) (g_this_first : fs_this[97]? = some (.ref h_first)) (g_this_stepPlace : fs_this[115]? = some (.ref h_stepPlace)) (hc1 : v_this_state = 1 → vp_in v_this_counter 12000) (hc2 : ¬ v_this_state = 0 → ¬ v_this_state = 1 → ¬ v_this_state = 2 → vp_in (v_this_depth - 1) 41) : Met l y_Model_state w_Model_state ({ frames := 0, cells := 0, slots := 0, locals := 0 } : Room) (va_Pc [.ref h_this, .int p1] (fun U => va_P (dC, dI) cls_all [oc h_this 12 fs_this, ic h_first k_first 12000 f_first, ic h_stepPlace k_stepPlace 41 f_stepPlace] U.heap ∧ va_K (dC, dI) cls_all [(k_first, .int), (k_stepPlace, .int)] U)) (vp_Si (fun r : Int32 => (r = if p1 = 0 then v_this_state else if p1 = 1 then (if v_this_state = 3 then v_this_errorNumber else 0) else if ¬ p1 = 2 ∨ v_this_state = 0 ∨ v_this_state = 2 then -1 else if v_this_state = 1 then f_first v_this_counter.toNatClampNeg else f_stepPlace (v_this_depth - 1).toNatClampNeg))) 0 0 (fun _ => False) := by
  refine Met.ofW (cc := b_Model_state) (maxL := 2) (ret := (some .int)) (by decide) rfl ?_
  intro p e s m args below meth c s₁ B hml hv
  obtain ⟨rfl, hP, hK⟩ := hv
  have hx := B.exec
  have hb := B.bytes
  have hr := B.returns
  have hT : ∀ w ∈ lw_good, w.before _ s = true := fun w h => atoms_spec (ws := w_Model_state) B.pre w (List.mem_cons_of_mem _ h)
  have hown : s.vm.findClass R_Model = some m.cls := findClass_of_methodNamed B.named
  have hlocks := B.notSynchronized
  have hl := lv_entry ([.ref h_this, .int p1]) (n := 2) (Nat.le_of_ble_eq_true rfl)
  rw [lg_entry_eq]
  generalize (lg_sl ([.ref h_this, .int p1]) ++ List.replicate (2 - (lg_sl ([.ref h_this, .int p1])).length) Slot.unset).toArray = ls at hl ⊢
  have hl : lv_has ls 2 [(0, .ref h_this), (1, .int p1)] := hl
  refine lv_iload_n hx hb d_Model_state_0 rfl (lv_at hl 1 rfl) ?_
  refine lv_if_ne (tgt := 9) hx hb d_Model_state_1 (by decide) (fun c1 => ?_) (fun c1 => ?_)
  · refine lv_iload_n hx hb d_Model_state_9 rfl (lv_at hl 1 rfl) ?_
    refine lv_iconst (v := 1) hx hb d_Model_state_10 (by decide) ?_
    refine lv_icmp_ne (tgt := 31) hx hb d_Model_state_11 (by decide) (fun c2 => ?_) (fun c2 => ?_)
    · refine lv_iload_n hx hb d_Model_state_31 rfl (lv_at hl 1 rfl) ?_
      refine lv_iconst (v := 2) hx hb d_Model_state_32 (by decide) ?_
      refine lv_icmp_ne (tgt := 51) hx hb d_Model_state_33 (by decide) (fun c3 => ?_) (fun c3 => ?_)
      · refine lv_iconst (v := (-1)) hx hb d_Model_state_51 (by decide) ?_
        refine W.iret (v := (-1)) hx hb hr (fun t ht hW => ⟨(-1), rfl, ?_, ht⟩) (fun q h => by cases h) d_Model_state_52
        subst_vars; first | (simp [c1, c2, c3]; done) | ((repeat' split) <;> first | rfl | (simp_all; done) | (exfalso; simp only [i_lt, i_le, i_eq, Int32.reduceToInt] at *; omega) | (subst_vars; simp_all; done))
      · refine lv_aload_n hx hb d_Model_state_36 rfl (lv_at hl 0 rfl) ?_
        refine va_get (D := (dC, dI)) (ci := 12) (v := .int v_this_state) (C := R_Model) (T := F_Model) (N := 153) hx hb hT i_Model hown hK hP 0 rfl rfl 100 (by decide) (hT _ fl_Model_802) (fun _ h9 => h9) g_this_state d_Model_state_37 ?_
        refine lv_if_eq (tgt := 51) hx hb d_Model_state_40 (by decide) (fun c4 => ?_) (fun c4 => ?_)
        · refine lv_iconst (v := (-1)) hx hb d_Model_state_51 (by decide) ?_
          refine W.iret (v := (-1)) hx hb hr (fun t ht hW => ⟨(-1), rfl, ?_, ht⟩) (fun q h => by cases h) d_Model_state_52
          subst_vars; first | (simp [c1, c2, c3, c4]; done) | ((repeat' split) <;> first | rfl | (simp_all; done) | (exfalso; simp only [i_lt, i_le, i_eq, Int32.reduceToInt] at *; omega) | (subst_vars; simp_all; done))
        · refine lv_aload_n hx hb d_Model_state_43 rfl (lv_at hl 0 rfl) ?_
          refine va_get (D := (dC, dI)) (ci := 12) (v := .int v_this_state) (C := R_Model) (T := F_Model) (N := 153) hx hb hT i_Model hown hK hP 0 rfl rfl 100 (by decide) (hT _ fl_Model_802) (fun _ h9 => h9) g_this_state d_Model_state_44 ?_
          refine lv_iconst (v := 2) hx hb d_Model_state_47 (by decide) ?_
          refine lv_icmp_ne (tgt := 53) hx hb d_Model_state_48 (by decide) (fun c5 => ?_) (fun c5 => ?_)
          · refine lv_aload_n hx hb d_Model_state_53 rfl (lv_at hl 0 rfl) ?_
            refine va_get (D := (dC, dI)) (ci := 12) (v := .int v_this_state) (C := R_Model) (T := F_Model) (N := 153) hx hb hT i_Model hown hK hP 0 rfl rfl 100 (by decide) (hT _ fl_Model_802) (fun _ h9 => h9) g_this_state d_Model_state_54 ?_
            refine lv_iconst (v := 1) hx hb d_Model_state_57 (by decide) ?_
            refine lv_icmp_ne (tgt := 73) hx hb d_Model_state_58 (by decide) (fun c6 => ?_) (fun c6 => ?_)
            · refine lv_aload_n hx hb d_Model_state_73 rfl (lv_at hl 0 rfl) ?_
              refine va_get (D := (dC, dI)) (ci := 12) (v := .ref h_stepPlace) (C := R_Model) (T := F_Model) (N := 153) hx hb hT i_Model hown hK hP 0 rfl rfl 115 (by decide) (hT _ fl_Model_222) (fun _ h9 => h9) g_this_stepPlace d_Model_state_74 ?_
              refine lv_aload_n hx hb d_Model_state_77 rfl (lv_at hl 0 rfl) ?_
              refine va_get (D := (dC, dI)) (ci := 12) (v := .int v_this_depth) (C := R_Model) (T := F_Model) (N := 153) hx hb hT i_Model hown hK hP 0 rfl rfl 103 (by decide) (hT _ fl_Model_808) (fun _ h9 => h9) g_this_depth d_Model_state_78 ?_
              refine lv_iconst (v := 1) hx hb d_Model_state_81 (by decide) ?_
              refine lv_isub hx hb d_Model_state_82 ?_
              refine lv_topi (fun x7 e7 => ?_)
              refine va_iald hx hb hK hP 2 1 rfl rfl (by first | exact hc1 (by assumption) | (subst_vars; exact hc2 (by assumption) (by assumption) (by assumption))) d_Model_state_83 ?_
              refine lv_topi (fun x8 e8 => ?_)
              refine W.iret (v := x8) hx hb hr (fun t ht hW => ⟨x8, rfl, ?_, ht⟩) (fun q h => by cases h) d_Model_state_84
              subst_vars; first | (simp [c1, c2, c3, c4, c5, c6]; done) | ((repeat' split) <;> first | rfl | (simp_all; done) | (exfalso; simp only [i_lt, i_le, i_eq, Int32.reduceToInt] at *; omega) | (subst_vars; simp_all; done))
            · refine lv_aload_n hx hb d_Model_state_61 rfl (lv_at hl 0 rfl) ?_
              refine va_get (D := (dC, dI)) (ci := 12) (v := .ref h_first) (C := R_Model) (T := F_Model) (N := 153) hx hb hT i_Model hown hK hP 0 rfl rfl 97 (by decide) (hT _ fl_Model_198) (fun _ h9 => h9) g_this_first d_Model_state_62 ?_
              refine lv_aload_n hx hb d_Model_state_65 rfl (lv_at hl 0 rfl) ?_
              refine va_get (D := (dC, dI)) (ci := 12) (v := .int v_this_counter) (C := R_Model) (T := F_Model) (N := 153) hx hb hT i_Model hown hK hP 0 rfl rfl 102 (by decide) (hT _ fl_Model_863) (fun _ h9 => h9) g_this_counter d_Model_state_66 ?_
              refine va_iald hx hb hK hP 1 0 rfl rfl (by first | exact hc1 (by assumption) | (subst_vars; exact hc2 (by assumption) (by assumption) (by assumption))) d_Model_state_69 ?_
              refine lv_topi (fun x9 e9 => ?_)
              refine lv_goto (tgt := 84) hx hb d_Model_state_70 (by decide) ?_
              refine W.iret (v := x9) hx hb hr (fun t ht hW => ⟨x9, rfl, ?_, ht⟩) (fun q h => by cases h) d_Model_state_84
              subst_vars; first | (simp [c1, c2, c3, c4, c5, c6]; done) | ((repeat' split) <;> first | rfl | (simp_all; done) | (exfalso; simp only [i_lt, i_le, i_eq, Int32.reduceToInt] at *; omega) | (subst_vars; simp_all; done))
          · refine lv_iconst (v := (-1)) hx hb d_Model_state_51 (by decide) ?_
            refine W.iret (v := (-1)) hx hb hr (fun t ht hW => ⟨(-1), rfl, ?_, ht⟩) (fun q h => by cases h) d_Model_state_52
            subst_vars; first | (simp [c1, c2, c3, c4, c5]; done) | ((repeat' split) <;> first | rfl | (simp_all; done) | (exfalso; simp only [i_lt, i_le, i_eq, Int32.reduceToInt] at *; omega) | (subst_vars; simp_all; done))
    · refine lv_aload_n hx hb d_Model_state_14 rfl (lv_at hl 0 rfl) ?_
      refine va_get (D := (dC, dI)) (ci := 12) (v := .int v_this_state) (C := R_Model) (T := F_Model) (N := 153) hx hb hT i_Model hown hK hP 0 rfl rfl 100 (by decide) (hT _ fl_Model_802) (fun _ h9 => h9) g_this_state d_Model_state_15 ?_
      refine lv_iconst (v := 3) hx hb d_Model_state_18 (by decide) ?_
      refine lv_icmp_ne (tgt := 29) hx hb d_Model_state_19 (by decide) (fun c10 => ?_) (fun c10 => ?_)
      · refine lv_iconst (v := 0) hx hb d_Model_state_29 (by decide) ?_
        refine W.iret (v := 0) hx hb hr (fun t ht hW => ⟨0, rfl, ?_, ht⟩) (fun q h => by cases h) d_Model_state_30
        subst_vars; first | (simp [c1, c2, c10]; done) | ((repeat' split) <;> first | rfl | (simp_all; done) | (exfalso; simp only [i_lt, i_le, i_eq, Int32.reduceToInt] at *; omega) | (subst_vars; simp_all; done))
      · refine lv_aload_n hx hb d_Model_state_22 rfl (lv_at hl 0 rfl) ?_
        refine va_get (D := (dC, dI)) (ci := 12) (v := .int v_this_errorNumber) (C := R_Model) (T := F_Model) (N := 153) hx hb hT i_Model hown hK hP 0 rfl rfl 108 (by decide) (hT _ fl_Model_823) (fun _ h9 => h9) g_this_errorNumber d_Model_state_23 ?_
        refine lv_goto (tgt := 30) hx hb d_Model_state_26 (by decide) ?_
        refine W.iret (v := v_this_errorNumber) hx hb hr (fun t ht hW => ⟨v_this_errorNumber, rfl, ?_, ht⟩) (fun q h => by cases h) d_Model_state_30
        subst_vars; first | (simp [c1, c2, c10]; done) | ((repeat' split) <;> first | rfl | (simp_all; done) | (exfalso; simp only [i_lt, i_le, i_eq, Int32.reduceToInt] at *; omega) | (subst_vars; simp_all; done))
  · refine lv_aload_n hx hb d_Model_state_4 rfl (lv_at hl 0 rfl) ?_
    refine va_get (D := (dC, dI)) (ci := 12) (v := .int v_this_state) (C := R_Model) (T := F_Model) (N := 153) hx hb hT i_Model hown hK hP 0 rfl rfl 100 (by decide) (hT _ fl_Model_802) (fun _ h9 => h9) g_this_state d_Model_state_5 ?_
    refine W.iret (v := v_this_state) hx hb hr (fun t ht hW => ⟨v_this_state, rfl, ?_, ht⟩) (fun q h => by cases h) d_Model_state_8
    subst_vars; first | (simp [c1]; done) | ((repeat' split) <;> first | rfl | (simp_all; done) | (exfalso; simp only [i_lt, i_le, i_eq, Int32.reduceToInt] at *; omega) | (subst_vars; simp_all; done))
