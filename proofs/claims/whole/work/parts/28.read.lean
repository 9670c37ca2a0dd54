set_option maxHeartbeats 1000000 in
set_option maxRecDepth 100000 in
theorem c_Code_opAt (l : Launch) (dC : Nat → ClassId) (dI : Nat → Nat → Nat)  (h_this : Nat) (h_op : Nat) (fs_this : List Value) (v_this_count : Int32) (k_op : ClassId) (f_op : Nat → Int32) (p1 : Int32) (len_this : fs_this.length = 7) (g_this_count : fs_this[3]? = some (.int v_this_count)) (g_this_op : fs_this[0]? = some (.ref h_op)) (hc : v_this_count ≤ 6032) : Met l y_Code_opAt w_Code_opAt ({ frames := 1, cells := 0, slots := 0, locals := 21 } : Room) (va_Pc [.ref h_this, .int p1] (fun U => va_P (dC, dI) cls_all [oc h_this 0 fs_this, ic h_op k_op 6032 f_op] U.heap ∧ va_K (dC, dI) cls_all [(k_op, .int)] U)) (vp_Si (fun r : Int32 => (r = if 0 ≤ p1 ∧ p1 < v_this_count then f_op p1.toNatClampNeg else 58))) 0 0 (fun _ => False) := by
  refine Met.ofW (cc := b_Code_opAt) (maxL := 2) (ret := (some .int)) (by decide) rfl ?_
  intro p e s m args below meth c s₁ B hml hv
  obtain ⟨rfl, hP, hK⟩ := hv
  have hx := B.exec
  have hb := B.bytes
  have hr := B.returns
  have hT : ∀ w ∈ lw_good, w.before _ s = true := fun w h => atoms_spec (ws := w_Code_opAt) B.pre w (List.mem_cons_of_mem _ h)
  have hown : s.vm.findClass R_Code = some m.cls := findClass_of_methodNamed B.named
  have hlocks := B.notSynchronized
  have hl := lv_entry ([.ref h_this, .int p1]) (n := 2) (Nat.le_of_ble_eq_true rfl)
  rw [lg_entry_eq]
  generalize (lg_sl ([.ref h_this, .int p1]) ++ List.replicate (2 - (lg_sl ([.ref h_this, .int p1])).length) Slot.unset).toArray = ls at hl ⊢
  have hl : lv_has ls 2 [(0, .ref h_this), (1, .int p1)] := hl
  refine lv_aload_n hx hb d_Code_opAt_0 rfl (lv_at hl 0 rfl) ?_
  refine lv_iload_n hx hb d_Code_opAt_1 rfl (lv_at hl 1 rfl) ?_
  have hPc := hP.sub (ws' := [oc h_this 0 fs_this]) [0] rfl
  have hKc := hK.sub (tys' := []) [] rfl
  refine vp_callSi (va_Run.run (va_runV (As := [.int p1]) (rest := []) ⟨hx, hb, hml, hown, hT⟩ (c_Code_has l dC dI (h_this := h_this) (fs_this := fs_this) (v_this_count := v_this_count) (p1 := p1) (len_this := (by first | exact len_this | (simp only [List.length_set]; exact len_this))) (g_this_count := g_this_count)) (cwV 1 hT (gV ml_Code_40 im_Code_has se_Code_has ini_Code co_Code_has) rfl rfl rfl (by decide +kernel) ⟨Nat.le_of_ble_eq_true rfl, Nat.le_of_ble_eq_true rfl⟩) ⟨fbS, va_recv hKc hPc (ci := 0) (q0 := 0) rfl rfl, fun U hU hW => ⟨rfl, by rw [hU]; exact hPc, va_K.moved hW.alike hKc⟩⟩ rfl rfl hl.1 rfl (lv_room (Nat.le_of_ble_eq_true rfl)) d_Code_opAt_2 ⟨Nat.le_of_ble_eq_true rfl, Nat.le_of_ble_eq_true rfl⟩)) (fun r1 hr1 => ?_)
  refine lv_if_eq (tgt := 17) hx hb d_Code_opAt_5 (by decide) (fun c2 => ?_) (fun c2 => ?_)
  · refine lv_bipush (v := 58) hx hb d_Code_opAt_17 (by decide) ?_
    refine W.iret (v := 58) hx hb hr (fun t ht hW => ⟨58, rfl, ?_, ht⟩) (fun q h => by cases h) d_Code_opAt_19
    (repeat' split) <;> first | rfl | (simp_all; done) | (exfalso; simp only [i_lt, i_le, i_eq, Int32.reduceToInt] at *; omega) | (subst_vars; simp_all; done)
  · refine lv_aload_n hx hb d_Code_opAt_8 rfl (lv_at hl 0 rfl) ?_
    refine va_get (D := (dC, dI)) (ci := 0) (v := .ref h_op) (C := R_Code) (T := F_Code) (N := 7) hx hb hT i_Code hown hK hP 0 rfl rfl 0 (by decide) (hT _ fl_Code_11) (fun _ h9 => h9) g_this_op d_Code_opAt_9 ?_
    refine lv_iload_n hx hb d_Code_opAt_12 rfl (lv_at hl 1 rfl) ?_
    refine va_iald hx hb hK hP 1 0 rfl rfl (by first | exact has_in (by assumption) (by assumption) (by assumption) | (refine vp_in_iff.mpr ?_; simp only [i_lt, i_le, i_eq, Int32.reduceToInt] at *; omega)) d_Code_opAt_13 ?_
    refine lv_topi (fun x3 e3 => ?_)
    refine lv_goto (tgt := 19) hx hb d_Code_opAt_14 (by decide) ?_
    refine W.iret (v := x3) hx hb hr (fun t ht hW => ⟨x3, rfl, ?_, ht⟩) (fun q h => by cases h) d_Code_opAt_19
    (repeat' split) <;> first | rfl | (simp_all; done) | (exfalso; simp only [i_lt, i_le, i_eq, Int32.reduceToInt] at *; omega) | (subst_vars; simp_all; done)
set_option maxHeartbeats 1000000 in
set_option maxRecDepth 100000 in
theorem c_Code_firstAt (l : Launch) (dC : Nat → ClassId) (dI : Nat → Nat → Nat)  (h_this : Nat) (h_first : Nat) (fs_this : List Value) (v_this_count : Int32) (k_first : ClassId) (f_first : Nat → Int32) (p1 : Int32) (len_this : fs_this.length = 7) (g_this_count : fs_this[3]? = some (.int v_this_count)) (g_this_first : fs_this[1]? = some (.ref h_first)) (hc : v_this_count ≤ 6032) : Met l y_Code_firstAt w_Code_firstAt ({ frames := 1, cells := 0, slots := 0, locals := 21 } : Room) (va_Pc [.ref h_this, .int p1] (fun U => va_P (dC, dI) cls_all [oc h_this 0 fs_this, ic h_first k_first 6032 f_first] U.heap ∧ va_K (dC, dI) cls_all [(k_first, .int)] U)) (vp_Si (fun r : Int32 => (r = if 0 ≤ p1 ∧ p1 < v_this_count then f_first p1.toNatClampNeg else 0))) 0 0 (fun _ => False) := by
  refine Met.ofW (cc := b_Code_firstAt) (maxL := 2) (ret := (some .int)) (by decide) rfl ?_
  intro p e s m args below meth c s₁ B hml hv
  obtain ⟨rfl, hP, hK⟩ := hv
  have hx := B.exec
  have hb := B.bytes
  have hr := B.returns
  have hT : ∀ w ∈ lw_good, w.before _ s = true := fun w h => atoms_spec (ws := w_Code_firstAt) B.pre w (List.mem_cons_of_mem _ h)
  have hown : s.vm.findClass R_Code = some m.cls := findClass_of_methodNamed B.named
  have hlocks := B.notSynchronized
  have hl := lv_entry ([.ref h_this, .int p1]) (n := 2) (Nat.le_of_ble_eq_true rfl)
  rw [lg_entry_eq]
  generalize (lg_sl ([.ref h_this, .int p1]) ++ List.replicate (2 - (lg_sl ([.ref h_this, .int p1])).length) Slot.unset).toArray = ls at hl ⊢
  have hl : lv_has ls 2 [(0, .ref h_this), (1, .int p1)] := hl
  refine lv_aload_n hx hb d_Code_firstAt_0 rfl (lv_at hl 0 rfl) ?_
  refine lv_iload_n hx hb d_Code_firstAt_1 rfl (lv_at hl 1 rfl) ?_
  have hPc := hP.sub (ws' := [oc h_this 0 fs_this]) [0] rfl
  have hKc := hK.sub (tys' := []) [] rfl
  refine vp_callSi (va_Run.run (va_runV (As := [.int p1]) (rest := []) ⟨hx, hb, hml, hown, hT⟩ (c_Code_has l dC dI (h_this := h_this) (fs_this := fs_this) (v_this_count := v_this_count) (p1 := p1) (len_this := (by first | exact len_this | (simp only [List.length_set]; exact len_this))) (g_this_count := g_this_count)) (cwV 1 hT (gV ml_Code_40 im_Code_has se_Code_has ini_Code co_Code_has) rfl rfl rfl (by decide +kernel) ⟨Nat.le_of_ble_eq_true rfl, Nat.le_of_ble_eq_true rfl⟩) ⟨fbS, va_recv hKc hPc (ci := 0) (q0 := 0) rfl rfl, fun U hU hW => ⟨rfl, by rw [hU]; exact hPc, va_K.moved hW.alike hKc⟩⟩ rfl rfl hl.1 rfl (lv_room (Nat.le_of_ble_eq_true rfl)) d_Code_firstAt_2 ⟨Nat.le_of_ble_eq_true rfl, Nat.le_of_ble_eq_true rfl⟩)) (fun r1 hr1 => ?_)
  refine lv_if_eq (tgt := 17) hx hb d_Code_firstAt_5 (by decide) (fun c2 => ?_) (fun c2 => ?_)
  · refine lv_iconst (v := 0) hx hb d_Code_firstAt_17 (by decide) ?_
    refine W.iret (v := 0) hx hb hr (fun t ht hW => ⟨0, rfl, ?_, ht⟩) (fun q h => by cases h) d_Code_firstAt_18
    (repeat' split) <;> first | rfl | (simp_all; done) | (exfalso; simp only [i_lt, i_le, i_eq, Int32.reduceToInt] at *; omega) | (subst_vars; simp_all; done)
  · refine lv_aload_n hx hb d_Code_firstAt_8 rfl (lv_at hl 0 rfl) ?_
    refine va_get (D := (dC, dI)) (ci := 0) (v := .ref h_first) (C := R_Code) (T := F_Code) (N := 7) hx hb hT i_Code hown hK hP 0 rfl rfl 1 (by decide) (hT _ fl_Code_15) (fun _ h9 => h9) g_this_first d_Code_firstAt_9 ?_
    refine lv_iload_n hx hb d_Code_firstAt_12 rfl (lv_at hl 1 rfl) ?_
    refine va_iald hx hb hK hP 1 0 rfl rfl (by first | exact has_in (by assumption) (by assumption) (by assumption) | (refine vp_in_iff.mpr ?_; simp only [i_lt, i_le, i_eq, Int32.reduceToInt] at *; omega)) d_Code_firstAt_13 ?_
    refine lv_topi (fun x3 e3 => ?_)
    refine lv_goto (tgt := 18) hx hb d_Code_firstAt_14 (by decide) ?_
    refine W.iret (v := x3) hx hb hr (fun t ht hW => ⟨x3, rfl, ?_, ht⟩) (fun q h => by cases h) d_Code_firstAt_18
    (repeat' split) <;> first | rfl | (simp_all; done) | (exfalso; simp only [i_lt, i_le, i_eq, Int32.reduceToInt] at *; omega) | (subst_vars; simp_all; done)
set_option maxHeartbeats 1000000 in
set_option maxRecDepth 100000 in
theorem c_Code_secondAt (l : Launch) (dC : Nat → ClassId) (dI : Nat → Nat → Nat)  (h_this : Nat) (h_second : Nat) (fs_this : List Value) (v_this_count : Int32) (k_second : ClassId) (f_second : Nat → Int32) (p1 : Int32) (len_this : fs_this.length = 7) (g_this_count : fs_this[3]? = some (.int v_this_count)) (g_this_second : fs_this[2]? = some (.ref h_second)) (hc : v_this_count ≤ 6032) : Met l y_Code_secondAt w_Code_secondAt ({ frames := 1, cells := 0, slots := 0, locals := 21 } : Room) (va_Pc [.ref h_this, .int p1] (fun U => va_P (dC, dI) cls_all [oc h_this 0 fs_this, ic h_second k_second 6032 f_second] U.heap ∧ va_K (dC, dI) cls_all [(k_second, .int)] U)) (vp_Si (fun r : Int32 => (r = if 0 ≤ p1 ∧ p1 < v_this_count then f_second p1.toNatClampNeg else 0))) 0 0 (fun _ => False) := by
  refine Met.ofW (cc := b_Code_secondAt) (maxL := 2) (ret := (some .int)) (by decide) rfl ?_
  intro p e s m args below meth c s₁ B hml hv
  obtain ⟨rfl, hP, hK⟩ := hv
  have hx := B.exec
  have hb := B.bytes
  have hr := B.returns
  have hT : ∀ w ∈ lw_good, w.before _ s = true := fun w h => atoms_spec (ws := w_Code_secondAt) B.pre w (List.mem_cons_of_mem _ h)
  have hown : s.vm.findClass R_Code = some m.cls := findClass_of_methodNamed B.named
  have hlocks := B.notSynchronized
  have hl := lv_entry ([.ref h_this, .int p1]) (n := 2) (Nat.le_of_ble_eq_true rfl)
  rw [lg_entry_eq]
  generalize (lg_sl ([.ref h_this, .int p1]) ++ List.replicate (2 - (lg_sl ([.ref h_this, .int p1])).length) Slot.unset).toArray = ls at hl ⊢
  have hl : lv_has ls 2 [(0, .ref h_this), (1, .int p1)] := hl
  refine lv_aload_n hx hb d_Code_secondAt_0 rfl (lv_at hl 0 rfl) ?_
  refine lv_iload_n hx hb d_Code_secondAt_1 rfl (lv_at hl 1 rfl) ?_
  have hPc := hP.sub (ws' := [oc h_this 0 fs_this]) [0] rfl
  have hKc := hK.sub (tys' := []) [] rfl
  refine vp_callSi (va_Run.run (va_runV (As := [.int p1]) (rest := []) ⟨hx, hb, hml, hown, hT⟩ (c_Code_has l dC dI (h_this := h_this) (fs_this := fs_this) (v_this_count := v_this_count) (p1 := p1) (len_this := (by first | exact len_this | (simp only [List.length_set]; exact len_this))) (g_this_count := g_this_count)) (cwV 1 hT (gV ml_Code_40 im_Code_has se_Code_has ini_Code co_Code_has) rfl rfl rfl (by decide +kernel) ⟨Nat.le_of_ble_eq_true rfl, Nat.le_of_ble_eq_true rfl⟩) ⟨fbS, va_recv hKc hPc (ci := 0) (q0 := 0) rfl rfl, fun U hU hW => ⟨rfl, by rw [hU]; exact hPc, va_K.moved hW.alike hKc⟩⟩ rfl rfl hl.1 rfl (lv_room (Nat.le_of_ble_eq_true rfl)) d_Code_secondAt_2 ⟨Nat.le_of_ble_eq_true rfl, Nat.le_of_ble_eq_true rfl⟩)) (fun r1 hr1 => ?_)
  refine lv_if_eq (tgt := 17) hx hb d_Code_secondAt_5 (by decide) (fun c2 => ?_) (fun c2 => ?_)
  · refine lv_iconst (v := 0) hx hb d_Code_secondAt_17 (by decide) ?_
    refine W.iret (v := 0) hx hb hr (fun t ht hW => ⟨0, rfl, ?_, ht⟩) (fun q h => by cases h) d_Code_secondAt_18
    (repeat' split) <;> first | rfl | (simp_all; done) | (exfalso; simp only [i_lt, i_le, i_eq, Int32.reduceToInt] at *; omega) | (subst_vars; simp_all; done)
  · refine lv_aload_n hx hb d_Code_secondAt_8 rfl (lv_at hl 0 rfl) ?_
    refine va_get (D := (dC, dI)) (ci := 0) (v := .ref h_second) (C := R_Code) (T := F_Code) (N := 7) hx hb hT i_Code hown hK hP 0 rfl rfl 2 (by decide) (hT _ fl_Code_18) (fun _ h9 => h9) g_this_second d_Code_secondAt_9 ?_
    refine lv_iload_n hx hb d_Code_secondAt_12 rfl (lv_at hl 1 rfl) ?_
    refine va_iald hx hb hK hP 1 0 rfl rfl (by first | exact has_in (by assumption) (by assumption) (by assumption) | (refine vp_in_iff.mpr ?_; simp only [i_lt, i_le, i_eq, Int32.reduceToInt] at *; omega)) d_Code_secondAt_13 ?_
    refine lv_topi (fun x3 e3 => ?_)
    refine lv_goto (tgt := 18) hx hb d_Code_secondAt_14 (by decide) ?_
    refine W.iret (v := x3) hx hb hr (fun t ht hW => ⟨x3, rfl, ?_, ht⟩) (fun q h => by cases h) d_Code_secondAt_18
    (repeat' split) <;> first | rfl | (simp_all; done) | (exfalso; simp only [i_lt, i_le, i_eq, Int32.reduceToInt] at *; omega) | (subst_vars; simp_all; done)
set_option maxHeartbeats 1000000 in
set_option maxRecDepth 100000 in
theorem c_House_program (l : Launch) (dC : Nat → ClassId) (dI : Nat → Nat → Nat)  (h_this : Nat) (h_code : Nat) (h_code_counts : Nat) (fs_this : List Value) (v_this_ready : Int32) (fs_code : List Value) (k_code_counts : ClassId) (f_code_counts : Nat → Int32) (p1 : Int32) (len_this : fs_this.length = 11) (g_this_ready : fs_this[3]? = some (.int v_this_ready)) (g_this_code : fs_this[6]? = some (.ref h_code)) (len_code : fs_code.length = 7) (g_code_counts : fs_code[4]? = some (.ref h_code_counts)) : Met l y_House_program w_House_program ({ frames := 0, cells := 0, slots := 0, locals := 0 } : Room) (va_Pc [.ref h_this, .int p1] (fun U => va_P (dC, dI) cls_all [oc h_this 11 fs_this, oc h_code 0 fs_code, ic h_code_counts k_code_counts 7 f_code_counts] U.heap ∧ va_K (dC, dI) cls_all [(k_code_counts, .int)] U)) (vp_Si (fun r : Int32 => (r = if v_this_ready = 0 ∨ p1 < 0 ∨ 7 ≤ p1 then -1 else f_code_counts p1.toNatClampNeg))) 0 0 (fun _ => False) := by
  refine Met.ofW (cc := b_House_program) (maxL := 2) (ret := (some .int)) (by decide) rfl ?_
  intro p e s m args below meth c s₁ B hml hv
  obtain ⟨rfl, hP, hK⟩ := hv
  have hx := B.exec
  have hb := B.bytes
  have hr := B.returns
  have hT : ∀ w ∈ lw_good, w.before _ s = true := fun w h => atoms_spec (ws := w_House_program) B.pre w (List.mem_cons_of_mem _ h)
  have hown : s.vm.findClass R_House = some m.cls := findClass_of_methodNamed B.named
  have hlocks := B.notSynchronized
  have hl := lv_entry ([.ref h_this, .int p1]) (n := 2) (Nat.le_of_ble_eq_true rfl)
  rw [lg_entry_eq]
  generalize (lg_sl ([.ref h_this, .int p1]) ++ List.replicate (2 - (lg_sl ([.ref h_this, .int p1])).length) Slot.unset).toArray = ls at hl ⊢
  have hl : lv_has ls 2 [(0, .ref h_this), (1, .int p1)] := hl
  refine lv_aload_n hx hb d_House_program_0 rfl (lv_at hl 0 rfl) ?_
  refine va_get (D := (dC, dI)) (ci := 11) (v := .int v_this_ready) (C := R_House) (T := F_House) (N := 11) hx hb hT i_House hown hK hP 0 rfl rfl 3 (by decide) (hT _ fl_House_116) (fun _ h9 => h9) g_this_ready d_House_program_1 ?_
  refine lv_if_eq (tgt := 17) hx hb d_House_program_4 (by decide) (fun c1 => ?_) (fun c1 => ?_)
  · refine lv_iconst (v := (-1)) hx hb d_House_program_17 (by decide) ?_
    refine W.iret (v := (-1)) hx hb hr (fun t ht hW => ⟨(-1), rfl, ?_, ht⟩) (fun q h => by cases h) d_House_program_18
    (repeat' split) <;> first | rfl | (simp_all; done) | (exfalso; simp only [i_lt, i_le, i_eq, Int32.reduceToInt] at *; omega) | (subst_vars; simp_all; done)
  · refine lv_iload_n hx hb d_House_program_7 rfl (lv_at hl 1 rfl) ?_
    refine lv_if_lt (tgt := 17) hx hb d_House_program_8 (by decide) (fun c2 => ?_) (fun c2 => ?_)
    · refine lv_iconst (v := (-1)) hx hb d_House_program_17 (by decide) ?_
      refine W.iret (v := (-1)) hx hb hr (fun t ht hW => ⟨(-1), rfl, ?_, ht⟩) (fun q h => by cases h) d_House_program_18
      (repeat' split) <;> first | rfl | (simp_all; done) | (exfalso; simp only [i_lt, i_le, i_eq, Int32.reduceToInt] at *; omega) | (subst_vars; simp_all; done)
    · refine lv_iload_n hx hb d_House_program_11 rfl (lv_at hl 1 rfl) ?_
      refine lv_bipush (v := 7) hx hb d_House_program_12 (by decide) ?_
      refine lv_icmp_lt (tgt := 19) hx hb d_House_program_14 (by decide) (fun c3 => ?_) (fun c3 => ?_)
      · refine lv_aload_n hx hb d_House_program_19 rfl (lv_at hl 0 rfl) ?_
        refine va_get (D := (dC, dI)) (ci := 11) (v := .ref h_code) (C := R_House) (T := F_House) (N := 11) hx hb hT i_House hown hK hP 0 rfl rfl 6 (by decide) (hT _ fl_House_30) (fun _ h9 => h9) g_this_code d_House_program_20 ?_
        refine va_get (D := (dC, dI)) (ci := 0) (v := .ref h_code_counts) (C := R_Code) (T := F_Code) (N := 7) hx hb hT i_Code hown hK hP 1 rfl rfl 4 (by decide) (hT _ fl_House_128) (fun _ h9 => h9) g_code_counts d_House_program_23 ?_
        refine lv_iload_n hx hb d_House_program_26 rfl (lv_at hl 1 rfl) ?_
        refine va_iald hx hb hK hP 2 0 rfl rfl (by first | exact has_in (by assumption) (by assumption) (by assumption) | (refine vp_in_iff.mpr ?_; simp only [i_lt, i_le, i_eq, Int32.reduceToInt] at *; omega)) d_House_program_27 ?_
        refine lv_topi (fun x4 e4 => ?_)
        refine W.iret (v := x4) hx hb hr (fun t ht hW => ⟨x4, rfl, ?_, ht⟩) (fun q h => by cases h) d_House_program_28
        (repeat' split) <;> first | rfl | (simp_all; done) | (exfalso; simp only [i_lt, i_le, i_eq, Int32.reduceToInt] at *; omega) | (subst_vars; simp_all; done)
      · refine lv_iconst (v := (-1)) hx hb d_House_program_17 (by decide) ?_
        refine W.iret (v := (-1)) hx hb hr (fun t ht hW => ⟨(-1), rfl, ?_, ht⟩) (fun q h => by cases h) d_House_program_18
        (repeat' split) <;> first | rfl | (simp_all; done) | (exfalso; simp only [i_lt, i_le, i_eq, Int32.reduceToInt] at *; omega) | (subst_vars; simp_all; done)
set_option maxHeartbeats 1000000 in
set_option maxRecDepth 100000 in
theorem c_Machine_printedAt (l : Launch) (dC : Nat → ClassId) (dI : Nat → Nat → Nat)  (h_this : Nat) (h_printed : Nat) (fs_this : List Value) (v_this_printedCount : Int32) (k_printed : ClassId) (f_printed : Nat → Int32) (p1 : Int32) (len_this : fs_this.length = 18) (g_this_printedCount : fs_this[17]? = some (.int v_this_printedCount)) (g_this_printed : fs_this[16]? = some (.ref h_printed)) : Met l y_Machine_printedAt w_Machine_printedAt ({ frames := 0, cells := 0, slots := 0, locals := 0 } : Room) (va_Pc [.ref h_this, .int p1] (fun U => va_P (dC, dI) cls_all [oc h_this 4 fs_this, ic h_printed k_printed 300 f_printed] U.heap ∧ va_K (dC, dI) cls_all [(k_printed, .int)] U)) (vp_Si (fun r : Int32 => (r = if p1 < 0 ∨ v_this_printedCount ≤ p1 ∨ 300 ≤ p1 then 0 else f_printed p1.toNatClampNeg))) 0 0 (fun _ => False) := by
  refine Met.ofW (cc := b_Machine_printedAt) (maxL := 2) (ret := (some .int)) (by decide) rfl ?_
  intro p e s m args below meth c s₁ B hml hv
  obtain ⟨rfl, hP, hK⟩ := hv
  have hx := B.exec
  have hb := B.bytes
  have hr := B.returns
  have hT : ∀ w ∈ lw_good, w.before _ s = true := fun w h => atoms_spec (ws := w_Machine_printedAt) B.pre w (List.mem_cons_of_mem _ h)
  have hown : s.vm.findClass R_Machine = some m.cls := findClass_of_methodNamed B.named
  have hlocks := B.notSynchronized
  have hl := lv_entry ([.ref h_this, .int p1]) (n := 2) (Nat.le_of_ble_eq_true rfl)
  rw [lg_entry_eq]
  generalize (lg_sl ([.ref h_this, .int p1]) ++ List.replicate (2 - (lg_sl ([.ref h_this, .int p1])).length) Slot.unset).toArray = ls at hl ⊢
  have hl : lv_has ls 2 [(0, .ref h_this), (1, .int p1)] := hl
  refine lv_iload_n hx hb d_Machine_printedAt_0 rfl (lv_at hl 1 rfl) ?_
  refine lv_if_lt (tgt := 21) hx hb d_Machine_printedAt_1 (by decide) (fun c1 => ?_) (fun c1 => ?_)
  · refine lv_iconst (v := 0) hx hb d_Machine_printedAt_21 (by decide) ?_
    refine lv_goto (tgt := 31) hx hb d_Machine_printedAt_22 (by decide) ?_
    refine W.iret (v := 0) hx hb hr (fun t ht hW => ⟨0, rfl, ?_, ht⟩) (fun q h => by cases h) d_Machine_printedAt_31
    (repeat' split) <;> first | rfl | (simp_all; done) | (exfalso; simp only [i_lt, i_le, i_eq, Int32.reduceToInt] at *; omega) | (subst_vars; simp_all; done)
  · refine lv_iload_n hx hb d_Machine_printedAt_4 rfl (lv_at hl 1 rfl) ?_
    refine lv_aload_n hx hb d_Machine_printedAt_5 rfl (lv_at hl 0 rfl) ?_
    refine va_get (D := (dC, dI)) (ci := 4) (v := .int v_this_printedCount) (C := R_Machine) (T := F_Machine) (N := 18) hx hb hT i_Machine hown hK hP 0 rfl rfl 17 (by decide) (hT _ fl_Machine_76) (fun _ h9 => h9) g_this_printedCount d_Machine_printedAt_6 ?_
    refine lv_icmp_ge (tgt := 21) hx hb d_Machine_printedAt_9 (by decide) (fun c2 => ?_) (fun c2 => ?_)
    · refine lv_iconst (v := 0) hx hb d_Machine_printedAt_21 (by decide) ?_
      refine lv_goto (tgt := 31) hx hb d_Machine_printedAt_22 (by decide) ?_
      refine W.iret (v := 0) hx hb hr (fun t ht hW => ⟨0, rfl, ?_, ht⟩) (fun q h => by cases h) d_Machine_printedAt_31
      (repeat' split) <;> first | rfl | (simp_all; done) | (exfalso; simp only [i_lt, i_le, i_eq, Int32.reduceToInt] at *; omega) | (subst_vars; simp_all; done)
    · refine lv_iload_n hx hb d_Machine_printedAt_12 rfl (lv_at hl 1 rfl) ?_
      refine lv_aload_n hx hb d_Machine_printedAt_13 rfl (lv_at hl 0 rfl) ?_
      refine va_get (D := (dC, dI)) (ci := 4) (v := .ref h_printed) (C := R_Machine) (T := F_Machine) (N := 18) hx hb hT i_Machine hown hK hP 0 rfl rfl 16 (by decide) (hT _ fl_Machine_33) (fun _ h9 => h9) g_this_printed d_Machine_printedAt_14 ?_
      refine va_alen (v := 300) hx hb hK hP 1 0 rfl rfl rfl d_Machine_printedAt_17 ?_
      refine lv_icmp_lt (tgt := 25) hx hb d_Machine_printedAt_18 (by decide) (fun c3 => ?_) (fun c3 => ?_)
      · refine lv_aload_n hx hb d_Machine_printedAt_25 rfl (lv_at hl 0 rfl) ?_
        refine va_get (D := (dC, dI)) (ci := 4) (v := .ref h_printed) (C := R_Machine) (T := F_Machine) (N := 18) hx hb hT i_Machine hown hK hP 0 rfl rfl 16 (by decide) (hT _ fl_Machine_33) (fun _ h9 => h9) g_this_printed d_Machine_printedAt_26 ?_
        refine lv_iload_n hx hb d_Machine_printedAt_29 rfl (lv_at hl 1 rfl) ?_
        refine va_iald hx hb hK hP 1 0 rfl rfl (by first | exact has_in (by assumption) (by assumption) (by assumption) | (refine vp_in_iff.mpr ?_; simp only [i_lt, i_le, i_eq, Int32.reduceToInt] at *; omega)) d_Machine_printedAt_30 ?_
        refine lv_topi (fun x4 e4 => ?_)
        refine W.iret (v := x4) hx hb hr (fun t ht hW => ⟨x4, rfl, ?_, ht⟩) (fun q h => by cases h) d_Machine_printedAt_31
        (repeat' split) <;> first | rfl | (simp_all; done) | (exfalso; simp only [i_lt, i_le, i_eq, Int32.reduceToInt] at *; omega) | (subst_vars; simp_all; done)
      · refine lv_iconst (v := 0) hx hb d_Machine_printedAt_21 (by decide) ?_
        refine lv_goto (tgt := 31) hx hb d_Machine_printedAt_22 (by decide) ?_
        refine W.iret (v := 0) hx hb hr (fun t ht hW => ⟨0, rfl, ?_, ht⟩) (fun q h => by cases h) d_Machine_printedAt_31
        (repeat' split) <;> first | rfl | (simp_all; done) | (exfalso; simp only [i_lt, i_le, i_eq, Int32.reduceToInt] at *; omega) | (subst_vars; simp_all; done)
set_option maxHeartbeats 1000000 in
set_option maxRecDepth 100000 in
theorem c_House_printed (l : Launch) (dC : Nat → ClassId) (dI : Nat → Nat → Nat)  (h_this : Nat) (h_machine : Nat) (h_machine_printed : Nat) (fs_this : List Value) (fs_machine : List Value) (v_machine_state : Int32) (v_machine_printedCount : Int32) (k_machine_printed : ClassId) (f_machine_printed : Nat → Int32) (p1 : Int32) (len_this : fs_this.length = 11) (g_this_machine : fs_this[10]? = some (.ref h_machine)) (len_machine : fs_machine.length = 18) (g_machine_state : fs_machine[10]? = some (.int v_machine_state)) (g_machine_printedCount : fs_machine[17]? = some (.int v_machine_printedCount)) (g_machine_printed : fs_machine[16]? = some (.ref h_machine_printed)) : Met l y_House_printed w_House_printed ({ frames := 1, cells := 0, slots := 0, locals := 21 } : Room) (va_Pc [.ref h_this, .int p1] (fun U => va_P (dC, dI) cls_all [oc h_this 11 fs_this, oc h_machine 4 fs_machine, ic h_machine_printed k_machine_printed 300 f_machine_printed] U.heap ∧ va_K (dC, dI) cls_all [(k_machine_printed, .int)] U)) (vp_Si (fun r : Int32 => (r = if v_machine_state = 0 ∨ p1 < 0 ∨ v_machine_printedCount ≤ p1 ∨ 300 ≤ p1 then 0 else f_machine_printed p1.toNatClampNeg))) 0 0 (fun _ => False) := by
  refine Met.ofW (cc := b_House_printed) (maxL := 2) (ret := (some .int)) (by decide) rfl ?_
  intro p e s m args below meth c s₁ B hml hv
  obtain ⟨rfl, hP, hK⟩ := hv
  have hx := B.exec
  have hb := B.bytes
  have hr := B.returns
  have hT : ∀ w ∈ lw_good, w.before _ s = true := fun w h => atoms_spec (ws := w_House_printed) B.pre w (List.mem_cons_of_mem _ h)
  have hown : s.vm.findClass R_House = some m.cls := findClass_of_methodNamed B.named
  have hlocks := B.notSynchronized
  have hl := lv_entry ([.ref h_this, .int p1]) (n := 2) (Nat.le_of_ble_eq_true rfl)
  rw [lg_entry_eq]
  generalize (lg_sl ([.ref h_this, .int p1]) ++ List.replicate (2 - (lg_sl ([.ref h_this, .int p1])).length) Slot.unset).toArray = ls at hl ⊢
  have hl : lv_has ls 2 [(0, .ref h_this), (1, .int p1)] := hl
  refine lv_aload_n hx hb d_House_printed_0 rfl (lv_at hl 0 rfl) ?_
  refine va_get (D := (dC, dI)) (ci := 11) (v := .ref h_machine) (C := R_House) (T := F_House) (N := 11) hx hb hT i_House hown hK hP 0 rfl rfl 10 (by decide) (hT _ fl_House_79) (fun _ h9 => h9) g_this_machine d_House_printed_1 ?_
  refine va_get (D := (dC, dI)) (ci := 4) (v := .int v_machine_state) (C := R_Machine) (T := F_Machine) (N := 18) hx hb hT i_Machine hown hK hP 1 rfl rfl 10 (by decide) (hT _ fl_House_142) (fun _ h9 => h9) g_machine_state d_House_printed_4 ?_
  refine lv_if_ne (tgt := 12) hx hb d_House_printed_7 (by decide) (fun c1 => ?_) (fun c1 => ?_)
  · refine lv_aload_n hx hb d_House_printed_12 rfl (lv_at hl 0 rfl) ?_
    refine va_get (D := (dC, dI)) (ci := 11) (v := .ref h_machine) (C := R_House) (T := F_House) (N := 11) hx hb hT i_House hown hK hP 0 rfl rfl 10 (by decide) (hT _ fl_House_79) (fun _ h9 => h9) g_this_machine d_House_printed_13 ?_
    refine lv_iload_n hx hb d_House_printed_16 rfl (lv_at hl 1 rfl) ?_
    have hPc := hP.sub (ws' := [oc h_machine 4 fs_machine, ic h_machine_printed k_machine_printed 300 f_machine_printed]) [1, 2] rfl
    have hKc := hK.sub (tys' := [(k_machine_printed, .int)]) [0] rfl
    refine vp_callSi (va_Run.run (va_runV (As := [.int p1]) (rest := []) ⟨hx, hb, hml, hown, hT⟩ (c_Machine_printedAt l dC dI (h_this := h_machine) (h_printed := h_machine_printed) (fs_this := fs_machine) (v_this_printedCount := v_machine_printedCount) (k_printed := k_machine_printed) (f_printed := f_machine_printed) (p1 := p1) (len_this := (by first | exact len_machine | (simp only [List.length_set]; exact len_machine))) (g_this_printedCount := g_machine_printedCount) (g_this_printed := g_machine_printed)) (cwV 1 hT (gV ml_House_166 im_Machine_printedAt se_Machine_printedAt ini_Machine co_Machine_printedAt) rfl rfl rfl (by decide +kernel) ⟨Nat.le_of_ble_eq_true rfl, Nat.le_of_ble_eq_true rfl⟩) ⟨fbS, va_recv hKc hPc (ci := 4) (q0 := 0) rfl rfl, fun U hU hW => ⟨rfl, by rw [hU]; exact hPc, va_K.moved hW.alike hKc⟩⟩ rfl rfl hl.1 rfl (lv_room (Nat.le_of_ble_eq_true rfl)) d_House_printed_17 ⟨Nat.le_of_ble_eq_true rfl, Nat.le_of_ble_eq_true rfl⟩)) (fun r2 hr2 => ?_)
    refine W.iret (v := r2) hx hb hr (fun t ht hW => ⟨r2, rfl, ?_, ht⟩) (fun q h => by cases h) d_House_printed_20
    first | (simp [c1, hr2]; done) | ((repeat' split) <;> first | rfl | (simp_all; done) | (exfalso; simp only [i_lt, i_le, i_eq, Int32.reduceToInt] at *; omega) | (subst_vars; simp_all; done))
  · refine lv_iconst (v := 0) hx hb d_House_printed_10 (by decide) ?_
    refine W.iret (v := 0) hx hb hr (fun t ht hW => ⟨0, rfl, ?_, ht⟩) (fun q h => by cases h) d_House_printed_11
    first | (simp [c1]; done) | ((repeat' split) <;> first | rfl | (simp_all; done) | (exfalso; simp only [i_lt, i_le, i_eq, Int32.reduceToInt] at *; omega) | (subst_vars; simp_all; done))
set_option maxHeartbeats 1000000 in
set_option maxRecDepth 100000 in
theorem c_House_run_no (l : Launch) (dC : Nat → ClassId) (dI : Nat → Nat → Nat)  (h_this : Nat) (h_machine : Nat) (fs_this : List Value) (fs_machine : List Value) (v_machine_state : Int32) (p1 : Int32) (len_this : fs_this.length = 11) (g_this_machine : fs_this[10]? = some (.ref h_machine)) (len_machine : fs_machine.length = 18) (g_machine_state : fs_machine[10]? = some (.int v_machine_state)) (hno : p1 < 1 ∨ 500 < p1 ∨ ¬ v_machine_state = 1) : Met l y_House_run w_House_run ({ frames := 0, cells := 0, slots := 0, locals := 0 } : Room) (va_Pc [.ref h_this, .int p1] (fun U => va_P (dC, dI) cls_all [oc h_this 11 fs_this, oc h_machine 4 fs_machine] U.heap ∧ va_K (dC, dI) cls_all [] U)) (vp_Si (fun r : Int32 => (r = -1))) 0 0 (fun _ => False) := by
  refine Met.ofW (cc := b_House_run) (maxL := 2) (ret := (some .int)) (by decide) rfl ?_
  intro p e s m args below meth c s₁ B hml hv
  obtain ⟨rfl, hP, hK⟩ := hv
  have hx := B.exec
  have hb := B.bytes
  have hr := B.returns
  have hT : ∀ w ∈ lw_good, w.before _ s = true := fun w h => atoms_spec (ws := w_House_run) B.pre w (List.mem_cons_of_mem _ h)
  have hown : s.vm.findClass R_House = some m.cls := findClass_of_methodNamed B.named
  have hlocks := B.notSynchronized
  have hl := lv_entry ([.ref h_this, .int p1]) (n := 2) (Nat.le_of_ble_eq_true rfl)
  rw [lg_entry_eq]
  generalize (lg_sl ([.ref h_this, .int p1]) ++ List.replicate (2 - (lg_sl ([.ref h_this, .int p1])).length) Slot.unset).toArray = ls at hl ⊢
  have hl : lv_has ls 2 [(0, .ref h_this), (1, .int p1)] := hl
  refine lv_iload_n hx hb d_House_run_0 rfl (lv_at hl 1 rfl) ?_
  refine lv_iconst (v := 1) hx hb d_House_run_1 (by decide) ?_
  refine lv_icmp_lt (tgt := 23) hx hb d_House_run_2 (by decide) (fun c1 => ?_) (fun c1 => ?_)
  · refine lv_iconst (v := (-1)) hx hb d_House_run_23 (by decide) ?_
    refine W.iret (v := (-1)) hx hb hr (fun t ht hW => ⟨(-1), rfl, ?_, ht⟩) (fun q h => by cases h) d_House_run_24
    (repeat' split) <;> first | rfl | (simp_all; done) | (exfalso; simp only [i_lt, i_le, i_eq, Int32.reduceToInt] at *; omega) | (subst_vars; simp_all; done)
  · refine lv_iload_n hx hb d_House_run_5 rfl (lv_at hl 1 rfl) ?_
    refine lv_sipush (v := 500) hx hb d_House_run_6 (by decide) ?_
    refine lv_icmp_gt (tgt := 23) hx hb d_House_run_9 (by decide) (fun c2 => ?_) (fun c2 => ?_)
    · refine lv_iconst (v := (-1)) hx hb d_House_run_23 (by decide) ?_
      refine W.iret (v := (-1)) hx hb hr (fun t ht hW => ⟨(-1), rfl, ?_, ht⟩) (fun q h => by cases h) d_House_run_24
      (repeat' split) <;> first | rfl | (simp_all; done) | (exfalso; simp only [i_lt, i_le, i_eq, Int32.reduceToInt] at *; omega) | (subst_vars; simp_all; done)
    · refine lv_aload_n hx hb d_House_run_12 rfl (lv_at hl 0 rfl) ?_
      refine va_get (D := (dC, dI)) (ci := 11) (v := .ref h_machine) (C := R_House) (T := F_House) (N := 11) hx hb hT i_House hown hK hP 0 rfl rfl 10 (by decide) (hT _ fl_House_79) (fun _ h9 => h9) g_this_machine d_House_run_13 ?_
      refine va_get (D := (dC, dI)) (ci := 4) (v := .int v_machine_state) (C := R_Machine) (T := F_Machine) (N := 18) hx hb hT i_Machine hown hK hP 1 rfl rfl 10 (by decide) (hT _ fl_House_142) (fun _ h9 => h9) g_machine_state d_House_run_16 ?_
      refine lv_iconst (v := 1) hx hb d_House_run_19 (by decide) ?_
      refine lv_icmp_eq (tgt := 25) hx hb d_House_run_20 (by decide) (fun c3 => ?_) (fun c3 => ?_)
      · exfalso; simp only [i_lt, i_le, i_eq, Int32.reduceToInt] at hno c1 c2 c3; omega
      · refine lv_iconst (v := (-1)) hx hb d_House_run_23 (by decide) ?_
        refine W.iret (v := (-1)) hx hb hr (fun t ht hW => ⟨(-1), rfl, ?_, ht⟩) (fun q h => by cases h) d_House_run_24
        (repeat' split) <;> first | rfl | (simp_all; done) | (exfalso; simp only [i_lt, i_le, i_eq, Int32.reduceToInt] at *; omega) | (subst_vars; simp_all; done)
set_option maxHeartbeats 1000000 in
set_option maxRecDepth 100000 in
theorem c_House_start_no (l : Launch) (dC : Nat → ClassId) (dI : Nat → Nat → Nat)  (h_this : Nat) (fs_this : List Value) (v_this_ready : Int32) (p1 : Int32) (p2 : Int32) (len_this : fs_this.length = 11) (g_this_ready : fs_this[3]? = some (.int v_this_ready)) (hno : v_this_ready = 0 ∨ p1 < 1 ∨ 64 < p1 ∨ p2 < 4 ∨ 64 < p2) : Met l y_House_start w_House_start ({ frames := 0, cells := 0, slots := 0, locals := 0 } : Room) (va_Pc [.ref h_this, .int p1, .int p2] (fun U => va_P (dC, dI) cls_all [oc h_this 11 fs_this] U.heap ∧ va_K (dC, dI) cls_all [] U)) (vp_Si (fun r : Int32 => (r = 0))) 0 0 (fun _ => False) := by
  refine Met.ofW (cc := b_House_start) (maxL := 3) (ret := (some .boolean)) (by decide) rfl ?_
  intro p e s m args below meth c s₁ B hml hv
  obtain ⟨rfl, hP, hK⟩ := hv
  have hx := B.exec
  have hb := B.bytes
  have hr := B.returns
  have hT : ∀ w ∈ lw_good, w.before _ s = true := fun w h => atoms_spec (ws := w_House_start) B.pre w (List.mem_cons_of_mem _ h)
  have hown : s.vm.findClass R_House = some m.cls := findClass_of_methodNamed B.named
  have hlocks := B.notSynchronized
  have hl := lv_entry ([.ref h_this, .int p1, .int p2]) (n := 3) (Nat.le_of_ble_eq_true rfl)
  rw [lg_entry_eq]
  generalize (lg_sl ([.ref h_this, .int p1, .int p2]) ++ List.replicate (3 - (lg_sl ([.ref h_this, .int p1, .int p2])).length) Slot.unset).toArray = ls at hl ⊢
  have hl : lv_has ls 3 [(0, .ref h_this), (1, .int p1), (2, .int p2)] := hl
  refine lv_aload_n hx hb d_House_start_0 rfl (lv_at hl 0 rfl) ?_
  refine va_get (D := (dC, dI)) (ci := 11) (v := .int v_this_ready) (C := R_House) (T := F_House) (N := 11) hx hb hT i_House hown hK hP 0 rfl rfl 3 (by decide) (hT _ fl_House_116) (fun _ h9 => h9) g_this_ready d_House_start_1 ?_
  refine lv_if_eq (tgt := 29) hx hb d_House_start_4 (by decide) (fun c1 => ?_) (fun c1 => ?_)
  · refine lv_iconst (v := 0) hx hb d_House_start_29 (by decide) ?_
    refine W.zret (v := 0) hx hb hr (by first | rfl | decide | assumption) (fun t ht hW => ⟨0, rfl, ?_, ht⟩) (fun q h => by cases h) d_House_start_30
    (repeat' split) <;> first | rfl | (simp_all; done) | (exfalso; simp only [i_lt, i_le, i_eq, Int32.reduceToInt] at *; omega) | (subst_vars; simp_all; done)
  · refine lv_iload_n hx hb d_House_start_7 rfl (lv_at hl 1 rfl) ?_
    refine lv_iconst (v := 1) hx hb d_House_start_8 (by decide) ?_
    refine lv_icmp_lt (tgt := 29) hx hb d_House_start_9 (by decide) (fun c2 => ?_) (fun c2 => ?_)
    · refine lv_iconst (v := 0) hx hb d_House_start_29 (by decide) ?_
      refine W.zret (v := 0) hx hb hr (by first | rfl | decide | assumption) (fun t ht hW => ⟨0, rfl, ?_, ht⟩) (fun q h => by cases h) d_House_start_30
      (repeat' split) <;> first | rfl | (simp_all; done) | (exfalso; simp only [i_lt, i_le, i_eq, Int32.reduceToInt] at *; omega) | (subst_vars; simp_all; done)
    · refine lv_iload_n hx hb d_House_start_12 rfl (lv_at hl 1 rfl) ?_
      refine lv_bipush (v := 64) hx hb d_House_start_13 (by decide) ?_
      refine lv_icmp_gt (tgt := 29) hx hb d_House_start_15 (by decide) (fun c3 => ?_) (fun c3 => ?_)
      · refine lv_iconst (v := 0) hx hb d_House_start_29 (by decide) ?_
        refine W.zret (v := 0) hx hb hr (by first | rfl | decide | assumption) (fun t ht hW => ⟨0, rfl, ?_, ht⟩) (fun q h => by cases h) d_House_start_30
        (repeat' split) <;> first | rfl | (simp_all; done) | (exfalso; simp only [i_lt, i_le, i_eq, Int32.reduceToInt] at *; omega) | (subst_vars; simp_all; done)
      · refine lv_iload_n hx hb d_House_start_18 rfl (lv_at hl 2 rfl) ?_
        refine lv_iconst (v := 4) hx hb d_House_start_19 (by decide) ?_
        refine lv_icmp_lt (tgt := 29) hx hb d_House_start_20 (by decide) (fun c4 => ?_) (fun c4 => ?_)
        · refine lv_iconst (v := 0) hx hb d_House_start_29 (by decide) ?_
          refine W.zret (v := 0) hx hb hr (by first | rfl | decide | assumption) (fun t ht hW => ⟨0, rfl, ?_, ht⟩) (fun q h => by cases h) d_House_start_30
          (repeat' split) <;> first | rfl | (simp_all; done) | (exfalso; simp only [i_lt, i_le, i_eq, Int32.reduceToInt] at *; omega) | (subst_vars; simp_all; done)
        · refine lv_iload_n hx hb d_House_start_23 rfl (lv_at hl 2 rfl) ?_
          refine lv_bipush (v := 64) hx hb d_House_start_24 (by decide) ?_
          refine lv_icmp_le (tgt := 31) hx hb d_House_start_26 (by decide) (fun c5 => ?_) (fun c5 => ?_)
          · exfalso; simp only [i_lt, i_le, i_eq, Int32.reduceToInt] at hno c1 c2 c3 c4 c5; omega
          · refine lv_iconst (v := 0) hx hb d_House_start_29 (by decide) ?_
            refine W.zret (v := 0) hx hb hr (by first | rfl | decide | assumption) (fun t ht hW => ⟨0, rfl, ?_, ht⟩) (fun q h => by cases h) d_House_start_30
            (repeat' split) <;> first | rfl | (simp_all; done) | (exfalso; simp only [i_lt, i_le, i_eq, Int32.reduceToInt] at *; omega) | (subst_vars; simp_all; done)
set_option maxHeartbeats 1000000 in
set_option maxRecDepth 100000 in
theorem c_Memory_tellRegion (l : Launch) (dC : Nat → ClassId) (dI : Nat → Nat → Nat)  (h_this : Nat) (h_pagesOf : Nat) (h_wordsOf : Nat) (h_objectsOf : Nat) (fs_this : List Value) (v_this_regions : Int32) (k_pagesOf : ClassId) (f_pagesOf : Nat → Int32) (k_wordsOf : ClassId) (f_wordsOf : Nat → Int32) (k_objectsOf : ClassId) (f_objectsOf : Nat → Int32) (p1 : Int32) (p2 : Int32) (len_this : fs_this.length = 14) (g_this_regions : fs_this[8]? = some (.int v_this_regions)) (g_this_pagesOf : fs_this[9]? = some (.ref h_pagesOf)) (g_this_wordsOf : fs_this[10]? = some (.ref h_wordsOf)) (g_this_objectsOf : fs_this[11]? = some (.ref h_objectsOf)) (hrg : v_this_regions ≤ 321) : Met l y_Memory_tellRegion w_Memory_tellRegion ({ frames := 0, cells := 0, slots := 0, locals := 0 } : Room) (va_Pc [.ref h_this, .int p1, .int p2] (fun U => va_P (dC, dI) cls_all [oc h_this 5 fs_this, ic h_pagesOf k_pagesOf 321 f_pagesOf, ic h_wordsOf k_wordsOf 321 f_wordsOf, ic h_objectsOf k_objectsOf 321 f_objectsOf] U.heap ∧ va_K (dC, dI) cls_all [(k_pagesOf, .int), (k_wordsOf, .int), (k_objectsOf, .int)] U)) (vp_Si (fun r : Int32 => (r = if p1 < 0 ∨ v_this_regions ≤ p1 then -1 else if p2 = 0 then f_pagesOf p1.toNatClampNeg else if p2 = 1 then f_wordsOf p1.toNatClampNeg else if p2 = 2 then f_objectsOf p1.toNatClampNeg else -1))) 0 0 (fun _ => False) := by
  refine Met.ofW (cc := b_Memory_tellRegion) (maxL := 3) (ret := (some .int)) (by decide) rfl ?_
  intro p e s m args below meth c s₁ B hml hv
  obtain ⟨rfl, hP, hK⟩ := hv
  have hx := B.exec
  have hb := B.bytes
  have hr := B.returns
  have hT : ∀ w ∈ lw_good, w.before _ s = true := fun w h => atoms_spec (ws := w_Memory_tellRegion) B.pre w (List.mem_cons_of_mem _ h)
  have hown : s.vm.findClass R_Memory = some m.cls := findClass_of_methodNamed B.named
  have hlocks := B.notSynchronized
  have hl := lv_entry ([.ref h_this, .int p1, .int p2]) (n := 3) (Nat.le_of_ble_eq_true rfl)
  rw [lg_entry_eq]
  generalize (lg_sl ([.ref h_this, .int p1, .int p2]) ++ List.replicate (3 - (lg_sl ([.ref h_this, .int p1, .int p2])).length) Slot.unset).toArray = ls at hl ⊢
  have hl : lv_has ls 3 [(0, .ref h_this), (1, .int p1), (2, .int p2)] := hl
  refine lv_iload_n hx hb d_Memory_tellRegion_0 rfl (lv_at hl 1 rfl) ?_
  refine lv_if_lt (tgt := 12) hx hb d_Memory_tellRegion_1 (by decide) (fun c1 => ?_) (fun c1 => ?_)
  · refine lv_iconst (v := (-1)) hx hb d_Memory_tellRegion_12 (by decide) ?_
    refine W.iret (v := (-1)) hx hb hr (fun t ht hW => ⟨(-1), rfl, ?_, ht⟩) (fun q h => by cases h) d_Memory_tellRegion_13
    first | (simp [c1]; done) | ((repeat' split) <;> first | rfl | (simp_all; done) | (exfalso; simp only [i_lt, i_le, i_eq, Int32.reduceToInt] at *; omega) | (subst_vars; simp_all; done))
  · refine lv_iload_n hx hb d_Memory_tellRegion_4 rfl (lv_at hl 1 rfl) ?_
    refine lv_aload_n hx hb d_Memory_tellRegion_5 rfl (lv_at hl 0 rfl) ?_
    refine va_get (D := (dC, dI)) (ci := 5) (v := .int v_this_regions) (C := R_Memory) (T := F_Memory) (N := 14) hx hb hT i_Memory hown hK hP 0 rfl rfl 8 (by decide) (hT _ fl_Memory_64) (fun _ h9 => h9) g_this_regions d_Memory_tellRegion_6 ?_
    refine lv_icmp_lt (tgt := 14) hx hb d_Memory_tellRegion_9 (by decide) (fun c2 => ?_) (fun c2 => ?_)
    · refine lv_iload_n hx hb d_Memory_tellRegion_14 rfl (lv_at hl 2 rfl) ?_
      by_cases c3 : p2 = 0
      · have h13 : ¬ (p2 : Int32).toInt < 0 := by rw [c3]; decide
        have h23 : ¬ 2 < (p2 : Int32).toInt := by rw [c3]; decide
        refine lv_tableIn (off := 25) (tgt := 40) hx hb d_Memory_tellRegion_15 h13 h23 (by rw [c3]; decide) (by decide) ?_
        refine lv_aload_n hx hb d_Memory_tellRegion_40 rfl (lv_at hl 0 rfl) ?_
        refine va_get (D := (dC, dI)) (ci := 5) (v := .ref h_pagesOf) (C := R_Memory) (T := F_Memory) (N := 14) hx hb hT i_Memory hown hK hP 0 rfl rfl 9 (by decide) (hT _ fl_Memory_24) (fun _ h9 => h9) g_this_pagesOf d_Memory_tellRegion_41 ?_
        refine lv_iload_n hx hb d_Memory_tellRegion_44 rfl (lv_at hl 1 rfl) ?_
        refine va_iald hx hb hK hP 1 0 rfl rfl (by first | exact has_in (by assumption) (by assumption) (by assumption) | (refine vp_in_iff.mpr ?_; simp only [i_lt, i_le, i_eq, Int32.reduceToInt] at *; omega)) d_Memory_tellRegion_45 ?_
        refine lv_topi (fun x4 e4 => ?_)
        refine W.iret (v := x4) hx hb hr (fun t ht hW => ⟨x4, rfl, ?_, ht⟩) (fun q h => by cases h) d_Memory_tellRegion_46
        first | (simp [c1, c2, c3]; done) | ((repeat' split) <;> first | rfl | (simp_all; done) | (exfalso; simp only [i_lt, i_le, i_eq, Int32.reduceToInt] at *; omega) | (subst_vars; simp_all; done))
      by_cases c5 : p2 = 1
      · have h15 : ¬ (p2 : Int32).toInt < 0 := by rw [c5]; decide
        have h25 : ¬ 2 < (p2 : Int32).toInt := by rw [c5]; decide
        refine lv_tableIn (off := 32) (tgt := 47) hx hb d_Memory_tellRegion_15 h15 h25 (by rw [c5]; decide) (by decide) ?_
        refine lv_aload_n hx hb d_Memory_tellRegion_47 rfl (lv_at hl 0 rfl) ?_
        refine va_get (D := (dC, dI)) (ci := 5) (v := .ref h_wordsOf) (C := R_Memory) (T := F_Memory) (N := 14) hx hb hT i_Memory hown hK hP 0 rfl rfl 10 (by decide) (hT _ fl_Memory_27) (fun _ h9 => h9) g_this_wordsOf d_Memory_tellRegion_48 ?_
        refine lv_iload_n hx hb d_Memory_tellRegion_51 rfl (lv_at hl 1 rfl) ?_
        refine va_iald hx hb hK hP 2 1 rfl rfl (by first | exact has_in (by assumption) (by assumption) (by assumption) | (refine vp_in_iff.mpr ?_; simp only [i_lt, i_le, i_eq, Int32.reduceToInt] at *; omega)) d_Memory_tellRegion_52 ?_
        refine lv_topi (fun x6 e6 => ?_)
        refine W.iret (v := x6) hx hb hr (fun t ht hW => ⟨x6, rfl, ?_, ht⟩) (fun q h => by cases h) d_Memory_tellRegion_53
        first | (simp [c1, c2, c3, c5]; done) | ((repeat' split) <;> first | rfl | (simp_all; done) | (exfalso; simp only [i_lt, i_le, i_eq, Int32.reduceToInt] at *; omega) | (subst_vars; simp_all; done))
      by_cases c7 : p2 = 2
      · have h17 : ¬ (p2 : Int32).toInt < 0 := by rw [c7]; decide
        have h27 : ¬ 2 < (p2 : Int32).toInt := by rw [c7]; decide
        refine lv_tableIn (off := 39) (tgt := 54) hx hb d_Memory_tellRegion_15 h17 h27 (by rw [c7]; decide) (by decide) ?_
        refine lv_aload_n hx hb d_Memory_tellRegion_54 rfl (lv_at hl 0 rfl) ?_
        refine va_get (D := (dC, dI)) (ci := 5) (v := .ref h_objectsOf) (C := R_Memory) (T := F_Memory) (N := 14) hx hb hT i_Memory hown hK hP 0 rfl rfl 11 (by decide) (hT _ fl_Memory_30) (fun _ h9 => h9) g_this_objectsOf d_Memory_tellRegion_55 ?_
        refine lv_iload_n hx hb d_Memory_tellRegion_58 rfl (lv_at hl 1 rfl) ?_
        refine va_iald hx hb hK hP 3 2 rfl rfl (by first | exact has_in (by assumption) (by assumption) (by assumption) | (refine vp_in_iff.mpr ?_; simp only [i_lt, i_le, i_eq, Int32.reduceToInt] at *; omega)) d_Memory_tellRegion_59 ?_
        refine lv_topi (fun x8 e8 => ?_)
        refine W.iret (v := x8) hx hb hr (fun t ht hW => ⟨x8, rfl, ?_, ht⟩) (fun q h => by cases h) d_Memory_tellRegion_60
        first | (simp [c1, c2, c3, c5, c7]; done) | ((repeat' split) <;> first | rfl | (simp_all; done) | (exfalso; simp only [i_lt, i_le, i_eq, Int32.reduceToInt] at *; omega) | (subst_vars; simp_all; done))
      have h39 : (p2 : Int32).toInt < 0 ∨ 2 < (p2 : Int32).toInt := by
        simp only [i_eq, Int32.reduceToInt] at c3 c5 c7; omega
      refine lv_tableOut (tgt := 61) hx hb d_Memory_tellRegion_15 h39 (by decide) ?_
      refine lv_iconst (v := (-1)) hx hb d_Memory_tellRegion_61 (by decide) ?_
      refine W.iret (v := (-1)) hx hb hr (fun t ht hW => ⟨(-1), rfl, ?_, ht⟩) (fun q h => by cases h) d_Memory_tellRegion_62
      first | (simp [c1, c2, c3, c5, c7]; done) | ((repeat' split) <;> first | rfl | (simp_all; done) | (exfalso; simp only [i_lt, i_le, i_eq, Int32.reduceToInt] at *; omega) | (subst_vars; simp_all; done))
    · refine lv_iconst (v := (-1)) hx hb d_Memory_tellRegion_12 (by decide) ?_
      refine W.iret (v := (-1)) hx hb hr (fun t ht hW => ⟨(-1), rfl, ?_, ht⟩) (fun q h => by cases h) d_Memory_tellRegion_13
      first | (simp [c1, c2]; done) | ((repeat' split) <;> first | rfl | (simp_all; done) | (exfalso; simp only [i_lt, i_le, i_eq, Int32.reduceToInt] at *; omega) | (subst_vars; simp_all; done))
set_option maxHeartbeats 1000000 in
set_option maxRecDepth 100000 in
theorem c_Memory_pagesInUse (l : Launch) (dC : Nat → ClassId) (dI : Nat → Nat → Nat)  (h_this : Nat) (fs_this : List Value) (v_this_inUse : Int32) (len_this : fs_this.length = 14) (g_this_inUse : fs_this[5]? = some (.int v_this_inUse)) : Met l y_Memory_pagesInUse w_Memory_pagesInUse ({ frames := 0, cells := 0, slots := 0, locals := 0 } : Room) (va_Pc [.ref h_this] (fun U => va_P (dC, dI) cls_all [oc h_this 5 fs_this] U.heap ∧ va_K (dC, dI) cls_all [] U)) (vp_Si (fun r : Int32 => (r = v_this_inUse))) 0 0 (fun _ => False) := by
  refine Met.ofW (cc := b_Memory_pagesInUse) (maxL := 1) (ret := (some .int)) (by decide) rfl ?_
  intro p e s m args below meth c s₁ B hml hv
  obtain ⟨rfl, hP, hK⟩ := hv
  have hx := B.exec
  have hb := B.bytes
  have hr := B.returns
  have hT : ∀ w ∈ lw_good, w.before _ s = true := fun w h => atoms_spec (ws := w_Memory_pagesInUse) B.pre w (List.mem_cons_of_mem _ h)
  have hown : s.vm.findClass R_Memory = some m.cls := findClass_of_methodNamed B.named
  have hlocks := B.notSynchronized
  have hl := lv_entry ([.ref h_this]) (n := 1) (Nat.le_of_ble_eq_true rfl)
  rw [lg_entry_eq]
  generalize (lg_sl ([.ref h_this]) ++ List.replicate (1 - (lg_sl ([.ref h_this])).length) Slot.unset).toArray = ls at hl ⊢
  have hl : lv_has ls 1 [(0, .ref h_this)] := hl
  refine lv_aload_n hx hb d_Memory_pagesInUse_0 rfl (lv_at hl 0 rfl) ?_
  refine va_get (D := (dC, dI)) (ci := 5) (v := .int v_this_inUse) (C := R_Memory) (T := F_Memory) (N := 14) hx hb hT i_Memory hown hK hP 0 rfl rfl 5 (by decide) (hT _ fl_Memory_55) (fun _ h9 => h9) g_this_inUse d_Memory_pagesInUse_1 ?_
  refine W.iret (v := v_this_inUse) hx hb hr (fun t ht hW => ⟨v_this_inUse, rfl, ?_, ht⟩) (fun q h => by cases h) d_Memory_pagesInUse_4
  rfl
set_option maxHeartbeats 1000000 in
set_option maxRecDepth 100000 in
theorem c_Memory_regionCount (l : Launch) (dC : Nat → ClassId) (dI : Nat → Nat → Nat)  (h_this : Nat) (fs_this : List Value) (v_this_regions : Int32) (len_this : fs_this.length = 14) (g_this_regions : fs_this[8]? = some (.int v_this_regions)) : Met l y_Memory_regionCount w_Memory_regionCount ({ frames := 0, cells := 0, slots := 0, locals := 0 } : Room) (va_Pc [.ref h_this] (fun U => va_P (dC, dI) cls_all [oc h_this 5 fs_this] U.heap ∧ va_K (dC, dI) cls_all [] U)) (vp_Si (fun r : Int32 => (r = v_this_regions))) 0 0 (fun _ => False) := by
  refine Met.ofW (cc := b_Memory_regionCount) (maxL := 1) (ret := (some .int)) (by decide) rfl ?_
  intro p e s m args below meth c s₁ B hml hv
  obtain ⟨rfl, hP, hK⟩ := hv
  have hx := B.exec
  have hb := B.bytes
  have hr := B.returns
  have hT : ∀ w ∈ lw_good, w.before _ s = true := fun w h => atoms_spec (ws := w_Memory_regionCount) B.pre w (List.mem_cons_of_mem _ h)
  have hown : s.vm.findClass R_Memory = some m.cls := findClass_of_methodNamed B.named
  have hlocks := B.notSynchronized
  have hl := lv_entry ([.ref h_this]) (n := 1) (Nat.le_of_ble_eq_true rfl)
  rw [lg_entry_eq]
  generalize (lg_sl ([.ref h_this]) ++ List.replicate (1 - (lg_sl ([.ref h_this])).length) Slot.unset).toArray = ls at hl ⊢
  have hl : lv_has ls 1 [(0, .ref h_this)] := hl
  refine lv_aload_n hx hb d_Memory_regionCount_0 rfl (lv_at hl 0 rfl) ?_
  refine va_get (D := (dC, dI)) (ci := 5) (v := .int v_this_regions) (C := R_Memory) (T := F_Memory) (N := 14) hx hb hT i_Memory hown hK hP 0 rfl rfl 8 (by decide) (hT _ fl_Memory_64) (fun _ h9 => h9) g_this_regions d_Memory_regionCount_1 ?_
  refine W.iret (v := v_this_regions) hx hb hr (fun t ht hW => ⟨v_this_regions, rfl, ?_, ht⟩) (fun q h => by cases h) d_Memory_regionCount_4
  rfl
set_option maxHeartbeats 1000000 in
set_option maxRecDepth 100000 in
theorem c_Memory_objectsMade (l : Launch) (dC : Nat → ClassId) (dI : Nat → Nat → Nat)  (h_this : Nat) (fs_this : List Value) (v_this_made : Int32) (len_this : fs_this.length = 14) (g_this_made : fs_this[6]? = some (.int v_this_made)) : Met l y_Memory_objectsMade w_Memory_objectsMade ({ frames := 0, cells := 0, slots := 0, locals := 0 } : Room) (va_Pc [.ref h_this] (fun U => va_P (dC, dI) cls_all [oc h_this 5 fs_this] U.heap ∧ va_K (dC, dI) cls_all [] U)) (vp_Si (fun r : Int32 => (r = v_this_made))) 0 0 (fun _ => False) := by
  refine Met.ofW (cc := b_Memory_objectsMade) (maxL := 1) (ret := (some .int)) (by decide) rfl ?_
  intro p e s m args below meth c s₁ B hml hv
  obtain ⟨rfl, hP, hK⟩ := hv
  have hx := B.exec
  have hb := B.bytes
  have hr := B.returns
  have hT : ∀ w ∈ lw_good, w.before _ s = true := fun w h => atoms_spec (ws := w_Memory_objectsMade) B.pre w (List.mem_cons_of_mem _ h)
  have hown : s.vm.findClass R_Memory = some m.cls := findClass_of_methodNamed B.named
  have hlocks := B.notSynchronized
  have hl := lv_entry ([.ref h_this]) (n := 1) (Nat.le_of_ble_eq_true rfl)
  rw [lg_entry_eq]
  generalize (lg_sl ([.ref h_this]) ++ List.replicate (1 - (lg_sl ([.ref h_this])).length) Slot.unset).toArray = ls at hl ⊢
  have hl : lv_has ls 1 [(0, .ref h_this)] := hl
  refine lv_aload_n hx hb d_Memory_objectsMade_0 rfl (lv_at hl 0 rfl) ?_
  refine va_get (D := (dC, dI)) (ci := 5) (v := .int v_this_made) (C := R_Memory) (T := F_Memory) (N := 14) hx hb hT i_Memory hown hK hP 0 rfl rfl 6 (by decide) (hT _ fl_Memory_58) (fun _ h9 => h9) g_this_made d_Memory_objectsMade_1 ?_
  refine W.iret (v := v_this_made) hx hb hr (fun t ht hW => ⟨v_this_made, rfl, ?_, ht⟩) (fun q h => by cases h) d_Memory_objectsMade_4
  rfl
set_option maxHeartbeats 1000000 in
set_option maxRecDepth 100000 in
theorem c_Memory_strayTouches (l : Launch) (dC : Nat → ClassId) (dI : Nat → Nat → Nat)  (h_this : Nat) (fs_this : List Value) (v_this_strays : Int32) (len_this : fs_this.length = 14) (g_this_strays : fs_this[7]? = some (.int v_this_strays)) : Met l y_Memory_strayTouches w_Memory_strayTouches ({ frames := 0, cells := 0, slots := 0, locals := 0 } : Room) (va_Pc [.ref h_this] (fun U => va_P (dC, dI) cls_all [oc h_this 5 fs_this] U.heap ∧ va_K (dC, dI) cls_all [] U)) (vp_Si (fun r : Int32 => (r = v_this_strays))) 0 0 (fun _ => False) := by
  refine Met.ofW (cc := b_Memory_strayTouches) (maxL := 1) (ret := (some .int)) (by decide) rfl ?_
  intro p e s m args below meth c s₁ B hml hv
  obtain ⟨rfl, hP, hK⟩ := hv
  have hx := B.exec
  have hb := B.bytes
  have hr := B.returns
  have hT : ∀ w ∈ lw_good, w.before _ s = true := fun w h => atoms_spec (ws := w_Memory_strayTouches) B.pre w (List.mem_cons_of_mem _ h)
  have hown : s.vm.findClass R_Memory = some m.cls := findClass_of_methodNamed B.named
  have hlocks := B.notSynchronized
  have hl := lv_entry ([.ref h_this]) (n := 1) (Nat.le_of_ble_eq_true rfl)
  rw [lg_entry_eq]
  generalize (lg_sl ([.ref h_this]) ++ List.replicate (1 - (lg_sl ([.ref h_this])).length) Slot.unset).toArray = ls at hl ⊢
  have hl : lv_has ls 1 [(0, .ref h_this)] := hl
  refine lv_aload_n hx hb d_Memory_strayTouches_0 rfl (lv_at hl 0 rfl) ?_
  refine va_get (D := (dC, dI)) (ci := 5) (v := .int v_this_strays) (C := R_Memory) (T := F_Memory) (N := 14) hx hb hT i_Memory hown hK hP 0 rfl rfl 7 (by decide) (hT _ fl_Memory_61) (fun _ h9 => h9) g_this_strays d_Memory_strayTouches_1 ?_
  refine W.iret (v := v_this_strays) hx hb hr (fun t ht hW => ⟨v_this_strays, rfl, ?_, ht⟩) (fun q h => by cases h) d_Memory_strayTouches_4
  rfl
set_option maxHeartbeats 1000000 in
set_option maxRecDepth 100000 in
theorem c_House_region (l : Launch) (dC : Nat → ClassId) (dI : Nat → Nat → Nat)  (h_this : Nat) (h_machine : Nat) (h_machine_memory : Nat) (h_machine_memory_pagesOf : Nat) (h_machine_memory_wordsOf : Nat) (h_machine_memory_objectsOf : Nat) (fs_this : List Value) (fs_machine : List Value) (v_machine_state : Int32) (fs_machine_memory : List Value) (v_machine_memory_regions : Int32) (k_machine_memory_pagesOf : ClassId) (f_machine_memory_pagesOf : Nat → Int32) (k_machine_memory_wordsOf : ClassId) (f_machine_memory_wordsOf : Nat → Int32) (k_machine_memory_objectsOf : ClassId) (f_machine_memory_objectsOf : Nat → Int32) (p1 : Int32) (p2 : Int32) (len_this : fs_this.length = 11) (g_this_machine : fs_this[10]? = some (.ref h_machine)) (len_machine : fs_machine.length = 18) (g_machine_state : fs_machine[10]? = some (.int v_machine_state)) (g_machine_memory : fs_machine[2]? = some (.ref h_machine_memory)) (len_machine_memory : fs_machine_memory.length = 14) (g_machine_memory_regions : fs_machine_memory[8]? = some (.int v_machine_memory_regions)) (g_machine_memory_pagesOf : fs_machine_memory[9]? = some (.ref h_machine_memory_pagesOf)) (g_machine_memory_wordsOf : fs_machine_memory[10]? = some (.ref h_machine_memory_wordsOf)) (g_machine_memory_objectsOf : fs_machine_memory[11]? = some (.ref h_machine_memory_objectsOf)) (hrg : v_machine_memory_regions ≤ 321) : Met l y_House_region w_House_region ({ frames := 1, cells := 0, slots := 0, locals := 22 } : Room) (va_Pc [.ref h_this, .int p1, .int p2] (fun U => va_P (dC, dI) cls_all [oc h_this 11 fs_this, oc h_machine 4 fs_machine, oc h_machine_memory 5 fs_machine_memory, ic h_machine_memory_pagesOf k_machine_memory_pagesOf 321 f_machine_memory_pagesOf, ic h_machine_memory_wordsOf k_machine_memory_wordsOf 321 f_machine_memory_wordsOf, ic h_machine_memory_objectsOf k_machine_memory_objectsOf 321 f_machine_memory_objectsOf] U.heap ∧ va_K (dC, dI) cls_all [(k_machine_memory_pagesOf, .int), (k_machine_memory_wordsOf, .int), (k_machine_memory_objectsOf, .int)] U)) (vp_Si (fun r : Int32 => (r = if v_machine_state = 0 ∨ p1 < 0 ∨ v_machine_memory_regions ≤ p1 then -1 else if p2 = 0 then f_machine_memory_pagesOf p1.toNatClampNeg else if p2 = 1 then f_machine_memory_wordsOf p1.toNatClampNeg else if p2 = 2 then f_machine_memory_objectsOf p1.toNatClampNeg else -1))) 0 0 (fun _ => False) := by
  refine Met.ofW (cc := b_House_region) (maxL := 3) (ret := (some .int)) (by decide) rfl ?_
  intro p e s m args below meth c s₁ B hml hv
  obtain ⟨rfl, hP, hK⟩ := hv
  have hx := B.exec
  have hb := B.bytes
  have hr := B.returns
  have hT : ∀ w ∈ lw_good, w.before _ s = true := fun w h => atoms_spec (ws := w_House_region) B.pre w (List.mem_cons_of_mem _ h)
  have hown : s.vm.findClass R_House = some m.cls := findClass_of_methodNamed B.named
  have hlocks := B.notSynchronized
  have hl := lv_entry ([.ref h_this, .int p1, .int p2]) (n := 3) (Nat.le_of_ble_eq_true rfl)
  rw [lg_entry_eq]
  generalize (lg_sl ([.ref h_this, .int p1, .int p2]) ++ List.replicate (3 - (lg_sl ([.ref h_this, .int p1, .int p2])).length) Slot.unset).toArray = ls at hl ⊢
  have hl : lv_has ls 3 [(0, .ref h_this), (1, .int p1), (2, .int p2)] := hl
  refine lv_aload_n hx hb d_House_region_0 rfl (lv_at hl 0 rfl) ?_
  refine va_get (D := (dC, dI)) (ci := 11) (v := .ref h_machine) (C := R_House) (T := F_House) (N := 11) hx hb hT i_House hown hK hP 0 rfl rfl 10 (by decide) (hT _ fl_House_79) (fun _ h9 => h9) g_this_machine d_House_region_1 ?_
  refine va_get (D := (dC, dI)) (ci := 4) (v := .int v_machine_state) (C := R_Machine) (T := F_Machine) (N := 18) hx hb hT i_Machine hown hK hP 1 rfl rfl 10 (by decide) (hT _ fl_House_142) (fun _ h9 => h9) g_machine_state d_House_region_4 ?_
  refine lv_if_ne (tgt := 12) hx hb d_House_region_7 (by decide) (fun c1 => ?_) (fun c1 => ?_)
  · refine lv_aload_n hx hb d_House_region_12 rfl (lv_at hl 0 rfl) ?_
    refine va_get (D := (dC, dI)) (ci := 11) (v := .ref h_machine) (C := R_House) (T := F_House) (N := 11) hx hb hT i_House hown hK hP 0 rfl rfl 10 (by decide) (hT _ fl_House_79) (fun _ h9 => h9) g_this_machine d_House_region_13 ?_
    refine va_get (D := (dC, dI)) (ci := 4) (v := .ref h_machine_memory) (C := R_Machine) (T := F_Machine) (N := 18) hx hb hT i_Machine hown hK hP 1 rfl rfl 2 (by decide) (hT _ fl_House_158) (fun _ h9 => h9) g_machine_memory d_House_region_16 ?_
    refine lv_iload_n hx hb d_House_region_19 rfl (lv_at hl 1 rfl) ?_
    refine lv_iload_n hx hb d_House_region_20 rfl (lv_at hl 2 rfl) ?_
    have hPc := hP.sub (ws' := [oc h_machine_memory 5 fs_machine_memory, ic h_machine_memory_pagesOf k_machine_memory_pagesOf 321 f_machine_memory_pagesOf, ic h_machine_memory_wordsOf k_machine_memory_wordsOf 321 f_machine_memory_wordsOf, ic h_machine_memory_objectsOf k_machine_memory_objectsOf 321 f_machine_memory_objectsOf]) [2, 3, 4, 5] rfl
    have hKc := hK.sub (tys' := [(k_machine_memory_pagesOf, .int), (k_machine_memory_wordsOf, .int), (k_machine_memory_objectsOf, .int)]) [0, 1, 2] rfl
    refine vp_callSi (va_Run.run (va_runV (As := [.int p1, .int p2]) (rest := []) ⟨hx, hb, hml, hown, hT⟩ (c_Memory_tellRegion l dC dI (h_this := h_machine_memory) (h_pagesOf := h_machine_memory_pagesOf) (h_wordsOf := h_machine_memory_wordsOf) (h_objectsOf := h_machine_memory_objectsOf) (fs_this := fs_machine_memory) (v_this_regions := v_machine_memory_regions) (k_pagesOf := k_machine_memory_pagesOf) (f_pagesOf := f_machine_memory_pagesOf) (k_wordsOf := k_machine_memory_wordsOf) (f_wordsOf := f_machine_memory_wordsOf) (k_objectsOf := k_machine_memory_objectsOf) (f_objectsOf := f_machine_memory_objectsOf) (p1 := p1) (p2 := p2) (len_this := (by first | exact len_machine_memory | (simp only [List.length_set]; exact len_machine_memory))) (g_this_regions := g_machine_memory_regions) (g_this_pagesOf := g_machine_memory_pagesOf) (g_this_wordsOf := g_machine_memory_wordsOf) (g_this_objectsOf := g_machine_memory_objectsOf) (hrg := (by first | assumption | (subst_vars; decide) | omega))) (cwV 2 hT (gV ml_House_162 im_Memory_tellRegion se_Memory_tellRegion ini_Memory co_Memory_tellRegion) rfl rfl rfl (by decide +kernel) ⟨Nat.le_of_ble_eq_true rfl, Nat.le_of_ble_eq_true rfl⟩) ⟨fbS, va_recv hKc hPc (ci := 5) (q0 := 0) rfl rfl, fun U hU hW => ⟨rfl, by rw [hU]; exact hPc, va_K.moved hW.alike hKc⟩⟩ rfl rfl hl.1 rfl (lv_room (Nat.le_of_ble_eq_true rfl)) d_House_region_21 ⟨Nat.le_of_ble_eq_true rfl, Nat.le_of_ble_eq_true rfl⟩)) (fun r2 hr2 => ?_)
    refine W.iret (v := r2) hx hb hr (fun t ht hW => ⟨r2, rfl, ?_, ht⟩) (fun q h => by cases h) d_House_region_24
    first | (simp [c1, hr2]; done) | ((repeat' split) <;> first | rfl | (simp_all; done) | (exfalso; simp only [i_lt, i_le, i_eq, Int32.reduceToInt] at *; omega) | (subst_vars; simp_all; done))
  · refine lv_iconst (v := (-1)) hx hb d_House_region_10 (by decide) ?_
    refine W.iret (v := (-1)) hx hb hr (fun t ht hW => ⟨(-1), rfl, ?_, ht⟩) (fun q h => by cases h) d_House_region_11
    first | (simp [c1]; done) | ((repeat' split) <;> first | rfl | (simp_all; done) | (exfalso; simp only [i_lt, i_le, i_eq, Int32.reduceToInt] at *; omega) | (subst_vars; simp_all; done))
set_option maxHeartbeats 1000000 in
set_option maxRecDepth 100000 in
theorem c_Machine_tell (l : Launch) (dC : Nat → ClassId) (dI : Nat → Nat → Nat)  (h_this : Nat) (h_memory : Nat) (fs_this : List Value) (v_this_stepsDone : Int32) (v_this_calls : Int32) (v_this_printedCount : Int32) (v_this_inputCount : Int32) (v_this_errorsCame : Int32) (fs_memory : List Value) (v_memory_inUse : Int32) (v_memory_regions : Int32) (v_memory_made : Int32) (v_memory_strays : Int32) (p1 : Int32) (len_this : fs_this.length = 18) (g_this_stepsDone : fs_this[12]? = some (.int v_this_stepsDone)) (g_this_calls : fs_this[6]? = some (.int v_this_calls)) (g_this_printedCount : fs_this[17]? = some (.int v_this_printedCount)) (g_this_inputCount : fs_this[15]? = some (.int v_this_inputCount)) (g_this_errorsCame : fs_this[13]? = some (.int v_this_errorsCame)) (g_this_memory : fs_this[2]? = some (.ref h_memory)) (len_memory : fs_memory.length = 14) (g_memory_inUse : fs_memory[5]? = some (.int v_memory_inUse)) (g_memory_regions : fs_memory[8]? = some (.int v_memory_regions)) (g_memory_made : fs_memory[6]? = some (.int v_memory_made)) (g_memory_strays : fs_memory[7]? = some (.int v_memory_strays)) : Met l y_Machine_tell w_Machine_tell ({ frames := 1, cells := 0, slots := 0, locals := 20 } : Room) (va_Pc [.ref h_this, .int p1] (fun U => va_P (dC, dI) cls_all [oc h_this 4 fs_this, oc h_memory 5 fs_memory] U.heap ∧ va_K (dC, dI) cls_all [] U)) (vp_Si (fun r : Int32 => (r = if p1 = 0 then v_this_stepsDone else if p1 = 1 then v_memory_inUse else if p1 = 2 then v_memory_regions else if p1 = 3 then v_this_calls else if p1 = 4 then v_this_printedCount else if p1 = 5 then v_memory_made else if p1 = 6 then v_this_inputCount else if p1 = 7 then v_this_errorsCame else v_memory_strays))) 0 0 (fun _ => False) := by
  refine Met.ofW (cc := b_Machine_tell) (maxL := 2) (ret := (some .int)) (by decide) rfl ?_
  intro p e s m args below meth c s₁ B hml hv
  obtain ⟨rfl, hP, hK⟩ := hv
  have hx := B.exec
  have hb := B.bytes
  have hr := B.returns
  have hT : ∀ w ∈ lw_good, w.before _ s = true := fun w h => atoms_spec (ws := w_Machine_tell) B.pre w (List.mem_cons_of_mem _ h)
  have hown : s.vm.findClass R_Machine = some m.cls := findClass_of_methodNamed B.named
  have hlocks := B.notSynchronized
  have hl := lv_entry ([.ref h_this, .int p1]) (n := 2) (Nat.le_of_ble_eq_true rfl)
  rw [lg_entry_eq]
  generalize (lg_sl ([.ref h_this, .int p1]) ++ List.replicate (2 - (lg_sl ([.ref h_this, .int p1])).length) Slot.unset).toArray = ls at hl ⊢
  have hl : lv_has ls 2 [(0, .ref h_this), (1, .int p1)] := hl
  refine lv_iload_n hx hb d_Machine_tell_0 rfl (lv_at hl 1 rfl) ?_
  by_cases c1 : p1 = 0
  · have h11 : ¬ (p1 : Int32).toInt < 0 := by rw [c1]; decide
    have h21 : ¬ 7 < (p1 : Int32).toInt := by rw [c1]; decide
    refine lv_tableIn (off := 47) (tgt := 48) hx hb d_Machine_tell_1 h11 h21 (by rw [c1]; decide) (by decide) ?_
    refine lv_aload_n hx hb d_Machine_tell_48 rfl (lv_at hl 0 rfl) ?_
    refine va_get (D := (dC, dI)) (ci := 4) (v := .int v_this_stepsDone) (C := R_Machine) (T := F_Machine) (N := 18) hx hb hT i_Machine hown hK hP 0 rfl rfl 12 (by decide) (hT _ fl_Machine_67) (fun _ h9 => h9) g_this_stepsDone d_Machine_tell_49 ?_
    refine W.iret (v := v_this_stepsDone) hx hb hr (fun t ht hW => ⟨v_this_stepsDone, rfl, ?_, ht⟩) (fun q h => by cases h) d_Machine_tell_52
    first | (simp [c1]; done) | ((repeat' split) <;> first | rfl | (simp_all; done) | (exfalso; simp only [i_lt, i_le, i_eq, Int32.reduceToInt] at *; omega) | (subst_vars; simp_all; done))
  by_cases c2 : p1 = 1
  · have h12 : ¬ (p1 : Int32).toInt < 0 := by rw [c2]; decide
    have h22 : ¬ 7 < (p1 : Int32).toInt := by rw [c2]; decide
    refine lv_tableIn (off := 52) (tgt := 53) hx hb d_Machine_tell_1 h12 h22 (by rw [c2]; decide) (by decide) ?_
    refine lv_aload_n hx hb d_Machine_tell_53 rfl (lv_at hl 0 rfl) ?_
    refine va_get (D := (dC, dI)) (ci := 4) (v := .ref h_memory) (C := R_Machine) (T := F_Machine) (N := 18) hx hb hT i_Machine hown hK hP 0 rfl rfl 2 (by decide) (hT _ fl_Machine_16) (fun _ h9 => h9) g_this_memory d_Machine_tell_54 ?_
    have hPc := hP.sub (ws' := [oc h_memory 5 fs_memory]) [1] rfl
    have hKc := hK.sub (tys' := []) [] rfl
    refine vp_callSi (va_Run.run (va_runV (As := []) (rest := []) ⟨hx, hb, hml, hown, hT⟩ (c_Memory_pagesInUse l dC dI (h_this := h_memory) (fs_this := fs_memory) (v_this_inUse := v_memory_inUse) (len_this := (by first | exact len_memory | (simp only [List.length_set]; exact len_memory))) (g_this_inUse := g_memory_inUse)) (cwV 0 hT (gV ml_Machine_227 im_Memory_pagesInUse se_Memory_pagesInUse ini_Memory co_Memory_pagesInUse) rfl rfl rfl (by decide +kernel) ⟨Nat.le_of_ble_eq_true rfl, Nat.le_of_ble_eq_true rfl⟩) ⟨fbS, va_recv hKc hPc (ci := 5) (q0 := 0) rfl rfl, fun U hU hW => ⟨rfl, by rw [hU]; exact hPc, va_K.moved hW.alike hKc⟩⟩ rfl rfl hl.1 rfl (lv_room (Nat.le_of_ble_eq_true rfl)) d_Machine_tell_57 ⟨Nat.le_of_ble_eq_true rfl, Nat.le_of_ble_eq_true rfl⟩)) (fun r3 hr3 => ?_)
    refine W.iret (v := r3) hx hb hr (fun t ht hW => ⟨r3, rfl, ?_, ht⟩) (fun q h => by cases h) d_Machine_tell_60
    first | (simp [c1, c2, hr3]; done) | ((repeat' split) <;> first | rfl | (simp_all; done) | (exfalso; simp only [i_lt, i_le, i_eq, Int32.reduceToInt] at *; omega) | (subst_vars; simp_all; done))
  by_cases c4 : p1 = 2
  · have h14 : ¬ (p1 : Int32).toInt < 0 := by rw [c4]; decide
    have h24 : ¬ 7 < (p1 : Int32).toInt := by rw [c4]; decide
    refine lv_tableIn (off := 60) (tgt := 61) hx hb d_Machine_tell_1 h14 h24 (by rw [c4]; decide) (by decide) ?_
    refine lv_aload_n hx hb d_Machine_tell_61 rfl (lv_at hl 0 rfl) ?_
    refine va_get (D := (dC, dI)) (ci := 4) (v := .ref h_memory) (C := R_Machine) (T := F_Machine) (N := 18) hx hb hT i_Machine hown hK hP 0 rfl rfl 2 (by decide) (hT _ fl_Machine_16) (fun _ h9 => h9) g_this_memory d_Machine_tell_62 ?_
    have hPc := hP.sub (ws' := [oc h_memory 5 fs_memory]) [1] rfl
    have hKc := hK.sub (tys' := []) [] rfl
    refine vp_callSi (va_Run.run (va_runV (As := []) (rest := []) ⟨hx, hb, hml, hown, hT⟩ (c_Memory_regionCount l dC dI (h_this := h_memory) (fs_this := fs_memory) (v_this_regions := v_memory_regions) (len_this := (by first | exact len_memory | (simp only [List.length_set]; exact len_memory))) (g_this_regions := g_memory_regions)) (cwV 0 hT (gV ml_Machine_207 im_Memory_regionCount se_Memory_regionCount ini_Memory co_Memory_regionCount) rfl rfl rfl (by decide +kernel) ⟨Nat.le_of_ble_eq_true rfl, Nat.le_of_ble_eq_true rfl⟩) ⟨fbS, va_recv hKc hPc (ci := 5) (q0 := 0) rfl rfl, fun U hU hW => ⟨rfl, by rw [hU]; exact hPc, va_K.moved hW.alike hKc⟩⟩ rfl rfl hl.1 rfl (lv_room (Nat.le_of_ble_eq_true rfl)) d_Machine_tell_65 ⟨Nat.le_of_ble_eq_true rfl, Nat.le_of_ble_eq_true rfl⟩)) (fun r5 hr5 => ?_)
    refine W.iret (v := r5) hx hb hr (fun t ht hW => ⟨r5, rfl, ?_, ht⟩) (fun q h => by cases h) d_Machine_tell_68
    first | (simp [c1, c2, c4, hr5]; done) | ((repeat' split) <;> first | rfl | (simp_all; done) | (exfalso; simp only [i_lt, i_le, i_eq, Int32.reduceToInt] at *; omega) | (subst_vars; simp_all; done))
  by_cases c6 : p1 = 3
  · have h16 : ¬ (p1 : Int32).toInt < 0 := by rw [c6]; decide
    have h26 : ¬ 7 < (p1 : Int32).toInt := by rw [c6]; decide
    refine lv_tableIn (off := 68) (tgt := 69) hx hb d_Machine_tell_1 h16 h26 (by rw [c6]; decide) (by decide) ?_
    refine lv_aload_n hx hb d_Machine_tell_69 rfl (lv_at hl 0 rfl) ?_
    refine va_get (D := (dC, dI)) (ci := 4) (v := .int v_this_calls) (C := R_Machine) (T := F_Machine) (N := 18) hx hb hT i_Machine hown hK hP 0 rfl rfl 6 (by decide) (hT _ fl_Machine_55) (fun _ h9 => h9) g_this_calls d_Machine_tell_70 ?_
    refine W.iret (v := v_this_calls) hx hb hr (fun t ht hW => ⟨v_this_calls, rfl, ?_, ht⟩) (fun q h => by cases h) d_Machine_tell_73
    first | (simp [c1, c2, c4, c6]; done) | ((repeat' split) <;> first | rfl | (simp_all; done) | (exfalso; simp only [i_lt, i_le, i_eq, Int32.reduceToInt] at *; omega) | (subst_vars; simp_all; done))
  by_cases c7 : p1 = 4
  · have h17 : ¬ (p1 : Int32).toInt < 0 := by rw [c7]; decide
    have h27 : ¬ 7 < (p1 : Int32).toInt := by rw [c7]; decide
    refine lv_tableIn (off := 73) (tgt := 74) hx hb d_Machine_tell_1 h17 h27 (by rw [c7]; decide) (by decide) ?_
    refine lv_aload_n hx hb d_Machine_tell_74 rfl (lv_at hl 0 rfl) ?_
    refine va_get (D := (dC, dI)) (ci := 4) (v := .int v_this_printedCount) (C := R_Machine) (T := F_Machine) (N := 18) hx hb hT i_Machine hown hK hP 0 rfl rfl 17 (by decide) (hT _ fl_Machine_76) (fun _ h9 => h9) g_this_printedCount d_Machine_tell_75 ?_
    refine W.iret (v := v_this_printedCount) hx hb hr (fun t ht hW => ⟨v_this_printedCount, rfl, ?_, ht⟩) (fun q h => by cases h) d_Machine_tell_78
    first | (simp [c1, c2, c4, c6, c7]; done) | ((repeat' split) <;> first | rfl | (simp_all; done) | (exfalso; simp only [i_lt, i_le, i_eq, Int32.reduceToInt] at *; omega) | (subst_vars; simp_all; done))
  by_cases c8 : p1 = 5
  · have h18 : ¬ (p1 : Int32).toInt < 0 := by rw [c8]; decide
    have h28 : ¬ 7 < (p1 : Int32).toInt := by rw [c8]; decide
    refine lv_tableIn (off := 78) (tgt := 79) hx hb d_Machine_tell_1 h18 h28 (by rw [c8]; decide) (by decide) ?_
    refine lv_aload_n hx hb d_Machine_tell_79 rfl (lv_at hl 0 rfl) ?_
    refine va_get (D := (dC, dI)) (ci := 4) (v := .ref h_memory) (C := R_Machine) (T := F_Machine) (N := 18) hx hb hT i_Machine hown hK hP 0 rfl rfl 2 (by decide) (hT _ fl_Machine_16) (fun _ h9 => h9) g_this_memory d_Machine_tell_80 ?_
    have hPc := hP.sub (ws' := [oc h_memory 5 fs_memory]) [1] rfl
    have hKc := hK.sub (tys' := []) [] rfl
    refine vp_callSi (va_Run.run (va_runV (As := []) (rest := []) ⟨hx, hb, hml, hown, hT⟩ (c_Memory_objectsMade l dC dI (h_this := h_memory) (fs_this := fs_memory) (v_this_made := v_memory_made) (len_this := (by first | exact len_memory | (simp only [List.length_set]; exact len_memory))) (g_this_made := g_memory_made)) (cwV 0 hT (gV ml_Machine_230 im_Memory_objectsMade se_Memory_objectsMade ini_Memory co_Memory_objectsMade) rfl rfl rfl (by decide +kernel) ⟨Nat.le_of_ble_eq_true rfl, Nat.le_of_ble_eq_true rfl⟩) ⟨fbS, va_recv hKc hPc (ci := 5) (q0 := 0) rfl rfl, fun U hU hW => ⟨rfl, by rw [hU]; exact hPc, va_K.moved hW.alike hKc⟩⟩ rfl rfl hl.1 rfl (lv_room (Nat.le_of_ble_eq_true rfl)) d_Machine_tell_83 ⟨Nat.le_of_ble_eq_true rfl, Nat.le_of_ble_eq_true rfl⟩)) (fun r9 hr9 => ?_)
    refine W.iret (v := r9) hx hb hr (fun t ht hW => ⟨r9, rfl, ?_, ht⟩) (fun q h => by cases h) d_Machine_tell_86
    first | (simp [c1, c2, c4, c6, c7, c8, hr9]; done) | ((repeat' split) <;> first | rfl | (simp_all; done) | (exfalso; simp only [i_lt, i_le, i_eq, Int32.reduceToInt] at *; omega) | (subst_vars; simp_all; done))
  by_cases c10 : p1 = 6
  · have h110 : ¬ (p1 : Int32).toInt < 0 := by rw [c10]; decide
    have h210 : ¬ 7 < (p1 : Int32).toInt := by rw [c10]; decide
    refine lv_tableIn (off := 86) (tgt := 87) hx hb d_Machine_tell_1 h110 h210 (by rw [c10]; decide) (by decide) ?_
    refine lv_aload_n hx hb d_Machine_tell_87 rfl (lv_at hl 0 rfl) ?_
    refine va_get (D := (dC, dI)) (ci := 4) (v := .int v_this_inputCount) (C := R_Machine) (T := F_Machine) (N := 18) hx hb hT i_Machine hown hK hP 0 rfl rfl 15 (by decide) (hT _ fl_Machine_73) (fun _ h9 => h9) g_this_inputCount d_Machine_tell_88 ?_
    refine W.iret (v := v_this_inputCount) hx hb hr (fun t ht hW => ⟨v_this_inputCount, rfl, ?_, ht⟩) (fun q h => by cases h) d_Machine_tell_91
    first | (simp [c1, c2, c4, c6, c7, c8, c10]; done) | ((repeat' split) <;> first | rfl | (simp_all; done) | (exfalso; simp only [i_lt, i_le, i_eq, Int32.reduceToInt] at *; omega) | (subst_vars; simp_all; done))
  by_cases c11 : p1 = 7
  · have h111 : ¬ (p1 : Int32).toInt < 0 := by rw [c11]; decide
    have h211 : ¬ 7 < (p1 : Int32).toInt := by rw [c11]; decide
    refine lv_tableIn (off := 91) (tgt := 92) hx hb d_Machine_tell_1 h111 h211 (by rw [c11]; decide) (by decide) ?_
    refine lv_aload_n hx hb d_Machine_tell_92 rfl (lv_at hl 0 rfl) ?_
    refine va_get (D := (dC, dI)) (ci := 4) (v := .int v_this_errorsCame) (C := R_Machine) (T := F_Machine) (N := 18) hx hb hT i_Machine hown hK hP 0 rfl rfl 13 (by decide) (hT _ fl_Machine_70) (fun _ h9 => h9) g_this_errorsCame d_Machine_tell_93 ?_
    refine W.iret (v := v_this_errorsCame) hx hb hr (fun t ht hW => ⟨v_this_errorsCame, rfl, ?_, ht⟩) (fun q h => by cases h) d_Machine_tell_96
    first | (simp [c1, c2, c4, c6, c7, c8, c10, c11]; done) | ((repeat' split) <;> first | rfl | (simp_all; done) | (exfalso; simp only [i_lt, i_le, i_eq, Int32.reduceToInt] at *; omega) | (subst_vars; simp_all; done))
  have h312 : (p1 : Int32).toInt < 0 ∨ 7 < (p1 : Int32).toInt := by
    simp only [i_eq, Int32.reduceToInt] at c1 c2 c4 c6 c7 c8 c10 c11; omega
  refine lv_tableOut (tgt := 97) hx hb d_Machine_tell_1 h312 (by decide) ?_
  refine lv_aload_n hx hb d_Machine_tell_97 rfl (lv_at hl 0 rfl) ?_
  refine va_get (D := (dC, dI)) (ci := 4) (v := .ref h_memory) (C := R_Machine) (T := F_Machine) (N := 18) hx hb hT i_Machine hown hK hP 0 rfl rfl 2 (by decide) (hT _ fl_Machine_16) (fun _ h9 => h9) g_this_memory d_Machine_tell_98 ?_
  have hPc := hP.sub (ws' := [oc h_memory 5 fs_memory]) [1] rfl
  have hKc := hK.sub (tys' := []) [] rfl
  refine vp_callSi (va_Run.run (va_runV (As := []) (rest := []) ⟨hx, hb, hml, hown, hT⟩ (c_Memory_strayTouches l dC dI (h_this := h_memory) (fs_this := fs_memory) (v_this_strays := v_memory_strays) (len_this := (by first | exact len_memory | (simp only [List.length_set]; exact len_memory))) (g_this_strays := g_memory_strays)) (cwV 0 hT (gV ml_Machine_233 im_Memory_strayTouches se_Memory_strayTouches ini_Memory co_Memory_strayTouches) rfl rfl rfl (by decide +kernel) ⟨Nat.le_of_ble_eq_true rfl, Nat.le_of_ble_eq_true rfl⟩) ⟨fbS, va_recv hKc hPc (ci := 5) (q0 := 0) rfl rfl, fun U hU hW => ⟨rfl, by rw [hU]; exact hPc, va_K.moved hW.alike hKc⟩⟩ rfl rfl hl.1 rfl (lv_room (Nat.le_of_ble_eq_true rfl)) d_Machine_tell_101 ⟨Nat.le_of_ble_eq_true rfl, Nat.le_of_ble_eq_true rfl⟩)) (fun r13 hr13 => ?_)
  refine W.iret (v := r13) hx hb hr (fun t ht hW => ⟨r13, rfl, ?_, ht⟩) (fun q h => by cases h) d_Machine_tell_104
  first | (simp [c1, c2, c4, c6, c7, c8, c10, c11, hr13]; done) | ((repeat' split) <;> first | rfl | (simp_all; done) | (exfalso; simp only [i_lt, i_le, i_eq, Int32.reduceToInt] at *; omega) | (subst_vars; simp_all; done))
set_option maxHeartbeats 1000000 in
set_option maxRecDepth 100000 in
theorem c_House_world (l : Launch) (dC : Nat → ClassId) (dI : Nat → Nat → Nat)  (h_this : Nat) (h_machine : Nat) (h_machine_memory : Nat) (fs_this : List Value) (fs_machine : List Value) (v_machine_state : Int32) (v_machine_stepsDone : Int32) (v_machine_calls : Int32) (v_machine_printedCount : Int32) (v_machine_inputCount : Int32) (v_machine_errorsCame : Int32) (fs_machine_memory : List Value) (v_machine_memory_inUse : Int32) (v_machine_memory_regions : Int32) (v_machine_memory_made : Int32) (v_machine_memory_strays : Int32) (p1 : Int32) (len_this : fs_this.length = 11) (g_this_machine : fs_this[10]? = some (.ref h_machine)) (len_machine : fs_machine.length = 18) (g_machine_state : fs_machine[10]? = some (.int v_machine_state)) (g_machine_stepsDone : fs_machine[12]? = some (.int v_machine_stepsDone)) (g_machine_calls : fs_machine[6]? = some (.int v_machine_calls)) (g_machine_printedCount : fs_machine[17]? = some (.int v_machine_printedCount)) (g_machine_inputCount : fs_machine[15]? = some (.int v_machine_inputCount)) (g_machine_errorsCame : fs_machine[13]? = some (.int v_machine_errorsCame)) (g_machine_memory : fs_machine[2]? = some (.ref h_machine_memory)) (len_machine_memory : fs_machine_memory.length = 14) (g_machine_memory_inUse : fs_machine_memory[5]? = some (.int v_machine_memory_inUse)) (g_machine_memory_regions : fs_machine_memory[8]? = some (.int v_machine_memory_regions)) (g_machine_memory_made : fs_machine_memory[6]? = some (.int v_machine_memory_made)) (g_machine_memory_strays : fs_machine_memory[7]? = some (.int v_machine_memory_strays)) : Met l y_House_world w_House_world ({ frames := 2, cells := 0, slots := 0, locals := 41 } : Room) (va_Pc [.ref h_this, .int p1] (fun U => va_P (dC, dI) cls_all [oc h_this 11 fs_this, oc h_machine 4 fs_machine, oc h_machine_memory 5 fs_machine_memory] U.heap ∧ va_K (dC, dI) cls_all [] U)) (vp_Si (fun r : Int32 => (r = if p1 < 0 ∨ 8 < p1 then -1 else if v_machine_state = 0 then 0 else if p1 = 0 then v_machine_stepsDone else if p1 = 1 then v_machine_memory_inUse else if p1 = 2 then v_machine_memory_regions else if p1 = 3 then v_machine_calls else if p1 = 4 then v_machine_printedCount else if p1 = 5 then v_machine_memory_made else if p1 = 6 then v_machine_inputCount else if p1 = 7 then v_machine_errorsCame else v_machine_memory_strays))) 0 0 (fun _ => False) := by
  refine Met.ofW (cc := b_House_world) (maxL := 2) (ret := (some .int)) (by decide) rfl ?_
  intro p e s m args below meth c s₁ B hml hv
  obtain ⟨rfl, hP, hK⟩ := hv
  have hx := B.exec
  have hb := B.bytes
  have hr := B.returns
  have hT : ∀ w ∈ lw_good, w.before _ s = true := fun w h => atoms_spec (ws := w_House_world) B.pre w (List.mem_cons_of_mem _ h)
  have hown : s.vm.findClass R_House = some m.cls := findClass_of_methodNamed B.named
  have hlocks := B.notSynchronized
  have hl := lv_entry ([.ref h_this, .int p1]) (n := 2) (Nat.le_of_ble_eq_true rfl)
  rw [lg_entry_eq]
  generalize (lg_sl ([.ref h_this, .int p1]) ++ List.replicate (2 - (lg_sl ([.ref h_this, .int p1])).length) Slot.unset).toArray = ls at hl ⊢
  have hl : lv_has ls 2 [(0, .ref h_this), (1, .int p1)] := hl
  refine lv_iload_n hx hb d_House_world_0 rfl (lv_at hl 1 rfl) ?_
  refine lv_if_lt (tgt := 10) hx hb d_House_world_1 (by decide) (fun c1 => ?_) (fun c1 => ?_)
  · refine lv_iconst (v := (-1)) hx hb d_House_world_10 (by decide) ?_
    refine W.iret (v := (-1)) hx hb hr (fun t ht hW => ⟨(-1), rfl, ?_, ht⟩) (fun q h => by cases h) d_House_world_11
    first | (simp [c1]; done) | ((repeat' split) <;> first | rfl | (simp_all; done) | (exfalso; simp only [i_lt, i_le, i_eq, Int32.reduceToInt] at *; omega) | (subst_vars; simp_all; done))
  · refine lv_iload_n hx hb d_House_world_4 rfl (lv_at hl 1 rfl) ?_
    refine lv_bipush (v := 8) hx hb d_House_world_5 (by decide) ?_
    refine lv_icmp_le (tgt := 12) hx hb d_House_world_7 (by decide) (fun c2 => ?_) (fun c2 => ?_)
    · refine lv_aload_n hx hb d_House_world_12 rfl (lv_at hl 0 rfl) ?_
      refine va_get (D := (dC, dI)) (ci := 11) (v := .ref h_machine) (C := R_House) (T := F_House) (N := 11) hx hb hT i_House hown hK hP 0 rfl rfl 10 (by decide) (hT _ fl_House_79) (fun _ h9 => h9) g_this_machine d_House_world_13 ?_
      refine va_get (D := (dC, dI)) (ci := 4) (v := .int v_machine_state) (C := R_Machine) (T := F_Machine) (N := 18) hx hb hT i_Machine hown hK hP 1 rfl rfl 10 (by decide) (hT _ fl_House_142) (fun _ h9 => h9) g_machine_state d_House_world_16 ?_
      refine lv_if_ne (tgt := 26) hx hb d_House_world_19 (by decide) (fun c3 => ?_) (fun c3 => ?_)
      · refine lv_aload_n hx hb d_House_world_26 rfl (lv_at hl 0 rfl) ?_
        refine va_get (D := (dC, dI)) (ci := 11) (v := .ref h_machine) (C := R_House) (T := F_House) (N := 11) hx hb hT i_House hown hK hP 0 rfl rfl 10 (by decide) (hT _ fl_House_79) (fun _ h9 => h9) g_this_machine d_House_world_27 ?_
        refine lv_iload_n hx hb d_House_world_30 rfl (lv_at hl 1 rfl) ?_
        have hPc := hP.sub (ws' := [oc h_machine 4 fs_machine, oc h_machine_memory 5 fs_machine_memory]) [1, 2] rfl
        have hKc := hK.sub (tys' := []) [] rfl
        refine vp_callSi (va_Run.run (va_runV (As := [.int p1]) (rest := []) ⟨hx, hb, hml, hown, hT⟩ (c_Machine_tell l dC dI (h_this := h_machine) (h_memory := h_machine_memory) (fs_this := fs_machine) (v_this_stepsDone := v_machine_stepsDone) (v_this_calls := v_machine_calls) (v_this_printedCount := v_machine_printedCount) (v_this_inputCount := v_machine_inputCount) (v_this_errorsCame := v_machine_errorsCame) (fs_memory := fs_machine_memory) (v_memory_inUse := v_machine_memory_inUse) (v_memory_regions := v_machine_memory_regions) (v_memory_made := v_machine_memory_made) (v_memory_strays := v_machine_memory_strays) (p1 := p1) (len_this := (by first | exact len_machine | (simp only [List.length_set]; exact len_machine))) (g_this_stepsDone := g_machine_stepsDone) (g_this_calls := g_machine_calls) (g_this_printedCount := g_machine_printedCount) (g_this_inputCount := g_machine_inputCount) (g_this_errorsCame := g_machine_errorsCame) (g_this_memory := g_machine_memory) (len_memory := (by first | exact len_machine_memory | (simp only [List.length_set]; exact len_machine_memory))) (g_memory_inUse := g_machine_memory_inUse) (g_memory_regions := g_machine_memory_regions) (g_memory_made := g_machine_memory_made) (g_memory_strays := g_machine_memory_strays)) (cwV 1 hT (gV ml_House_155 im_Machine_tell se_Machine_tell ini_Machine co_Machine_tell) rfl rfl rfl (by decide +kernel) ⟨Nat.le_of_ble_eq_true rfl, Nat.le_of_ble_eq_true rfl⟩) ⟨fbS, va_recv hKc hPc (ci := 4) (q0 := 0) rfl rfl, fun U hU hW => ⟨rfl, by rw [hU]; exact hPc, va_K.moved hW.alike hKc⟩⟩ rfl rfl hl.1 rfl (lv_room (Nat.le_of_ble_eq_true rfl)) d_House_world_31 ⟨Nat.le_of_ble_eq_true rfl, Nat.le_of_ble_eq_true rfl⟩)) (fun r4 hr4 => ?_)
        refine W.iret (v := r4) hx hb hr (fun t ht hW => ⟨r4, rfl, ?_, ht⟩) (fun q h => by cases h) d_House_world_34
        first | (simp [c1, c2, c3, hr4]; done) | ((repeat' split) <;> first | rfl | (simp_all; done) | (exfalso; simp only [i_lt, i_le, i_eq, Int32.reduceToInt] at *; omega) | (subst_vars; simp_all; done))
      · refine lv_iconst (v := 0) hx hb d_House_world_22 (by decide) ?_
        refine lv_goto (tgt := 34) hx hb d_House_world_23 (by decide) ?_
        refine W.iret (v := 0) hx hb hr (fun t ht hW => ⟨0, rfl, ?_, ht⟩) (fun q h => by cases h) d_House_world_34
        first | (simp [c1, c2, c3]; done) | ((repeat' split) <;> first | rfl | (simp_all; done) | (exfalso; simp only [i_lt, i_le, i_eq, Int32.reduceToInt] at *; omega) | (subst_vars; simp_all; done))
    · refine lv_iconst (v := (-1)) hx hb d_House_world_10 (by decide) ?_
      refine W.iret (v := (-1)) hx hb hr (fun t ht hW => ⟨(-1), rfl, ?_, ht⟩) (fun q h => by cases h) d_House_world_11
      first | (simp [c1, c2]; done) | ((repeat' split) <;> first | rfl | (simp_all; done) | (exfalso; simp only [i_lt, i_le, i_eq, Int32.reduceToInt] at *; omega) | (subst_vars; simp_all; done))
