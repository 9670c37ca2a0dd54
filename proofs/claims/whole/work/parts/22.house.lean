set_option maxHeartbeats 1000000 in
set_option maxRecDepth 100000 in
theorem c_House_end (l : Launch) (dC : Nat → ClassId) (dI : Nat → Nat → Nat) (sz : Nat) (h_this : Nat) (fs_this : List Value) (v_this_length : Int32) (p1 : Int32) (len_this : fs_this.length = 11) (g_this_length : fs_this[1]? = some (.int v_this_length)) : Met l y_House_end w_House_end ({ frames := 0, cells := 0, slots := 0, locals := 0 } : Room) (va_Pc [.ref h_this, .int p1] (fun U => U.heap.size = sz ∧ va_P (dC, dI) cls_all [oc h_this 11 fs_this] U.heap ∧ va_K (dC, dI) cls_all [] U ∧ va_D (fun _ => True) [oc h_this 11 fs_this])) (va_Qi (fun (z r : Int32) => z = r) (fun r t => ∃ (fs_this' : List Value), (fs_this'.length = 11 ∧ (∀ j : Nat, j ≠ 1 → fs_this'[j]? = fs_this[j]?) ∧ fs_this'[1]? = some (.int (if p1 < 0 ∨ v_this_length < p1 then v_this_length else p1)) ∧ (r = if p1 < 0 ∨ v_this_length < p1 then -1 else p1)) ∧ va_P (dC, dI) cls_all [oc h_this 11 fs_this'] t.heap ∧ va_K (dC, dI) cls_all [] t ∧ va_D (va_A [oc h_this 11 fs_this] sz) [oc h_this 11 fs_this']) (va_A [oc h_this 11 fs_this] sz)) 0 0 (va_A [oc h_this 11 fs_this] sz) := by
  refine Met.ofW (cc := b_House_end) (maxL := 2) (ret := (some .int)) (by decide) rfl ?_
  intro p e s m args below meth c s₁ B hml hv
  obtain ⟨rfl, hsz, hP, hK, hD0⟩ := hv
  have hx := B.exec
  have hb := B.bytes
  have hr := B.returns
  have hT : ∀ w ∈ lw_good, w.before _ s = true := fun w h => atoms_spec (ws := w_House_end) B.pre w (List.mem_cons_of_mem _ h)
  have hown : s.vm.findClass R_House = some m.cls := findClass_of_methodNamed B.named
  have hlocks := B.notSynchronized
  subst hsz
  have hD := hD0.self (sz := s.heap.size)
  generalize hAe : va_A [oc h_this 11 fs_this] s.heap.size = A at hD ⊢
  have hA : ∀ q : Nat, s.heap.size ≤ q → A q := fun q h => by rw [← hAe]; exact Or.inr h
  have hS : va_S A s.heap s.heap [] := va_S.rf
  have hP : va_P (dC, dI) cls_all [oc h_this 11 fs_this] s.heap := hP
  have hl := lv_entry ([.ref h_this, .int p1]) (n := 2) (Nat.le_of_ble_eq_true rfl)
  rw [lg_entry_eq]
  generalize (lg_sl ([.ref h_this, .int p1]) ++ List.replicate (2 - (lg_sl ([.ref h_this, .int p1])).length) Slot.unset).toArray = ls at hl ⊢
  have hl : lv_has ls 2 [(0, .ref h_this), (1, .int p1)] := hl
  refine lv_iload_n hx hb d_House_end_0 rfl (lv_at hl 1 rfl) ?_
  refine lv_if_lt (tgt := 12) hx hb d_House_end_1 (by decide) (fun c1 => ?_) (fun c1 => ?_)
  · refine lv_iconst (v := (-1)) hx hb d_House_end_12 (by decide) ?_
    have hP9 := hP.sub (ws' := [oc h_this 11 fs_this]) [0] rfl
    have hD9 := hD.sub (ws' := [oc h_this 11 fs_this]) [0] (by decide) rfl
    have hK9 := hK.sub (tys' := []) [] rfl
    have hv2 : fs_this[1]? = some (.int v_this_length) := g_this_length
    exact W.iret (v := (-1)) hx hb hr (fun t ht hW => ⟨⟨(-1), (-1), rfl, rfl, fs_this, ⟨(by first | exact len_this | (simp only [List.length_set]; exact len_this)), (fun j n1 => rfl), (by first | exact hv2 | (rw [hv2]; refine congrArg some (congrArg _ ?_); (repeat' split) <;> first | rfl | (simp_all; done) | (exfalso; simp only [i_lt, i_le, i_eq, Int32.reduceToInt] at *; omega))), (by (repeat' split) <;> first | rfl | (simp_all; done) | (exfalso; simp only [i_lt, i_le, i_eq, Int32.reduceToInt] at *; omega))⟩, by rw [ht]; exact hP9, va_K.moved hW.alike hK9, hD9⟩, hS.F ht⟩) hS.2.2 d_House_end_13
  · refine lv_iload_n hx hb d_House_end_4 rfl (lv_at hl 1 rfl) ?_
    refine lv_aload_n hx hb d_House_end_5 rfl (lv_at hl 0 rfl) ?_
    refine va_get (D := (dC, dI)) (ci := 11) (v := .int v_this_length) (C := R_House) (T := F_House) (N := 11) hx hb hT i_House hown hK hP 0 rfl rfl 1 (by decide) (hT _ fl_House_83) (fun _ h9 => h9) g_this_length d_House_end_6 ?_
    refine lv_icmp_le (tgt := 14) hx hb d_House_end_9 (by decide) (fun c3 => ?_) (fun c3 => ?_)
    · refine lv_aload_n hx hb d_House_end_14 rfl (lv_at hl 0 rfl) ?_
      refine lv_iload_n hx hb d_House_end_15 rfl (lv_at hl 1 rfl) ?_
      refine va_put (D := (dC, dI)) (ci := 11) (v := .int p1) (ty := .int) (C := R_House) (T := F_House) (N := 11) hx hb hT i_House t_House t_House_ok n_House hown hK hP hD hS 0 rfl rfl 1 (by decide) (hT _ fl_House_83) (fun _ h9 => h9) rfl (by decide +kernel) rfl rfl (by simp only [List.length_set, len_this]; decide) d_House_end_16 (fun H locs hP hD hS => ?_)
      have hP : va_P (dC, dI) cls_all [oc h_this 11 (fs_this.set 1 (.int p1))] H := hP
      have hD : va_D A [oc h_this 11 (fs_this.set 1 (.int p1))] := hD
      refine lv_iload_n hx hb d_House_end_19 rfl (lv_at hl 1 rfl) ?_
      have hP9 := hP.sub (ws' := [oc h_this 11 (fs_this.set 1 (.int p1))]) [0] rfl
      have hD9 := hD.sub (ws' := [oc h_this 11 (fs_this.set 1 (.int p1))]) [0] (by decide) rfl
      have hK9 := hK.sub (tys' := []) [] rfl
      have hv4 : (fs_this.set 1 (.int p1))[1]? = some (.int p1) := (ls_eq (by simp only [List.length_set, len_this]; decide))
      exact W.iret (v := p1) hx hb hr (fun t ht hW => ⟨⟨p1, p1, rfl, rfl, (fs_this.set 1 (.int p1)), ⟨(by first | exact len_this | (simp only [List.length_set]; exact len_this)), (fun j n1 => ((ls_ne n1).trans rfl)), (by first | exact hv4 | (rw [hv4]; refine congrArg some (congrArg _ ?_); (repeat' split) <;> first | rfl | (simp_all; done) | (exfalso; simp only [i_lt, i_le, i_eq, Int32.reduceToInt] at *; omega))), (by (repeat' split) <;> first | rfl | (simp_all; done) | (exfalso; simp only [i_lt, i_le, i_eq, Int32.reduceToInt] at *; omega))⟩, by rw [ht]; exact hP9, va_K.moved hW.alike hK9, hD9⟩, hS.F ht⟩) hS.2.2 d_House_end_20
    · refine lv_iconst (v := (-1)) hx hb d_House_end_12 (by decide) ?_
      have hP9 := hP.sub (ws' := [oc h_this 11 fs_this]) [0] rfl
      have hD9 := hD.sub (ws' := [oc h_this 11 fs_this]) [0] (by decide) rfl
      have hK9 := hK.sub (tys' := []) [] rfl
      have hv5 : fs_this[1]? = some (.int v_this_length) := g_this_length
      exact W.iret (v := (-1)) hx hb hr (fun t ht hW => ⟨⟨(-1), (-1), rfl, rfl, fs_this, ⟨(by first | exact len_this | (simp only [List.length_set]; exact len_this)), (fun j n1 => rfl), (by first | exact hv5 | (rw [hv5]; refine congrArg some (congrArg _ ?_); (repeat' split) <;> first | rfl | (simp_all; done) | (exfalso; simp only [i_lt, i_le, i_eq, Int32.reduceToInt] at *; omega))), (by (repeat' split) <;> first | rfl | (simp_all; done) | (exfalso; simp only [i_lt, i_le, i_eq, Int32.reduceToInt] at *; omega))⟩, by rw [ht]; exact hP9, va_K.moved hW.alike hK9, hD9⟩, hS.F ht⟩) hS.2.2 d_House_end_13
set_option maxHeartbeats 1000000 in
set_option maxRecDepth 100000 in
theorem c_House_fault (l : Launch) (dC : Nat → ClassId) (dI : Nat → Nat → Nat)  (h_this : Nat) (h_code : Nat) (fs_this : List Value) (v_this_built : Int32) (fs_code : List Value) (v_code_faultKind : Int32) (v_code_faultPlace : Int32) (p1 : Int32) (len_this : fs_this.length = 11) (g_this_built : fs_this[2]? = some (.int v_this_built)) (g_this_code : fs_this[6]? = some (.ref h_code)) (len_code : fs_code.length = 7) (g_code_faultKind : fs_code[5]? = some (.int v_code_faultKind)) (g_code_faultPlace : fs_code[6]? = some (.int v_code_faultPlace)) : Met l y_House_fault w_House_fault ({ frames := 0, cells := 0, slots := 0, locals := 0 } : Room) (va_Pc [.ref h_this, .int p1] (fun U => va_P (dC, dI) cls_all [oc h_this 11 fs_this, oc h_code 0 fs_code] U.heap ∧ va_K (dC, dI) cls_all [] U)) (vp_Si (fun r : Int32 => (r = if v_this_built = 0 ∨ p1 < 0 ∨ 1 < p1 then -1 else if p1 = 0 then v_code_faultKind else v_code_faultPlace))) 0 0 (fun _ => False) := by
  refine Met.ofW (cc := b_House_fault) (maxL := 2) (ret := (some .int)) (by decide) rfl ?_
  intro p e s m args below meth c s₁ B hml hv
  obtain ⟨rfl, hP, hK⟩ := hv
  have hx := B.exec
  have hb := B.bytes
  have hr := B.returns
  have hT : ∀ w ∈ lw_good, w.before _ s = true := fun w h => atoms_spec (ws := w_House_fault) B.pre w (List.mem_cons_of_mem _ h)
  have hown : s.vm.findClass R_House = some m.cls := findClass_of_methodNamed B.named
  have hlocks := B.notSynchronized
  have hl := lv_entry ([.ref h_this, .int p1]) (n := 2) (Nat.le_of_ble_eq_true rfl)
  rw [lg_entry_eq]
  generalize (lg_sl ([.ref h_this, .int p1]) ++ List.replicate (2 - (lg_sl ([.ref h_this, .int p1])).length) Slot.unset).toArray = ls at hl ⊢
  have hl : lv_has ls 2 [(0, .ref h_this), (1, .int p1)] := hl
  refine lv_aload_n hx hb d_House_fault_0 rfl (lv_at hl 0 rfl) ?_
  refine va_get (D := (dC, dI)) (ci := 11) (v := .int v_this_built) (C := R_House) (T := F_House) (N := 11) hx hb hT i_House hown hK hP 0 rfl rfl 2 (by decide) (hT _ fl_House_91) (fun _ h9 => h9) g_this_built d_House_fault_1 ?_
  refine lv_if_eq (tgt := 16) hx hb d_House_fault_4 (by decide) (fun c1 => ?_) (fun c1 => ?_)
  · refine lv_iconst (v := (-1)) hx hb d_House_fault_16 (by decide) ?_
    refine W.iret (v := (-1)) hx hb hr (fun t ht hW => ⟨(-1), rfl, ?_, ht⟩) (fun q h => by cases h) d_House_fault_17
    (repeat' split) <;> first | rfl | (simp_all; done) | (exfalso; simp only [i_lt, i_le, i_eq, Int32.reduceToInt] at *; omega)
  · refine lv_iload_n hx hb d_House_fault_7 rfl (lv_at hl 1 rfl) ?_
    refine lv_if_lt (tgt := 16) hx hb d_House_fault_8 (by decide) (fun c2 => ?_) (fun c2 => ?_)
    · refine lv_iconst (v := (-1)) hx hb d_House_fault_16 (by decide) ?_
      refine W.iret (v := (-1)) hx hb hr (fun t ht hW => ⟨(-1), rfl, ?_, ht⟩) (fun q h => by cases h) d_House_fault_17
      (repeat' split) <;> first | rfl | (simp_all; done) | (exfalso; simp only [i_lt, i_le, i_eq, Int32.reduceToInt] at *; omega)
    · refine lv_iload_n hx hb d_House_fault_11 rfl (lv_at hl 1 rfl) ?_
      refine lv_iconst (v := 1) hx hb d_House_fault_12 (by decide) ?_
      refine lv_icmp_le (tgt := 18) hx hb d_House_fault_13 (by decide) (fun c3 => ?_) (fun c3 => ?_)
      · refine lv_iload_n hx hb d_House_fault_18 rfl (lv_at hl 1 rfl) ?_
        refine lv_if_ne (tgt := 32) hx hb d_House_fault_19 (by decide) (fun c4 => ?_) (fun c4 => ?_)
        · refine lv_aload_n hx hb d_House_fault_32 rfl (lv_at hl 0 rfl) ?_
          refine va_get (D := (dC, dI)) (ci := 11) (v := .ref h_code) (C := R_House) (T := F_House) (N := 11) hx hb hT i_House hown hK hP 0 rfl rfl 6 (by decide) (hT _ fl_House_30) (fun _ h9 => h9) g_this_code d_House_fault_33 ?_
          refine va_get (D := (dC, dI)) (ci := 0) (v := .int v_code_faultPlace) (C := R_Code) (T := F_Code) (N := 7) hx hb hT i_Code hown hK hP 1 rfl rfl 6 (by decide) (hT _ fl_House_125) (fun _ h9 => h9) g_code_faultPlace d_House_fault_36 ?_
          refine W.iret (v := v_code_faultPlace) hx hb hr (fun t ht hW => ⟨v_code_faultPlace, rfl, ?_, ht⟩) (fun q h => by cases h) d_House_fault_39
          (repeat' split) <;> first | rfl | (simp_all; done) | (exfalso; simp only [i_lt, i_le, i_eq, Int32.reduceToInt] at *; omega)
        · refine lv_aload_n hx hb d_House_fault_22 rfl (lv_at hl 0 rfl) ?_
          refine va_get (D := (dC, dI)) (ci := 11) (v := .ref h_code) (C := R_House) (T := F_House) (N := 11) hx hb hT i_House hown hK hP 0 rfl rfl 6 (by decide) (hT _ fl_House_30) (fun _ h9 => h9) g_this_code d_House_fault_23 ?_
          refine va_get (D := (dC, dI)) (ci := 0) (v := .int v_code_faultKind) (C := R_Code) (T := F_Code) (N := 7) hx hb hT i_Code hown hK hP 1 rfl rfl 5 (by decide) (hT _ fl_House_122) (fun _ h9 => h9) g_code_faultKind d_House_fault_26 ?_
          refine lv_goto (tgt := 39) hx hb d_House_fault_29 (by decide) ?_
          refine W.iret (v := v_code_faultKind) hx hb hr (fun t ht hW => ⟨v_code_faultKind, rfl, ?_, ht⟩) (fun q h => by cases h) d_House_fault_39
          (repeat' split) <;> first | rfl | (simp_all; done) | (exfalso; simp only [i_lt, i_le, i_eq, Int32.reduceToInt] at *; omega)
      · refine lv_iconst (v := (-1)) hx hb d_House_fault_16 (by decide) ?_
        refine W.iret (v := (-1)) hx hb hr (fun t ht hW => ⟨(-1), rfl, ?_, ht⟩) (fun q h => by cases h) d_House_fault_17
        (repeat' split) <;> first | rfl | (simp_all; done) | (exfalso; simp only [i_lt, i_le, i_eq, Int32.reduceToInt] at *; omega)
