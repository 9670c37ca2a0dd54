set_option maxHeartbeats 1000000 in
set_option maxRecDepth 100000 in
theorem c_Code_isSound (l : Launch) (dC : Nat → ClassId) (dI : Nat → Nat → Nat)  (h_this : Nat) (fs_this : List Value) (v_this_faultKind : Int32) (len_this : fs_this.length = 7) (g_this_faultKind : fs_this[5]? = some (.int v_this_faultKind)) : Met l y_Code_isSound w_Code_isSound ({ frames := 0, cells := 0, slots := 0, locals := 0 } : Room) (va_Pc [.ref h_this] (fun U => va_P (dC, dI) cls_all [oc h_this 0 fs_this] U.heap ∧ va_K (dC, dI) cls_all [] U)) (vp_Si (fun r : Int32 => (r = if v_this_faultKind = 0 then 1 else 0))) 0 0 (fun _ => False) := by
  refine Met.ofW (cc := b_Code_isSound) (maxL := 1) (ret := (some .boolean)) (by decide) rfl ?_
  intro p e s m args below meth c s₁ B hml hv
  obtain ⟨rfl, hP, hK⟩ := hv
  have hx := B.exec
  have hb := B.bytes
  have hr := B.returns
  have hT : ∀ w ∈ lw_good, w.before _ s = true := fun w h => atoms_spec (ws := w_Code_isSound) B.pre w (List.mem_cons_of_mem _ h)
  have hown : s.vm.findClass R_Code = some m.cls := findClass_of_methodNamed B.named
  have hlocks := B.notSynchronized
  have hl := lv_entry ([.ref h_this]) (n := 1) (Nat.le_of_ble_eq_true rfl)
  rw [lg_entry_eq]
  generalize (lg_sl ([.ref h_this]) ++ List.replicate (1 - (lg_sl ([.ref h_this])).length) Slot.unset).toArray = ls at hl ⊢
  have hl : lv_has ls 1 [(0, .ref h_this)] := hl
  refine lv_aload_n hx hb d_Code_isSound_0 rfl (lv_at hl 0 rfl) ?_
  refine va_get (D := (dC, dI)) (ci := 0) (v := .int v_this_faultKind) (C := R_Code) (T := F_Code) (N := 7) hx hb hT i_Code hown hK hP 0 rfl rfl 5 (by decide) (hT _ fl_Code_37) (fun _ h9 => h9) g_this_faultKind d_Code_isSound_1 ?_
  refine lv_if_ne (tgt := 11) hx hb d_Code_isSound_4 (by decide) (fun c1 => ?_) (fun c1 => ?_)
  · refine lv_iconst (v := 0) hx hb d_Code_isSound_11 (by decide) ?_
    refine W.zret (v := 0) hx hb hr (by first | rfl | decide | assumption) (fun t ht hW => ⟨0, rfl, ?_, ht⟩) (fun q h => by cases h) d_Code_isSound_12
    simp_all
  · refine lv_iconst (v := 1) hx hb d_Code_isSound_7 (by decide) ?_
    refine lv_goto (tgt := 12) hx hb d_Code_isSound_8 (by decide) ?_
    refine W.zret (v := 1) hx hb hr (by first | rfl | decide | assumption) (fun t ht hW => ⟨1, rfl, ?_, ht⟩) (fun q h => by cases h) d_Code_isSound_12
    simp_all
set_option maxHeartbeats 1000000 in
set_option maxRecDepth 100000 in
theorem c_Code_count (l : Launch) (dC : Nat → ClassId) (dI : Nat → Nat → Nat)  (h_this : Nat) (fs_this : List Value) (v_this_count : Int32) (len_this : fs_this.length = 7) (g_this_count : fs_this[3]? = some (.int v_this_count)) : Met l y_Code_count w_Code_count ({ frames := 0, cells := 0, slots := 0, locals := 0 } : Room) (va_Pc [.ref h_this] (fun U => va_P (dC, dI) cls_all [oc h_this 0 fs_this] U.heap ∧ va_K (dC, dI) cls_all [] U)) (vp_Si (fun r : Int32 => (r = v_this_count))) 0 0 (fun _ => False) := by
  refine Met.ofW (cc := b_Code_count) (maxL := 1) (ret := (some .int)) (by decide) rfl ?_
  intro p e s m args below meth c s₁ B hml hv
  obtain ⟨rfl, hP, hK⟩ := hv
  have hx := B.exec
  have hb := B.bytes
  have hr := B.returns
  have hT : ∀ w ∈ lw_good, w.before _ s = true := fun w h => atoms_spec (ws := w_Code_count) B.pre w (List.mem_cons_of_mem _ h)
  have hown : s.vm.findClass R_Code = some m.cls := findClass_of_methodNamed B.named
  have hlocks := B.notSynchronized
  have hl := lv_entry ([.ref h_this]) (n := 1) (Nat.le_of_ble_eq_true rfl)
  rw [lg_entry_eq]
  generalize (lg_sl ([.ref h_this]) ++ List.replicate (1 - (lg_sl ([.ref h_this])).length) Slot.unset).toArray = ls at hl ⊢
  have hl : lv_has ls 1 [(0, .ref h_this)] := hl
  refine lv_aload_n hx hb d_Code_count_0 rfl (lv_at hl 0 rfl) ?_
  refine va_get (D := (dC, dI)) (ci := 0) (v := .int v_this_count) (C := R_Code) (T := F_Code) (N := 7) hx hb hT i_Code hown hK hP 0 rfl rfl 3 (by decide) (hT _ fl_Code_28) (fun _ h9 => h9) g_this_count d_Code_count_1 ?_
  refine W.iret (v := v_this_count) hx hb hr (fun t ht hW => ⟨v_this_count, rfl, ?_, ht⟩) (fun q h => by cases h) d_Code_count_4
  first | (subst_vars; rfl) | (subst_vars; decide) | (simp_all; done) | omega
set_option maxHeartbeats 1000000 in
set_option maxRecDepth 100000 in
theorem c_Code_has (l : Launch) (dC : Nat → ClassId) (dI : Nat → Nat → Nat)  (h_this : Nat) (fs_this : List Value) (v_this_count : Int32) (p1 : Int32) (len_this : fs_this.length = 7) (g_this_count : fs_this[3]? = some (.int v_this_count)) : Met l y_Code_has w_Code_has ({ frames := 0, cells := 0, slots := 0, locals := 0 } : Room) (va_Pc [.ref h_this, .int p1] (fun U => va_P (dC, dI) cls_all [oc h_this 0 fs_this] U.heap ∧ va_K (dC, dI) cls_all [] U)) (vp_Si (fun r : Int32 => (r = if 0 ≤ p1 ∧ p1 < v_this_count then 1 else 0))) 0 0 (fun _ => False) := by
  refine Met.ofW (cc := b_Code_has) (maxL := 2) (ret := (some .boolean)) (by decide) rfl ?_
  intro p e s m args below meth c s₁ B hml hv
  obtain ⟨rfl, hP, hK⟩ := hv
  have hx := B.exec
  have hb := B.bytes
  have hr := B.returns
  have hT : ∀ w ∈ lw_good, w.before _ s = true := fun w h => atoms_spec (ws := w_Code_has) B.pre w (List.mem_cons_of_mem _ h)
  have hown : s.vm.findClass R_Code = some m.cls := findClass_of_methodNamed B.named
  have hlocks := B.notSynchronized
  have hl := lv_entry ([.ref h_this, .int p1]) (n := 2) (Nat.le_of_ble_eq_true rfl)
  rw [lg_entry_eq]
  generalize (lg_sl ([.ref h_this, .int p1]) ++ List.replicate (2 - (lg_sl ([.ref h_this, .int p1])).length) Slot.unset).toArray = ls at hl ⊢
  have hl : lv_has ls 2 [(0, .ref h_this), (1, .int p1)] := hl
  refine lv_iload_n hx hb d_Code_has_0 rfl (lv_at hl 1 rfl) ?_
  refine lv_if_lt (tgt := 16) hx hb d_Code_has_1 (by decide) (fun c1 => ?_) (fun c1 => ?_)
  · refine lv_iconst (v := 0) hx hb d_Code_has_16 (by decide) ?_
    refine W.zret (v := 0) hx hb hr (by first | rfl | decide | assumption) (fun t ht hW => ⟨0, rfl, ?_, ht⟩) (fun q h => by cases h) d_Code_has_17
    (repeat' split) <;> first | rfl | (simp_all; done) | (exfalso; simp only [i_lt, i_le, i_eq, Int32.reduceToInt] at *; omega)
  · refine lv_iload_n hx hb d_Code_has_4 rfl (lv_at hl 1 rfl) ?_
    refine lv_aload_n hx hb d_Code_has_5 rfl (lv_at hl 0 rfl) ?_
    refine va_get (D := (dC, dI)) (ci := 0) (v := .int v_this_count) (C := R_Code) (T := F_Code) (N := 7) hx hb hT i_Code hown hK hP 0 rfl rfl 3 (by decide) (hT _ fl_Code_28) (fun _ h9 => h9) g_this_count d_Code_has_6 ?_
    refine lv_icmp_ge (tgt := 16) hx hb d_Code_has_9 (by decide) (fun c2 => ?_) (fun c2 => ?_)
    · refine lv_iconst (v := 0) hx hb d_Code_has_16 (by decide) ?_
      refine W.zret (v := 0) hx hb hr (by first | rfl | decide | assumption) (fun t ht hW => ⟨0, rfl, ?_, ht⟩) (fun q h => by cases h) d_Code_has_17
      (repeat' split) <;> first | rfl | (simp_all; done) | (exfalso; simp only [i_lt, i_le, i_eq, Int32.reduceToInt] at *; omega)
    · refine lv_iconst (v := 1) hx hb d_Code_has_12 (by decide) ?_
      refine lv_goto (tgt := 17) hx hb d_Code_has_13 (by decide) ?_
      refine W.zret (v := 1) hx hb hr (by first | rfl | decide | assumption) (fun t ht hW => ⟨1, rfl, ?_, ht⟩) (fun q h => by cases h) d_Code_has_17
      (repeat' split) <;> first | rfl | (simp_all; done) | (exfalso; simp only [i_lt, i_le, i_eq, Int32.reduceToInt] at *; omega)
set_option maxHeartbeats 1000000 in
set_option maxRecDepth 100000 in
theorem c_Code_note (l : Launch) (dC : Nat → ClassId) (dI : Nat → Nat → Nat) (sz : Nat) (h_this : Nat) (fs_this : List Value) (v_this_faultKind : Int32) (v_this_faultPlace : Int32) (p1 : Int32) (p2 : Int32) (len_this : fs_this.length = 7) (g_this_faultKind : fs_this[5]? = some (.int v_this_faultKind)) (g_this_faultPlace : fs_this[6]? = some (.int v_this_faultPlace)) : Met l y_Code_note w_Code_note ({ frames := 0, cells := 0, slots := 0, locals := 0 } : Room) (va_Pc [.ref h_this, .int p1, .int p2] (fun U => U.heap.size = sz ∧ va_P (dC, dI) cls_all [oc h_this 0 fs_this] U.heap ∧ va_K (dC, dI) cls_all [] U ∧ va_D (fun _ => True) [oc h_this 0 fs_this])) (va_Qv (fun (_ : Unit) => True) (fun _ t => ∃ (fs_this' : List Value), (fs_this'.length = 7 ∧ (∀ j : Nat, j ≠ 5 → j ≠ 6 → fs_this'[j]? = fs_this[j]?) ∧ fs_this'[5]? = some (.int (if v_this_faultKind = 0 then p1 else v_this_faultKind)) ∧ fs_this'[6]? = some (.int (if v_this_faultKind = 0 then p2 else v_this_faultPlace))) ∧ va_P (dC, dI) cls_all [oc h_this 0 fs_this'] t.heap ∧ va_K (dC, dI) cls_all [] t ∧ va_D (va_A [oc h_this 0 fs_this] sz) [oc h_this 0 fs_this']) (va_A [oc h_this 0 fs_this] sz)) 0 0 (va_A [oc h_this 0 fs_this] sz) := by
  refine Met.ofW (cc := b_Code_note) (maxL := 3) (ret := none) (by decide) rfl ?_
  intro p e s m args below meth c s₁ B hml hv
  obtain ⟨rfl, hsz, hP, hK, hD0⟩ := hv
  have hx := B.exec
  have hb := B.bytes
  have hr := B.returns
  have hT : ∀ w ∈ lw_good, w.before _ s = true := fun w h => atoms_spec (ws := w_Code_note) B.pre w (List.mem_cons_of_mem _ h)
  have hown : s.vm.findClass R_Code = some m.cls := findClass_of_methodNamed B.named
  have hlocks := B.notSynchronized
  subst hsz
  have hD := hD0.self (sz := s.heap.size)
  generalize hAe : va_A [oc h_this 0 fs_this] s.heap.size = A at hD ⊢
  have hA : ∀ q : Nat, s.heap.size ≤ q → A q := fun q h => by rw [← hAe]; exact Or.inr h
  have hS : va_S A s.heap s.heap [] := va_S.rf
  have hP : va_P (dC, dI) cls_all [oc h_this 0 fs_this] s.heap := hP
  have hl := lv_entry ([.ref h_this, .int p1, .int p2]) (n := 3) (Nat.le_of_ble_eq_true rfl)
  rw [lg_entry_eq]
  generalize (lg_sl ([.ref h_this, .int p1, .int p2]) ++ List.replicate (3 - (lg_sl ([.ref h_this, .int p1, .int p2])).length) Slot.unset).toArray = ls at hl ⊢
  have hl : lv_has ls 3 [(0, .ref h_this), (1, .int p1), (2, .int p2)] := hl
  refine lv_aload_n hx hb d_Code_note_0 rfl (lv_at hl 0 rfl) ?_
  refine va_get (D := (dC, dI)) (ci := 0) (v := .int v_this_faultKind) (C := R_Code) (T := F_Code) (N := 7) hx hb hT i_Code hown hK hP 0 rfl rfl 5 (by decide) (hT _ fl_Code_37) (fun _ h9 => h9) g_this_faultKind d_Code_note_1 ?_
  refine lv_if_ne (tgt := 17) hx hb d_Code_note_4 (by decide) (fun c1 => ?_) (fun c1 => ?_)
  · have hP9 := hP.sub (ws' := [oc h_this 0 fs_this]) [0] rfl
    have hD9 := hD.sub (ws' := [oc h_this 0 fs_this]) [0] (by decide) rfl
    have hK9 := hK.sub (tys' := []) [] rfl
    have hv2 : fs_this[5]? = some (.int v_this_faultKind) := g_this_faultKind
    have hv3 : fs_this[6]? = some (.int v_this_faultPlace) := g_this_faultPlace
    exact W.vret hx hb hr (fun t ht hW => ⟨⟨(), rfl, trivial, fs_this, ⟨(by first | exact len_this | (simp only [List.length_set]; exact len_this)), (fun j n5 n6 => rfl), (by first | exact hv2 | (rw [hv2]; refine congrArg some (congrArg _ ?_); simp_all)), (by first | exact hv3 | (rw [hv3]; refine congrArg some (congrArg _ ?_); simp_all))⟩, by rw [ht]; exact hP9, va_K.moved hW.alike hK9, hD9⟩, hS.F ht⟩) hS.2.2 d_Code_note_17
  · refine lv_aload_n hx hb d_Code_note_7 rfl (lv_at hl 0 rfl) ?_
    refine lv_iload_n hx hb d_Code_note_8 rfl (lv_at hl 1 rfl) ?_
    refine va_put (D := (dC, dI)) (ci := 0) (v := .int p1) (ty := .int) (C := R_Code) (T := F_Code) (N := 7) hx hb hT i_Code t_Code t_Code_ok n_Code hown hK hP hD hS 0 rfl rfl 5 (by decide) (hT _ fl_Code_37) (fun _ h9 => h9) rfl (by decide +kernel) rfl rfl (by simp only [List.length_set, len_this]; decide) d_Code_note_9 (fun H locs hP hD hS => ?_)
    have hP : va_P (dC, dI) cls_all [oc h_this 0 (fs_this.set 5 (.int p1))] H := hP
    have hD : va_D A [oc h_this 0 (fs_this.set 5 (.int p1))] := hD
    refine lv_aload_n hx hb d_Code_note_12 rfl (lv_at hl 0 rfl) ?_
    refine lv_iload_n hx hb d_Code_note_13 rfl (lv_at hl 2 rfl) ?_
    refine va_put (D := (dC, dI)) (ci := 0) (v := .int p2) (ty := .int) (C := R_Code) (T := F_Code) (N := 7) hx hb hT i_Code t_Code t_Code_ok n_Code hown hK hP hD hS 0 rfl rfl 6 (by decide) (hT _ fl_Code_24) (fun _ h9 => h9) rfl (by decide +kernel) rfl rfl (by simp only [List.length_set, len_this]; decide) d_Code_note_14 (fun H locs hP hD hS => ?_)
    have hP : va_P (dC, dI) cls_all [oc h_this 0 ((fs_this.set 5 (.int p1)).set 6 (.int p2))] H := hP
    have hD : va_D A [oc h_this 0 ((fs_this.set 5 (.int p1)).set 6 (.int p2))] := hD
    have hP9 := hP.sub (ws' := [oc h_this 0 ((fs_this.set 5 (.int p1)).set 6 (.int p2))]) [0] rfl
    have hD9 := hD.sub (ws' := [oc h_this 0 ((fs_this.set 5 (.int p1)).set 6 (.int p2))]) [0] (by decide) rfl
    have hK9 := hK.sub (tys' := []) [] rfl
    have hv4 : ((fs_this.set 5 (.int p1)).set 6 (.int p2))[5]? = some (.int p1) := ((ls_ne (by decide)).trans (ls_eq (by simp only [List.length_set, len_this]; decide)))
    have hv5 : ((fs_this.set 5 (.int p1)).set 6 (.int p2))[6]? = some (.int p2) := (ls_eq (by simp only [List.length_set, len_this]; decide))
    exact W.vret hx hb hr (fun t ht hW => ⟨⟨(), rfl, trivial, ((fs_this.set 5 (.int p1)).set 6 (.int p2)), ⟨(by first | exact len_this | (simp only [List.length_set]; exact len_this)), (fun j n5 n6 => ((ls_ne n6).trans ((ls_ne n5).trans rfl))), (by first | exact hv4 | (rw [hv4]; refine congrArg some (congrArg _ ?_); simp_all)), (by first | exact hv5 | (rw [hv5]; refine congrArg some (congrArg _ ?_); simp_all))⟩, by rw [ht]; exact hP9, va_K.moved hW.alike hK9, hD9⟩, hS.F ht⟩) hS.2.2 d_Code_note_17
