theorem va_ldcwSI {p : Program} {l : Launch} {e : Env} {R : Room} {s : State} {m : MethodId} {args : Array Value} {below : List Frame} {meth : Method} {c : Code} {locs : List Loc} {cells slots : Nat} {T : State} (X : Stand p l e R s m args below meth c T locs cells slots) (hexec : p.tables.exec = Jvm.exec) {own tx : String} {index q : Nat} (hown : s.vm.findClass own = some m.cls) (hZ : vk_R own index tx q s) {g : JFrame} (hg : g.method = m) (hdg : decode c.code g.pc = .ok (.ldc_w index, 3)) :
    ∀ target, Steps p.tables e below (T.setTop { g with pc := g.pc + 3, stack := .ref q :: g.stack }) target → Steps p.tables e below (T.setTop g) target := by
  obtain ⟨k, cf, i, a', hk, hcf, hcp, -, hr, hev⟩ := Cond.stringRef_spec hown hZ.1
  cases hZ.2.symm.trans hev
  obtain ⟨k', hk', he⟩ := X.warmed.alike.2.2 _ _ hk
  have hr' : k'.resolved[index]? = some (some (.string q)) := by
    rcases X.warmed.entry hk hk' index with h | ⟨h, -⟩
    · rw [h]; exact hr
    · rw [hr] at h; cases h
  intro target hrest
  subst hg
  jvm_step X.here [hexec, hdg, ldc_w.wp_string (e := e) (s := T) (f := g) X.here.top hk' (by rw [he]; exact hcf) hcp hr']
  exact hrest
theorem va_ldcwS {p : Program} {l : Launch} {e : Env} {R : Room} {s : State} {m : MethodId} {args : Array Value} {below : List Frame} {meth : Method} {c : Code} {H : Heap} {locs : List Loc} {cells slots : Nat} {Q : State → Prop} {cc : ByteArray} {pc : Nat} {ls : Array Slot} {rest : List Value} (hexec : p.tables.exec = Jvm.exec) (hb : c.code = cc) {own tx : String} {index q : Nat} (hown : s.vm.findClass own = some m.cls) (hZ : vk_R own index tx q s) (hdg : decode cc pc = .ok (.ldc_w index, 3)) (kk : W p l e R s m args below meth c H locs cells slots Q (F0 m (pc + 3) ls (.ref q :: rest))) : W p l e R s m args below meth c H locs cells slots Q (F0 m pc ls rest) := by
  intro T hT X
  obtain ⟨t, a1, b1⟩ := kk T hT X
  exact ⟨t, va_ldcwSI X hexec hown hZ (g := F0 m pc ls rest) rfl (by rw [hb]; exact hdg) t a1, b1⟩

set_option maxHeartbeats 1000000 in
set_option maxRecDepth 100000 in
theorem c_Model_bad (l : Launch) (dC : Nat → ClassId) (dI : Nat → Nat → Nat)  (h_this : Nat) (fs_this : List Value) (v_this_fault : Int32) (len_this : fs_this.length = 153) (g_this_fault : fs_this[7]? = some (.int v_this_fault)) : Met l y_Model_bad w_Model_bad ({ frames := 0, cells := 0, slots := 0, locals := 0 } : Room) (va_Pc [.ref h_this] (fun U => va_P (dC, dI) cls_all [oc h_this 12 fs_this] U.heap ∧ va_K (dC, dI) cls_all [] U)) (vp_Si (fun r : Int32 => (r = if v_this_fault = 0 then 0 else 1))) 0 0 (fun _ => False) := by
  refine Met.ofW (cc := b_Model_bad) (maxL := 1) (ret := (some .boolean)) (by decide) rfl ?_
  intro p e s m args below meth c s₁ B hml hv
  obtain ⟨rfl, hP, hK⟩ := hv
  have hx := B.exec
  have hb := B.bytes
  have hr := B.returns
  have hT : ∀ w ∈ lw_good, w.before _ s = true := fun w h => atoms_spec (ws := w_Model_bad) B.pre w (List.mem_cons_of_mem _ h)
  have hown : s.vm.findClass R_Model = some m.cls := findClass_of_methodNamed B.named
  have hlocks := B.notSynchronized
  have hl := lv_entry ([.ref h_this]) (n := 1) (Nat.le_of_ble_eq_true rfl)
  rw [lg_entry_eq]
  generalize (lg_sl ([.ref h_this]) ++ List.replicate (1 - (lg_sl ([.ref h_this])).length) Slot.unset).toArray = ls at hl ⊢
  have hl : lv_has ls 1 [(0, .ref h_this)] := hl
  refine lv_aload_n hx hb d_Model_bad_0 rfl (lv_at hl 0 rfl) ?_
  refine va_get (D := (dC, dI)) (ci := 12) (v := .int v_this_fault) (C := R_Model) (T := F_Model) (N := 153) hx hb hT i_Model hown hK hP 0 rfl rfl 7 (by decide) (hT _ fl_Model_378) (fun _ h9 => h9) g_this_fault d_Model_bad_1 ?_
  refine lv_if_eq (tgt := 11) hx hb d_Model_bad_4 (by decide) (fun c1 => ?_) (fun c1 => ?_)
  · refine lv_iconst (v := 0) hx hb d_Model_bad_11 (by decide) ?_
    refine W.zret (v := 0) hx hb hr (by first | rfl | decide | assumption) (fun t ht hW => ⟨0, rfl, ?_, ht⟩) (fun q h => by cases h) d_Model_bad_12
    first | exact (if_pos c1).symm | exact (if_neg c1).symm
  · refine lv_iconst (v := 1) hx hb d_Model_bad_7 (by decide) ?_
    refine lv_goto (tgt := 12) hx hb d_Model_bad_8 (by decide) ?_
    refine W.zret (v := 1) hx hb hr (by first | rfl | decide | assumption) (fun t ht hW => ⟨1, rfl, ?_, ht⟩) (fun q h => by cases h) d_Model_bad_12
    first | exact (if_pos c1).symm | exact (if_neg c1).symm
set_option maxHeartbeats 1000000 in
set_option maxRecDepth 100000 in
theorem c_Model_fail_0 (l : Launch) (dC : Nat → ClassId) (dI : Nat → Nat → Nat) (sz : Nat) (h_this : Nat) (fs_this : List Value) (p1 : Int32) (p2 : Int32) (len_this : fs_this.length = 153) (g_this_fault : fs_this[7]? = some (.int 0)) : Met l y_Model_fail w_Model_fail ({ frames := 0, cells := 0, slots := 0, locals := 0 } : Room) (va_Pc [.ref h_this, .int p1, .int p2] (fun U => U.heap.size = sz ∧ va_P (dC, dI) cls_all [oc h_this 12 fs_this] U.heap ∧ va_K (dC, dI) cls_all [] U ∧ va_D (fun _ => True) [oc h_this 12 fs_this])) (va_Qv (fun (_ : Unit) => True) (fun _ t => ∃ (fs_this' : List Value), (fs_this'.length = 153 ∧ (∀ j : Nat, j ≠ 7 → j ≠ 8 → fs_this'[j]? = fs_this[j]?) ∧ fs_this'[7]? = some (.int (p1)) ∧ fs_this'[8]? = some (.int (p2))) ∧ va_P (dC, dI) cls_all [oc h_this 12 fs_this'] t.heap ∧ va_K (dC, dI) cls_all [] t ∧ va_D (va_A [oc h_this 12 fs_this] sz) [oc h_this 12 fs_this']) (va_A [oc h_this 12 fs_this] sz)) 0 0 (va_A [oc h_this 12 fs_this] sz) := by
  refine Met.ofW (cc := b_Model_fail) (maxL := 3) (ret := none) (by decide) rfl ?_
  intro p e s m args below meth c s₁ B hml hv
  obtain ⟨rfl, hsz, hP, hK, hD0⟩ := hv
  have hx := B.exec
  have hb := B.bytes
  have hr := B.returns
  have hT : ∀ w ∈ lw_good, w.before _ s = true := fun w h => atoms_spec (ws := w_Model_fail) B.pre w (List.mem_cons_of_mem _ h)
  have hown : s.vm.findClass R_Model = some m.cls := findClass_of_methodNamed B.named
  have hlocks := B.notSynchronized
  subst hsz
  have hD := hD0.self (sz := s.heap.size)
  generalize hAe : va_A [oc h_this 12 fs_this] s.heap.size = A at hD ⊢
  have hA : ∀ q : Nat, s.heap.size ≤ q → A q := fun q h => by rw [← hAe]; exact Or.inr h
  have hS : va_S A s.heap s.heap [] := va_S.rf
  have hP : va_P (dC, dI) cls_all [oc h_this 12 fs_this] s.heap := hP
  have hl := lv_entry ([.ref h_this, .int p1, .int p2]) (n := 3) (Nat.le_of_ble_eq_true rfl)
  rw [lg_entry_eq]
  generalize (lg_sl ([.ref h_this, .int p1, .int p2]) ++ List.replicate (3 - (lg_sl ([.ref h_this, .int p1, .int p2])).length) Slot.unset).toArray = ls at hl ⊢
  have hl : lv_has ls 3 [(0, .ref h_this), (1, .int p1), (2, .int p2)] := hl
  refine lv_aload_n hx hb d_Model_fail_0 rfl (lv_at hl 0 rfl) ?_
  refine va_get (D := (dC, dI)) (ci := 12) (v := .int 0) (C := R_Model) (T := F_Model) (N := 153) hx hb hT i_Model hown hK hP 0 rfl rfl 7 (by decide) (hT _ fl_Model_378) (fun _ h9 => h9) g_this_fault d_Model_fail_1 ?_
  refine lv_if_eq (tgt := 8) hx hb d_Model_fail_4 (by decide) (fun _ => ?_) (fun c1 => absurd (by decide) c1)
  refine lv_aload_n hx hb d_Model_fail_8 rfl (lv_at hl 0 rfl) ?_
  refine lv_iload_n hx hb d_Model_fail_9 rfl (lv_at hl 1 rfl) ?_
  refine va_put (D := (dC, dI)) (ci := 12) (v := .int p1) (ty := .int) (C := R_Model) (T := F_Model) (N := 153) hx hb hT i_Model t_Model t_Model_ok n_Model hown hK hP hD hS 0 rfl rfl 7 (by decide) (hT _ fl_Model_378) (fun _ h9 => h9) rfl (by decide +kernel) rfl rfl (by simp only [List.length_set, len_this]; decide) d_Model_fail_10 (fun H locs hP hD hS => ?_)
  have hP : va_P (dC, dI) cls_all [oc h_this 12 (fs_this.set 7 (.int p1))] H := hP
  have hD : va_D A [oc h_this 12 (fs_this.set 7 (.int p1))] := hD
  refine lv_aload_n hx hb d_Model_fail_13 rfl (lv_at hl 0 rfl) ?_
  refine lv_iload_n hx hb d_Model_fail_14 rfl (lv_at hl 2 rfl) ?_
  refine va_put (D := (dC, dI)) (ci := 12) (v := .int p2) (ty := .int) (C := R_Model) (T := F_Model) (N := 153) hx hb hT i_Model t_Model t_Model_ok n_Model hown hK hP hD hS 0 rfl rfl 8 (by decide) (hT _ fl_Model_13) (fun _ h9 => h9) rfl (by decide +kernel) rfl rfl (by simp only [List.length_set, len_this]; decide) d_Model_fail_15 (fun H locs hP hD hS => ?_)
  have hP : va_P (dC, dI) cls_all [oc h_this 12 ((fs_this.set 7 (.int p1)).set 8 (.int p2))] H := hP
  have hD : va_D A [oc h_this 12 ((fs_this.set 7 (.int p1)).set 8 (.int p2))] := hD
  have hP9 := hP.sub (ws' := [oc h_this 12 ((fs_this.set 7 (.int p1)).set 8 (.int p2))]) [0] rfl
  have hD9 := hD.sub (ws' := [oc h_this 12 ((fs_this.set 7 (.int p1)).set 8 (.int p2))]) [0] (by decide) rfl
  have hK9 := hK.sub (tys' := []) [] rfl
  have hv2 : ((fs_this.set 7 (.int p1)).set 8 (.int p2))[7]? = some (.int p1) := ((ls_ne (by decide)).trans (ls_eq (by simp only [List.length_set, len_this]; decide)))
  have hv3 : ((fs_this.set 7 (.int p1)).set 8 (.int p2))[8]? = some (.int p2) := (ls_eq (by simp only [List.length_set, len_this]; decide))
  exact W.vret hx hb hr (fun t ht hW => ⟨⟨(), rfl, trivial, ((fs_this.set 7 (.int p1)).set 8 (.int p2)), ⟨(by first | exact len_this | (simp only [List.length_set]; exact len_this)), (fun j n7 n8 => ((ls_ne n8).trans ((ls_ne n7).trans rfl))), (by first | exact hv2 | (rw [hv2]; refine congrArg some (congrArg _ ?_); rfl)), (by first | exact hv3 | (rw [hv3]; refine congrArg some (congrArg _ ?_); rfl))⟩, by rw [ht]; exact hP9, va_K.moved hW.alike hK9, hD9⟩, hS.F ht⟩) hS.2.2 d_Model_fail_18
set_option maxHeartbeats 1000000 in
set_option maxRecDepth 100000 in
theorem c_Model_wrong_0 (l : Launch) (dC : Nat → ClassId) (dI : Nat → Nat → Nat) (sz : Nat) (h_this : Nat) (fs_this : List Value) (v_this_place : Int32) (len_this : fs_this.length = 153) (g_this_fault : fs_this[7]? = some (.int 0)) (g_this_place : fs_this[3]? = some (.int v_this_place)) : Met l y_Model_wrong w_Model_wrong ({ frames := 1, cells := 0, slots := 0, locals := 22 } : Room) (va_Pc [.ref h_this] (fun U => U.heap.size = sz ∧ va_P (dC, dI) cls_all [oc h_this 12 fs_this] U.heap ∧ va_K (dC, dI) cls_all [] U ∧ va_D (fun _ => True) [oc h_this 12 fs_this])) (va_Qv (fun (_ : Unit) => True) (fun _ t => ∃ (fs_this' : List Value), (fs_this'.length = 153 ∧ (∀ j : Nat, j ≠ 7 → j ≠ 8 → fs_this'[j]? = fs_this[j]?) ∧ fs_this'[7]? = some (.int (1)) ∧ fs_this'[8]? = some (.int (v_this_place))) ∧ va_P (dC, dI) cls_all [oc h_this 12 fs_this'] t.heap ∧ va_K (dC, dI) cls_all [] t ∧ va_D (va_A [oc h_this 12 fs_this] sz) [oc h_this 12 fs_this']) (va_A [oc h_this 12 fs_this] sz)) 0 0 (va_A [oc h_this 12 fs_this] sz) := by
  refine Met.ofW (cc := b_Model_wrong) (maxL := 1) (ret := none) (by decide) rfl ?_
  intro p e s m args below meth c s₁ B hml hv
  obtain ⟨rfl, hsz, hP, hK, hD0⟩ := hv
  have hx := B.exec
  have hb := B.bytes
  have hr := B.returns
  have hT : ∀ w ∈ lw_good, w.before _ s = true := fun w h => atoms_spec (ws := w_Model_wrong) B.pre w (List.mem_cons_of_mem _ h)
  have hown : s.vm.findClass R_Model = some m.cls := findClass_of_methodNamed B.named
  have hlocks := B.notSynchronized
  subst hsz
  have hD := hD0.self (sz := s.heap.size)
  generalize hAe : va_A [oc h_this 12 fs_this] s.heap.size = A at hD ⊢
  have hA : ∀ q : Nat, s.heap.size ≤ q → A q := fun q h => by rw [← hAe]; exact Or.inr h
  have hS : va_S A s.heap s.heap [] := va_S.rf
  have hP : va_P (dC, dI) cls_all [oc h_this 12 fs_this] s.heap := hP
  have hl := lv_entry ([.ref h_this]) (n := 1) (Nat.le_of_ble_eq_true rfl)
  rw [lg_entry_eq]
  generalize (lg_sl ([.ref h_this]) ++ List.replicate (1 - (lg_sl ([.ref h_this])).length) Slot.unset).toArray = ls at hl ⊢
  have hl : lv_has ls 1 [(0, .ref h_this)] := hl
  refine lv_aload_n hx hb d_Model_wrong_0 rfl (lv_at hl 0 rfl) ?_
  refine lv_iconst (v := 1) hx hb d_Model_wrong_1 (by decide) ?_
  refine lv_aload_n hx hb d_Model_wrong_2 rfl (lv_at hl 0 rfl) ?_
  refine va_get (D := (dC, dI)) (ci := 12) (v := .int v_this_place) (C := R_Model) (T := F_Model) (N := 153) hx hb hT i_Model hown hK hP 0 rfl rfl 3 (by decide) (hT _ fl_Model_349) (fun _ h9 => h9) g_this_place d_Model_wrong_3 ?_
  have hPc := hP.sub (ws' := [oc h_this 12 fs_this]) [0] rfl
  have hKc := hK.sub (tys' := []) [] rfl
  have hDc := hD.sub (ws' := [oc h_this 12 fs_this]) [0] (by decide) rfl
  have hFc := va_free (wc := [oc h_this 12 fs_this]) hD hS hA [0] rfl
  refine va_callv (va_runV (As := [.int 1, .int v_this_place]) (rest := []) ⟨hx, hb, hml, hown, hT⟩ (c_Model_fail_0 l dC dI (sz := s.heap.size) (h_this := h_this) (fs_this := fs_this) (p1 := 1) (p2 := v_this_place) (len_this := (by first | exact len_this | (simp only [List.length_set]; exact len_this))) (g_this_fault := g_this_fault)) (cwV 2 hT (gV ml_Model_381 im_Model_fail se_Model_fail ini_Model co_Model_fail) rfl rfl rfl (by decide +kernel) ⟨Nat.le_of_ble_eq_true rfl, Nat.le_of_ble_eq_true rfl⟩) ⟨fbQ, va_recv hKc hPc (ci := 12) (q0 := 0) rfl rfl, fun U hU hW => ⟨rfl, by rw [hU], by rw [hU]; exact hPc, va_K.moved hW.alike hKc, hDc.weaken (fun _ _ _ _ => trivial)⟩⟩ rfl rfl hl.1 rfl (lv_room (Nat.le_of_ble_eq_true rfl)) d_Model_wrong_6 ⟨Nat.le_of_ble_eq_true rfl, Nat.le_of_ble_eq_true rfl⟩) hS (fun q _ h => hFc q h) hFc (fun u t H1 locs ht hvm hw hB hz1 hk1 hS => ?_)
  obtain ⟨fs_this_1, ⟨hw1_0, hw1_1, hw1_2, hw1_3⟩, hP1, hK1, hD1⟩ := hB
  rw [ht] at hP1
  have hK1 := va_K.moved hvm.symm hK1
  obtain ⟨hP, hD⟩ := va_join (wr := []) (w1 := [oc h_this 12 fs_this_1]) hP hD [0] [] rfl rfl (by decide) (by decide) hk1 hFc hP1 hD1
  generalize H1 = H at hP hS ⊢
  have hP : va_P (dC, dI) cls_all [oc h_this 12 fs_this_1] H := hP
  have hD : va_D A [oc h_this 12 fs_this_1] := hD
  have hP9 := hP.sub (ws' := [oc h_this 12 fs_this_1]) [0] rfl
  have hD9 := hD.sub (ws' := [oc h_this 12 fs_this_1]) [0] (by decide) rfl
  have hK9 := hK.sub (tys' := []) [] rfl
  have hv2 : fs_this_1[7]? = some (.int ((1 : Int32))) := hw1_2
  have hv3 : fs_this_1[8]? = some (.int v_this_place) := hw1_3
  exact W.vret hx hb hr (fun t ht hW => ⟨⟨(), rfl, trivial, fs_this_1, ⟨(by first | exact hw1_0 | (simp only [List.length_set]; exact hw1_0)), (fun j n7 n8 => ((hw1_1 j n7 n8).trans rfl)), (by first | exact hv2 | (rw [hv2]; refine congrArg some (congrArg _ ?_); rfl)), (by first | exact hv3 | (rw [hv3]; refine congrArg some (congrArg _ ?_); rfl))⟩, by rw [ht]; exact hP9, va_K.moved hW.alike hK9, hD9⟩, hS.F ht⟩) hS.2.2 d_Model_wrong_9
set_option maxHeartbeats 1000000 in
set_option maxRecDepth 100000 in
theorem c_Model_see_out (l : Launch) (dC : Nat → ClassId) (dI : Nat → Nat → Nat)  (h_this : Nat) (fs_this : List Value) (v_this_size : Int32) (p1 : Int32) (len_this : fs_this.length = 153) (g_this_size : fs_this[1]? = some (.int v_this_size)) (hz : v_this_size ≤ p1) : Met l y_Model_see_I w_Model_see_I ({ frames := 0, cells := 0, slots := 0, locals := 0 } : Room) (va_Pc [.ref h_this, .int p1] (fun U => va_P (dC, dI) cls_all [oc h_this 12 fs_this] U.heap ∧ va_K (dC, dI) cls_all [] U)) (vp_Si (fun r : Int32 => (r = -1))) 0 0 (fun _ => False) := by
  refine Met.ofW (cc := b_Model_see_I) (maxL := 2) (ret := (some .int)) (by decide) rfl ?_
  intro p e s m args below meth c s₁ B hml hv
  obtain ⟨rfl, hP, hK⟩ := hv
  have hx := B.exec
  have hb := B.bytes
  have hr := B.returns
  have hT : ∀ w ∈ lw_good, w.before _ s = true := fun w h => atoms_spec (ws := w_Model_see_I) B.pre w (List.mem_cons_of_mem _ h)
  have hown : s.vm.findClass R_Model = some m.cls := findClass_of_methodNamed B.named
  have hlocks := B.notSynchronized
  have hl := lv_entry ([.ref h_this, .int p1]) (n := 2) (Nat.le_of_ble_eq_true rfl)
  rw [lg_entry_eq]
  generalize (lg_sl ([.ref h_this, .int p1]) ++ List.replicate (2 - (lg_sl ([.ref h_this, .int p1])).length) Slot.unset).toArray = ls at hl ⊢
  have hl : lv_has ls 2 [(0, .ref h_this), (1, .int p1)] := hl
  refine lv_iload_n hx hb d_Model_see_I_0 rfl (lv_at hl 1 rfl) ?_
  refine lv_aload_n hx hb d_Model_see_I_1 rfl (lv_at hl 0 rfl) ?_
  refine va_get (D := (dC, dI)) (ci := 12) (v := .int v_this_size) (C := R_Model) (T := F_Model) (N := 153) hx hb hT i_Model hown hK hP 0 rfl rfl 1 (by decide) (hT _ fl_Model_313) (fun _ h9 => h9) g_this_size d_Model_see_I_2 ?_
  refine lv_icmp_ge (tgt := 17) hx hb d_Model_see_I_5 (by decide) (fun c1 => ?_) (fun c1 => absurd hz c1)
  refine lv_iconst (v := (-1)) hx hb d_Model_see_I_17 (by decide) ?_
  refine W.iret (v := (-1)) hx hb hr (fun t ht hW => ⟨(-1), rfl, ?_, ht⟩) (fun q h => by cases h) d_Model_see_I_18
  rfl
set_option maxHeartbeats 1000000 in
set_option maxRecDepth 100000 in
theorem c_Model_advance_end (l : Launch) (dC : Nat → ClassId) (dI : Nat → Nat → Nat) (sz : Nat) (h_this : Nat) (fs_this : List Value) (v_this_after : Int32) (v_this_size : Int32) (len_this : fs_this.length = 153) (g_this_after : fs_this[4]? = some (.int v_this_after)) (g_this_size : fs_this[1]? = some (.int v_this_size)) (hz : v_this_size ≤ v_this_after) : Met l y_Model_advance w_Model_advance ({ frames := 1, cells := 0, slots := 0, locals := 21 } : Room) (va_Pc [.ref h_this] (fun U => U.heap.size = sz ∧ va_P (dC, dI) cls_all [oc h_this 12 fs_this] U.heap ∧ va_K (dC, dI) cls_all [] U ∧ va_D (fun _ => True) [oc h_this 12 fs_this])) (va_Qv (fun (_ : Unit) => True) (fun _ t => ∃ (fs_this' : List Value), (fs_this'.length = 153 ∧ (∀ j : Nat, j ≠ 3 → j ≠ 2 → j ≠ 4 → fs_this'[j]? = fs_this[j]?) ∧ fs_this'[3]? = some (.int (v_this_after)) ∧ fs_this'[2]? = some (.int (7)) ∧ fs_this'[4]? = some (.int (v_this_after))) ∧ va_P (dC, dI) cls_all [oc h_this 12 fs_this'] t.heap ∧ va_K (dC, dI) cls_all [] t ∧ va_D (va_A [oc h_this 12 fs_this] sz) [oc h_this 12 fs_this']) (va_A [oc h_this 12 fs_this] sz)) 0 0 (va_A [oc h_this 12 fs_this] sz) := by
  refine Met.ofW (cc := b_Model_advance) (maxL := 3) (ret := none) (by decide) rfl ?_
  intro p e s m args below meth c s₁ B hml hv
  obtain ⟨rfl, hsz, hP, hK, hD0⟩ := hv
  have hx := B.exec
  have hb := B.bytes
  have hr := B.returns
  have hT : ∀ w ∈ lw_good, w.before _ s = true := fun w h => atoms_spec (ws := w_Model_advance) B.pre w (List.mem_cons_of_mem _ h)
  have hown : s.vm.findClass R_Model = some m.cls := findClass_of_methodNamed B.named
  have hlocks := B.notSynchronized
  subst hsz
  have hD := hD0.self (sz := s.heap.size)
  generalize hAe : va_A [oc h_this 12 fs_this] s.heap.size = A at hD ⊢
  have hA : ∀ q : Nat, s.heap.size ≤ q → A q := fun q h => by rw [← hAe]; exact Or.inr h
  have hS : va_S A s.heap s.heap [] := va_S.rf
  have hP : va_P (dC, dI) cls_all [oc h_this 12 fs_this] s.heap := hP
  have hl := lv_entry ([.ref h_this]) (n := 3) (Nat.le_of_ble_eq_true rfl)
  rw [lg_entry_eq]
  generalize (lg_sl ([.ref h_this]) ++ List.replicate (3 - (lg_sl ([.ref h_this])).length) Slot.unset).toArray = ls at hl ⊢
  have hl : lv_has ls 3 [(0, .ref h_this)] := hl
  refine lv_aload_n hx hb d_Model_advance_0 rfl (lv_at hl 0 rfl) ?_
  refine va_get (D := (dC, dI)) (ci := 12) (v := .int v_this_after) (C := R_Model) (T := F_Model) (N := 153) hx hb hT i_Model hown hK hP 0 rfl rfl 4 (by decide) (hT _ fl_Model_342) (fun _ h9 => h9) g_this_after d_Model_advance_1 ?_
  refine lv_istore_n (lv' := [(1, .int v_this_after), (0, .ref h_this)]) hx hb d_Model_advance_4 rfl hl (by decide) rfl (fun ls hl => ?_)
  refine lv_aload_n hx hb d_Model_advance_5 rfl (lv_at hl 1 rfl) ?_
  refine lv_iload_n hx hb d_Model_advance_6 rfl (lv_at hl 0 rfl) ?_
  have hPc := hP.sub (ws' := [oc h_this 12 fs_this]) [0] rfl
  have hKc := hK.sub (tys' := []) [] rfl
  refine vp_callSi (va_Run.run (va_runV (As := [.int v_this_after]) (rest := []) ⟨hx, hb, hml, hown, hT⟩ (c_Model_see_out l dC dI (h_this := h_this) (fs_this := fs_this) (v_this_size := v_this_size) (p1 := v_this_after) (len_this := (by first | exact len_this | (simp only [List.length_set]; exact len_this))) (g_this_size := g_this_size) (hz := hz)) (cwV 1 hT (gV ml_Model_345 im_Model_see_I se_Model_see_I ini_Model co_Model_see_I) rfl rfl rfl (by decide +kernel) ⟨Nat.le_of_ble_eq_true rfl, Nat.le_of_ble_eq_true rfl⟩) ⟨fbS, va_recv hKc hPc (ci := 12) (q0 := 0) rfl rfl, fun U hU hW => ⟨rfl, by rw [hU]; exact hPc, va_K.moved hW.alike hKc⟩⟩ rfl rfl hl.1 rfl (lv_room (Nat.le_of_ble_eq_true rfl)) d_Model_advance_7 ⟨Nat.le_of_ble_eq_true rfl, Nat.le_of_ble_eq_true rfl⟩)) (fun r1 hr1 => ?_)
  obtain rfl : r1 = (-1) := hr1
  refine lv_bipush (v := 32) hx hb d_Model_advance_10 (by decide) ?_
  refine lv_icmp_ne (tgt := 21) hx hb d_Model_advance_12 (by decide) (fun _ => ?_) (fun c2 => absurd c2 (by decide))
  refine lv_aload_n hx hb d_Model_advance_21 rfl (lv_at hl 1 rfl) ?_
  refine lv_iload_n hx hb d_Model_advance_22 rfl (lv_at hl 0 rfl) ?_
  refine va_put (D := (dC, dI)) (ci := 12) (v := .int v_this_after) (ty := .int) (C := R_Model) (T := F_Model) (N := 153) hx hb hT i_Model t_Model t_Model_ok n_Model hown hK hP hD hS 0 rfl rfl 3 (by decide) (hT _ fl_Model_349) (fun _ h9 => h9) rfl (by decide +kernel) rfl rfl (by simp only [List.length_set, len_this]; decide) d_Model_advance_23 (fun H locs hP hD hS => ?_)
  have hP : va_P (dC, dI) cls_all [oc h_this 12 (fs_this.set 3 (.int v_this_after))] H := hP
  have hD : va_D A [oc h_this 12 (fs_this.set 3 (.int v_this_after))] := hD
  refine lv_iload_n hx hb d_Model_advance_26 rfl (lv_at hl 0 rfl) ?_
  refine lv_aload_n hx hb d_Model_advance_27 rfl (lv_at hl 1 rfl) ?_
  refine va_get (D := (dC, dI)) (ci := 12) (v := .int v_this_size) (C := R_Model) (T := F_Model) (N := 153) hx hb hT i_Model hown hK hP 0 rfl rfl 1 (by decide) (hT _ fl_Model_313) (fun _ h9 => h9) ((ls_ne (by decide)).trans g_this_size) d_Model_advance_28 ?_
  refine lv_icmp_lt (tgt := 46) hx hb d_Model_advance_31 (by decide) (fun c3 => absurd c3 (Int32.not_lt.mpr hz)) (fun c3 => ?_)
  refine lv_aload_n hx hb d_Model_advance_34 rfl (lv_at hl 1 rfl) ?_
  refine lv_bipush (v := 7) hx hb d_Model_advance_35 (by decide) ?_
  refine va_put (D := (dC, dI)) (ci := 12) (v := .int 7) (ty := .int) (C := R_Model) (T := F_Model) (N := 153) hx hb hT i_Model t_Model t_Model_ok n_Model hown hK hP hD hS 0 rfl rfl 2 (by decide) (hT _ fl_Model_352) (fun _ h9 => h9) rfl (by decide +kernel) rfl rfl (by simp only [List.length_set, len_this]; decide) d_Model_advance_37 (fun H locs hP hD hS => ?_)
  have hP : va_P (dC, dI) cls_all [oc h_this 12 ((fs_this.set 3 (.int v_this_after)).set 2 (.int 7))] H := hP
  have hD : va_D A [oc h_this 12 ((fs_this.set 3 (.int v_this_after)).set 2 (.int 7))] := hD
  refine lv_aload_n hx hb d_Model_advance_40 rfl (lv_at hl 1 rfl) ?_
  refine lv_iload_n hx hb d_Model_advance_41 rfl (lv_at hl 0 rfl) ?_
  refine va_put (D := (dC, dI)) (ci := 12) (v := .int v_this_after) (ty := .int) (C := R_Model) (T := F_Model) (N := 153) hx hb hT i_Model t_Model t_Model_ok n_Model hown hK hP hD hS 0 rfl rfl 4 (by decide) (hT _ fl_Model_342) (fun _ h9 => h9) rfl (by decide +kernel) rfl rfl (by simp only [List.length_set, len_this]; decide) d_Model_advance_42 (fun H locs hP hD hS => ?_)
  have hP : va_P (dC, dI) cls_all [oc h_this 12 (((fs_this.set 3 (.int v_this_after)).set 2 (.int 7)).set 4 (.int v_this_after))] H := hP
  have hD : va_D A [oc h_this 12 (((fs_this.set 3 (.int v_this_after)).set 2 (.int 7)).set 4 (.int v_this_after))] := hD
  have hP9 := hP.sub (ws' := [oc h_this 12 (((fs_this.set 3 (.int v_this_after)).set 2 (.int 7)).set 4 (.int v_this_after))]) [0] rfl
  have hD9 := hD.sub (ws' := [oc h_this 12 (((fs_this.set 3 (.int v_this_after)).set 2 (.int 7)).set 4 (.int v_this_after))]) [0] (by decide) rfl
  have hK9 := hK.sub (tys' := []) [] rfl
  have hv4 : (((fs_this.set 3 (.int v_this_after)).set 2 (.int 7)).set 4 (.int v_this_after))[3]? = some (.int v_this_after) := ((ls_ne (by decide)).trans ((ls_ne (by decide)).trans (ls_eq (by simp only [List.length_set, len_this]; decide))))
  have hv5 : (((fs_this.set 3 (.int v_this_after)).set 2 (.int 7)).set 4 (.int v_this_after))[2]? = some (.int 7) := ((ls_ne (by decide)).trans (ls_eq (by simp only [List.length_set, len_this]; decide)))
  have hv6 : (((fs_this.set 3 (.int v_this_after)).set 2 (.int 7)).set 4 (.int v_this_after))[4]? = some (.int v_this_after) := (ls_eq (by simp only [List.length_set, len_this]; decide))
  exact W.vret hx hb hr (fun t ht hW => ⟨⟨(), rfl, trivial, (((fs_this.set 3 (.int v_this_after)).set 2 (.int 7)).set 4 (.int v_this_after)), ⟨(by first | exact len_this | (simp only [List.length_set]; exact len_this)), (fun j n3 n2 n4 => ((ls_ne n4).trans ((ls_ne n2).trans ((ls_ne n3).trans rfl)))), (by first | exact hv4 | (rw [hv4]; refine congrArg some (congrArg _ ?_); rfl)), (by first | exact hv5 | (rw [hv5]; refine congrArg some (congrArg _ ?_); rfl)), (by first | exact hv6 | (rw [hv6]; refine congrArg some (congrArg _ ?_); rfl))⟩, by rw [ht]; exact hP9, va_K.moved hW.alike hK9, hD9⟩, hS.F ht⟩) hS.2.2 d_Model_advance_45
set_option maxHeartbeats 1000000 in
set_option maxRecDepth 100000 in
theorem c_Model_isWord_no (l : Launch) (dC : Nat → ClassId) (dI : Nat → Nat → Nat)  (h_this : Nat) (fs_this : List Value) (v_this_sort : Int32) (p1 : Nat) (len_this : fs_this.length = 153) (g_this_sort : fs_this[2]? = some (.int v_this_sort)) (hz : ¬ v_this_sort = 2) : Met l y_Model_isWord w_Model_isWord ({ frames := 0, cells := 0, slots := 0, locals := 0 } : Room) (va_Pc [.ref h_this, .ref p1] (fun U => va_P (dC, dI) cls_all [oc h_this 12 fs_this] U.heap ∧ va_K (dC, dI) cls_all [] U)) (vp_Si (fun r : Int32 => (r = 0))) 0 0 (fun _ => False) := by
  refine Met.ofW (cc := b_Model_isWord) (maxL := 2) (ret := (some .boolean)) (by decide) rfl ?_
  intro p e s m args below meth c s₁ B hml hv
  obtain ⟨rfl, hP, hK⟩ := hv
  have hx := B.exec
  have hb := B.bytes
  have hr := B.returns
  have hT : ∀ w ∈ lw_good, w.before _ s = true := fun w h => atoms_spec (ws := w_Model_isWord) B.pre w (List.mem_cons_of_mem _ h)
  have hown : s.vm.findClass R_Model = some m.cls := findClass_of_methodNamed B.named
  have hlocks := B.notSynchronized
  have hl := lv_entry ([.ref h_this, .ref p1]) (n := 2) (Nat.le_of_ble_eq_true rfl)
  rw [lg_entry_eq]
  generalize (lg_sl ([.ref h_this, .ref p1]) ++ List.replicate (2 - (lg_sl ([.ref h_this, .ref p1])).length) Slot.unset).toArray = ls at hl ⊢
  have hl : lv_has ls 2 [(0, .ref h_this), (1, .ref p1)] := hl
  refine lv_aload_n hx hb d_Model_isWord_0 rfl (lv_at hl 0 rfl) ?_
  refine va_get (D := (dC, dI)) (ci := 12) (v := .int v_this_sort) (C := R_Model) (T := F_Model) (N := 153) hx hb hT i_Model hown hK hP 0 rfl rfl 2 (by decide) (hT _ fl_Model_352) (fun _ h9 => h9) g_this_sort d_Model_isWord_1 ?_
  refine lv_iconst (v := 2) hx hb d_Model_isWord_4 (by decide) ?_
  refine lv_icmp_ne (tgt := 31) hx hb d_Model_isWord_5 (by decide) (fun c1 => ?_) (fun c1 => absurd c1 hz)
  refine lv_iconst (v := 0) hx hb d_Model_isWord_31 (by decide) ?_
  refine W.zret (v := 0) hx hb hr (by first | rfl | decide | assumption) (fun t ht hW => ⟨0, rfl, ?_, ht⟩) (fun q h => by cases h) d_Model_isWord_32
  rfl
set_option maxHeartbeats 1000000 in
set_option maxRecDepth 100000 in
theorem c_Model_prog_0 (l : Launch) (dC : Nat → ClassId) (dI : Nat → Nat → Nat) (sz : Nat) (ad : Nat → Nat) (av : Nat → Nat) (h_this : Nat) (fs_this : List Value) (len_this : fs_this.length = 153) (g_this_fault : fs_this[7]? = some (.int 0)) (g_this_size : fs_this[1]? = some (.int 0)) : Met l y_Model_program_ w_Model_program_ ({ frames := 2, cells := 0, slots := 0, locals := 43 } : Room) (va_Pc [.ref h_this] (fun U => U.heap.size = sz ∧ va_P (dC, dI) cls_all [oc h_this 12 fs_this] U.heap ∧ va_K (dC, dI) cls_all [] U ∧ va_D (fun _ => True) [oc h_this 12 fs_this] ∧ env0 ad av (va_A [oc h_this 12 fs_this] sz) U U.heap)) (va_Qv (fun (_ : Unit) => True) (fun _ t => ∃ (fs_this' : List Value), (fs_this'.length = 153 ∧ (∀ j : Nat, j ≠ 4 → j ≠ 11 → j ≠ 20 → j ≠ 37 → j ≠ 45 → j ≠ 49 → j ≠ 3 → j ≠ 2 → j ≠ 7 → j ≠ 8 → fs_this'[j]? = fs_this[j]?) ∧ fs_this'[4]? = some (.int (0)) ∧ fs_this'[11]? = some (.int (0)) ∧ fs_this'[20]? = some (.int (0)) ∧ fs_this'[37]? = some (.int (0)) ∧ fs_this'[45]? = some (.int (0)) ∧ fs_this'[49]? = some (.int (0)) ∧ fs_this'[3]? = some (.int (0)) ∧ fs_this'[2]? = some (.int (7)) ∧ fs_this'[7]? = some (.int (1)) ∧ fs_this'[8]? = some (.int (0))) ∧ va_P (dC, dI) cls_all [oc h_this 12 fs_this'] t.heap ∧ va_K (dC, dI) cls_all [] t ∧ va_D (va_A [oc h_this 12 fs_this] sz) [oc h_this 12 fs_this']) (va_A [oc h_this 12 fs_this] sz)) 0 0 (va_A [oc h_this 12 fs_this] sz) := by
  refine Met.ofW (cc := b_Model_program_) (maxL := 3) (ret := none) (by decide) rfl ?_
  intro p e s m args below meth c s₁ B hml hv
  obtain ⟨rfl, hsz, hP, hK, hD0, henv⟩ := hv
  have hx := B.exec
  have hb := B.bytes
  have hr := B.returns
  have hT : ∀ w ∈ lw_good, w.before _ s = true := fun w h => atoms_spec (ws := w_Model_program_) B.pre w (List.mem_cons_of_mem _ h)
  have hown : s.vm.findClass R_Model = some m.cls := findClass_of_methodNamed B.named
  have hlocks := B.notSynchronized
  subst hsz
  have hD := hD0.self (sz := s.heap.size)
  generalize hAe : va_A [oc h_this 12 fs_this] s.heap.size = A at hD henv ⊢
  have hA : ∀ q : Nat, s.heap.size ≤ q → A q := fun q h => by rw [← hAe]; exact Or.inr h
  have hS : va_S A s.heap s.heap [] := va_S.rf
  have hP : va_P (dC, dI) cls_all [oc h_this 12 fs_this] s.heap := hP
  have hl := lv_entry ([.ref h_this]) (n := 3) (Nat.le_of_ble_eq_true rfl)
  rw [lg_entry_eq]
  generalize (lg_sl ([.ref h_this]) ++ List.replicate (3 - (lg_sl ([.ref h_this])).length) Slot.unset).toArray = ls at hl ⊢
  have hl : lv_has ls 3 [(0, .ref h_this)] := hl
  refine lv_aload_n hx hb d_Model_program__0 rfl (lv_at hl 0 rfl) ?_
  refine lv_iconst (v := 0) hx hb d_Model_program__1 (by decide) ?_
  refine va_put (D := (dC, dI)) (ci := 12) (v := .int 0) (ty := .int) (C := R_Model) (T := F_Model) (N := 153) hx hb hT i_Model t_Model t_Model_ok n_Model hown hK hP hD hS 0 rfl rfl 4 (by decide) (hT _ fl_Model_342) (fun _ h9 => h9) rfl (by decide +kernel) rfl rfl (by simp only [List.length_set, len_this]; decide) d_Model_program__2 (fun H locs hP hD hS => ?_)
  have hP : va_P (dC, dI) cls_all [oc h_this 12 (fs_this.set 4 (.int 0))] H := hP
  have hD : va_D A [oc h_this 12 (fs_this.set 4 (.int 0))] := hD
  refine lv_aload_n hx hb d_Model_program__5 rfl (lv_at hl 0 rfl) ?_
  refine lv_iconst (v := 0) hx hb d_Model_program__6 (by decide) ?_
  refine va_put (D := (dC, dI)) (ci := 12) (v := .int 0) (ty := .int) (C := R_Model) (T := F_Model) (N := 153) hx hb hT i_Model t_Model t_Model_ok n_Model hown hK hP hD hS 0 rfl rfl 11 (by decide) (hT _ fl_Model_412) (fun _ h9 => h9) rfl (by decide +kernel) rfl rfl (by simp only [List.length_set, len_this]; decide) d_Model_program__7 (fun H locs hP hD hS => ?_)
  have hP : va_P (dC, dI) cls_all [oc h_this 12 ((fs_this.set 4 (.int 0)).set 11 (.int 0))] H := hP
  have hD : va_D A [oc h_this 12 ((fs_this.set 4 (.int 0)).set 11 (.int 0))] := hD
  refine lv_aload_n hx hb d_Model_program__10 rfl (lv_at hl 0 rfl) ?_
  refine lv_iconst (v := 0) hx hb d_Model_program__11 (by decide) ?_
  refine va_put (D := (dC, dI)) (ci := 12) (v := .int 0) (ty := .int) (C := R_Model) (T := F_Model) (N := 153) hx hb hT i_Model t_Model t_Model_ok n_Model hown hK hP hD hS 0 rfl rfl 20 (by decide) (hT _ fl_Model_415) (fun _ h9 => h9) rfl (by decide +kernel) rfl rfl (by simp only [List.length_set, len_this]; decide) d_Model_program__12 (fun H locs hP hD hS => ?_)
  have hP : va_P (dC, dI) cls_all [oc h_this 12 (((fs_this.set 4 (.int 0)).set 11 (.int 0)).set 20 (.int 0))] H := hP
  have hD : va_D A [oc h_this 12 (((fs_this.set 4 (.int 0)).set 11 (.int 0)).set 20 (.int 0))] := hD
  refine lv_aload_n hx hb d_Model_program__15 rfl (lv_at hl 0 rfl) ?_
  refine lv_iconst (v := 0) hx hb d_Model_program__16 (by decide) ?_
  refine va_put (D := (dC, dI)) (ci := 12) (v := .int 0) (ty := .int) (C := R_Model) (T := F_Model) (N := 153) hx hb hT i_Model t_Model t_Model_ok n_Model hown hK hP hD hS 0 rfl rfl 37 (by decide) (hT _ fl_Model_418) (fun _ h9 => h9) rfl (by decide +kernel) rfl rfl (by simp only [List.length_set, len_this]; decide) d_Model_program__17 (fun H locs hP hD hS => ?_)
  have hP : va_P (dC, dI) cls_all [oc h_this 12 ((((fs_this.set 4 (.int 0)).set 11 (.int 0)).set 20 (.int 0)).set 37 (.int 0))] H := hP
  have hD : va_D A [oc h_this 12 ((((fs_this.set 4 (.int 0)).set 11 (.int 0)).set 20 (.int 0)).set 37 (.int 0))] := hD
  refine lv_aload_n hx hb d_Model_program__20 rfl (lv_at hl 0 rfl) ?_
  refine lv_iconst (v := 0) hx hb d_Model_program__21 (by decide) ?_
  refine va_put (D := (dC, dI)) (ci := 12) (v := .int 0) (ty := .int) (C := R_Model) (T := F_Model) (N := 153) hx hb hT i_Model t_Model t_Model_ok n_Model hown hK hP hD hS 0 rfl rfl 45 (by decide) (hT _ fl_Model_409) (fun _ h9 => h9) rfl (by decide +kernel) rfl rfl (by simp only [List.length_set, len_this]; decide) d_Model_program__22 (fun H locs hP hD hS => ?_)
  have hP : va_P (dC, dI) cls_all [oc h_this 12 (((((fs_this.set 4 (.int 0)).set 11 (.int 0)).set 20 (.int 0)).set 37 (.int 0)).set 45 (.int 0))] H := hP
  have hD : va_D A [oc h_this 12 (((((fs_this.set 4 (.int 0)).set 11 (.int 0)).set 20 (.int 0)).set 37 (.int 0)).set 45 (.int 0))] := hD
  refine lv_aload_n hx hb d_Model_program__25 rfl (lv_at hl 0 rfl) ?_
  refine lv_iconst (v := 0) hx hb d_Model_program__26 (by decide) ?_
  refine va_put (D := (dC, dI)) (ci := 12) (v := .int 0) (ty := .int) (C := R_Model) (T := F_Model) (N := 153) hx hb hT i_Model t_Model t_Model_ok n_Model hown hK hP hD hS 0 rfl rfl 49 (by decide) (hT _ fl_Model_421) (fun _ h9 => h9) rfl (by decide +kernel) rfl rfl (by simp only [List.length_set, len_this]; decide) d_Model_program__27 (fun H locs hP hD hS => ?_)
  have hP : va_P (dC, dI) cls_all [oc h_this 12 ((((((fs_this.set 4 (.int 0)).set 11 (.int 0)).set 20 (.int 0)).set 37 (.int 0)).set 45 (.int 0)).set 49 (.int 0))] H := hP
  have hD : va_D A [oc h_this 12 ((((((fs_this.set 4 (.int 0)).set 11 (.int 0)).set 20 (.int 0)).set 37 (.int 0)).set 45 (.int 0)).set 49 (.int 0))] := hD
  refine lv_aload_n hx hb d_Model_program__30 rfl (lv_at hl 0 rfl) ?_
  have hPc := hP.sub (ws' := [oc h_this 12 ((((((fs_this.set 4 (.int 0)).set 11 (.int 0)).set 20 (.int 0)).set 37 (.int 0)).set 45 (.int 0)).set 49 (.int 0))]) [0] rfl
  have hKc := hK.sub (tys' := []) [] rfl
  have hDc := hD.sub (ws' := [oc h_this 12 ((((((fs_this.set 4 (.int 0)).set 11 (.int 0)).set 20 (.int 0)).set 37 (.int 0)).set 45 (.int 0)).set 49 (.int 0))]) [0] (by decide) rfl
  have hFc := va_free (wc := [oc h_this 12 ((((((fs_this.set 4 (.int 0)).set 11 (.int 0)).set 20 (.int 0)).set 37 (.int 0)).set 45 (.int 0)).set 49 (.int 0))]) hD hS hA [0] rfl
  refine va_callv (va_runV (As := []) (rest := []) ⟨hx, hb, hml, hown, hT⟩ (c_Model_advance_end l dC dI (sz := H.size) (h_this := h_this) (fs_this := ((((((fs_this.set 4 (.int 0)).set 11 (.int 0)).set 20 (.int 0)).set 37 (.int 0)).set 45 (.int 0)).set 49 (.int 0))) (v_this_after := 0) (v_this_size := 0) (len_this := (by first | exact len_this | (simp only [List.length_set]; exact len_this))) (g_this_after := ((ls_ne (by decide)).trans ((ls_ne (by decide)).trans ((ls_ne (by decide)).trans ((ls_ne (by decide)).trans ((ls_ne (by decide)).trans (ls_eq (by simp only [List.length_set, len_this]; decide)))))))) (g_this_size := ((ls_ne (by decide)).trans ((ls_ne (by decide)).trans ((ls_ne (by decide)).trans ((ls_ne (by decide)).trans ((ls_ne (by decide)).trans ((ls_ne (by decide)).trans g_this_size))))))) (hz := (by decide))) (cwV 0 hT (gV ml_Model_396 im_Model_advance se_Model_advance ini_Model co_Model_advance) rfl rfl rfl (by decide +kernel) ⟨Nat.le_of_ble_eq_true rfl, Nat.le_of_ble_eq_true rfl⟩) ⟨fbQ, va_recv hKc hPc (ci := 12) (q0 := 0) rfl rfl, fun U hU hW => ⟨rfl, by rw [hU], by rw [hU]; exact hPc, va_K.moved hW.alike hKc, hDc.weaken (fun _ _ _ _ => trivial)⟩⟩ rfl rfl hl.1 rfl (lv_room (Nat.le_of_ble_eq_true rfl)) d_Model_program__31 ⟨Nat.le_of_ble_eq_true rfl, Nat.le_of_ble_eq_true rfl⟩) hS (fun q _ h => hFc q h) hFc (fun u t H1 locs ht hvm hw hB hz1 hk1 hS => ?_)
  obtain ⟨fs_this_1, ⟨hw1_0, hw1_1, hw1_2, hw1_3, hw1_4⟩, hP1, hK1, hD1⟩ := hB
  rw [ht] at hP1
  have hK1 := va_K.moved hvm.symm hK1
  obtain ⟨hP, hD⟩ := va_join (wr := []) (w1 := [oc h_this 12 fs_this_1]) hP hD [0] [] rfl rfl (by decide) (by decide) hk1 hFc hP1 hD1
  generalize H1 = H at hP hS ⊢
  have hP : va_P (dC, dI) cls_all [oc h_this 12 fs_this_1] H := hP
  have hD : va_D A [oc h_this 12 fs_this_1] := hD
  refine lv_iconst (v := 1) hx hb d_Model_program__34 (by decide) ?_
  refine lv_istore_n (lv' := [(1, .int 1), (0, .ref h_this)]) hx hb d_Model_program__35 rfl hl (by decide) rfl (fun ls hl => ?_)
  refine lv_iload_n hx hb d_Model_program__36 rfl (lv_at hl 0 rfl) ?_
  refine lv_if_eq (tgt := 136) hx hb d_Model_program__37 (by decide) (fun c2 => absurd c2 (by decide)) (fun _ => ?_)
  refine lv_aload_n hx hb d_Model_program__40 rfl (lv_at hl 1 rfl) ?_
  have hPc := hP.sub (ws' := [oc h_this 12 fs_this_1]) [0] rfl
  have hKc := hK.sub (tys' := []) [] rfl
  refine vp_callSi (va_Run.run (va_runV (As := []) (rest := []) ⟨hx, hb, hml, hown, hT⟩ (c_Model_bad l dC dI (h_this := h_this) (fs_this := fs_this_1) (v_this_fault := 0) (len_this := (by first | exact hw1_0 | (simp only [List.length_set]; exact hw1_0))) (g_this_fault := ((hw1_1 7 (by decide) (by decide) (by decide)).trans ((ls_ne (by decide)).trans ((ls_ne (by decide)).trans ((ls_ne (by decide)).trans ((ls_ne (by decide)).trans ((ls_ne (by decide)).trans ((ls_ne (by decide)).trans g_this_fault))))))))) (cwV 0 hT (gV ml_Model_385 im_Model_bad se_Model_bad ini_Model co_Model_bad) rfl rfl rfl (by decide +kernel) ⟨Nat.le_of_ble_eq_true rfl, Nat.le_of_ble_eq_true rfl⟩) ⟨fbS, va_recv hKc hPc (ci := 12) (q0 := 0) rfl rfl, fun U hU hW => ⟨rfl, by rw [hU]; exact hPc, va_K.moved hW.alike hKc⟩⟩ rfl rfl hl.1 rfl (lv_room (Nat.le_of_ble_eq_true rfl)) d_Model_program__41 ⟨Nat.le_of_ble_eq_true rfl, Nat.le_of_ble_eq_true rfl⟩)) (fun r3 hr3 => ?_)
  obtain rfl : r3 = 0 := hr3
  refine lv_if_ne (tgt := 136) hx hb d_Model_program__44 (by decide) (fun c4 => absurd c4 (by decide)) (fun _ => ?_)
  refine lv_aload_n hx hb d_Model_program__47 rfl (lv_at hl 1 rfl) ?_
  refine va_ldcwS (own := R_Model) (index := 424) (q := ad 6) hx hb hown (henv.2.2 6 (by decide)).2 d_Model_program__48 ?_
  have hPc := hP.sub (ws' := [oc h_this 12 fs_this_1]) [0] rfl
  have hKc := hK.sub (tys' := []) [] rfl
  refine vp_callSi (va_Run.run (va_runV (As := [.ref (ad 6)]) (rest := []) ⟨hx, hb, hml, hown, hT⟩ (c_Model_isWord_no l dC dI (h_this := h_this) (fs_this := fs_this_1) (v_this_sort := 7) (p1 := (ad 6)) (len_this := (by first | exact hw1_0 | (simp only [List.length_set]; exact hw1_0))) (g_this_sort := hw1_3) (hz := (by decide))) (cwV 1 hT (gV ml_Model_399 im_Model_isWord se_Model_isWord ini_Model co_Model_isWord) rfl rfl rfl (by decide +kernel) ⟨Nat.le_of_ble_eq_true rfl, Nat.le_of_ble_eq_true rfl⟩) ⟨fbS, va_recv hKc hPc (ci := 12) (q0 := 0) rfl rfl, fun U hU hW => ⟨rfl, by rw [hU]; exact hPc, va_K.moved hW.alike hKc⟩⟩ rfl rfl hl.1 rfl (lv_room (Nat.le_of_ble_eq_true rfl)) d_Model_program__51 ⟨Nat.le_of_ble_eq_true rfl, Nat.le_of_ble_eq_true rfl⟩)) (fun r5 hr5 => ?_)
  obtain rfl : r5 = 0 := hr5
  refine lv_if_eq (tgt := 61) hx hb d_Model_program__54 (by decide) (fun _ => ?_) (fun c6 => absurd (by decide) c6)
  refine lv_aload_n hx hb d_Model_program__61 rfl (lv_at hl 1 rfl) ?_
  refine va_ldcwS (own := R_Model) (index := 426) (q := ad 7) hx hb hown (henv.2.2 7 (by decide)).2 d_Model_program__62 ?_
  have hPc := hP.sub (ws' := [oc h_this 12 fs_this_1]) [0] rfl
  have hKc := hK.sub (tys' := []) [] rfl
  refine vp_callSi (va_Run.run (va_runV (As := [.ref (ad 7)]) (rest := []) ⟨hx, hb, hml, hown, hT⟩ (c_Model_isWord_no l dC dI (h_this := h_this) (fs_this := fs_this_1) (v_this_sort := 7) (p1 := (ad 7)) (len_this := (by first | exact hw1_0 | (simp only [List.length_set]; exact hw1_0))) (g_this_sort := hw1_3) (hz := (by decide))) (cwV 1 hT (gV ml_Model_399 im_Model_isWord se_Model_isWord ini_Model co_Model_isWord) rfl rfl rfl (by decide +kernel) ⟨Nat.le_of_ble_eq_true rfl, Nat.le_of_ble_eq_true rfl⟩) ⟨fbS, va_recv hKc hPc (ci := 12) (q0 := 0) rfl rfl, fun U hU hW => ⟨rfl, by rw [hU]; exact hPc, va_K.moved hW.alike hKc⟩⟩ rfl rfl hl.1 rfl (lv_room (Nat.le_of_ble_eq_true rfl)) d_Model_program__65 ⟨Nat.le_of_ble_eq_true rfl, Nat.le_of_ble_eq_true rfl⟩)) (fun r7 hr7 => ?_)
  obtain rfl : r7 = 0 := hr7
  refine lv_if_eq (tgt := 75) hx hb d_Model_program__68 (by decide) (fun _ => ?_) (fun c8 => absurd (by decide) c8)
  refine lv_aload_n hx hb d_Model_program__75 rfl (lv_at hl 1 rfl) ?_
  refine va_ldcwS (own := R_Model) (index := 428) (q := ad 8) hx hb hown (henv.2.2 8 (by decide)).2 d_Model_program__76 ?_
  have hPc := hP.sub (ws' := [oc h_this 12 fs_this_1]) [0] rfl
  have hKc := hK.sub (tys' := []) [] rfl
  refine vp_callSi (va_Run.run (va_runV (As := [.ref (ad 8)]) (rest := []) ⟨hx, hb, hml, hown, hT⟩ (c_Model_isWord_no l dC dI (h_this := h_this) (fs_this := fs_this_1) (v_this_sort := 7) (p1 := (ad 8)) (len_this := (by first | exact hw1_0 | (simp only [List.length_set]; exact hw1_0))) (g_this_sort := hw1_3) (hz := (by decide))) (cwV 1 hT (gV ml_Model_399 im_Model_isWord se_Model_isWord ini_Model co_Model_isWord) rfl rfl rfl (by decide +kernel) ⟨Nat.le_of_ble_eq_true rfl, Nat.le_of_ble_eq_true rfl⟩) ⟨fbS, va_recv hKc hPc (ci := 12) (q0 := 0) rfl rfl, fun U hU hW => ⟨rfl, by rw [hU]; exact hPc, va_K.moved hW.alike hKc⟩⟩ rfl rfl hl.1 rfl (lv_room (Nat.le_of_ble_eq_true rfl)) d_Model_program__79 ⟨Nat.le_of_ble_eq_true rfl, Nat.le_of_ble_eq_true rfl⟩)) (fun r9 hr9 => ?_)
  obtain rfl : r9 = 0 := hr9
  refine lv_if_eq (tgt := 89) hx hb d_Model_program__82 (by decide) (fun _ => ?_) (fun c10 => absurd (by decide) c10)
  refine lv_iconst (v := (-1)) hx hb d_Model_program__89 (by decide) ?_
  refine lv_istore_n (lv' := [(2, .int (-1)), (1, .int 1), (0, .ref h_this)]) hx hb d_Model_program__90 rfl hl (by decide) rfl (fun ls hl => ?_)
  refine lv_iload_n hx hb d_Model_program__91 rfl (lv_at hl 0 rfl) ?_
  refine lv_if_lt (tgt := 104) hx hb d_Model_program__92 (by decide) (fun _ => ?_) (fun c11 => absurd (by decide) c11)
  refine lv_aload_n hx hb d_Model_program__104 rfl (lv_at hl 2 rfl) ?_
  have hPc := hP.sub (ws' := [oc h_this 12 fs_this_1]) [0] rfl
  have hKc := hK.sub (tys' := []) [] rfl
  have hDc := hD.sub (ws' := [oc h_this 12 fs_this_1]) [0] (by decide) rfl
  have hFc := va_free (wc := [oc h_this 12 fs_this_1]) hD hS hA [0] rfl
  refine va_callv (va_runV (As := []) (rest := []) ⟨hx, hb, hml, hown, hT⟩ (c_Model_wrong_0 l dC dI (sz := H.size) (h_this := h_this) (fs_this := fs_this_1) (v_this_place := ((0 : Int32))) (len_this := (by first | exact hw1_0 | (simp only [List.length_set]; exact hw1_0))) (g_this_fault := ((hw1_1 7 (by decide) (by decide) (by decide)).trans ((ls_ne (by decide)).trans ((ls_ne (by decide)).trans ((ls_ne (by decide)).trans ((ls_ne (by decide)).trans ((ls_ne (by decide)).trans ((ls_ne (by decide)).trans g_this_fault)))))))) (g_this_place := hw1_2)) (cwV 0 hT (gV ml_Model_406 im_Model_wrong se_Model_wrong ini_Model co_Model_wrong) rfl rfl rfl (by decide +kernel) ⟨Nat.le_of_ble_eq_true rfl, Nat.le_of_ble_eq_true rfl⟩) ⟨fbQ, va_recv hKc hPc (ci := 12) (q0 := 0) rfl rfl, fun U hU hW => ⟨rfl, by rw [hU], by rw [hU]; exact hPc, va_K.moved hW.alike hKc, hDc.weaken (fun _ _ _ _ => trivial)⟩⟩ rfl rfl hl.1 rfl (lv_room (Nat.le_of_ble_eq_true rfl)) d_Model_program__105 ⟨Nat.le_of_ble_eq_true rfl, Nat.le_of_ble_eq_true rfl⟩) hS (fun q _ h => hFc q h) hFc (fun u t H1 locs ht hvm hw hB hz1 hk1 hS => ?_)
  obtain ⟨fs_this_12, ⟨hw12_0, hw12_1, hw12_2, hw12_3⟩, hP1, hK1, hD1⟩ := hB
  rw [ht] at hP1
  have hK1 := va_K.moved hvm.symm hK1
  obtain ⟨hP, hD⟩ := va_join (wr := []) (w1 := [oc h_this 12 fs_this_12]) hP hD [0] [] rfl rfl (by decide) (by decide) hk1 hFc hP1 hD1
  generalize H1 = H at hP hS ⊢
  have hP : va_P (dC, dI) cls_all [oc h_this 12 fs_this_12] H := hP
  have hD : va_D A [oc h_this 12 fs_this_12] := hD
  have hP9 := hP.sub (ws' := [oc h_this 12 fs_this_12]) [0] rfl
  have hD9 := hD.sub (ws' := [oc h_this 12 fs_this_12]) [0] (by decide) rfl
  have hK9 := hK.sub (tys' := []) [] rfl
  have hv13 : fs_this_12[4]? = some (.int ((0 : Int32))) := ((hw12_1 4 (by decide) (by decide)).trans hw1_4)
  have hv14 : fs_this_12[11]? = some (.int 0) := ((hw12_1 11 (by decide) (by decide)).trans ((hw1_1 11 (by decide) (by decide) (by decide)).trans ((ls_ne (by decide)).trans ((ls_ne (by decide)).trans ((ls_ne (by decide)).trans ((ls_ne (by decide)).trans (ls_eq (by simp only [List.length_set, len_this]; decide))))))))
  have hv15 : fs_this_12[20]? = some (.int 0) := ((hw12_1 20 (by decide) (by decide)).trans ((hw1_1 20 (by decide) (by decide) (by decide)).trans ((ls_ne (by decide)).trans ((ls_ne (by decide)).trans ((ls_ne (by decide)).trans (ls_eq (by simp only [List.length_set, len_this]; decide)))))))
  have hv16 : fs_this_12[37]? = some (.int 0) := ((hw12_1 37 (by decide) (by decide)).trans ((hw1_1 37 (by decide) (by decide) (by decide)).trans ((ls_ne (by decide)).trans ((ls_ne (by decide)).trans (ls_eq (by simp only [List.length_set, len_this]; decide))))))
  have hv17 : fs_this_12[45]? = some (.int 0) := ((hw12_1 45 (by decide) (by decide)).trans ((hw1_1 45 (by decide) (by decide) (by decide)).trans ((ls_ne (by decide)).trans (ls_eq (by simp only [List.length_set, len_this]; decide)))))
  have hv18 : fs_this_12[49]? = some (.int 0) := ((hw12_1 49 (by decide) (by decide)).trans ((hw1_1 49 (by decide) (by decide) (by decide)).trans (ls_eq (by simp only [List.length_set, len_this]; decide))))
  have hv19 : fs_this_12[3]? = some (.int ((0 : Int32))) := ((hw12_1 3 (by decide) (by decide)).trans hw1_2)
  have hv20 : fs_this_12[2]? = some (.int 7) := ((hw12_1 2 (by decide) (by decide)).trans hw1_3)
  have hv21 : fs_this_12[7]? = some (.int 1) := hw12_2
  have hv22 : fs_this_12[8]? = some (.int (((0 : Int32)))) := hw12_3
  exact W.vret hx hb hr (fun t ht hW => ⟨⟨(), rfl, trivial, fs_this_12, ⟨(by first | exact hw12_0 | (simp only [List.length_set]; exact hw12_0)), (fun j n4 n11 n20 n37 n45 n49 n3 n2 n7 n8 => ((hw12_1 j n7 n8).trans ((hw1_1 j n3 n2 n4).trans ((ls_ne n49).trans ((ls_ne n45).trans ((ls_ne n37).trans ((ls_ne n20).trans ((ls_ne n11).trans ((ls_ne n4).trans rfl))))))))), (by first | exact hv13 | (rw [hv13]; refine congrArg some (congrArg _ ?_); rfl)), (by first | exact hv14 | (rw [hv14]; refine congrArg some (congrArg _ ?_); rfl)), (by first | exact hv15 | (rw [hv15]; refine congrArg some (congrArg _ ?_); rfl)), (by first | exact hv16 | (rw [hv16]; refine congrArg some (congrArg _ ?_); rfl)), (by first | exact hv17 | (rw [hv17]; refine congrArg some (congrArg _ ?_); rfl)), (by first | exact hv18 | (rw [hv18]; refine congrArg some (congrArg _ ?_); rfl)), (by first | exact hv19 | (rw [hv19]; refine congrArg some (congrArg _ ?_); rfl)), (by first | exact hv20 | (rw [hv20]; refine congrArg some (congrArg _ ?_); rfl)), (by first | exact hv21 | (rw [hv21]; refine congrArg some (congrArg _ ?_); rfl)), (by first | exact hv22 | (rw [hv22]; refine congrArg some (congrArg _ ?_); rfl))⟩, by rw [ht]; exact hP9, va_K.moved hW.alike hK9, hD9⟩, hS.F ht⟩) hS.2.2 d_Model_program__108
set_option maxHeartbeats 1000000 in
set_option maxRecDepth 100000 in
theorem c_Model_stopAll (l : Launch) (dC : Nat → ClassId) (dI : Nat → Nat → Nat) (sz : Nat) (h_this : Nat) (fs_this : List Value) (len_this : fs_this.length = 153) : Met l y_Model_stopAll w_Model_stopAll ({ frames := 0, cells := 0, slots := 0, locals := 0 } : Room) (va_Pc [.ref h_this] (fun U => U.heap.size = sz ∧ va_P (dC, dI) cls_all [oc h_this 12 fs_this] U.heap ∧ va_K (dC, dI) cls_all [] U ∧ va_D (fun _ => True) [oc h_this 12 fs_this])) (va_Qv (fun (_ : Unit) => True) (fun _ t => ∃ (fs_this' : List Value), (fs_this'.length = 153 ∧ (∀ j : Nat, j ≠ 100 → j ≠ 101 → j ≠ 103 → j ≠ 104 → j ≠ 105 → j ≠ 106 → j ≠ 107 → j ≠ 108 → j ≠ 129 → j ≠ 150 → j ≠ 109 → j ≠ 123 → j ≠ 130 → j ≠ 132 → fs_this'[j]? = fs_this[j]?) ∧ fs_this'[100]? = some (.int (0)) ∧ fs_this'[101]? = some (.int (0)) ∧ fs_this'[103]? = some (.int (0)) ∧ fs_this'[104]? = some (.int (0)) ∧ fs_this'[105]? = some (.int (0)) ∧ fs_this'[106]? = some (.int (0)) ∧ fs_this'[107]? = some (.int (0)) ∧ fs_this'[108]? = some (.int (0)) ∧ fs_this'[129]? = some (.int (0)) ∧ fs_this'[150]? = some (.int (0)) ∧ fs_this'[109]? = some (.int (0)) ∧ fs_this'[123]? = some (.int (0)) ∧ fs_this'[130]? = some (.int (0)) ∧ fs_this'[132]? = some (.int (0))) ∧ va_P (dC, dI) cls_all [oc h_this 12 fs_this'] t.heap ∧ va_K (dC, dI) cls_all [] t ∧ va_D (va_A [oc h_this 12 fs_this] sz) [oc h_this 12 fs_this']) (va_A [oc h_this 12 fs_this] sz)) 0 0 (va_A [oc h_this 12 fs_this] sz) := by
  refine Met.ofW (cc := b_Model_stopAll) (maxL := 1) (ret := none) (by decide) rfl ?_
  intro p e s m args below meth c s₁ B hml hv
  obtain ⟨rfl, hsz, hP, hK, hD0⟩ := hv
  have hx := B.exec
  have hb := B.bytes
  have hr := B.returns
  have hT : ∀ w ∈ lw_good, w.before _ s = true := fun w h => atoms_spec (ws := w_Model_stopAll) B.pre w (List.mem_cons_of_mem _ h)
  have hown : s.vm.findClass R_Model = some m.cls := findClass_of_methodNamed B.named
  have hlocks := B.notSynchronized
  subst hsz
  have hD := hD0.self (sz := s.heap.size)
  generalize hAe : va_A [oc h_this 12 fs_this] s.heap.size = A at hD ⊢
  have hA : ∀ q : Nat, s.heap.size ≤ q → A q := fun q h => by rw [← hAe]; exact Or.inr h
  have hS : va_S A s.heap s.heap [] := va_S.rf
  have hP : va_P (dC, dI) cls_all [oc h_this 12 fs_this] s.heap := hP
  have hl := lv_entry ([.ref h_this]) (n := 1) (Nat.le_of_ble_eq_true rfl)
  rw [lg_entry_eq]
  generalize (lg_sl ([.ref h_this]) ++ List.replicate (1 - (lg_sl ([.ref h_this])).length) Slot.unset).toArray = ls at hl ⊢
  have hl : lv_has ls 1 [(0, .ref h_this)] := hl
  refine lv_aload_n hx hb d_Model_stopAll_0 rfl (lv_at hl 0 rfl) ?_
  refine lv_iconst (v := 0) hx hb d_Model_stopAll_1 (by decide) ?_
  refine va_put (D := (dC, dI)) (ci := 12) (v := .int 0) (ty := .int) (C := R_Model) (T := F_Model) (N := 153) hx hb hT i_Model t_Model t_Model_ok n_Model hown hK hP hD hS 0 rfl rfl 100 (by decide) (hT _ fl_Model_802) (fun _ h9 => h9) rfl (by decide +kernel) rfl rfl (by simp only [List.length_set, len_this]; decide) d_Model_stopAll_2 (fun H locs hP hD hS => ?_)
  have hP : va_P (dC, dI) cls_all [oc h_this 12 (fs_this.set 100 (.int 0))] H := hP
  have hD : va_D A [oc h_this 12 (fs_this.set 100 (.int 0))] := hD
  refine lv_aload_n hx hb d_Model_stopAll_5 rfl (lv_at hl 0 rfl) ?_
  refine lv_iconst (v := 0) hx hb d_Model_stopAll_6 (by decide) ?_
  refine va_put (D := (dC, dI)) (ci := 12) (v := .int 0) (ty := .int) (C := R_Model) (T := F_Model) (N := 153) hx hb hT i_Model t_Model t_Model_ok n_Model hown hK hP hD hS 0 rfl rfl 101 (by decide) (hT _ fl_Model_805) (fun _ h9 => h9) rfl (by decide +kernel) rfl rfl (by simp only [List.length_set, len_this]; decide) d_Model_stopAll_7 (fun H locs hP hD hS => ?_)
  have hP : va_P (dC, dI) cls_all [oc h_this 12 ((fs_this.set 100 (.int 0)).set 101 (.int 0))] H := hP
  have hD : va_D A [oc h_this 12 ((fs_this.set 100 (.int 0)).set 101 (.int 0))] := hD
  refine lv_aload_n hx hb d_Model_stopAll_10 rfl (lv_at hl 0 rfl) ?_
  refine lv_iconst (v := 0) hx hb d_Model_stopAll_11 (by decide) ?_
  refine va_put (D := (dC, dI)) (ci := 12) (v := .int 0) (ty := .int) (C := R_Model) (T := F_Model) (N := 153) hx hb hT i_Model t_Model t_Model_ok n_Model hown hK hP hD hS 0 rfl rfl 103 (by decide) (hT _ fl_Model_808) (fun _ h9 => h9) rfl (by decide +kernel) rfl rfl (by simp only [List.length_set, len_this]; decide) d_Model_stopAll_12 (fun H locs hP hD hS => ?_)
  have hP : va_P (dC, dI) cls_all [oc h_this 12 (((fs_this.set 100 (.int 0)).set 101 (.int 0)).set 103 (.int 0))] H := hP
  have hD : va_D A [oc h_this 12 (((fs_this.set 100 (.int 0)).set 101 (.int 0)).set 103 (.int 0))] := hD
  refine lv_aload_n hx hb d_Model_stopAll_15 rfl (lv_at hl 0 rfl) ?_
  refine lv_iconst (v := 0) hx hb d_Model_stopAll_16 (by decide) ?_
  refine va_put (D := (dC, dI)) (ci := 12) (v := .int 0) (ty := .int) (C := R_Model) (T := F_Model) (N := 153) hx hb hT i_Model t_Model t_Model_ok n_Model hown hK hP hD hS 0 rfl rfl 104 (by decide) (hT _ fl_Model_811) (fun _ h9 => h9) rfl (by decide +kernel) rfl rfl (by simp only [List.length_set, len_this]; decide) d_Model_stopAll_17 (fun H locs hP hD hS => ?_)
  have hP : va_P (dC, dI) cls_all [oc h_this 12 ((((fs_this.set 100 (.int 0)).set 101 (.int 0)).set 103 (.int 0)).set 104 (.int 0))] H := hP
  have hD : va_D A [oc h_this 12 ((((fs_this.set 100 (.int 0)).set 101 (.int 0)).set 103 (.int 0)).set 104 (.int 0))] := hD
  refine lv_aload_n hx hb d_Model_stopAll_20 rfl (lv_at hl 0 rfl) ?_
  refine lv_iconst (v := 0) hx hb d_Model_stopAll_21 (by decide) ?_
  refine va_put (D := (dC, dI)) (ci := 12) (v := .int 0) (ty := .int) (C := R_Model) (T := F_Model) (N := 153) hx hb hT i_Model t_Model t_Model_ok n_Model hown hK hP hD hS 0 rfl rfl 105 (by decide) (hT _ fl_Model_814) (fun _ h9 => h9) rfl (by decide +kernel) rfl rfl (by simp only [List.length_set, len_this]; decide) d_Model_stopAll_22 (fun H locs hP hD hS => ?_)
  have hP : va_P (dC, dI) cls_all [oc h_this 12 (((((fs_this.set 100 (.int 0)).set 101 (.int 0)).set 103 (.int 0)).set 104 (.int 0)).set 105 (.int 0))] H := hP
  have hD : va_D A [oc h_this 12 (((((fs_this.set 100 (.int 0)).set 101 (.int 0)).set 103 (.int 0)).set 104 (.int 0)).set 105 (.int 0))] := hD
  refine lv_aload_n hx hb d_Model_stopAll_25 rfl (lv_at hl 0 rfl) ?_
  refine lv_iconst (v := 0) hx hb d_Model_stopAll_26 (by decide) ?_
  refine va_put (D := (dC, dI)) (ci := 12) (v := .int 0) (ty := .int) (C := R_Model) (T := F_Model) (N := 153) hx hb hT i_Model t_Model t_Model_ok n_Model hown hK hP hD hS 0 rfl rfl 106 (by decide) (hT _ fl_Model_817) (fun _ h9 => h9) rfl (by decide +kernel) rfl rfl (by simp only [List.length_set, len_this]; decide) d_Model_stopAll_27 (fun H locs hP hD hS => ?_)
  have hP : va_P (dC, dI) cls_all [oc h_this 12 ((((((fs_this.set 100 (.int 0)).set 101 (.int 0)).set 103 (.int 0)).set 104 (.int 0)).set 105 (.int 0)).set 106 (.int 0))] H := hP
  have hD : va_D A [oc h_this 12 ((((((fs_this.set 100 (.int 0)).set 101 (.int 0)).set 103 (.int 0)).set 104 (.int 0)).set 105 (.int 0)).set 106 (.int 0))] := hD
  refine lv_aload_n hx hb d_Model_stopAll_30 rfl (lv_at hl 0 rfl) ?_
  refine lv_iconst (v := 0) hx hb d_Model_stopAll_31 (by decide) ?_
  refine va_put (D := (dC, dI)) (ci := 12) (v := .int 0) (ty := .int) (C := R_Model) (T := F_Model) (N := 153) hx hb hT i_Model t_Model t_Model_ok n_Model hown hK hP hD hS 0 rfl rfl 107 (by decide) (hT _ fl_Model_820) (fun _ h9 => h9) rfl (by decide +kernel) rfl rfl (by simp only [List.length_set, len_this]; decide) d_Model_stopAll_32 (fun H locs hP hD hS => ?_)
  have hP : va_P (dC, dI) cls_all [oc h_this 12 (((((((fs_this.set 100 (.int 0)).set 101 (.int 0)).set 103 (.int 0)).set 104 (.int 0)).set 105 (.int 0)).set 106 (.int 0)).set 107 (.int 0))] H := hP
  have hD : va_D A [oc h_this 12 (((((((fs_this.set 100 (.int 0)).set 101 (.int 0)).set 103 (.int 0)).set 104 (.int 0)).set 105 (.int 0)).set 106 (.int 0)).set 107 (.int 0))] := hD
  refine lv_aload_n hx hb d_Model_stopAll_35 rfl (lv_at hl 0 rfl) ?_
  refine lv_iconst (v := 0) hx hb d_Model_stopAll_36 (by decide) ?_
  refine va_put (D := (dC, dI)) (ci := 12) (v := .int 0) (ty := .int) (C := R_Model) (T := F_Model) (N := 153) hx hb hT i_Model t_Model t_Model_ok n_Model hown hK hP hD hS 0 rfl rfl 108 (by decide) (hT _ fl_Model_823) (fun _ h9 => h9) rfl (by decide +kernel) rfl rfl (by simp only [List.length_set, len_this]; decide) d_Model_stopAll_37 (fun H locs hP hD hS => ?_)
  have hP : va_P (dC, dI) cls_all [oc h_this 12 ((((((((fs_this.set 100 (.int 0)).set 101 (.int 0)).set 103 (.int 0)).set 104 (.int 0)).set 105 (.int 0)).set 106 (.int 0)).set 107 (.int 0)).set 108 (.int 0))] H := hP
  have hD : va_D A [oc h_this 12 ((((((((fs_this.set 100 (.int 0)).set 101 (.int 0)).set 103 (.int 0)).set 104 (.int 0)).set 105 (.int 0)).set 106 (.int 0)).set 107 (.int 0)).set 108 (.int 0))] := hD
  refine lv_aload_n hx hb d_Model_stopAll_40 rfl (lv_at hl 0 rfl) ?_
  refine lv_iconst (v := 0) hx hb d_Model_stopAll_41 (by decide) ?_
  refine va_put (D := (dC, dI)) (ci := 12) (v := .int 0) (ty := .int) (C := R_Model) (T := F_Model) (N := 153) hx hb hT i_Model t_Model t_Model_ok n_Model hown hK hP hD hS 0 rfl rfl 129 (by decide) (hT _ fl_Model_826) (fun _ h9 => h9) rfl (by decide +kernel) rfl rfl (by simp only [List.length_set, len_this]; decide) d_Model_stopAll_42 (fun H locs hP hD hS => ?_)
  have hP : va_P (dC, dI) cls_all [oc h_this 12 (((((((((fs_this.set 100 (.int 0)).set 101 (.int 0)).set 103 (.int 0)).set 104 (.int 0)).set 105 (.int 0)).set 106 (.int 0)).set 107 (.int 0)).set 108 (.int 0)).set 129 (.int 0))] H := hP
  have hD : va_D A [oc h_this 12 (((((((((fs_this.set 100 (.int 0)).set 101 (.int 0)).set 103 (.int 0)).set 104 (.int 0)).set 105 (.int 0)).set 106 (.int 0)).set 107 (.int 0)).set 108 (.int 0)).set 129 (.int 0))] := hD
  refine lv_aload_n hx hb d_Model_stopAll_45 rfl (lv_at hl 0 rfl) ?_
  refine lv_iconst (v := 0) hx hb d_Model_stopAll_46 (by decide) ?_
  refine va_put (D := (dC, dI)) (ci := 12) (v := .int 0) (ty := .int) (C := R_Model) (T := F_Model) (N := 153) hx hb hT i_Model t_Model t_Model_ok n_Model hown hK hP hD hS 0 rfl rfl 150 (by decide) (hT _ fl_Model_829) (fun _ h9 => h9) rfl (by decide +kernel) rfl rfl (by simp only [List.length_set, len_this]; decide) d_Model_stopAll_47 (fun H locs hP hD hS => ?_)
  have hP : va_P (dC, dI) cls_all [oc h_this 12 ((((((((((fs_this.set 100 (.int 0)).set 101 (.int 0)).set 103 (.int 0)).set 104 (.int 0)).set 105 (.int 0)).set 106 (.int 0)).set 107 (.int 0)).set 108 (.int 0)).set 129 (.int 0)).set 150 (.int 0))] H := hP
  have hD : va_D A [oc h_this 12 ((((((((((fs_this.set 100 (.int 0)).set 101 (.int 0)).set 103 (.int 0)).set 104 (.int 0)).set 105 (.int 0)).set 106 (.int 0)).set 107 (.int 0)).set 108 (.int 0)).set 129 (.int 0)).set 150 (.int 0))] := hD
  refine lv_aload_n hx hb d_Model_stopAll_50 rfl (lv_at hl 0 rfl) ?_
  refine lv_iconst (v := 0) hx hb d_Model_stopAll_51 (by decide) ?_
  refine va_put (D := (dC, dI)) (ci := 12) (v := .int 0) (ty := .int) (C := R_Model) (T := F_Model) (N := 153) hx hb hT i_Model t_Model t_Model_ok n_Model hown hK hP hD hS 0 rfl rfl 109 (by decide) (hT _ fl_Model_799) (fun _ h9 => h9) rfl (by decide +kernel) rfl rfl (by simp only [List.length_set, len_this]; decide) d_Model_stopAll_52 (fun H locs hP hD hS => ?_)
  have hP : va_P (dC, dI) cls_all [oc h_this 12 (((((((((((fs_this.set 100 (.int 0)).set 101 (.int 0)).set 103 (.int 0)).set 104 (.int 0)).set 105 (.int 0)).set 106 (.int 0)).set 107 (.int 0)).set 108 (.int 0)).set 129 (.int 0)).set 150 (.int 0)).set 109 (.int 0))] H := hP
  have hD : va_D A [oc h_this 12 (((((((((((fs_this.set 100 (.int 0)).set 101 (.int 0)).set 103 (.int 0)).set 104 (.int 0)).set 105 (.int 0)).set 106 (.int 0)).set 107 (.int 0)).set 108 (.int 0)).set 129 (.int 0)).set 150 (.int 0)).set 109 (.int 0))] := hD
  refine lv_aload_n hx hb d_Model_stopAll_55 rfl (lv_at hl 0 rfl) ?_
  refine lv_iconst (v := 0) hx hb d_Model_stopAll_56 (by decide) ?_
  refine va_put (D := (dC, dI)) (ci := 12) (v := .int 0) (ty := .int) (C := R_Model) (T := F_Model) (N := 153) hx hb hT i_Model t_Model t_Model_ok n_Model hown hK hP hD hS 0 rfl rfl 123 (by decide) (hT _ fl_Model_832) (fun _ h9 => h9) rfl (by decide +kernel) rfl rfl (by simp only [List.length_set, len_this]; decide) d_Model_stopAll_57 (fun H locs hP hD hS => ?_)
  have hP : va_P (dC, dI) cls_all [oc h_this 12 ((((((((((((fs_this.set 100 (.int 0)).set 101 (.int 0)).set 103 (.int 0)).set 104 (.int 0)).set 105 (.int 0)).set 106 (.int 0)).set 107 (.int 0)).set 108 (.int 0)).set 129 (.int 0)).set 150 (.int 0)).set 109 (.int 0)).set 123 (.int 0))] H := hP
  have hD : va_D A [oc h_this 12 ((((((((((((fs_this.set 100 (.int 0)).set 101 (.int 0)).set 103 (.int 0)).set 104 (.int 0)).set 105 (.int 0)).set 106 (.int 0)).set 107 (.int 0)).set 108 (.int 0)).set 129 (.int 0)).set 150 (.int 0)).set 109 (.int 0)).set 123 (.int 0))] := hD
  refine lv_aload_n hx hb d_Model_stopAll_60 rfl (lv_at hl 0 rfl) ?_
  refine lv_iconst (v := 0) hx hb d_Model_stopAll_61 (by decide) ?_
  refine va_put (D := (dC, dI)) (ci := 12) (v := .int 0) (ty := .int) (C := R_Model) (T := F_Model) (N := 153) hx hb hT i_Model t_Model t_Model_ok n_Model hown hK hP hD hS 0 rfl rfl 130 (by decide) (hT _ fl_Model_835) (fun _ h9 => h9) rfl (by decide +kernel) rfl rfl (by simp only [List.length_set, len_this]; decide) d_Model_stopAll_62 (fun H locs hP hD hS => ?_)
  have hP : va_P (dC, dI) cls_all [oc h_this 12 (((((((((((((fs_this.set 100 (.int 0)).set 101 (.int 0)).set 103 (.int 0)).set 104 (.int 0)).set 105 (.int 0)).set 106 (.int 0)).set 107 (.int 0)).set 108 (.int 0)).set 129 (.int 0)).set 150 (.int 0)).set 109 (.int 0)).set 123 (.int 0)).set 130 (.int 0))] H := hP
  have hD : va_D A [oc h_this 12 (((((((((((((fs_this.set 100 (.int 0)).set 101 (.int 0)).set 103 (.int 0)).set 104 (.int 0)).set 105 (.int 0)).set 106 (.int 0)).set 107 (.int 0)).set 108 (.int 0)).set 129 (.int 0)).set 150 (.int 0)).set 109 (.int 0)).set 123 (.int 0)).set 130 (.int 0))] := hD
  refine lv_aload_n hx hb d_Model_stopAll_65 rfl (lv_at hl 0 rfl) ?_
  refine lv_iconst (v := 0) hx hb d_Model_stopAll_66 (by decide) ?_
  refine va_put (D := (dC, dI)) (ci := 12) (v := .int 0) (ty := .int) (C := R_Model) (T := F_Model) (N := 153) hx hb hT i_Model t_Model t_Model_ok n_Model hown hK hP hD hS 0 rfl rfl 132 (by decide) (hT _ fl_Model_838) (fun _ h9 => h9) rfl (by decide +kernel) rfl rfl (by simp only [List.length_set, len_this]; decide) d_Model_stopAll_67 (fun H locs hP hD hS => ?_)
  have hP : va_P (dC, dI) cls_all [oc h_this 12 ((((((((((((((fs_this.set 100 (.int 0)).set 101 (.int 0)).set 103 (.int 0)).set 104 (.int 0)).set 105 (.int 0)).set 106 (.int 0)).set 107 (.int 0)).set 108 (.int 0)).set 129 (.int 0)).set 150 (.int 0)).set 109 (.int 0)).set 123 (.int 0)).set 130 (.int 0)).set 132 (.int 0))] H := hP
  have hD : va_D A [oc h_this 12 ((((((((((((((fs_this.set 100 (.int 0)).set 101 (.int 0)).set 103 (.int 0)).set 104 (.int 0)).set 105 (.int 0)).set 106 (.int 0)).set 107 (.int 0)).set 108 (.int 0)).set 129 (.int 0)).set 150 (.int 0)).set 109 (.int 0)).set 123 (.int 0)).set 130 (.int 0)).set 132 (.int 0))] := hD
  have hP9 := hP.sub (ws' := [oc h_this 12 ((((((((((((((fs_this.set 100 (.int 0)).set 101 (.int 0)).set 103 (.int 0)).set 104 (.int 0)).set 105 (.int 0)).set 106 (.int 0)).set 107 (.int 0)).set 108 (.int 0)).set 129 (.int 0)).set 150 (.int 0)).set 109 (.int 0)).set 123 (.int 0)).set 130 (.int 0)).set 132 (.int 0))]) [0] rfl
  have hD9 := hD.sub (ws' := [oc h_this 12 ((((((((((((((fs_this.set 100 (.int 0)).set 101 (.int 0)).set 103 (.int 0)).set 104 (.int 0)).set 105 (.int 0)).set 106 (.int 0)).set 107 (.int 0)).set 108 (.int 0)).set 129 (.int 0)).set 150 (.int 0)).set 109 (.int 0)).set 123 (.int 0)).set 130 (.int 0)).set 132 (.int 0))]) [0] (by decide) rfl
  have hK9 := hK.sub (tys' := []) [] rfl
  have hv1 : ((((((((((((((fs_this.set 100 (.int 0)).set 101 (.int 0)).set 103 (.int 0)).set 104 (.int 0)).set 105 (.int 0)).set 106 (.int 0)).set 107 (.int 0)).set 108 (.int 0)).set 129 (.int 0)).set 150 (.int 0)).set 109 (.int 0)).set 123 (.int 0)).set 130 (.int 0)).set 132 (.int 0))[100]? = some (.int 0) := ((ls_ne (by decide)).trans ((ls_ne (by decide)).trans ((ls_ne (by decide)).trans ((ls_ne (by decide)).trans ((ls_ne (by decide)).trans ((ls_ne (by decide)).trans ((ls_ne (by decide)).trans ((ls_ne (by decide)).trans ((ls_ne (by decide)).trans ((ls_ne (by decide)).trans ((ls_ne (by decide)).trans ((ls_ne (by decide)).trans ((ls_ne (by decide)).trans (ls_eq (by simp only [List.length_set, len_this]; decide)))))))))))))))
  have hv2 : ((((((((((((((fs_this.set 100 (.int 0)).set 101 (.int 0)).set 103 (.int 0)).set 104 (.int 0)).set 105 (.int 0)).set 106 (.int 0)).set 107 (.int 0)).set 108 (.int 0)).set 129 (.int 0)).set 150 (.int 0)).set 109 (.int 0)).set 123 (.int 0)).set 130 (.int 0)).set 132 (.int 0))[101]? = some (.int 0) := ((ls_ne (by decide)).trans ((ls_ne (by decide)).trans ((ls_ne (by decide)).trans ((ls_ne (by decide)).trans ((ls_ne (by decide)).trans ((ls_ne (by decide)).trans ((ls_ne (by decide)).trans ((ls_ne (by decide)).trans ((ls_ne (by decide)).trans ((ls_ne (by decide)).trans ((ls_ne (by decide)).trans ((ls_ne (by decide)).trans (ls_eq (by simp only [List.length_set, len_this]; decide))))))))))))))
  have hv3 : ((((((((((((((fs_this.set 100 (.int 0)).set 101 (.int 0)).set 103 (.int 0)).set 104 (.int 0)).set 105 (.int 0)).set 106 (.int 0)).set 107 (.int 0)).set 108 (.int 0)).set 129 (.int 0)).set 150 (.int 0)).set 109 (.int 0)).set 123 (.int 0)).set 130 (.int 0)).set 132 (.int 0))[103]? = some (.int 0) := ((ls_ne (by decide)).trans ((ls_ne (by decide)).trans ((ls_ne (by decide)).trans ((ls_ne (by decide)).trans ((ls_ne (by decide)).trans ((ls_ne (by decide)).trans ((ls_ne (by decide)).trans ((ls_ne (by decide)).trans ((ls_ne (by decide)).trans ((ls_ne (by decide)).trans ((ls_ne (by decide)).trans (ls_eq (by simp only [List.length_set, len_this]; decide)))))))))))))
  have hv4 : ((((((((((((((fs_this.set 100 (.int 0)).set 101 (.int 0)).set 103 (.int 0)).set 104 (.int 0)).set 105 (.int 0)).set 106 (.int 0)).set 107 (.int 0)).set 108 (.int 0)).set 129 (.int 0)).set 150 (.int 0)).set 109 (.int 0)).set 123 (.int 0)).set 130 (.int 0)).set 132 (.int 0))[104]? = some (.int 0) := ((ls_ne (by decide)).trans ((ls_ne (by decide)).trans ((ls_ne (by decide)).trans ((ls_ne (by decide)).trans ((ls_ne (by decide)).trans ((ls_ne (by decide)).trans ((ls_ne (by decide)).trans ((ls_ne (by decide)).trans ((ls_ne (by decide)).trans ((ls_ne (by decide)).trans (ls_eq (by simp only [List.length_set, len_this]; decide))))))))))))
  have hv5 : ((((((((((((((fs_this.set 100 (.int 0)).set 101 (.int 0)).set 103 (.int 0)).set 104 (.int 0)).set 105 (.int 0)).set 106 (.int 0)).set 107 (.int 0)).set 108 (.int 0)).set 129 (.int 0)).set 150 (.int 0)).set 109 (.int 0)).set 123 (.int 0)).set 130 (.int 0)).set 132 (.int 0))[105]? = some (.int 0) := ((ls_ne (by decide)).trans ((ls_ne (by decide)).trans ((ls_ne (by decide)).trans ((ls_ne (by decide)).trans ((ls_ne (by decide)).trans ((ls_ne (by decide)).trans ((ls_ne (by decide)).trans ((ls_ne (by decide)).trans ((ls_ne (by decide)).trans (ls_eq (by simp only [List.length_set, len_this]; decide)))))))))))
  have hv6 : ((((((((((((((fs_this.set 100 (.int 0)).set 101 (.int 0)).set 103 (.int 0)).set 104 (.int 0)).set 105 (.int 0)).set 106 (.int 0)).set 107 (.int 0)).set 108 (.int 0)).set 129 (.int 0)).set 150 (.int 0)).set 109 (.int 0)).set 123 (.int 0)).set 130 (.int 0)).set 132 (.int 0))[106]? = some (.int 0) := ((ls_ne (by decide)).trans ((ls_ne (by decide)).trans ((ls_ne (by decide)).trans ((ls_ne (by decide)).trans ((ls_ne (by decide)).trans ((ls_ne (by decide)).trans ((ls_ne (by decide)).trans ((ls_ne (by decide)).trans (ls_eq (by simp only [List.length_set, len_this]; decide))))))))))
  have hv7 : ((((((((((((((fs_this.set 100 (.int 0)).set 101 (.int 0)).set 103 (.int 0)).set 104 (.int 0)).set 105 (.int 0)).set 106 (.int 0)).set 107 (.int 0)).set 108 (.int 0)).set 129 (.int 0)).set 150 (.int 0)).set 109 (.int 0)).set 123 (.int 0)).set 130 (.int 0)).set 132 (.int 0))[107]? = some (.int 0) := ((ls_ne (by decide)).trans ((ls_ne (by decide)).trans ((ls_ne (by decide)).trans ((ls_ne (by decide)).trans ((ls_ne (by decide)).trans ((ls_ne (by decide)).trans ((ls_ne (by decide)).trans (ls_eq (by simp only [List.length_set, len_this]; decide)))))))))
  have hv8 : ((((((((((((((fs_this.set 100 (.int 0)).set 101 (.int 0)).set 103 (.int 0)).set 104 (.int 0)).set 105 (.int 0)).set 106 (.int 0)).set 107 (.int 0)).set 108 (.int 0)).set 129 (.int 0)).set 150 (.int 0)).set 109 (.int 0)).set 123 (.int 0)).set 130 (.int 0)).set 132 (.int 0))[108]? = some (.int 0) := ((ls_ne (by decide)).trans ((ls_ne (by decide)).trans ((ls_ne (by decide)).trans ((ls_ne (by decide)).trans ((ls_ne (by decide)).trans ((ls_ne (by decide)).trans (ls_eq (by simp only [List.length_set, len_this]; decide))))))))
  have hv9 : ((((((((((((((fs_this.set 100 (.int 0)).set 101 (.int 0)).set 103 (.int 0)).set 104 (.int 0)).set 105 (.int 0)).set 106 (.int 0)).set 107 (.int 0)).set 108 (.int 0)).set 129 (.int 0)).set 150 (.int 0)).set 109 (.int 0)).set 123 (.int 0)).set 130 (.int 0)).set 132 (.int 0))[129]? = some (.int 0) := ((ls_ne (by decide)).trans ((ls_ne (by decide)).trans ((ls_ne (by decide)).trans ((ls_ne (by decide)).trans ((ls_ne (by decide)).trans (ls_eq (by simp only [List.length_set, len_this]; decide)))))))
  have hv10 : ((((((((((((((fs_this.set 100 (.int 0)).set 101 (.int 0)).set 103 (.int 0)).set 104 (.int 0)).set 105 (.int 0)).set 106 (.int 0)).set 107 (.int 0)).set 108 (.int 0)).set 129 (.int 0)).set 150 (.int 0)).set 109 (.int 0)).set 123 (.int 0)).set 130 (.int 0)).set 132 (.int 0))[150]? = some (.int 0) := ((ls_ne (by decide)).trans ((ls_ne (by decide)).trans ((ls_ne (by decide)).trans ((ls_ne (by decide)).trans (ls_eq (by simp only [List.length_set, len_this]; decide))))))
  have hv11 : ((((((((((((((fs_this.set 100 (.int 0)).set 101 (.int 0)).set 103 (.int 0)).set 104 (.int 0)).set 105 (.int 0)).set 106 (.int 0)).set 107 (.int 0)).set 108 (.int 0)).set 129 (.int 0)).set 150 (.int 0)).set 109 (.int 0)).set 123 (.int 0)).set 130 (.int 0)).set 132 (.int 0))[109]? = some (.int 0) := ((ls_ne (by decide)).trans ((ls_ne (by decide)).trans ((ls_ne (by decide)).trans (ls_eq (by simp only [List.length_set, len_this]; decide)))))
  have hv12 : ((((((((((((((fs_this.set 100 (.int 0)).set 101 (.int 0)).set 103 (.int 0)).set 104 (.int 0)).set 105 (.int 0)).set 106 (.int 0)).set 107 (.int 0)).set 108 (.int 0)).set 129 (.int 0)).set 150 (.int 0)).set 109 (.int 0)).set 123 (.int 0)).set 130 (.int 0)).set 132 (.int 0))[123]? = some (.int 0) := ((ls_ne (by decide)).trans ((ls_ne (by decide)).trans (ls_eq (by simp only [List.length_set, len_this]; decide))))
  have hv13 : ((((((((((((((fs_this.set 100 (.int 0)).set 101 (.int 0)).set 103 (.int 0)).set 104 (.int 0)).set 105 (.int 0)).set 106 (.int 0)).set 107 (.int 0)).set 108 (.int 0)).set 129 (.int 0)).set 150 (.int 0)).set 109 (.int 0)).set 123 (.int 0)).set 130 (.int 0)).set 132 (.int 0))[130]? = some (.int 0) := ((ls_ne (by decide)).trans (ls_eq (by simp only [List.length_set, len_this]; decide)))
  have hv14 : ((((((((((((((fs_this.set 100 (.int 0)).set 101 (.int 0)).set 103 (.int 0)).set 104 (.int 0)).set 105 (.int 0)).set 106 (.int 0)).set 107 (.int 0)).set 108 (.int 0)).set 129 (.int 0)).set 150 (.int 0)).set 109 (.int 0)).set 123 (.int 0)).set 130 (.int 0)).set 132 (.int 0))[132]? = some (.int 0) := (ls_eq (by simp only [List.length_set, len_this]; decide))
  exact W.vret hx hb hr (fun t ht hW => ⟨⟨(), rfl, trivial, ((((((((((((((fs_this.set 100 (.int 0)).set 101 (.int 0)).set 103 (.int 0)).set 104 (.int 0)).set 105 (.int 0)).set 106 (.int 0)).set 107 (.int 0)).set 108 (.int 0)).set 129 (.int 0)).set 150 (.int 0)).set 109 (.int 0)).set 123 (.int 0)).set 130 (.int 0)).set 132 (.int 0)), ⟨(by first | exact len_this | (simp only [List.length_set]; exact len_this)), (fun j n100 n101 n103 n104 n105 n106 n107 n108 n129 n150 n109 n123 n130 n132 => ((ls_ne n132).trans ((ls_ne n130).trans ((ls_ne n123).trans ((ls_ne n109).trans ((ls_ne n150).trans ((ls_ne n129).trans ((ls_ne n108).trans ((ls_ne n107).trans ((ls_ne n106).trans ((ls_ne n105).trans ((ls_ne n104).trans ((ls_ne n103).trans ((ls_ne n101).trans ((ls_ne n100).trans rfl))))))))))))))), (by first | exact hv1 | (rw [hv1]; refine congrArg some (congrArg _ ?_); rfl)), (by first | exact hv2 | (rw [hv2]; refine congrArg some (congrArg _ ?_); rfl)), (by first | exact hv3 | (rw [hv3]; refine congrArg some (congrArg _ ?_); rfl)), (by first | exact hv4 | (rw [hv4]; refine congrArg some (congrArg _ ?_); rfl)), (by first | exact hv5 | (rw [hv5]; refine congrArg some (congrArg _ ?_); rfl)), (by first | exact hv6 | (rw [hv6]; refine congrArg some (congrArg _ ?_); rfl)), (by first | exact hv7 | (rw [hv7]; refine congrArg some (congrArg _ ?_); rfl)), (by first | exact hv8 | (rw [hv8]; refine congrArg some (congrArg _ ?_); rfl)), (by first | exact hv9 | (rw [hv9]; refine congrArg some (congrArg _ ?_); rfl)), (by first | exact hv10 | (rw [hv10]; refine congrArg some (congrArg _ ?_); rfl)), (by first | exact hv11 | (rw [hv11]; refine congrArg some (congrArg _ ?_); rfl)), (by first | exact hv12 | (rw [hv12]; refine congrArg some (congrArg _ ?_); rfl)), (by first | exact hv13 | (rw [hv13]; refine congrArg some (congrArg _ ?_); rfl)), (by first | exact hv14 | (rw [hv14]; refine congrArg some (congrArg _ ?_); rfl))⟩, by rw [ht]; exact hP9, va_K.moved hW.alike hK9, hD9⟩, hS.F ht⟩) hS.2.2 d_Model_stopAll_70
set_option maxHeartbeats 4000000 in
set_option maxRecDepth 100000 in
theorem c_Model_build_0 (l : Launch) (dC : Nat → ClassId) (dI : Nat → Nat → Nat) (sz : Nat) (ad : Nat → Nat) (av : Nat → Nat) (h_this : Nat) (fs_this : List Value) (len_this : fs_this.length = 153) (g_this_size : fs_this[1]? = some (.int 0)) : Met l y_Model_build w_Model_build ({ frames := 3, cells := 0, slots := 0, locals := 65 } : Room) (va_Pc [.ref h_this] (fun U => U.heap.size = sz ∧ va_P (dC, dI) cls_all [oc h_this 12 fs_this] U.heap ∧ va_K (dC, dI) cls_all [] U ∧ va_D (fun _ => True) [oc h_this 12 fs_this] ∧ env0 ad av (va_A [oc h_this 12 fs_this] sz) U U.heap)) (va_Qi (fun (z r : Int32) => z = r) (fun r t => ∃ (fs_this' : List Value), (fs_this'.length = 153 ∧ (∀ j : Nat, j ≠ 100 → j ≠ 101 → j ≠ 103 → j ≠ 104 → j ≠ 105 → j ≠ 106 → j ≠ 107 → j ≠ 108 → j ≠ 129 → j ≠ 150 → j ≠ 109 → j ≠ 123 → j ≠ 130 → j ≠ 132 → j ≠ 9 → j ≠ 10 → j ≠ 88 → j ≠ 89 → j ≠ 90 → j ≠ 91 → j ≠ 92 → j ≠ 94 → j ≠ 4 → j ≠ 11 → j ≠ 20 → j ≠ 37 → j ≠ 45 → j ≠ 49 → j ≠ 3 → j ≠ 2 → j ≠ 7 → j ≠ 8 → j ≠ 1 → fs_this'[j]? = fs_this[j]?) ∧ fs_this'[100]? = some (.int (0)) ∧ fs_this'[101]? = some (.int (0)) ∧ fs_this'[103]? = some (.int (0)) ∧ fs_this'[104]? = some (.int (0)) ∧ fs_this'[105]? = some (.int (0)) ∧ fs_this'[106]? = some (.int (0)) ∧ fs_this'[107]? = some (.int (0)) ∧ fs_this'[108]? = some (.int (0)) ∧ fs_this'[129]? = some (.int (0)) ∧ fs_this'[150]? = some (.int (0)) ∧ fs_this'[109]? = some (.int (0)) ∧ fs_this'[123]? = some (.int (0)) ∧ fs_this'[130]? = some (.int (0)) ∧ fs_this'[132]? = some (.int (0)) ∧ fs_this'[9]? = some (.int (1)) ∧ fs_this'[10]? = some (.int (0)) ∧ fs_this'[88]? = some (.int (0)) ∧ fs_this'[89]? = some (.int (0)) ∧ fs_this'[90]? = some (.int (0)) ∧ fs_this'[91]? = some (.int (0)) ∧ fs_this'[92]? = some (.int (0)) ∧ fs_this'[94]? = some (.int (0)) ∧ fs_this'[4]? = some (.int (0)) ∧ fs_this'[11]? = some (.int (0)) ∧ fs_this'[20]? = some (.int (0)) ∧ fs_this'[37]? = some (.int (0)) ∧ fs_this'[45]? = some (.int (0)) ∧ fs_this'[49]? = some (.int (0)) ∧ fs_this'[3]? = some (.int (0)) ∧ fs_this'[2]? = some (.int (7)) ∧ fs_this'[7]? = some (.int (1)) ∧ fs_this'[8]? = some (.int (0)) ∧ fs_this'[1]? = some (.int (0)) ∧ (r = -1)) ∧ va_P (dC, dI) cls_all [oc h_this 12 fs_this'] t.heap ∧ va_K (dC, dI) cls_all [] t ∧ va_D (va_A [oc h_this 12 fs_this] sz) [oc h_this 12 fs_this']) (va_A [oc h_this 12 fs_this] sz)) 0 0 (va_A [oc h_this 12 fs_this] sz) := by
  refine Met.ofW (cc := b_Model_build) (maxL := 2) (ret := (some .int)) (by decide) rfl ?_
  intro p e s m args below meth c s₁ B hml hv
  obtain ⟨rfl, hsz, hP, hK, hD0, henv⟩ := hv
  have hx := B.exec
  have hb := B.bytes
  have hr := B.returns
  have hT : ∀ w ∈ lw_good, w.before _ s = true := fun w h => atoms_spec (ws := w_Model_build) B.pre w (List.mem_cons_of_mem _ h)
  have hown : s.vm.findClass R_Model = some m.cls := findClass_of_methodNamed B.named
  have hlocks := B.notSynchronized
  subst hsz
  have hD := hD0.self (sz := s.heap.size)
  generalize hAe : va_A [oc h_this 12 fs_this] s.heap.size = A at hD henv ⊢
  have hA : ∀ q : Nat, s.heap.size ≤ q → A q := fun q h => by rw [← hAe]; exact Or.inr h
  have hS : va_S A s.heap s.heap [] := va_S.rf
  have hP : va_P (dC, dI) cls_all [oc h_this 12 fs_this] s.heap := hP
  have hl := lv_entry ([.ref h_this]) (n := 2) (Nat.le_of_ble_eq_true rfl)
  rw [lg_entry_eq]
  generalize (lg_sl ([.ref h_this]) ++ List.replicate (2 - (lg_sl ([.ref h_this])).length) Slot.unset).toArray = ls at hl ⊢
  have hl : lv_has ls 2 [(0, .ref h_this)] := hl
  refine lv_aload_n hx hb d_Model_build_0 rfl (lv_at hl 0 rfl) ?_
  have hPc := hP.sub (ws' := [oc h_this 12 fs_this]) [0] rfl
  have hKc := hK.sub (tys' := []) [] rfl
  have hDc := hD.sub (ws' := [oc h_this 12 fs_this]) [0] (by decide) rfl
  have hFc := va_free (wc := [oc h_this 12 fs_this]) hD hS hA [0] rfl
  refine va_callv (va_runV (As := []) (rest := []) ⟨hx, hb, hml, hown, hT⟩ (c_Model_stopAll l dC dI (sz := s.heap.size) (h_this := h_this) (fs_this := fs_this) (len_this := (by first | exact len_this | (simp only [List.length_set]; exact len_this)))) (cwV 0 hT (gV ml_Model_909 im_Model_stopAll se_Model_stopAll ini_Model co_Model_stopAll) rfl rfl rfl (by decide +kernel) ⟨Nat.le_of_ble_eq_true rfl, Nat.le_of_ble_eq_true rfl⟩) ⟨fbQ, va_recv hKc hPc (ci := 12) (q0 := 0) rfl rfl, fun U hU hW => ⟨rfl, by rw [hU], by rw [hU]; exact hPc, va_K.moved hW.alike hKc, hDc.weaken (fun _ _ _ _ => trivial)⟩⟩ rfl rfl hl.1 rfl (lv_room (Nat.le_of_ble_eq_true rfl)) d_Model_build_1 ⟨Nat.le_of_ble_eq_true rfl, Nat.le_of_ble_eq_true rfl⟩) hS (fun q _ h => hFc q h) hFc (fun u t H1 locs ht hvm hw hB hz1 hk1 hS => ?_)
  obtain ⟨fs_this_1, ⟨hw1_0, hw1_1, hw1_2, hw1_3, hw1_4, hw1_5, hw1_6, hw1_7, hw1_8, hw1_9, hw1_10, hw1_11, hw1_12, hw1_13, hw1_14, hw1_15⟩, hP1, hK1, hD1⟩ := hB
  rw [ht] at hP1
  have hK1 := va_K.moved hvm.symm hK1
  obtain ⟨hP, hD⟩ := va_join (wr := []) (w1 := [oc h_this 12 fs_this_1]) hP hD [0] [] rfl rfl (by decide) (by decide) hk1 hFc hP1 hD1
  generalize H1 = H at hP hS ⊢
  have hP : va_P (dC, dI) cls_all [oc h_this 12 fs_this_1] H := hP
  have hD : va_D A [oc h_this 12 fs_this_1] := hD
  refine lv_aload_n hx hb d_Model_build_4 rfl (lv_at hl 0 rfl) ?_
  refine lv_iconst (v := 1) hx hb d_Model_build_5 (by decide) ?_
  refine va_put (D := (dC, dI)) (ci := 12) (v := .int 1) (ty := .boolean) (C := R_Model) (T := F_Model) (N := 153) hx hb hT i_Model t_Model t_Model_ok n_Model hown hK hP hD hS 0 rfl rfl 9 (by decide) (hT _ fl_Model_912) (fun _ h9 => h9) rfl (by decide +kernel) rfl rfl (by simp only [List.length_set, hw1_0]; decide) d_Model_build_6 (fun H locs hP hD hS => ?_)
  have hP : va_P (dC, dI) cls_all [oc h_this 12 (fs_this_1.set 9 (.int 1))] H := hP
  have hD : va_D A [oc h_this 12 (fs_this_1.set 9 (.int 1))] := hD
  refine lv_aload_n hx hb d_Model_build_9 rfl (lv_at hl 0 rfl) ?_
  refine lv_iconst (v := 0) hx hb d_Model_build_10 (by decide) ?_
  refine va_put (D := (dC, dI)) (ci := 12) (v := .int 0) (ty := .int) (C := R_Model) (T := F_Model) (N := 153) hx hb hT i_Model t_Model t_Model_ok n_Model hown hK hP hD hS 0 rfl rfl 7 (by decide) (hT _ fl_Model_378) (fun _ h9 => h9) rfl (by decide +kernel) rfl rfl (by simp only [List.length_set, hw1_0]; decide) d_Model_build_11 (fun H locs hP hD hS => ?_)
  have hP : va_P (dC, dI) cls_all [oc h_this 12 ((fs_this_1.set 9 (.int 1)).set 7 (.int 0))] H := hP
  have hD : va_D A [oc h_this 12 ((fs_this_1.set 9 (.int 1)).set 7 (.int 0))] := hD
  refine lv_aload_n hx hb d_Model_build_14 rfl (lv_at hl 0 rfl) ?_
  refine lv_iconst (v := (-1)) hx hb d_Model_build_15 (by decide) ?_
  refine va_put (D := (dC, dI)) (ci := 12) (v := .int (-1)) (ty := .int) (C := R_Model) (T := F_Model) (N := 153) hx hb hT i_Model t_Model t_Model_ok n_Model hown hK hP hD hS 0 rfl rfl 8 (by decide) (hT _ fl_Model_13) (fun _ h9 => h9) rfl (by decide +kernel) rfl rfl (by simp only [List.length_set, hw1_0]; decide) d_Model_build_16 (fun H locs hP hD hS => ?_)
  have hP : va_P (dC, dI) cls_all [oc h_this 12 (((fs_this_1.set 9 (.int 1)).set 7 (.int 0)).set 8 (.int (-1)))] H := hP
  have hD : va_D A [oc h_this 12 (((fs_this_1.set 9 (.int 1)).set 7 (.int 0)).set 8 (.int (-1)))] := hD
  refine lv_aload_n hx hb d_Model_build_19 rfl (lv_at hl 0 rfl) ?_
  refine lv_iconst (v := 0) hx hb d_Model_build_20 (by decide) ?_
  refine va_put (D := (dC, dI)) (ci := 12) (v := .int 0) (ty := .boolean) (C := R_Model) (T := F_Model) (N := 153) hx hb hT i_Model t_Model t_Model_ok n_Model hown hK hP hD hS 0 rfl rfl 10 (by decide) (hT _ fl_Model_915) (fun _ h9 => h9) rfl (by decide +kernel) rfl rfl (by simp only [List.length_set, hw1_0]; decide) d_Model_build_21 (fun H locs hP hD hS => ?_)
  have hP : va_P (dC, dI) cls_all [oc h_this 12 ((((fs_this_1.set 9 (.int 1)).set 7 (.int 0)).set 8 (.int (-1))).set 10 (.int 0))] H := hP
  have hD : va_D A [oc h_this 12 ((((fs_this_1.set 9 (.int 1)).set 7 (.int 0)).set 8 (.int (-1))).set 10 (.int 0))] := hD
  refine lv_aload_n hx hb d_Model_build_24 rfl (lv_at hl 0 rfl) ?_
  refine lv_iconst (v := 0) hx hb d_Model_build_25 (by decide) ?_
  refine va_put (D := (dC, dI)) (ci := 12) (v := .int 0) (ty := .int) (C := R_Model) (T := F_Model) (N := 153) hx hb hT i_Model t_Model t_Model_ok n_Model hown hK hP hD hS 0 rfl rfl 88 (by decide) (hT _ fl_Model_741) (fun _ h9 => h9) rfl (by decide +kernel) rfl rfl (by simp only [List.length_set, hw1_0]; decide) d_Model_build_26 (fun H locs hP hD hS => ?_)
  have hP : va_P (dC, dI) cls_all [oc h_this 12 (((((fs_this_1.set 9 (.int 1)).set 7 (.int 0)).set 8 (.int (-1))).set 10 (.int 0)).set 88 (.int 0))] H := hP
  have hD : va_D A [oc h_this 12 (((((fs_this_1.set 9 (.int 1)).set 7 (.int 0)).set 8 (.int (-1))).set 10 (.int 0)).set 88 (.int 0))] := hD
  refine lv_aload_n hx hb d_Model_build_29 rfl (lv_at hl 0 rfl) ?_
  refine lv_iconst (v := 0) hx hb d_Model_build_30 (by decide) ?_
  refine va_put (D := (dC, dI)) (ci := 12) (v := .int 0) (ty := .int) (C := R_Model) (T := F_Model) (N := 153) hx hb hT i_Model t_Model t_Model_ok n_Model hown hK hP hD hS 0 rfl rfl 89 (by decide) (hT _ fl_Model_759) (fun _ h9 => h9) rfl (by decide +kernel) rfl rfl (by simp only [List.length_set, hw1_0]; decide) d_Model_build_31 (fun H locs hP hD hS => ?_)
  have hP : va_P (dC, dI) cls_all [oc h_this 12 ((((((fs_this_1.set 9 (.int 1)).set 7 (.int 0)).set 8 (.int (-1))).set 10 (.int 0)).set 88 (.int 0)).set 89 (.int 0))] H := hP
  have hD : va_D A [oc h_this 12 ((((((fs_this_1.set 9 (.int 1)).set 7 (.int 0)).set 8 (.int (-1))).set 10 (.int 0)).set 88 (.int 0)).set 89 (.int 0))] := hD
  refine lv_aload_n hx hb d_Model_build_34 rfl (lv_at hl 0 rfl) ?_
  refine lv_iconst (v := 0) hx hb d_Model_build_35 (by decide) ?_
  refine va_put (D := (dC, dI)) (ci := 12) (v := .int 0) (ty := .int) (C := R_Model) (T := F_Model) (N := 153) hx hb hT i_Model t_Model t_Model_ok n_Model hown hK hP hD hS 0 rfl rfl 90 (by decide) (hT _ fl_Model_698) (fun _ h9 => h9) rfl (by decide +kernel) rfl rfl (by simp only [List.length_set, hw1_0]; decide) d_Model_build_36 (fun H locs hP hD hS => ?_)
  have hP : va_P (dC, dI) cls_all [oc h_this 12 (((((((fs_this_1.set 9 (.int 1)).set 7 (.int 0)).set 8 (.int (-1))).set 10 (.int 0)).set 88 (.int 0)).set 89 (.int 0)).set 90 (.int 0))] H := hP
  have hD : va_D A [oc h_this 12 (((((((fs_this_1.set 9 (.int 1)).set 7 (.int 0)).set 8 (.int (-1))).set 10 (.int 0)).set 88 (.int 0)).set 89 (.int 0)).set 90 (.int 0))] := hD
  refine lv_aload_n hx hb d_Model_build_39 rfl (lv_at hl 0 rfl) ?_
  refine lv_iconst (v := 0) hx hb d_Model_build_40 (by decide) ?_
  refine va_put (D := (dC, dI)) (ci := 12) (v := .int 0) (ty := .int) (C := R_Model) (T := F_Model) (N := 153) hx hb hT i_Model t_Model t_Model_ok n_Model hown hK hP hD hS 0 rfl rfl 91 (by decide) (hT _ fl_Model_765) (fun _ h9 => h9) rfl (by decide +kernel) rfl rfl (by simp only [List.length_set, hw1_0]; decide) d_Model_build_41 (fun H locs hP hD hS => ?_)
  have hP : va_P (dC, dI) cls_all [oc h_this 12 ((((((((fs_this_1.set 9 (.int 1)).set 7 (.int 0)).set 8 (.int (-1))).set 10 (.int 0)).set 88 (.int 0)).set 89 (.int 0)).set 90 (.int 0)).set 91 (.int 0))] H := hP
  have hD : va_D A [oc h_this 12 ((((((((fs_this_1.set 9 (.int 1)).set 7 (.int 0)).set 8 (.int (-1))).set 10 (.int 0)).set 88 (.int 0)).set 89 (.int 0)).set 90 (.int 0)).set 91 (.int 0))] := hD
  refine lv_aload_n hx hb d_Model_build_44 rfl (lv_at hl 0 rfl) ?_
  refine lv_iconst (v := 0) hx hb d_Model_build_45 (by decide) ?_
  refine va_put (D := (dC, dI)) (ci := 12) (v := .int 0) (ty := .int) (C := R_Model) (T := F_Model) (N := 153) hx hb hT i_Model t_Model t_Model_ok n_Model hown hK hP hD hS 0 rfl rfl 92 (by decide) (hT _ fl_Model_685) (fun _ h9 => h9) rfl (by decide +kernel) rfl rfl (by simp only [List.length_set, hw1_0]; decide) d_Model_build_46 (fun H locs hP hD hS => ?_)
  have hP : va_P (dC, dI) cls_all [oc h_this 12 (((((((((fs_this_1.set 9 (.int 1)).set 7 (.int 0)).set 8 (.int (-1))).set 10 (.int 0)).set 88 (.int 0)).set 89 (.int 0)).set 90 (.int 0)).set 91 (.int 0)).set 92 (.int 0))] H := hP
  have hD : va_D A [oc h_this 12 (((((((((fs_this_1.set 9 (.int 1)).set 7 (.int 0)).set 8 (.int (-1))).set 10 (.int 0)).set 88 (.int 0)).set 89 (.int 0)).set 90 (.int 0)).set 91 (.int 0)).set 92 (.int 0))] := hD
  refine lv_aload_n hx hb d_Model_build_49 rfl (lv_at hl 0 rfl) ?_
  refine lv_iconst (v := 0) hx hb d_Model_build_50 (by decide) ?_
  refine va_put (D := (dC, dI)) (ci := 12) (v := .int 0) (ty := .int) (C := R_Model) (T := F_Model) (N := 153) hx hb hT i_Model t_Model t_Model_ok n_Model hown hK hP hD hS 0 rfl rfl 94 (by decide) (hT _ fl_Model_717) (fun _ h9 => h9) rfl (by decide +kernel) rfl rfl (by simp only [List.length_set, hw1_0]; decide) d_Model_build_51 (fun H locs hP hD hS => ?_)
  have hP : va_P (dC, dI) cls_all [oc h_this 12 ((((((((((fs_this_1.set 9 (.int 1)).set 7 (.int 0)).set 8 (.int (-1))).set 10 (.int 0)).set 88 (.int 0)).set 89 (.int 0)).set 90 (.int 0)).set 91 (.int 0)).set 92 (.int 0)).set 94 (.int 0))] H := hP
  have hD : va_D A [oc h_this 12 ((((((((((fs_this_1.set 9 (.int 1)).set 7 (.int 0)).set 8 (.int (-1))).set 10 (.int 0)).set 88 (.int 0)).set 89 (.int 0)).set 90 (.int 0)).set 91 (.int 0)).set 92 (.int 0)).set 94 (.int 0))] := hD
  refine lv_aload_n hx hb d_Model_build_54 rfl (lv_at hl 0 rfl) ?_
  have hPc := hP.sub (ws' := [oc h_this 12 ((((((((((fs_this_1.set 9 (.int 1)).set 7 (.int 0)).set 8 (.int (-1))).set 10 (.int 0)).set 88 (.int 0)).set 89 (.int 0)).set 90 (.int 0)).set 91 (.int 0)).set 92 (.int 0)).set 94 (.int 0))]) [0] rfl
  have hKc := hK.sub (tys' := []) [] rfl
  have hDc := hD.sub (ws' := [oc h_this 12 ((((((((((fs_this_1.set 9 (.int 1)).set 7 (.int 0)).set 8 (.int (-1))).set 10 (.int 0)).set 88 (.int 0)).set 89 (.int 0)).set 90 (.int 0)).set 91 (.int 0)).set 92 (.int 0)).set 94 (.int 0))]) [0] (by decide) rfl
  have hFc := va_free (wc := [oc h_this 12 ((((((((((fs_this_1.set 9 (.int 1)).set 7 (.int 0)).set 8 (.int (-1))).set 10 (.int 0)).set 88 (.int 0)).set 89 (.int 0)).set 90 (.int 0)).set 91 (.int 0)).set 92 (.int 0)).set 94 (.int 0))]) hD hS hA [0] rfl
  refine va_callv (va_runV (As := []) (rest := []) ⟨hx, hb, hml, hown, hT⟩ (c_Model_prog_0 l dC dI (sz := H.size) (ad := ad) (av := av) (h_this := h_this) (fs_this := ((((((((((fs_this_1.set 9 (.int 1)).set 7 (.int 0)).set 8 (.int (-1))).set 10 (.int 0)).set 88 (.int 0)).set 89 (.int 0)).set 90 (.int 0)).set 91 (.int 0)).set 92 (.int 0)).set 94 (.int 0))) (len_this := (by first | exact hw1_0 | (simp only [List.length_set]; exact hw1_0))) (g_this_fault := ((ls_ne (by decide)).trans ((ls_ne (by decide)).trans ((ls_ne (by decide)).trans ((ls_ne (by decide)).trans ((ls_ne (by decide)).trans ((ls_ne (by decide)).trans ((ls_ne (by decide)).trans ((ls_ne (by decide)).trans (ls_eq (by simp only [List.length_set, hw1_0]; decide))))))))))) (g_this_size := ((ls_ne (by decide)).trans ((ls_ne (by decide)).trans ((ls_ne (by decide)).trans ((ls_ne (by decide)).trans ((ls_ne (by decide)).trans ((ls_ne (by decide)).trans ((ls_ne (by decide)).trans ((ls_ne (by decide)).trans ((ls_ne (by decide)).trans ((ls_ne (by decide)).trans ((hw1_1 1 (by decide) (by decide) (by decide) (by decide) (by decide) (by decide) (by decide) (by decide) (by decide) (by decide) (by decide) (by decide) (by decide) (by decide)).trans g_this_size))))))))))))) (cwV 0 hT (gV ml_Model_918 im_Model_program_ se_Model_program_ ini_Model co_Model_program_) rfl rfl rfl (by decide +kernel) ⟨Nat.le_of_ble_eq_true rfl, Nat.le_of_ble_eq_true rfl⟩) ⟨fbQe, va_recv hKc hPc (ci := 12) (q0 := 0) rfl rfl, fun U hU hW => ⟨rfl, by rw [hU], by rw [hU]; exact hPc, va_K.moved hW.alike hKc, hDc.weaken (fun _ _ _ _ => trivial), env0.hand henv hS hU hW hFc⟩⟩ rfl rfl hl.1 rfl (lv_room (Nat.le_of_ble_eq_true rfl)) d_Model_build_55 ⟨Nat.le_of_ble_eq_true rfl, Nat.le_of_ble_eq_true rfl⟩) hS (fun q _ h => hFc q h) hFc (fun u t H1 locs ht hvm hw hB hz1 hk1 hS => ?_)
  obtain ⟨fs_this_2, ⟨hw2_0, hw2_1, hw2_2, hw2_3, hw2_4, hw2_5, hw2_6, hw2_7, hw2_8, hw2_9, hw2_10, hw2_11⟩, hP1, hK1, hD1⟩ := hB
  rw [ht] at hP1
  have hK1 := va_K.moved hvm.symm hK1
  obtain ⟨hP, hD⟩ := va_join (wr := []) (w1 := [oc h_this 12 fs_this_2]) hP hD [0] [] rfl rfl (by decide) (by decide) hk1 hFc hP1 hD1
  generalize H1 = H at hP hS ⊢
  have hP : va_P (dC, dI) cls_all [oc h_this 12 fs_this_2] H := hP
  have hD : va_D A [oc h_this 12 fs_this_2] := hD
  refine lv_aload_n hx hb d_Model_build_58 rfl (lv_at hl 0 rfl) ?_
  have hPc := hP.sub (ws' := [oc h_this 12 fs_this_2]) [0] rfl
  have hKc := hK.sub (tys' := []) [] rfl
  refine vp_callSi (va_Run.run (va_runV (As := []) (rest := []) ⟨hx, hb, hml, hown, hT⟩ (c_Model_bad l dC dI (h_this := h_this) (fs_this := fs_this_2) (v_this_fault := 1) (len_this := (by first | exact hw2_0 | (simp only [List.length_set]; exact hw2_0))) (g_this_fault := hw2_10)) (cwV 0 hT (gV ml_Model_385 im_Model_bad se_Model_bad ini_Model co_Model_bad) rfl rfl rfl (by decide +kernel) ⟨Nat.le_of_ble_eq_true rfl, Nat.le_of_ble_eq_true rfl⟩) ⟨fbS, va_recv hKc hPc (ci := 12) (q0 := 0) rfl rfl, fun U hU hW => ⟨rfl, by rw [hU]; exact hPc, va_K.moved hW.alike hKc⟩⟩ rfl rfl hl.1 rfl (lv_room (Nat.le_of_ble_eq_true rfl)) d_Model_build_59 ⟨Nat.le_of_ble_eq_true rfl, Nat.le_of_ble_eq_true rfl⟩)) (fun r3 hr3 => ?_)
  obtain rfl : r3 = 1 := hr3
  refine lv_if_ne (tgt := 69) hx hb d_Model_build_62 (by decide) (fun _ => ?_) (fun c4 => absurd c4 (by decide))
  refine lv_iconst (v := 0) hx hb d_Model_build_69 (by decide) ?_
  refine lv_istore_n (lv' := [(1, .int 0), (0, .ref h_this)]) hx hb d_Model_build_70 rfl hl (by decide) rfl (fun ls hl => ?_)
  refine lv_iload_n hx hb d_Model_build_71 rfl (lv_at hl 0 rfl) ?_
  refine lv_aload_n hx hb d_Model_build_72 rfl (lv_at hl 1 rfl) ?_
  refine va_get (D := (dC, dI)) (ci := 12) (v := .int 0) (C := R_Model) (T := F_Model) (N := 153) hx hb hT i_Model hown hK hP 0 rfl rfl 11 (by decide) (hT _ fl_Model_412) (fun _ h9 => h9) hw2_3 d_Model_build_73 ?_
  refine lv_icmp_ge (tgt := 107) hx hb d_Model_build_76 (by decide) (fun _ => ?_) (fun c5 => absurd (by decide) c5)
  refine lv_aload_n hx hb d_Model_build_107 rfl (lv_at hl 1 rfl) ?_
  refine lv_iconst (v := 0) hx hb d_Model_build_108 (by decide) ?_
  refine va_put (D := (dC, dI)) (ci := 12) (v := .int 0) (ty := .int) (C := R_Model) (T := F_Model) (N := 153) hx hb hT i_Model t_Model t_Model_ok n_Model hown hK hP hD hS 0 rfl rfl 1 (by decide) (hT _ fl_Model_313) (fun _ h9 => h9) rfl (by decide +kernel) rfl rfl (by simp only [List.length_set, hw2_0]; decide) d_Model_build_109 (fun H locs hP hD hS => ?_)
  have hP : va_P (dC, dI) cls_all [oc h_this 12 (fs_this_2.set 1 (.int 0))] H := hP
  have hD : va_D A [oc h_this 12 (fs_this_2.set 1 (.int 0))] := hD
  refine lv_aload_n hx hb d_Model_build_112 rfl (lv_at hl 1 rfl) ?_
  have hPc := hP.sub (ws' := [oc h_this 12 (fs_this_2.set 1 (.int 0))]) [0] rfl
  have hKc := hK.sub (tys' := []) [] rfl
  refine vp_callSi (va_Run.run (va_runV (As := []) (rest := []) ⟨hx, hb, hml, hown, hT⟩ (c_Model_bad l dC dI (h_this := h_this) (fs_this := (fs_this_2.set 1 (.int 0))) (v_this_fault := 1) (len_this := (by first | exact hw2_0 | (simp only [List.length_set]; exact hw2_0))) (g_this_fault := ((ls_ne (by decide)).trans hw2_10))) (cwV 0 hT (gV ml_Model_385 im_Model_bad se_Model_bad ini_Model co_Model_bad) rfl rfl rfl (by decide +kernel) ⟨Nat.le_of_ble_eq_true rfl, Nat.le_of_ble_eq_true rfl⟩) ⟨fbS, va_recv hKc hPc (ci := 12) (q0 := 0) rfl rfl, fun U hU hW => ⟨rfl, by rw [hU]; exact hPc, va_K.moved hW.alike hKc⟩⟩ rfl rfl hl.1 rfl (lv_room (Nat.le_of_ble_eq_true rfl)) d_Model_build_113 ⟨Nat.le_of_ble_eq_true rfl, Nat.le_of_ble_eq_true rfl⟩)) (fun r6 hr6 => ?_)
  obtain rfl : r6 = 1 := hr6
  refine lv_if_eq (tgt := 121) hx hb d_Model_build_116 (by decide) (fun c7 => absurd c7 (by decide)) (fun _ => ?_)
  refine lv_iconst (v := (-1)) hx hb d_Model_build_119 (by decide) ?_
  have hP9 := hP.sub (ws' := [oc h_this 12 (fs_this_2.set 1 (.int 0))]) [0] rfl
  have hD9 := hD.sub (ws' := [oc h_this 12 (fs_this_2.set 1 (.int 0))]) [0] (by decide) rfl
  have hK9 := hK.sub (tys' := []) [] rfl
  have hv8 : (fs_this_2.set 1 (.int 0))[100]? = some (.int 0) := ((ls_ne (by decide)).trans ((hw2_1 100 (by decide) (by decide) (by decide) (by decide) (by decide) (by decide) (by decide) (by decide) (by decide) (by decide)).trans ((ls_ne (by decide)).trans ((ls_ne (by decide)).trans ((ls_ne (by decide)).trans ((ls_ne (by decide)).trans ((ls_ne (by decide)).trans ((ls_ne (by decide)).trans ((ls_ne (by decide)).trans ((ls_ne (by decide)).trans ((ls_ne (by decide)).trans ((ls_ne (by decide)).trans hw1_2))))))))))))
  have hv9 : (fs_this_2.set 1 (.int 0))[101]? = some (.int 0) := ((ls_ne (by decide)).trans ((hw2_1 101 (by decide) (by decide) (by decide) (by decide) (by decide) (by decide) (by decide) (by decide) (by decide) (by decide)).trans ((ls_ne (by decide)).trans ((ls_ne (by decide)).trans ((ls_ne (by decide)).trans ((ls_ne (by decide)).trans ((ls_ne (by decide)).trans ((ls_ne (by decide)).trans ((ls_ne (by decide)).trans ((ls_ne (by decide)).trans ((ls_ne (by decide)).trans ((ls_ne (by decide)).trans hw1_3))))))))))))
  have hv10 : (fs_this_2.set 1 (.int 0))[103]? = some (.int 0) := ((ls_ne (by decide)).trans ((hw2_1 103 (by decide) (by decide) (by decide) (by decide) (by decide) (by decide) (by decide) (by decide) (by decide) (by decide)).trans ((ls_ne (by decide)).trans ((ls_ne (by decide)).trans ((ls_ne (by decide)).trans ((ls_ne (by decide)).trans ((ls_ne (by decide)).trans ((ls_ne (by decide)).trans ((ls_ne (by decide)).trans ((ls_ne (by decide)).trans ((ls_ne (by decide)).trans ((ls_ne (by decide)).trans hw1_4))))))))))))
  have hv11 : (fs_this_2.set 1 (.int 0))[104]? = some (.int 0) := ((ls_ne (by decide)).trans ((hw2_1 104 (by decide) (by decide) (by decide) (by decide) (by decide) (by decide) (by decide) (by decide) (by decide) (by decide)).trans ((ls_ne (by decide)).trans ((ls_ne (by decide)).trans ((ls_ne (by decide)).trans ((ls_ne (by decide)).trans ((ls_ne (by decide)).trans ((ls_ne (by decide)).trans ((ls_ne (by decide)).trans ((ls_ne (by decide)).trans ((ls_ne (by decide)).trans ((ls_ne (by decide)).trans hw1_5))))))))))))
  have hv12 : (fs_this_2.set 1 (.int 0))[105]? = some (.int 0) := ((ls_ne (by decide)).trans ((hw2_1 105 (by decide) (by decide) (by decide) (by decide) (by decide) (by decide) (by decide) (by decide) (by decide) (by decide)).trans ((ls_ne (by decide)).trans ((ls_ne (by decide)).trans ((ls_ne (by decide)).trans ((ls_ne (by decide)).trans ((ls_ne (by decide)).trans ((ls_ne (by decide)).trans ((ls_ne (by decide)).trans ((ls_ne (by decide)).trans ((ls_ne (by decide)).trans ((ls_ne (by decide)).trans hw1_6))))))))))))
  have hv13 : (fs_this_2.set 1 (.int 0))[106]? = some (.int 0) := ((ls_ne (by decide)).trans ((hw2_1 106 (by decide) (by decide) (by decide) (by decide) (by decide) (by decide) (by decide) (by decide) (by decide) (by decide)).trans ((ls_ne (by decide)).trans ((ls_ne (by decide)).trans ((ls_ne (by decide)).trans ((ls_ne (by decide)).trans ((ls_ne (by decide)).trans ((ls_ne (by decide)).trans ((ls_ne (by decide)).trans ((ls_ne (by decide)).trans ((ls_ne (by decide)).trans ((ls_ne (by decide)).trans hw1_7))))))))))))
  have hv14 : (fs_this_2.set 1 (.int 0))[107]? = some (.int 0) := ((ls_ne (by decide)).trans ((hw2_1 107 (by decide) (by decide) (by decide) (by decide) (by decide) (by decide) (by decide) (by decide) (by decide) (by decide)).trans ((ls_ne (by decide)).trans ((ls_ne (by decide)).trans ((ls_ne (by decide)).trans ((ls_ne (by decide)).trans ((ls_ne (by decide)).trans ((ls_ne (by decide)).trans ((ls_ne (by decide)).trans ((ls_ne (by decide)).trans ((ls_ne (by decide)).trans ((ls_ne (by decide)).trans hw1_8))))))))))))
  have hv15 : (fs_this_2.set 1 (.int 0))[108]? = some (.int 0) := ((ls_ne (by decide)).trans ((hw2_1 108 (by decide) (by decide) (by decide) (by decide) (by decide) (by decide) (by decide) (by decide) (by decide) (by decide)).trans ((ls_ne (by decide)).trans ((ls_ne (by decide)).trans ((ls_ne (by decide)).trans ((ls_ne (by decide)).trans ((ls_ne (by decide)).trans ((ls_ne (by decide)).trans ((ls_ne (by decide)).trans ((ls_ne (by decide)).trans ((ls_ne (by decide)).trans ((ls_ne (by decide)).trans hw1_9))))))))))))
  have hv16 : (fs_this_2.set 1 (.int 0))[129]? = some (.int 0) := ((ls_ne (by decide)).trans ((hw2_1 129 (by decide) (by decide) (by decide) (by decide) (by decide) (by decide) (by decide) (by decide) (by decide) (by decide)).trans ((ls_ne (by decide)).trans ((ls_ne (by decide)).trans ((ls_ne (by decide)).trans ((ls_ne (by decide)).trans ((ls_ne (by decide)).trans ((ls_ne (by decide)).trans ((ls_ne (by decide)).trans ((ls_ne (by decide)).trans ((ls_ne (by decide)).trans ((ls_ne (by decide)).trans hw1_10))))))))))))
  have hv17 : (fs_this_2.set 1 (.int 0))[150]? = some (.int 0) := ((ls_ne (by decide)).trans ((hw2_1 150 (by decide) (by decide) (by decide) (by decide) (by decide) (by decide) (by decide) (by decide) (by decide) (by decide)).trans ((ls_ne (by decide)).trans ((ls_ne (by decide)).trans ((ls_ne (by decide)).trans ((ls_ne (by decide)).trans ((ls_ne (by decide)).trans ((ls_ne (by decide)).trans ((ls_ne (by decide)).trans ((ls_ne (by decide)).trans ((ls_ne (by decide)).trans ((ls_ne (by decide)).trans hw1_11))))))))))))
  have hv18 : (fs_this_2.set 1 (.int 0))[109]? = some (.int 0) := ((ls_ne (by decide)).trans ((hw2_1 109 (by decide) (by decide) (by decide) (by decide) (by decide) (by decide) (by decide) (by decide) (by decide) (by decide)).trans ((ls_ne (by decide)).trans ((ls_ne (by decide)).trans ((ls_ne (by decide)).trans ((ls_ne (by decide)).trans ((ls_ne (by decide)).trans ((ls_ne (by decide)).trans ((ls_ne (by decide)).trans ((ls_ne (by decide)).trans ((ls_ne (by decide)).trans ((ls_ne (by decide)).trans hw1_12))))))))))))
  have hv19 : (fs_this_2.set 1 (.int 0))[123]? = some (.int 0) := ((ls_ne (by decide)).trans ((hw2_1 123 (by decide) (by decide) (by decide) (by decide) (by decide) (by decide) (by decide) (by decide) (by decide) (by decide)).trans ((ls_ne (by decide)).trans ((ls_ne (by decide)).trans ((ls_ne (by decide)).trans ((ls_ne (by decide)).trans ((ls_ne (by decide)).trans ((ls_ne (by decide)).trans ((ls_ne (by decide)).trans ((ls_ne (by decide)).trans ((ls_ne (by decide)).trans ((ls_ne (by decide)).trans hw1_13))))))))))))
  have hv20 : (fs_this_2.set 1 (.int 0))[130]? = some (.int 0) := ((ls_ne (by decide)).trans ((hw2_1 130 (by decide) (by decide) (by decide) (by decide) (by decide) (by decide) (by decide) (by decide) (by decide) (by decide)).trans ((ls_ne (by decide)).trans ((ls_ne (by decide)).trans ((ls_ne (by decide)).trans ((ls_ne (by decide)).trans ((ls_ne (by decide)).trans ((ls_ne (by decide)).trans ((ls_ne (by decide)).trans ((ls_ne (by decide)).trans ((ls_ne (by decide)).trans ((ls_ne (by decide)).trans hw1_14))))))))))))
  have hv21 : (fs_this_2.set 1 (.int 0))[132]? = some (.int 0) := ((ls_ne (by decide)).trans ((hw2_1 132 (by decide) (by decide) (by decide) (by decide) (by decide) (by decide) (by decide) (by decide) (by decide) (by decide)).trans ((ls_ne (by decide)).trans ((ls_ne (by decide)).trans ((ls_ne (by decide)).trans ((ls_ne (by decide)).trans ((ls_ne (by decide)).trans ((ls_ne (by decide)).trans ((ls_ne (by decide)).trans ((ls_ne (by decide)).trans ((ls_ne (by decide)).trans ((ls_ne (by decide)).trans hw1_15))))))))))))
  have hv22 : (fs_this_2.set 1 (.int 0))[9]? = some (.int 1) := ((ls_ne (by decide)).trans ((hw2_1 9 (by decide) (by decide) (by decide) (by decide) (by decide) (by decide) (by decide) (by decide) (by decide) (by decide)).trans ((ls_ne (by decide)).trans ((ls_ne (by decide)).trans ((ls_ne (by decide)).trans ((ls_ne (by decide)).trans ((ls_ne (by decide)).trans ((ls_ne (by decide)).trans ((ls_ne (by decide)).trans ((ls_ne (by decide)).trans ((ls_ne (by decide)).trans (ls_eq (by simp only [List.length_set, hw1_0]; decide)))))))))))))
  have hv23 : (fs_this_2.set 1 (.int 0))[10]? = some (.int 0) := ((ls_ne (by decide)).trans ((hw2_1 10 (by decide) (by decide) (by decide) (by decide) (by decide) (by decide) (by decide) (by decide) (by decide) (by decide)).trans ((ls_ne (by decide)).trans ((ls_ne (by decide)).trans ((ls_ne (by decide)).trans ((ls_ne (by decide)).trans ((ls_ne (by decide)).trans ((ls_ne (by decide)).trans (ls_eq (by simp only [List.length_set, hw1_0]; decide))))))))))
  have hv24 : (fs_this_2.set 1 (.int 0))[88]? = some (.int 0) := ((ls_ne (by decide)).trans ((hw2_1 88 (by decide) (by decide) (by decide) (by decide) (by decide) (by decide) (by decide) (by decide) (by decide) (by decide)).trans ((ls_ne (by decide)).trans ((ls_ne (by decide)).trans ((ls_ne (by decide)).trans ((ls_ne (by decide)).trans ((ls_ne (by decide)).trans (ls_eq (by simp only [List.length_set, hw1_0]; decide)))))))))
  have hv25 : (fs_this_2.set 1 (.int 0))[89]? = some (.int 0) := ((ls_ne (by decide)).trans ((hw2_1 89 (by decide) (by decide) (by decide) (by decide) (by decide) (by decide) (by decide) (by decide) (by decide) (by decide)).trans ((ls_ne (by decide)).trans ((ls_ne (by decide)).trans ((ls_ne (by decide)).trans ((ls_ne (by decide)).trans (ls_eq (by simp only [List.length_set, hw1_0]; decide))))))))
  have hv26 : (fs_this_2.set 1 (.int 0))[90]? = some (.int 0) := ((ls_ne (by decide)).trans ((hw2_1 90 (by decide) (by decide) (by decide) (by decide) (by decide) (by decide) (by decide) (by decide) (by decide) (by decide)).trans ((ls_ne (by decide)).trans ((ls_ne (by decide)).trans ((ls_ne (by decide)).trans (ls_eq (by simp only [List.length_set, hw1_0]; decide)))))))
  have hv27 : (fs_this_2.set 1 (.int 0))[91]? = some (.int 0) := ((ls_ne (by decide)).trans ((hw2_1 91 (by decide) (by decide) (by decide) (by decide) (by decide) (by decide) (by decide) (by decide) (by decide) (by decide)).trans ((ls_ne (by decide)).trans ((ls_ne (by decide)).trans (ls_eq (by simp only [List.length_set, hw1_0]; decide))))))
  have hv28 : (fs_this_2.set 1 (.int 0))[92]? = some (.int 0) := ((ls_ne (by decide)).trans ((hw2_1 92 (by decide) (by decide) (by decide) (by decide) (by decide) (by decide) (by decide) (by decide) (by decide) (by decide)).trans ((ls_ne (by decide)).trans (ls_eq (by simp only [List.length_set, hw1_0]; decide)))))
  have hv29 : (fs_this_2.set 1 (.int 0))[94]? = some (.int 0) := ((ls_ne (by decide)).trans ((hw2_1 94 (by decide) (by decide) (by decide) (by decide) (by decide) (by decide) (by decide) (by decide) (by decide) (by decide)).trans (ls_eq (by simp only [List.length_set, hw1_0]; decide))))
  have hv30 : (fs_this_2.set 1 (.int 0))[4]? = some (.int 0) := ((ls_ne (by decide)).trans hw2_2)
  have hv31 : (fs_this_2.set 1 (.int 0))[11]? = some (.int 0) := ((ls_ne (by decide)).trans hw2_3)
  have hv32 : (fs_this_2.set 1 (.int 0))[20]? = some (.int 0) := ((ls_ne (by decide)).trans hw2_4)
  have hv33 : (fs_this_2.set 1 (.int 0))[37]? = some (.int 0) := ((ls_ne (by decide)).trans hw2_5)
  have hv34 : (fs_this_2.set 1 (.int 0))[45]? = some (.int 0) := ((ls_ne (by decide)).trans hw2_6)
  have hv35 : (fs_this_2.set 1 (.int 0))[49]? = some (.int 0) := ((ls_ne (by decide)).trans hw2_7)
  have hv36 : (fs_this_2.set 1 (.int 0))[3]? = some (.int 0) := ((ls_ne (by decide)).trans hw2_8)
  have hv37 : (fs_this_2.set 1 (.int 0))[2]? = some (.int 7) := ((ls_ne (by decide)).trans hw2_9)
  have hv38 : (fs_this_2.set 1 (.int 0))[7]? = some (.int 1) := ((ls_ne (by decide)).trans hw2_10)
  have hv39 : (fs_this_2.set 1 (.int 0))[8]? = some (.int 0) := ((ls_ne (by decide)).trans hw2_11)
  have hv40 : (fs_this_2.set 1 (.int 0))[1]? = some (.int 0) := (ls_eq (by simp only [List.length_set, hw2_0]; decide))
  exact W.iret (v := (-1)) hx hb hr (fun t ht hW => ⟨⟨(-1), (-1), rfl, rfl, (fs_this_2.set 1 (.int 0)), ⟨(by first | exact hw2_0 | (simp only [List.length_set]; exact hw2_0)), (fun j n100 n101 n103 n104 n105 n106 n107 n108 n129 n150 n109 n123 n130 n132 n9 n10 n88 n89 n90 n91 n92 n94 n4 n11 n20 n37 n45 n49 n3 n2 n7 n8 n1 => ((ls_ne n1).trans ((hw2_1 j n4 n11 n20 n37 n45 n49 n3 n2 n7 n8).trans ((ls_ne n94).trans ((ls_ne n92).trans ((ls_ne n91).trans ((ls_ne n90).trans ((ls_ne n89).trans ((ls_ne n88).trans ((ls_ne n10).trans ((ls_ne n8).trans ((ls_ne n7).trans ((ls_ne n9).trans ((hw1_1 j n100 n101 n103 n104 n105 n106 n107 n108 n129 n150 n109 n123 n130 n132).trans rfl)))))))))))))), (by first | exact hv8 | (rw [hv8]; refine congrArg some (congrArg _ ?_); rfl)), (by first | exact hv9 | (rw [hv9]; refine congrArg some (congrArg _ ?_); rfl)), (by first | exact hv10 | (rw [hv10]; refine congrArg some (congrArg _ ?_); rfl)), (by first | exact hv11 | (rw [hv11]; refine congrArg some (congrArg _ ?_); rfl)), (by first | exact hv12 | (rw [hv12]; refine congrArg some (congrArg _ ?_); rfl)), (by first | exact hv13 | (rw [hv13]; refine congrArg some (congrArg _ ?_); rfl)), (by first | exact hv14 | (rw [hv14]; refine congrArg some (congrArg _ ?_); rfl)), (by first | exact hv15 | (rw [hv15]; refine congrArg some (congrArg _ ?_); rfl)), (by first | exact hv16 | (rw [hv16]; refine congrArg some (congrArg _ ?_); rfl)), (by first | exact hv17 | (rw [hv17]; refine congrArg some (congrArg _ ?_); rfl)), (by first | exact hv18 | (rw [hv18]; refine congrArg some (congrArg _ ?_); rfl)), (by first | exact hv19 | (rw [hv19]; refine congrArg some (congrArg _ ?_); rfl)), (by first | exact hv20 | (rw [hv20]; refine congrArg some (congrArg _ ?_); rfl)), (by first | exact hv21 | (rw [hv21]; refine congrArg some (congrArg _ ?_); rfl)), (by first | exact hv22 | (rw [hv22]; refine congrArg some (congrArg _ ?_); rfl)), (by first | exact hv23 | (rw [hv23]; refine congrArg some (congrArg _ ?_); rfl)), (by first | exact hv24 | (rw [hv24]; refine congrArg some (congrArg _ ?_); rfl)), (by first | exact hv25 | (rw [hv25]; refine congrArg some (congrArg _ ?_); rfl)), (by first | exact hv26 | (rw [hv26]; refine congrArg some (congrArg _ ?_); rfl)), (by first | exact hv27 | (rw [hv27]; refine congrArg some (congrArg _ ?_); rfl)), (by first | exact hv28 | (rw [hv28]; refine congrArg some (congrArg _ ?_); rfl)), (by first | exact hv29 | (rw [hv29]; refine congrArg some (congrArg _ ?_); rfl)), (by first | exact hv30 | (rw [hv30]; refine congrArg some (congrArg _ ?_); rfl)), (by first | exact hv31 | (rw [hv31]; refine congrArg some (congrArg _ ?_); rfl)), (by first | exact hv32 | (rw [hv32]; refine congrArg some (congrArg _ ?_); rfl)), (by first | exact hv33 | (rw [hv33]; refine congrArg some (congrArg _ ?_); rfl)), (by first | exact hv34 | (rw [hv34]; refine congrArg some (congrArg _ ?_); rfl)), (by first | exact hv35 | (rw [hv35]; refine congrArg some (congrArg _ ?_); rfl)), (by first | exact hv36 | (rw [hv36]; refine congrArg some (congrArg _ ?_); rfl)), (by first | exact hv37 | (rw [hv37]; refine congrArg some (congrArg _ ?_); rfl)), (by first | exact hv38 | (rw [hv38]; refine congrArg some (congrArg _ ?_); rfl)), (by first | exact hv39 | (rw [hv39]; refine congrArg some (congrArg _ ?_); rfl)), (by first | exact hv40 | (rw [hv40]; refine congrArg some (congrArg _ ?_); rfl)), (by rfl)⟩, by rw [ht]; exact hP9, va_K.moved hW.alike hK9, hD9⟩, hS.F ht⟩) hS.2.2 d_Model_build_120
