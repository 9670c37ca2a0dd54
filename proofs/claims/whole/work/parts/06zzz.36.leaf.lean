set_option maxHeartbeats 1000000 in
set_option maxRecDepth 100000 in
theorem c_Source_addNode_in (l : Launch) (dC : Nat → ClassId) (dI : Nat → Nat → Nat) (sz : Nat) (h_this : Nat) (h_kind : Nat) (h_tok : Nat) (h_next : Nat) (h_peer : Nat) (h_op : Nat) (h_left : Nat) (h_right : Nat) (h_tail : Nat) (fs_this : List Value) (k_kind : ClassId) (f_kind : Nat → Int32) (k_tok : ClassId) (f_tok : Nat → Int32) (k_next : ClassId) (f_next : Nat → Int32) (k_peer : ClassId) (f_peer : Nat → Int32) (k_op : ClassId) (f_op : Nat → Int32) (k_left : ClassId) (f_left : Nat → Int32) (k_right : ClassId) (f_right : Nat → Int32) (k_tail : ClassId) (f_tail : Nat → Int32) (p1 : Int32) (p2 : Int32) (n : Nat) (len_this : fs_this.length = 16) (g_this_nodes : fs_this[8]? = some (.int (nI n))) (g_this_kind : fs_this[0]? = some (.ref h_kind)) (g_this_tok : fs_this[1]? = some (.ref h_tok)) (g_this_next : fs_this[2]? = some (.ref h_next)) (g_this_peer : fs_this[3]? = some (.ref h_peer)) (g_this_op : fs_this[4]? = some (.ref h_op)) (g_this_left : fs_this[5]? = some (.ref h_left)) (g_this_right : fs_this[6]? = some (.ref h_right)) (g_this_tail : fs_this[7]? = some (.ref h_tail)) (hn : n < 4008) : Met l y_Source_addNode w_Source_addNode ({ frames := 0, cells := 0, slots := 0, locals := 0 } : Room) (va_Pc [.ref h_this, .int p1, .int p2] (fun U => U.heap.size = sz ∧ va_P (dC, dI) cls_all [oc h_this 8 fs_this, ic h_kind k_kind 4008 f_kind, ic h_tok k_tok 4008 f_tok, ic h_next k_next 4008 f_next, ic h_peer k_peer 4008 f_peer, ic h_op k_op 4008 f_op, ic h_left k_left 4008 f_left, ic h_right k_right 4008 f_right, ic h_tail k_tail 4008 f_tail] U.heap ∧ va_K (dC, dI) cls_all [(k_kind, .int), (k_tok, .int), (k_next, .int), (k_peer, .int), (k_op, .int), (k_left, .int), (k_right, .int), (k_tail, .int)] U ∧ va_D (fun _ => True) [oc h_this 8 fs_this, ic h_kind k_kind 4008 f_kind, ic h_tok k_tok 4008 f_tok, ic h_next k_next 4008 f_next, ic h_peer k_peer 4008 f_peer, ic h_op k_op 4008 f_op, ic h_left k_left 4008 f_left, ic h_right k_right 4008 f_right, ic h_tail k_tail 4008 f_tail])) (va_Qi (fun (z r : Int32) => z = r) (fun r t => ∃ (fs_this' : List Value) (f_kind' : Nat → Int32) (f_tok' : Nat → Int32) (f_next' : Nat → Int32) (f_peer' : Nat → Int32) (f_op' : Nat → Int32) (f_left' : Nat → Int32) (f_right' : Nat → Int32) (f_tail' : Nat → Int32), (fs_this'.length = 16 ∧ (∀ j : Nat, j ≠ 8 → fs_this'[j]? = fs_this[j]?) ∧ fs_this'[8]? = some (.int (nI (n + 1))) ∧ (f_kind' = upd f_kind n p1) ∧ (f_tok' = upd f_tok n p2) ∧ (f_next' = upd f_next n 0) ∧ (f_peer' = upd f_peer n 0) ∧ (f_op' = upd f_op n 0) ∧ (f_left' = upd f_left n 0) ∧ (f_right' = upd f_right n 0) ∧ (f_tail' = upd f_tail n 0) ∧ (r = nI n)) ∧ va_P (dC, dI) cls_all [oc h_this 8 fs_this', ic h_kind k_kind 4008 f_kind', ic h_tok k_tok 4008 f_tok', ic h_next k_next 4008 f_next', ic h_peer k_peer 4008 f_peer', ic h_op k_op 4008 f_op', ic h_left k_left 4008 f_left', ic h_right k_right 4008 f_right', ic h_tail k_tail 4008 f_tail'] t.heap ∧ va_K (dC, dI) cls_all [(k_kind, .int), (k_tok, .int), (k_next, .int), (k_peer, .int), (k_op, .int), (k_left, .int), (k_right, .int), (k_tail, .int)] t ∧ va_D (va_A [oc h_this 8 fs_this, ic h_kind k_kind 4008 f_kind, ic h_tok k_tok 4008 f_tok, ic h_next k_next 4008 f_next, ic h_peer k_peer 4008 f_peer, ic h_op k_op 4008 f_op, ic h_left k_left 4008 f_left, ic h_right k_right 4008 f_right, ic h_tail k_tail 4008 f_tail] sz) [oc h_this 8 fs_this', ic h_kind k_kind 4008 f_kind', ic h_tok k_tok 4008 f_tok', ic h_next k_next 4008 f_next', ic h_peer k_peer 4008 f_peer', ic h_op k_op 4008 f_op', ic h_left k_left 4008 f_left', ic h_right k_right 4008 f_right', ic h_tail k_tail 4008 f_tail']) (va_A [oc h_this 8 fs_this, ic h_kind k_kind 4008 f_kind, ic h_tok k_tok 4008 f_tok, ic h_next k_next 4008 f_next, ic h_peer k_peer 4008 f_peer, ic h_op k_op 4008 f_op, ic h_left k_left 4008 f_left, ic h_right k_right 4008 f_right, ic h_tail k_tail 4008 f_tail] sz)) 0 0 (va_A [oc h_this 8 fs_this, ic h_kind k_kind 4008 f_kind, ic h_tok k_tok 4008 f_tok, ic h_next k_next 4008 f_next, ic h_peer k_peer 4008 f_peer, ic h_op k_op 4008 f_op, ic h_left k_left 4008 f_left, ic h_right k_right 4008 f_right, ic h_tail k_tail 4008 f_tail] sz) := by
  refine Met.ofW (cc := b_Source_addNode) (maxL := 3) (ret := (some .int)) (by decide) rfl ?_
  intro p e s m args below meth c s₁ B hml hv
  obtain ⟨rfl, hsz, hP, hK, hD0⟩ := hv
  have hx := B.exec
  have hb := B.bytes
  have hr := B.returns
  have hT : ∀ w ∈ lw_good, w.before _ s = true := fun w h => atoms_spec (ws := w_Source_addNode) B.pre w (List.mem_cons_of_mem _ h)
  have hown : s.vm.findClass R_Source = some m.cls := findClass_of_methodNamed B.named
  have hlocks := B.notSynchronized
  subst hsz
  have hD := hD0.self (sz := s.heap.size)
  generalize hAe : va_A [oc h_this 8 fs_this, ic h_kind k_kind 4008 f_kind, ic h_tok k_tok 4008 f_tok, ic h_next k_next 4008 f_next, ic h_peer k_peer 4008 f_peer, ic h_op k_op 4008 f_op, ic h_left k_left 4008 f_left, ic h_right k_right 4008 f_right, ic h_tail k_tail 4008 f_tail] s.heap.size = A at hD ⊢
  have hA : ∀ q : Nat, s.heap.size ≤ q → A q := fun q h => by rw [← hAe]; exact Or.inr h
  have hS : va_S A s.heap s.heap [] := va_S.rf
  have hP : va_P (dC, dI) cls_all [oc h_this 8 fs_this, ic h_kind k_kind 4008 f_kind, ic h_tok k_tok 4008 f_tok, ic h_next k_next 4008 f_next, ic h_peer k_peer 4008 f_peer, ic h_op k_op 4008 f_op, ic h_left k_left 4008 f_left, ic h_right k_right 4008 f_right, ic h_tail k_tail 4008 f_tail] s.heap := hP
  have hl := lv_entry ([.ref h_this, .int p1, .int p2]) (n := 3) (Nat.le_of_ble_eq_true rfl)
  rw [lg_entry_eq]
  generalize (lg_sl ([.ref h_this, .int p1, .int p2]) ++ List.replicate (3 - (lg_sl ([.ref h_this, .int p1, .int p2])).length) Slot.unset).toArray = ls at hl ⊢
  have hl : lv_has ls 3 [(0, .ref h_this), (1, .int p1), (2, .int p2)] := hl
  refine lv_aload_n hx hb d_Source_addNode_0 rfl (lv_at hl 0 rfl) ?_
  refine va_get (D := (dC, dI)) (ci := 8) (v := .int (nI n)) (C := R_Source) (T := F_Source) (N := 16) hx hb hT i_Source hown hK hP 0 rfl rfl 8 (by decide) (hT _ fl_Source_96) (fun _ h9 => h9) g_this_nodes d_Source_addNode_1 ?_
  refine lv_sipush (v := 4008) hx hb d_Source_addNode_4 (by decide) ?_
  refine lv_icmp_lt (tgt := 12) hx hb d_Source_addNode_7 (by decide) (fun c1 => ?_) (fun c1 => absurd (nI_lt (b := 4008) hn (by decide)) c1)
  refine lv_aload_n hx hb d_Source_addNode_12 rfl (lv_at hl 0 rfl) ?_
  refine va_get (D := (dC, dI)) (ci := 8) (v := .ref h_kind) (C := R_Source) (T := F_Source) (N := 16) hx hb hT i_Source hown hK hP 0 rfl rfl 0 (by decide) (hT _ fl_Source_11) (fun _ h9 => h9) g_this_kind d_Source_addNode_13 ?_
  refine lv_aload_n hx hb d_Source_addNode_16 rfl (lv_at hl 0 rfl) ?_
  refine va_get (D := (dC, dI)) (ci := 8) (v := .int (nI n)) (C := R_Source) (T := F_Source) (N := 16) hx hb hT i_Source hown hK hP 0 rfl rfl 8 (by decide) (hT _ fl_Source_96) (fun _ h9 => h9) g_this_nodes d_Source_addNode_17 ?_
  refine lv_iload_n hx hb d_Source_addNode_20 rfl (lv_at hl 1 rfl) ?_
  refine va_iast hx hb hK hP hD hS 1 0 rfl rfl (vp_in_nI (by omega) (by decide)) d_Source_addNode_21 (fun H locs hP hD hS => ?_)
  have es2 : upd f_kind (nI n).toNatClampNeg p1 = upd f_kind n p1 := by rw [nI_clamp (by omega)]
  have hP : va_P (dC, dI) cls_all [oc h_this 8 fs_this, ic h_kind k_kind 4008 (upd f_kind (nI n).toNatClampNeg p1), ic h_tok k_tok 4008 f_tok, ic h_next k_next 4008 f_next, ic h_peer k_peer 4008 f_peer, ic h_op k_op 4008 f_op, ic h_left k_left 4008 f_left, ic h_right k_right 4008 f_right, ic h_tail k_tail 4008 f_tail] H := hP
  have hD : va_D A [oc h_this 8 fs_this, ic h_kind k_kind 4008 (upd f_kind (nI n).toNatClampNeg p1), ic h_tok k_tok 4008 f_tok, ic h_next k_next 4008 f_next, ic h_peer k_peer 4008 f_peer, ic h_op k_op 4008 f_op, ic h_left k_left 4008 f_left, ic h_right k_right 4008 f_right, ic h_tail k_tail 4008 f_tail] := hD
  rw [es2] at hP hD
  obtain ⟨f2, ef2⟩ : ∃ g, g = upd f_kind n p1 := ⟨_, rfl⟩
  rw [← ef2] at hP hD
  refine lv_aload_n hx hb d_Source_addNode_22 rfl (lv_at hl 0 rfl) ?_
  refine va_get (D := (dC, dI)) (ci := 8) (v := .ref h_tok) (C := R_Source) (T := F_Source) (N := 16) hx hb hT i_Source hown hK hP 0 rfl rfl 1 (by decide) (hT _ fl_Source_15) (fun _ h9 => h9) g_this_tok d_Source_addNode_23 ?_
  refine lv_aload_n hx hb d_Source_addNode_26 rfl (lv_at hl 0 rfl) ?_
  refine va_get (D := (dC, dI)) (ci := 8) (v := .int (nI n)) (C := R_Source) (T := F_Source) (N := 16) hx hb hT i_Source hown hK hP 0 rfl rfl 8 (by decide) (hT _ fl_Source_96) (fun _ h9 => h9) g_this_nodes d_Source_addNode_27 ?_
  refine lv_iload_n hx hb d_Source_addNode_30 rfl (lv_at hl 2 rfl) ?_
  refine va_iast hx hb hK hP hD hS 2 1 rfl rfl (vp_in_nI (by omega) (by decide)) d_Source_addNode_31 (fun H locs hP hD hS => ?_)
  have es3 : upd f_tok (nI n).toNatClampNeg p2 = upd f_tok n p2 := by rw [nI_clamp (by omega)]
  have hP : va_P (dC, dI) cls_all [oc h_this 8 fs_this, ic h_kind k_kind 4008 f2, ic h_tok k_tok 4008 (upd f_tok (nI n).toNatClampNeg p2), ic h_next k_next 4008 f_next, ic h_peer k_peer 4008 f_peer, ic h_op k_op 4008 f_op, ic h_left k_left 4008 f_left, ic h_right k_right 4008 f_right, ic h_tail k_tail 4008 f_tail] H := hP
  have hD : va_D A [oc h_this 8 fs_this, ic h_kind k_kind 4008 f2, ic h_tok k_tok 4008 (upd f_tok (nI n).toNatClampNeg p2), ic h_next k_next 4008 f_next, ic h_peer k_peer 4008 f_peer, ic h_op k_op 4008 f_op, ic h_left k_left 4008 f_left, ic h_right k_right 4008 f_right, ic h_tail k_tail 4008 f_tail] := hD
  rw [es3] at hP hD
  obtain ⟨f3, ef3⟩ : ∃ g, g = upd f_tok n p2 := ⟨_, rfl⟩
  rw [← ef3] at hP hD
  refine lv_aload_n hx hb d_Source_addNode_32 rfl (lv_at hl 0 rfl) ?_
  refine va_get (D := (dC, dI)) (ci := 8) (v := .ref h_next) (C := R_Source) (T := F_Source) (N := 16) hx hb hT i_Source hown hK hP 0 rfl rfl 2 (by decide) (hT _ fl_Source_18) (fun _ h9 => h9) g_this_next d_Source_addNode_33 ?_
  refine lv_aload_n hx hb d_Source_addNode_36 rfl (lv_at hl 0 rfl) ?_
  refine va_get (D := (dC, dI)) (ci := 8) (v := .int (nI n)) (C := R_Source) (T := F_Source) (N := 16) hx hb hT i_Source hown hK hP 0 rfl rfl 8 (by decide) (hT _ fl_Source_96) (fun _ h9 => h9) g_this_nodes d_Source_addNode_37 ?_
  refine lv_iconst (v := 0) hx hb d_Source_addNode_40 (by decide) ?_
  refine va_iast hx hb hK hP hD hS 3 2 rfl rfl (vp_in_nI (by omega) (by decide)) d_Source_addNode_41 (fun H locs hP hD hS => ?_)
  have es4 : upd f_next (nI n).toNatClampNeg 0 = upd f_next n 0 := by rw [nI_clamp (by omega)]
  have hP : va_P (dC, dI) cls_all [oc h_this 8 fs_this, ic h_kind k_kind 4008 f2, ic h_tok k_tok 4008 f3, ic h_next k_next 4008 (upd f_next (nI n).toNatClampNeg 0), ic h_peer k_peer 4008 f_peer, ic h_op k_op 4008 f_op, ic h_left k_left 4008 f_left, ic h_right k_right 4008 f_right, ic h_tail k_tail 4008 f_tail] H := hP
  have hD : va_D A [oc h_this 8 fs_this, ic h_kind k_kind 4008 f2, ic h_tok k_tok 4008 f3, ic h_next k_next 4008 (upd f_next (nI n).toNatClampNeg 0), ic h_peer k_peer 4008 f_peer, ic h_op k_op 4008 f_op, ic h_left k_left 4008 f_left, ic h_right k_right 4008 f_right, ic h_tail k_tail 4008 f_tail] := hD
  rw [es4] at hP hD
  obtain ⟨f4, ef4⟩ : ∃ g, g = upd f_next n 0 := ⟨_, rfl⟩
  rw [← ef4] at hP hD
  refine lv_aload_n hx hb d_Source_addNode_42 rfl (lv_at hl 0 rfl) ?_
  refine va_get (D := (dC, dI)) (ci := 8) (v := .ref h_peer) (C := R_Source) (T := F_Source) (N := 16) hx hb hT i_Source hown hK hP 0 rfl rfl 3 (by decide) (hT _ fl_Source_21) (fun _ h9 => h9) g_this_peer d_Source_addNode_43 ?_
  refine lv_aload_n hx hb d_Source_addNode_46 rfl (lv_at hl 0 rfl) ?_
  refine va_get (D := (dC, dI)) (ci := 8) (v := .int (nI n)) (C := R_Source) (T := F_Source) (N := 16) hx hb hT i_Source hown hK hP 0 rfl rfl 8 (by decide) (hT _ fl_Source_96) (fun _ h9 => h9) g_this_nodes d_Source_addNode_47 ?_
  refine lv_iconst (v := 0) hx hb d_Source_addNode_50 (by decide) ?_
  refine va_iast hx hb hK hP hD hS 4 3 rfl rfl (vp_in_nI (by omega) (by decide)) d_Source_addNode_51 (fun H locs hP hD hS => ?_)
  have es5 : upd f_peer (nI n).toNatClampNeg 0 = upd f_peer n 0 := by rw [nI_clamp (by omega)]
  have hP : va_P (dC, dI) cls_all [oc h_this 8 fs_this, ic h_kind k_kind 4008 f2, ic h_tok k_tok 4008 f3, ic h_next k_next 4008 f4, ic h_peer k_peer 4008 (upd f_peer (nI n).toNatClampNeg 0), ic h_op k_op 4008 f_op, ic h_left k_left 4008 f_left, ic h_right k_right 4008 f_right, ic h_tail k_tail 4008 f_tail] H := hP
  have hD : va_D A [oc h_this 8 fs_this, ic h_kind k_kind 4008 f2, ic h_tok k_tok 4008 f3, ic h_next k_next 4008 f4, ic h_peer k_peer 4008 (upd f_peer (nI n).toNatClampNeg 0), ic h_op k_op 4008 f_op, ic h_left k_left 4008 f_left, ic h_right k_right 4008 f_right, ic h_tail k_tail 4008 f_tail] := hD
  rw [es5] at hP hD
  obtain ⟨f5, ef5⟩ : ∃ g, g = upd f_peer n 0 := ⟨_, rfl⟩
  rw [← ef5] at hP hD
  refine lv_aload_n hx hb d_Source_addNode_52 rfl (lv_at hl 0 rfl) ?_
  refine va_get (D := (dC, dI)) (ci := 8) (v := .ref h_op) (C := R_Source) (T := F_Source) (N := 16) hx hb hT i_Source hown hK hP 0 rfl rfl 4 (by decide) (hT _ fl_Source_24) (fun _ h9 => h9) g_this_op d_Source_addNode_53 ?_
  refine lv_aload_n hx hb d_Source_addNode_56 rfl (lv_at hl 0 rfl) ?_
  refine va_get (D := (dC, dI)) (ci := 8) (v := .int (nI n)) (C := R_Source) (T := F_Source) (N := 16) hx hb hT i_Source hown hK hP 0 rfl rfl 8 (by decide) (hT _ fl_Source_96) (fun _ h9 => h9) g_this_nodes d_Source_addNode_57 ?_
  refine lv_iconst (v := 0) hx hb d_Source_addNode_60 (by decide) ?_
  refine va_iast hx hb hK hP hD hS 5 4 rfl rfl (vp_in_nI (by omega) (by decide)) d_Source_addNode_61 (fun H locs hP hD hS => ?_)
  have es6 : upd f_op (nI n).toNatClampNeg 0 = upd f_op n 0 := by rw [nI_clamp (by omega)]
  have hP : va_P (dC, dI) cls_all [oc h_this 8 fs_this, ic h_kind k_kind 4008 f2, ic h_tok k_tok 4008 f3, ic h_next k_next 4008 f4, ic h_peer k_peer 4008 f5, ic h_op k_op 4008 (upd f_op (nI n).toNatClampNeg 0), ic h_left k_left 4008 f_left, ic h_right k_right 4008 f_right, ic h_tail k_tail 4008 f_tail] H := hP
  have hD : va_D A [oc h_this 8 fs_this, ic h_kind k_kind 4008 f2, ic h_tok k_tok 4008 f3, ic h_next k_next 4008 f4, ic h_peer k_peer 4008 f5, ic h_op k_op 4008 (upd f_op (nI n).toNatClampNeg 0), ic h_left k_left 4008 f_left, ic h_right k_right 4008 f_right, ic h_tail k_tail 4008 f_tail] := hD
  rw [es6] at hP hD
  obtain ⟨f6, ef6⟩ : ∃ g, g = upd f_op n 0 := ⟨_, rfl⟩
  rw [← ef6] at hP hD
  refine lv_aload_n hx hb d_Source_addNode_62 rfl (lv_at hl 0 rfl) ?_
  refine va_get (D := (dC, dI)) (ci := 8) (v := .ref h_left) (C := R_Source) (T := F_Source) (N := 16) hx hb hT i_Source hown hK hP 0 rfl rfl 5 (by decide) (hT _ fl_Source_27) (fun _ h9 => h9) g_this_left d_Source_addNode_63 ?_
  refine lv_aload_n hx hb d_Source_addNode_66 rfl (lv_at hl 0 rfl) ?_
  refine va_get (D := (dC, dI)) (ci := 8) (v := .int (nI n)) (C := R_Source) (T := F_Source) (N := 16) hx hb hT i_Source hown hK hP 0 rfl rfl 8 (by decide) (hT _ fl_Source_96) (fun _ h9 => h9) g_this_nodes d_Source_addNode_67 ?_
  refine lv_iconst (v := 0) hx hb d_Source_addNode_70 (by decide) ?_
  refine va_iast hx hb hK hP hD hS 6 5 rfl rfl (vp_in_nI (by omega) (by decide)) d_Source_addNode_71 (fun H locs hP hD hS => ?_)
  have es7 : upd f_left (nI n).toNatClampNeg 0 = upd f_left n 0 := by rw [nI_clamp (by omega)]
  have hP : va_P (dC, dI) cls_all [oc h_this 8 fs_this, ic h_kind k_kind 4008 f2, ic h_tok k_tok 4008 f3, ic h_next k_next 4008 f4, ic h_peer k_peer 4008 f5, ic h_op k_op 4008 f6, ic h_left k_left 4008 (upd f_left (nI n).toNatClampNeg 0), ic h_right k_right 4008 f_right, ic h_tail k_tail 4008 f_tail] H := hP
  have hD : va_D A [oc h_this 8 fs_this, ic h_kind k_kind 4008 f2, ic h_tok k_tok 4008 f3, ic h_next k_next 4008 f4, ic h_peer k_peer 4008 f5, ic h_op k_op 4008 f6, ic h_left k_left 4008 (upd f_left (nI n).toNatClampNeg 0), ic h_right k_right 4008 f_right, ic h_tail k_tail 4008 f_tail] := hD
  rw [es7] at hP hD
  obtain ⟨f7, ef7⟩ : ∃ g, g = upd f_left n 0 := ⟨_, rfl⟩
  rw [← ef7] at hP hD
  refine lv_aload_n hx hb d_Source_addNode_72 rfl (lv_at hl 0 rfl) ?_
  refine va_get (D := (dC, dI)) (ci := 8) (v := .ref h_right) (C := R_Source) (T := F_Source) (N := 16) hx hb hT i_Source hown hK hP 0 rfl rfl 6 (by decide) (hT _ fl_Source_30) (fun _ h9 => h9) g_this_right d_Source_addNode_73 ?_
  refine lv_aload_n hx hb d_Source_addNode_76 rfl (lv_at hl 0 rfl) ?_
  refine va_get (D := (dC, dI)) (ci := 8) (v := .int (nI n)) (C := R_Source) (T := F_Source) (N := 16) hx hb hT i_Source hown hK hP 0 rfl rfl 8 (by decide) (hT _ fl_Source_96) (fun _ h9 => h9) g_this_nodes d_Source_addNode_77 ?_
  refine lv_iconst (v := 0) hx hb d_Source_addNode_80 (by decide) ?_
  refine va_iast hx hb hK hP hD hS 7 6 rfl rfl (vp_in_nI (by omega) (by decide)) d_Source_addNode_81 (fun H locs hP hD hS => ?_)
  have es8 : upd f_right (nI n).toNatClampNeg 0 = upd f_right n 0 := by rw [nI_clamp (by omega)]
  have hP : va_P (dC, dI) cls_all [oc h_this 8 fs_this, ic h_kind k_kind 4008 f2, ic h_tok k_tok 4008 f3, ic h_next k_next 4008 f4, ic h_peer k_peer 4008 f5, ic h_op k_op 4008 f6, ic h_left k_left 4008 f7, ic h_right k_right 4008 (upd f_right (nI n).toNatClampNeg 0), ic h_tail k_tail 4008 f_tail] H := hP
  have hD : va_D A [oc h_this 8 fs_this, ic h_kind k_kind 4008 f2, ic h_tok k_tok 4008 f3, ic h_next k_next 4008 f4, ic h_peer k_peer 4008 f5, ic h_op k_op 4008 f6, ic h_left k_left 4008 f7, ic h_right k_right 4008 (upd f_right (nI n).toNatClampNeg 0), ic h_tail k_tail 4008 f_tail] := hD
  rw [es8] at hP hD
  obtain ⟨f8, ef8⟩ : ∃ g, g = upd f_right n 0 := ⟨_, rfl⟩
  rw [← ef8] at hP hD
  refine lv_aload_n hx hb d_Source_addNode_82 rfl (lv_at hl 0 rfl) ?_
  refine va_get (D := (dC, dI)) (ci := 8) (v := .ref h_tail) (C := R_Source) (T := F_Source) (N := 16) hx hb hT i_Source hown hK hP 0 rfl rfl 7 (by decide) (hT _ fl_Source_33) (fun _ h9 => h9) g_this_tail d_Source_addNode_83 ?_
  refine lv_aload_n hx hb d_Source_addNode_86 rfl (lv_at hl 0 rfl) ?_
  refine va_get (D := (dC, dI)) (ci := 8) (v := .int (nI n)) (C := R_Source) (T := F_Source) (N := 16) hx hb hT i_Source hown hK hP 0 rfl rfl 8 (by decide) (hT _ fl_Source_96) (fun _ h9 => h9) g_this_nodes d_Source_addNode_87 ?_
  refine lv_iconst (v := 0) hx hb d_Source_addNode_90 (by decide) ?_
  refine va_iast hx hb hK hP hD hS 8 7 rfl rfl (vp_in_nI (by omega) (by decide)) d_Source_addNode_91 (fun H locs hP hD hS => ?_)
  have es9 : upd f_tail (nI n).toNatClampNeg 0 = upd f_tail n 0 := by rw [nI_clamp (by omega)]
  have hP : va_P (dC, dI) cls_all [oc h_this 8 fs_this, ic h_kind k_kind 4008 f2, ic h_tok k_tok 4008 f3, ic h_next k_next 4008 f4, ic h_peer k_peer 4008 f5, ic h_op k_op 4008 f6, ic h_left k_left 4008 f7, ic h_right k_right 4008 f8, ic h_tail k_tail 4008 (upd f_tail (nI n).toNatClampNeg 0)] H := hP
  have hD : va_D A [oc h_this 8 fs_this, ic h_kind k_kind 4008 f2, ic h_tok k_tok 4008 f3, ic h_next k_next 4008 f4, ic h_peer k_peer 4008 f5, ic h_op k_op 4008 f6, ic h_left k_left 4008 f7, ic h_right k_right 4008 f8, ic h_tail k_tail 4008 (upd f_tail (nI n).toNatClampNeg 0)] := hD
  rw [es9] at hP hD
  obtain ⟨f9, ef9⟩ : ∃ g, g = upd f_tail n 0 := ⟨_, rfl⟩
  rw [← ef9] at hP hD
  refine lv_aload_n hx hb d_Source_addNode_92 rfl (lv_at hl 0 rfl) ?_
  refine lv_dup hx hb d_Source_addNode_93 rfl ?_
  refine va_get (D := (dC, dI)) (ci := 8) (v := .int (nI n)) (C := R_Source) (T := F_Source) (N := 16) hx hb hT i_Source hown hK hP 0 rfl rfl 8 (by decide) (hT _ fl_Source_96) (fun _ h9 => h9) g_this_nodes d_Source_addNode_94 ?_
  refine lv_iconst (v := 1) hx hb d_Source_addNode_97 (by decide) ?_
  refine lv_iadd hx hb d_Source_addNode_98 ?_
  refine lv_topi (fun x10 e10 => ?_)
  obtain rfl : x10 = nI (n + 1) := e10.trans (nI_add n 1)
  refine va_put (D := (dC, dI)) (ci := 8) (v := .int (nI (n + 1))) (ty := .int) (C := R_Source) (T := F_Source) (N := 16) hx hb hT i_Source t_Source t_Source_ok n_Source hown hK hP hD hS 0 rfl rfl 8 (by decide) (hT _ fl_Source_96) (fun _ h9 => h9) rfl (by decide +kernel) rfl rfl (by simp only [List.length_set, len_this]; decide) d_Source_addNode_99 (fun H locs hP hD hS => ?_)
  have hP : va_P (dC, dI) cls_all [oc h_this 8 (fs_this.set 8 (.int (nI (n + 1)))), ic h_kind k_kind 4008 f2, ic h_tok k_tok 4008 f3, ic h_next k_next 4008 f4, ic h_peer k_peer 4008 f5, ic h_op k_op 4008 f6, ic h_left k_left 4008 f7, ic h_right k_right 4008 f8, ic h_tail k_tail 4008 f9] H := hP
  have hD : va_D A [oc h_this 8 (fs_this.set 8 (.int (nI (n + 1)))), ic h_kind k_kind 4008 f2, ic h_tok k_tok 4008 f3, ic h_next k_next 4008 f4, ic h_peer k_peer 4008 f5, ic h_op k_op 4008 f6, ic h_left k_left 4008 f7, ic h_right k_right 4008 f8, ic h_tail k_tail 4008 f9] := hD
  refine lv_aload_n hx hb d_Source_addNode_102 rfl (lv_at hl 0 rfl) ?_
  refine va_get (D := (dC, dI)) (ci := 8) (v := .int (nI (n + 1))) (C := R_Source) (T := F_Source) (N := 16) hx hb hT i_Source hown hK hP 0 rfl rfl 8 (by decide) (hT _ fl_Source_96) (fun _ h9 => h9) (ls_eq (by simp only [List.length_set, len_this]; decide)) d_Source_addNode_103 ?_
  refine lv_iconst (v := 1) hx hb d_Source_addNode_106 (by decide) ?_
  refine lv_isub hx hb d_Source_addNode_107 ?_
  refine lv_topi (fun x11 e11 => ?_)
  obtain rfl : x11 = nI n := e11.trans ((pk_sub (a := n + 1) (b := 1) (by omega)).trans (congrArg nI (by omega)))
  have hP9 := hP.sub (ws' := [oc h_this 8 (fs_this.set 8 (.int (nI (n + 1)))), ic h_kind k_kind 4008 f2, ic h_tok k_tok 4008 f3, ic h_next k_next 4008 f4, ic h_peer k_peer 4008 f5, ic h_op k_op 4008 f6, ic h_left k_left 4008 f7, ic h_right k_right 4008 f8, ic h_tail k_tail 4008 f9]) [0, 1, 2, 3, 4, 5, 6, 7, 8] rfl
  have hD9 := hD.sub (ws' := [oc h_this 8 (fs_this.set 8 (.int (nI (n + 1)))), ic h_kind k_kind 4008 f2, ic h_tok k_tok 4008 f3, ic h_next k_next 4008 f4, ic h_peer k_peer 4008 f5, ic h_op k_op 4008 f6, ic h_left k_left 4008 f7, ic h_right k_right 4008 f8, ic h_tail k_tail 4008 f9]) [0, 1, 2, 3, 4, 5, 6, 7, 8] (by decide) rfl
  have hK9 := hK.sub (tys' := [(k_kind, .int), (k_tok, .int), (k_next, .int), (k_peer, .int), (k_op, .int), (k_left, .int), (k_right, .int), (k_tail, .int)]) [0, 1, 2, 3, 4, 5, 6, 7] rfl
  have hv12 : (fs_this.set 8 (.int (nI (n + 1))))[8]? = some (.int (nI (n + 1))) := (ls_eq (by simp only [List.length_set, len_this]; decide))
  exact W.iret (v := (nI n)) hx hb hr (fun t ht hW => ⟨⟨(nI n), (nI n), rfl, rfl, (fs_this.set 8 (.int (nI (n + 1)))), f2, f3, f4, f5, f6, f7, f8, f9, ⟨(by first | exact len_this | (simp only [List.length_set]; exact len_this)), (fun j n8 => ((ls_ne n8).trans rfl)), (by first | exact hv12 | (rw [hv12]; refine congrArg some (congrArg _ ?_); subst_vars; rfl)), (by subst_vars; rfl), (by subst_vars; rfl), (by subst_vars; rfl), (by subst_vars; rfl), (by subst_vars; rfl), (by subst_vars; rfl), (by subst_vars; rfl), (by subst_vars; rfl), (by subst_vars; rfl)⟩, by rw [ht]; exact hP9, va_K.moved hW.alike hK9, hD9⟩, hS.F ht⟩) hS.2.2 d_Source_addNode_108

