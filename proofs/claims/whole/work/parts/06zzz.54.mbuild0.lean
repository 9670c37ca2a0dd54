theorem va_ldcwSI {p : Program} {l : Launch} {e : Env} {R : Room} {s : State} {m : MethodId} {args : Array Value} {below : List Frame} {meth : Method} {c : Code} {locs : List Loc} {cells slots : Nat} {T : State} (X : Stand p l e R s m args below meth c T locs cells slots) (hexec : p.tables.exec = Jvm.exec) {own tx : String} {index q : Nat} (hown : s.vm.findClass own = some m.cls) (hZ : vk_R own index tx q s) {g : JFrame} (hg : g.method = m) (hdg : decode c.code g.pc = .ok (.ldc_w index, 3)) :
    ∀ target, Steps p.tables e below (T.setTop { g with pc := g.pc + 3, stack := .ref q :: g.stack }) target → Steps p.tables e below (T.setTop g) target := by
  obtain ⟨k, cf, i, a', hk, hcf, hcp, -, hr, hev⟩ := Cond.stringRef_spec hown hZ.1
  cases hZ.2.symm.trans hev
  obtain ⟨k', hk', he⟩ := X.warmed.alike.2.2 _ _ hk
  have hr' : k'.resolved[index]? = some (some (.string q)) := by
    rcases X.warmed.entry hk hk' index with h | ⟨h, -⟩
    · rw [h]; exact hr
    · rw [hr] at h; cases h
  intro target hrest
  subst hg
  jvm_step X.here [hexec, hdg, ldc_w.wp_string (e := e) (s := T) (f := g) X.here.top hk' (by rw [he]; exact hcf) hcp hr']
  exact hrest
theorem va_ldcwS {p : Program} {l : Launch} {e : Env} {R : Room} {s : State} {m : MethodId} {args : Array Value} {below : List Frame} {meth : Method} {c : Code} {H : Heap} {locs : List Loc} {cells slots : Nat} {Q : State → Prop} {cc : ByteArray} {pc : Nat} {ls : Array Slot} {rest : List Value} (hexec : p.tables.exec = Jvm.exec) (hb : c.code = cc) {own tx : String} {index q : Nat} (hown : s.vm.findClass own = some m.cls) (hZ : vk_R own index tx q s) (hdg : decode cc pc = .ok (.ldc_w index, 3)) (kk : W p l e R s m args below meth c H locs cells slots Q (F0 m (pc + 3) ls (.ref q :: rest))) : W p l e R s m args below meth c H locs cells slots Q (F0 m pc ls rest) := by
  intro T hT X
  obtain ⟨t, a1, b1⟩ := kk T hT X
  exact ⟨t, va_ldcwSI X hexec hown hZ (g := F0 m pc ls rest) rfl (by rw [hb]; exact hdg) t a1, b1⟩

set_option maxHeartbeats 1000000 in
set_option maxRecDepth 100000 in
theorem c_Model_bad (l : Launch) (dC : Nat → ClassId) (dI : Nat → Nat → Nat)  (h_this : Nat) (fs_this : List Value) (v_this_fault : Int32) (len_this : fs_this.length = 153) (g_this_fault : fs_this[7]? = some (.int v_this_fault)) : Met l y_Model_bad w_Model_bad ({ frames := 0, cells := 0, slots := 0, locals := 0 } : Room) (va_Pc [.ref h_this] (fun U => va_P (dC, dI) cls_all [oc h_this 12 fs_this] U.heap ∧ va_K (dC, dI) cls_all [] U)) (vp_Si (fun r : Int32 => (r = if v_this_fault = 0 then 0 else 1))) 0 0 (fun _ => False) := by
  refine Met.ofW (cc := b_Model_bad) (maxL := 1) (ret := (some .boolean)) (by decide) rfl ?_
  intro p e s m args below meth c s₁ B hml hv
  obtain ⟨rfl, hP, hK⟩ := hv
  have hx := B.exec
  have hb := B.bytes
  have hr := B.returns
  have hT : ∀ w ∈ lw_good, w.before _ s = true := fun w h => atoms_spec (ws := w_Model_bad) B.pre w (List.mem_cons_of_mem _ h)
  have hown : s.vm.findClass R_Model = some m.cls := findClass_of_methodNamed B.named
  have hlocks := B.notSynchronized
  have hl := lv_entry ([.ref h_this]) (n := 1) (Nat.le_of_ble_eq_true rfl)
  rw [lg_entry_eq]
  generalize (lg_sl ([.ref h_this]) ++ List.replicate (1 - (lg_sl ([.ref h_this])).length) Slot.unset).toArray = ls at hl ⊢
  have hl : lv_has ls 1 [(0, .ref h_this)] := hl
  refine lv_aload_n hx hb d_Model_bad_0 rfl (lv_at hl 0 rfl) ?_
  refine va_get (D := (dC, dI)) (ci := 12) (v := .int v_this_fault) (C := R_Model) (T := F_Model) (N := 153) hx hb hT i_Model hown hK hP 0 rfl rfl 7 (by decide) (hT _ fl_Model_378) (fun _ h9 => h9) g_this_fault d_Model_bad_1 ?_
  refine lv_if_eq (tgt := 11) hx hb d_Model_bad_4 (by decide) (fun c1 => ?_) (fun c1 => ?_)
  · refine lv_iconst (v := 0) hx hb d_Model_bad_11 (by decide) ?_
    refine W.zret (v := 0) hx hb hr (by first | rfl | decide | assumption) (fun t ht hW => ⟨0, rfl, ?_, ht⟩) (fun q h => by cases h) d_Model_bad_12
    first | exact (if_pos c1).symm | exact (if_neg c1).symm
  · refine lv_iconst (v := 1) hx hb d_Model_bad_7 (by decide) ?_
    refine lv_goto (tgt := 12) hx hb d_Model_bad_8 (by decide) ?_
    refine W.zret (v := 1) hx hb hr (by first | rfl | decide | assumption) (fun t ht hW => ⟨1, rfl, ?_, ht⟩) (fun q h => by cases h) d_Model_bad_12
    first | exact (if_pos c1).symm | exact (if_neg c1).symm
