set_option maxHeartbeats 1000000 in
set_option maxRecDepth 100000 in
theorem c_Model_isWord_l (l : Launch) (dC : Nat → ClassId) (dI : Nat → Nat → Nat)  (ad : Nat → Nat) (av : Nat → Nat) (h_this : Nat) (fs_this : List Value) (v_this_sort : Int32) (v_this_word : Int64) (v_this_fault : Int32) (i : Nat) (len_this : fs_this.length = 153) (g_this_sort : fs_this[2]? = some (.int v_this_sort)) (g_this_word : fs_this[6]? = some (.long v_this_word)) (g_this_fault : fs_this[7]? = some (.int v_this_fault)) (hi : i < 33) : Met l y_Model_isWord w_Model_isWord ({ frames := 5, cells := 0, slots := 0, locals := 108 } : Room) (va_Pc [.ref h_this, .ref (ad i)] (fun U => va_P (dC, dI) cls_all [oc h_this 12 fs_this] U.heap ∧ va_K (dC, dI) cls_all [] U ∧ env0 ad av (fun _ => False) U U.heap)) (vp_Si (fun r : Int32 => (r = if (v_this_sort = 2 ∧ v_this_word = pks i (s_len.getD i 0) ∧ v_this_fault = 0) then 1 else 0))) 0 0 (fun _ => False) := by
  refine Met.ofW (cc := b_Model_isWord) (maxL := 2) (ret := (some .boolean)) (by decide) rfl ?_
  intro p e s m args below meth c s₁ B hml hv
  obtain ⟨rfl, hP, hK, henv⟩ := hv
  have hx := B.exec
  have hb := B.bytes
  have hr := B.returns
  have hT : ∀ w ∈ lw_good, w.before _ s = true := fun w h => atoms_spec (ws := w_Model_isWord) B.pre w (List.mem_cons_of_mem _ h)
  have hown : s.vm.findClass R_Model = some m.cls := findClass_of_methodNamed B.named
  have hlocks := B.notSynchronized
  have hS : va_S (fun _ => False) s.heap s.heap [] := va_S.rf
  have hl := lv_entry ([.ref h_this, .ref (ad i)]) (n := 2) (Nat.le_of_ble_eq_true rfl)
  rw [lg_entry_eq]
  generalize (lg_sl ([.ref h_this, .ref (ad i)]) ++ List.replicate (2 - (lg_sl ([.ref h_this, .ref (ad i)])).length) Slot.unset).toArray = ls at hl ⊢
  have hl : lv_has ls 2 [(0, .ref h_this), (1, .ref (ad i))] := hl
  refine lv_aload_n hx hb d_Model_isWord_0 rfl (lv_at hl 0 rfl) ?_
  refine va_get (D := (dC, dI)) (ci := 12) (v := .int v_this_sort) (C := R_Model) (T := F_Model) (N := 153) hx hb hT i_Model hown hK hP 0 rfl rfl 2 (by decide) (hT _ fl_Model_352) (fun _ h9 => h9) g_this_sort d_Model_isWord_1 ?_
  refine lv_iconst (v := 2) hx hb d_Model_isWord_4 (by decide) ?_
  refine lv_icmp_ne (tgt := 31) hx hb d_Model_isWord_5 (by decide) (fun c1 => ?_) (fun c1 => ?_)
  · refine lv_iconst (v := 0) hx hb d_Model_isWord_31 (by decide) ?_
    refine W.zret (v := 0) hx hb hr (by first | rfl | decide | assumption) (fun t ht hW => ⟨0, rfl, ?_, ht⟩) (fun q h => by cases h) d_Model_isWord_32
    exact (if_neg (fun z => c1 z.1)).symm
  · refine lv_aload_n hx hb d_Model_isWord_8 rfl (lv_at hl 0 rfl) ?_
    refine va_get (D := (dC, dI)) (ci := 12) (v := .long v_this_word) (C := R_Model) (T := F_Model) (N := 153) hx hb hT i_Model hown hK hP 0 rfl rfl 6 (by decide) (hT _ fl_Model_365) (fun _ h9 => h9) g_this_word d_Model_isWord_9 ?_
    refine lv_aload_n hx hb d_Model_isWord_12 rfl (lv_at hl 1 rfl) ?_
    have hPc := hP.sub (ws' := []) [] rfl
    have hKc := hK.sub (tys' := []) [] rfl
    refine vp_callSl (va_Run.run (va_runS (As := [.ref (ad i)]) (rest := [.long v_this_word]) ⟨hx, hb, hml, hown, hT⟩ (c_Model_packed_l l dC dI (ad := ad) (av := av) (i := i) (hi := hi)) (va_cwS 1 hT (gS ml_Model_389 st_Model_packed ini_Model co_Model_packed) rfl rfl rfl (by decide +kernel) ⟨Nat.le_of_ble_eq_true rfl, Nat.le_of_ble_eq_true rfl⟩) ⟨fbSe, fun U hU hW => ⟨rfl, by rw [hU]; exact hPc, va_K.moved hW.alike hKc, env0.hand henv hS hU hW (fun q h => h.elim)⟩⟩ rfl rfl hl.1 rfl (lv_room (Nat.le_of_ble_eq_true rfl)) d_Model_isWord_13 ⟨Nat.le_of_ble_eq_true rfl, Nat.le_of_ble_eq_true rfl⟩)) (fun r2 hr2 => ?_)
    obtain rfl : r2 = pks i (s_len.getD i 0) := hr2
    refine W.lcmp hx hb d_Model_isWord_16 ?_
    refine lv_if_ne (tgt := 31) hx hb d_Model_isWord_17 (by decide) (fun c3 => ?_) (fun c3 => ?_)
    · refine lv_iconst (v := 0) hx hb d_Model_isWord_31 (by decide) ?_
      refine W.zret (v := 0) hx hb hr (by first | rfl | decide | assumption) (fun t ht hW => ⟨0, rfl, ?_, ht⟩) (fun q h => by cases h) d_Model_isWord_32
      exact (if_neg (fun z => c3 ((lg_cmp_eq _ _).mpr z.2.1))).symm
    · refine lv_aload_n hx hb d_Model_isWord_20 rfl (lv_at hl 0 rfl) ?_
      have hPc := hP.sub (ws' := [oc h_this 12 fs_this]) [0] rfl
      have hKc := hK.sub (tys' := []) [] rfl
      refine vp_callSi (va_Run.run (va_runV (As := []) (rest := []) ⟨hx, hb, hml, hown, hT⟩ (c_Model_bad l dC dI (h_this := h_this) (fs_this := fs_this) (v_this_fault := v_this_fault) (len_this := (by first | exact len_this | (simp only [List.length_set]; exact len_this))) (g_this_fault := g_this_fault)) (cwV 0 hT (gV ml_Model_385 im_Model_bad se_Model_bad ini_Model co_Model_bad) rfl rfl rfl (by decide +kernel) ⟨Nat.le_of_ble_eq_true rfl, Nat.le_of_ble_eq_true rfl⟩) ⟨fbS, va_recv hKc hPc (ci := 12) (q0 := 0) rfl rfl, fun U hU hW => ⟨rfl, by rw [hU]; exact hPc, va_K.moved hW.alike hKc⟩⟩ rfl rfl hl.1 rfl (lv_room (Nat.le_of_ble_eq_true rfl)) d_Model_isWord_21 ⟨Nat.le_of_ble_eq_true rfl, Nat.le_of_ble_eq_true rfl⟩)) (fun r4 hr4 => ?_)
      refine lv_if_ne (tgt := 31) hx hb d_Model_isWord_24 (by decide) (fun c5 => ?_) (fun c5 => ?_)
      · have hF0 : ¬ v_this_fault = 0 := fun z => c5 (hr4.trans (if_pos z))
        refine lv_iconst (v := 0) hx hb d_Model_isWord_31 (by decide) ?_
        refine W.zret (v := 0) hx hb hr (by first | rfl | decide | assumption) (fun t ht hW => ⟨0, rfl, ?_, ht⟩) (fun q h => by cases h) d_Model_isWord_32
        exact (if_neg (fun z => hF0 z.2.2)).symm
      · have hF0 : v_this_fault = 0 := Decidable.byContradiction (fun z => absurd (c5.symm.trans (hr4.trans (if_neg z))) (by decide))
        refine lv_iconst (v := 1) hx hb d_Model_isWord_27 (by decide) ?_
        refine lv_goto (tgt := 32) hx hb d_Model_isWord_28 (by decide) ?_
        refine W.zret (v := 1) hx hb hr (by first | rfl | decide | assumption) (fun t ht hW => ⟨1, rfl, ?_, ht⟩) (fun q h => by cases h) d_Model_isWord_32
        exact (if_pos ⟨c1, (lg_cmp_eq _ _).mp c3, hF0⟩).symm
