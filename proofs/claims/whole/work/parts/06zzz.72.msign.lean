abbrev b_Model_sign : ByteArray := prog_14_method_14_code
abbrev y_Model_sign : MethodName := ⟨R_Model, "sign", "(I)V"⟩
theorem co_Model_sign : Cond.code y_Model_sign b_Model_sign 4 none ∈ lw_good := lg_in (tin_10 _ (List.mem_of_getElem? (i := 176) rfl)) rfl
abbrev w_Model_sign : List Cond := Cond.code y_Model_sign b_Model_sign 4 none :: lw_good
theorem im_Model_sign : Cond.instanceMethod y_Model_sign ∈ lw_good := lg_right (i := 2335) (by decide +kernel) rfl
theorem se_Model_sign : Cond.selects R_Model y_Model_sign y_Model_sign ∈ lw_good := lg_left (i := 120) (by decide +kernel) rfl
theorem d_Model_sign_0 : decode b_Model_sign 0 = .ok (.aload_n 0, 1) := by decide +kernel
theorem d_Model_sign_1 : decode b_Model_sign 1 = .ok (.aload_n 0, 1) := by decide +kernel
theorem d_Model_sign_2 : decode b_Model_sign 2 = .ok (.getfield 349, 3) := by decide +kernel
theorem d_Model_sign_5 : decode b_Model_sign 5 = .ok (.iconst 1, 1) := by decide +kernel
theorem d_Model_sign_6 : decode b_Model_sign 6 = .ok (.iadd, 1) := by decide +kernel
theorem d_Model_sign_7 : decode b_Model_sign 7 = .ok (.putfield 342, 3) := by decide +kernel
theorem d_Model_sign_10 : decode b_Model_sign 10 = .ok (.aload_n 0, 1) := by decide +kernel
theorem d_Model_sign_11 : decode b_Model_sign 11 = .ok (.iload_n 1, 1) := by decide +kernel
theorem d_Model_sign_12 : decode b_Model_sign 12 = .ok (.putfield 369, 3) := by decide +kernel
theorem d_Model_sign_15 : decode b_Model_sign 15 = .ok (.aload_n 0, 1) := by decide +kernel
theorem d_Model_sign_16 : decode b_Model_sign 16 = .ok (.iconst 0, 1) := by decide +kernel
theorem d_Model_sign_17 : decode b_Model_sign 17 = .ok (.putfield 352, 3) := by decide +kernel
theorem d_Model_sign_20 : decode b_Model_sign 20 = .ok (.ldc_w 376, 3) := by decide +kernel
theorem d_Model_sign_23 : decode b_Model_sign 23 = .ok (.astore_n 2, 1) := by decide +kernel
theorem d_Model_sign_24 : decode b_Model_sign 24 = .ok (.iconst 0, 1) := by decide +kernel
theorem d_Model_sign_25 : decode b_Model_sign 25 = .ok (.istore_n 3, 1) := by decide +kernel
theorem d_Model_sign_26 : decode b_Model_sign 26 = .ok (.iload_n 3, 1) := by decide +kernel
theorem d_Model_sign_27 : decode b_Model_sign 27 = .ok (.aload_n 2, 1) := by decide +kernel
theorem d_Model_sign_28 : decode b_Model_sign 28 = .ok (.invokevirtual 330, 3) := by decide +kernel
theorem d_Model_sign_31 : decode b_Model_sign 31 = .ok (.if_icmp .ge 24, 3) := by decide +kernel
theorem d_Model_sign_34 : decode b_Model_sign 34 = .ok (.aload_n 2, 1) := by decide +kernel
theorem d_Model_sign_35 : decode b_Model_sign 35 = .ok (.iload_n 3, 1) := by decide +kernel
theorem d_Model_sign_36 : decode b_Model_sign 36 = .ok (.invokevirtual 336, 3) := by decide +kernel
theorem d_Model_sign_39 : decode b_Model_sign 39 = .ok (.iload_n 1, 1) := by decide +kernel
theorem d_Model_sign_40 : decode b_Model_sign 40 = .ok (.if_icmp .ne 9, 3) := by decide +kernel
theorem d_Model_sign_43 : decode b_Model_sign 43 = .ok (.aload_n 0, 1) := by decide +kernel
theorem d_Model_sign_44 : decode b_Model_sign 44 = .ok (.bipush 6, 2) := by decide +kernel
theorem d_Model_sign_46 : decode b_Model_sign 46 = .ok (.putfield 352, 3) := by decide +kernel
theorem d_Model_sign_49 : decode b_Model_sign 49 = .ok (.iinc 3 1, 3) := by decide +kernel
theorem d_Model_sign_52 : decode b_Model_sign 52 = .ok (.goto (-26), 3) := by decide +kernel
theorem d_Model_sign_55 : decode b_Model_sign 55 = .ok (.iload_n 1, 1) := by decide +kernel
theorem d_Model_sign_56 : decode b_Model_sign 56 = .ok (.bipush 61, 2) := by decide +kernel
theorem d_Model_sign_58 : decode b_Model_sign 58 = .ok (.if_icmp .ne 33, 3) := by decide +kernel
theorem d_Model_sign_61 : decode b_Model_sign 61 = .ok (.aload_n 0, 1) := by decide +kernel
theorem d_Model_sign_62 : decode b_Model_sign 62 = .ok (.aload_n 0, 1) := by decide +kernel
theorem d_Model_sign_63 : decode b_Model_sign 63 = .ok (.getfield 342, 3) := by decide +kernel
theorem d_Model_sign_66 : decode b_Model_sign 66 = .ok (.invokevirtual 345, 3) := by decide +kernel
theorem d_Model_sign_69 : decode b_Model_sign 69 = .ok (.bipush 61, 2) := by decide +kernel
theorem d_Model_sign_71 : decode b_Model_sign 71 = .ok (.if_icmp .ne 20, 3) := by decide +kernel
theorem d_Model_sign_74 : decode b_Model_sign 74 = .ok (.aload_n 0, 1) := by decide +kernel
theorem d_Model_sign_75 : decode b_Model_sign 75 = .ok (.sipush 256, 3) := by decide +kernel
theorem d_Model_sign_78 : decode b_Model_sign 78 = .ok (.putfield 369, 3) := by decide +kernel
theorem d_Model_sign_81 : decode b_Model_sign 81 = .ok (.aload_n 0, 1) := by decide +kernel
theorem d_Model_sign_82 : decode b_Model_sign 82 = .ok (.dup, 1) := by decide +kernel
theorem d_Model_sign_83 : decode b_Model_sign 83 = .ok (.getfield 342, 3) := by decide +kernel
theorem d_Model_sign_86 : decode b_Model_sign 86 = .ok (.iconst 1, 1) := by decide +kernel
theorem d_Model_sign_87 : decode b_Model_sign 87 = .ok (.iadd, 1) := by decide +kernel
theorem d_Model_sign_88 : decode b_Model_sign 88 = .ok (.putfield 342, 3) := by decide +kernel
theorem d_Model_sign_91 : decode b_Model_sign 91 = .ok (.return_, 1) := by decide +kernel
set_option maxHeartbeats 1000000 in
set_option maxRecDepth 100000 in
theorem c_Model_sign (l : Launch) (dC : Nat → ClassId) (dI : Nat → Nat → Nat) (sz : Nat) (ad : Nat → Nat) (av : Nat → Nat) (h_this : Nat) (h_text : Nat) (fs_this : List Value) (k_text : ClassId) (f_text : Nat → Int32) (p1 : Int32) (a : Nat) (tz : Nat) (len_this : fs_this.length = 153) (g_this_size : fs_this[1]? = some (.int (nI tz))) (g_this_text : fs_this[0]? = some (.ref h_text)) (g_this_place : fs_this[3]? = some (.int (nI a))) (ha : a < tz) (hz : tz ≤ 4000) : Met l y_Model_sign w_Model_sign ({ frames := 4, cells := 0, slots := 0, locals := 85 } : Room) (va_Pc [.ref h_this, .int p1] (fun U => U.heap.size = sz ∧ va_P (dC, dI) cls_all [oc h_this 12 fs_this, ic h_text k_text 4000 f_text] U.heap ∧ va_K (dC, dI) cls_all [(k_text, .int)] U ∧ va_D (fun _ => True) [oc h_this 12 fs_this, ic h_text k_text 4000 f_text] ∧ env0 ad av (va_A [oc h_this 12 fs_this, ic h_text k_text 4000 f_text] sz) U U.heap)) (va_Qv (fun (_ : Unit) => True) (fun _ t => ∃ (fs_this' : List Value), (fs_this'.length = 153 ∧ (∀ j : Nat, j ≠ 4 → j ≠ 5 → j ≠ 2 → fs_this'[j]? = fs_this[j]?) ∧ fs_this'[4]? = some (.int (if p1 = 61 ∧ (if nI (a + 1) < nI tz then f_text (a + 1) else -1) = 61 then nI (a + 2) else nI (a + 1))) ∧ fs_this'[5]? = some (.int (if p1 = 61 ∧ (if nI (a + 1) < nI tz then f_text (a + 1) else -1) = 61 then 256 else p1)) ∧ fs_this'[2]? = some (.int (sgs p1 22))) ∧ va_P (dC, dI) cls_all [oc h_this 12 fs_this', ic h_text k_text 4000 f_text] t.heap ∧ va_K (dC, dI) cls_all [(k_text, .int)] t ∧ va_D (va_A [oc h_this 12 fs_this, ic h_text k_text 4000 f_text] sz) [oc h_this 12 fs_this', ic h_text k_text 4000 f_text]) (va_A [oc h_this 12 fs_this, ic h_text k_text 4000 f_text] sz)) 0 0 (va_A [oc h_this 12 fs_this, ic h_text k_text 4000 f_text] sz) := by
  refine Met.ofW (cc := b_Model_sign) (maxL := 4) (ret := none) (by decide) rfl ?_
  intro p e s m args below meth c s₁ B hml hv
  obtain ⟨rfl, hsz, hP, hK, hD0, henv⟩ := hv
  have hx := B.exec
  have hb := B.bytes
  have hr := B.returns
  have hT : ∀ w ∈ lw_good, w.before _ s = true := fun w h => atoms_spec (ws := w_Model_sign) B.pre w (List.mem_cons_of_mem _ h)
  have hown : s.vm.findClass R_Model = some m.cls := findClass_of_methodNamed B.named
  have hlocks := B.notSynchronized
  subst hsz
  have hD := hD0.self (sz := s.heap.size)
  generalize hAe : va_A [oc h_this 12 fs_this, ic h_text k_text 4000 f_text] s.heap.size = A at hD henv ⊢
  have hA : ∀ q : Nat, s.heap.size ≤ q → A q := fun q h => by rw [← hAe]; exact Or.inr h
  have hS : va_S A s.heap s.heap [] := va_S.rf
  have hP : va_P (dC, dI) cls_all [oc h_this 12 fs_this, ic h_text k_text 4000 f_text] s.heap := hP
  have hl := lv_entry ([.ref h_this, .int p1]) (n := 4) (Nat.le_of_ble_eq_true rfl)
  rw [lg_entry_eq]
  generalize (lg_sl ([.ref h_this, .int p1]) ++ List.replicate (4 - (lg_sl ([.ref h_this, .int p1])).length) Slot.unset).toArray = ls at hl ⊢
  have hl : lv_has ls 4 [(0, .ref h_this), (1, .int p1)] := hl
  refine lv_aload_n hx hb d_Model_sign_0 rfl (lv_at hl 0 rfl) ?_
  refine lv_aload_n hx hb d_Model_sign_1 rfl (lv_at hl 0 rfl) ?_
  refine va_get (D := (dC, dI)) (ci := 12) (v := .int (nI a)) (C := R_Model) (T := F_Model) (N := 153) hx hb hT i_Model hown hK hP 0 rfl rfl 3 (by decide) (hT _ fl_Model_349) (fun _ h9 => h9) g_this_place d_Model_sign_2 ?_
  refine lv_iconst (v := 1) hx hb d_Model_sign_5 (by decide) ?_
  refine lv_iadd hx hb d_Model_sign_6 ?_
  refine lv_topi (fun x1 e1 => ?_)
  obtain rfl : x1 = nI (a + 1) := e1.trans (nI_add a 1)
  refine va_put (D := (dC, dI)) (ci := 12) (v := .int (nI (a + 1))) (ty := .int) (C := R_Model) (T := F_Model) (N := 153) hx hb hT i_Model t_Model t_Model_ok n_Model hown hK hP hD hS 0 rfl rfl 4 (by decide) (hT _ fl_Model_342) (fun _ h9 => h9) rfl (by decide +kernel) rfl rfl (by simp only [List.length_set, len_this]; decide) d_Model_sign_7 (fun H locs hP hD hS => ?_)
  have hP : va_P (dC, dI) cls_all [oc h_this 12 (fs_this.set 4 (.int (nI (a + 1)))), ic h_text k_text 4000 f_text] H := hP
  have hD : va_D A [oc h_this 12 (fs_this.set 4 (.int (nI (a + 1)))), ic h_text k_text 4000 f_text] := hD
  refine lv_aload_n hx hb d_Model_sign_10 rfl (lv_at hl 0 rfl) ?_
  refine lv_iload_n hx hb d_Model_sign_11 rfl (lv_at hl 1 rfl) ?_
  refine va_put (D := (dC, dI)) (ci := 12) (v := .int p1) (ty := .int) (C := R_Model) (T := F_Model) (N := 153) hx hb hT i_Model t_Model t_Model_ok n_Model hown hK hP hD hS 0 rfl rfl 5 (by decide) (hT _ fl_Model_369) (fun _ h9 => h9) rfl (by decide +kernel) rfl rfl (by simp only [List.length_set, len_this]; decide) d_Model_sign_12 (fun H locs hP hD hS => ?_)
  have hP : va_P (dC, dI) cls_all [oc h_this 12 ((fs_this.set 4 (.int (nI (a + 1)))).set 5 (.int p1)), ic h_text k_text 4000 f_text] H := hP
  have hD : va_D A [oc h_this 12 ((fs_this.set 4 (.int (nI (a + 1)))).set 5 (.int p1)), ic h_text k_text 4000 f_text] := hD
  refine lv_aload_n hx hb d_Model_sign_15 rfl (lv_at hl 0 rfl) ?_
  refine lv_iconst (v := 0) hx hb d_Model_sign_16 (by decide) ?_
  refine va_put (D := (dC, dI)) (ci := 12) (v := .int 0) (ty := .int) (C := R_Model) (T := F_Model) (N := 153) hx hb hT i_Model t_Model t_Model_ok n_Model hown hK hP hD hS 0 rfl rfl 2 (by decide) (hT _ fl_Model_352) (fun _ h9 => h9) rfl (by decide +kernel) rfl rfl (by simp only [List.length_set, len_this]; decide) d_Model_sign_17 (fun H locs hP hD hS => ?_)
  have hP : va_P (dC, dI) cls_all [oc h_this 12 (((fs_this.set 4 (.int (nI (a + 1)))).set 5 (.int p1)).set 2 (.int 0)), ic h_text k_text 4000 f_text] H := hP
  have hD : va_D A [oc h_this 12 (((fs_this.set 4 (.int (nI (a + 1)))).set 5 (.int p1)).set 2 (.int 0)), ic h_text k_text 4000 f_text] := hD
  refine va_ldcwS (own := R_Model) (index := 376) (q := ad 5) hx hb hown (henv.2.2 5 (by decide)).2 d_Model_sign_20 ?_
  refine lv_astore_n (lv' := [(2, .ref (ad 5)), (0, .ref h_this), (1, .int p1)]) hx hb d_Model_sign_23 rfl hl (by decide) rfl (fun ls hl => ?_)
  refine lv_iconst (v := 0) hx hb d_Model_sign_24 (by decide) ?_
  refine lv_istore_n (lv' := [(3, .int 0), (2, .ref (ad 5)), (0, .ref h_this), (1, .int p1)]) hx hb d_Model_sign_25 rfl hl (by decide) rfl (fun ls hl => ?_)
  have loop : ∀ (nn : Nat) (k : Nat), k ≤ 22 → 22 - k < nn → ∀ (fsL0 : List Value), fsL0.length = 153 → (∀ j : Nat, j ≠ 4 → j ≠ 5 → j ≠ 2 → fsL0[j]? = fs_this[j]?) → fsL0[4]? = some (.int (nI (a + 1))) → fsL0[5]? = some (.int p1) → fsL0[2]? = some (.int (sgs p1 k)) → ∀ (H : Heap) (locs : List Loc), va_P (dC, dI) cls_all [oc h_this 12 fsL0, ic h_text k_text 4000 f_text] H → va_D A [oc h_this 12 fsL0, ic h_text k_text 4000 f_text] → va_S A s.heap H locs → ∀ (ls : Array Slot), lv_has ls 4 [(3, .int (nI (k))), (2, .ref (ad 5)), (0, .ref h_this), (1, .int p1)] → W p l e (headSpec w_Model_sign ({ frames := 4, cells := 0, slots := 0, locals := 85 } : Room)).room s m ([.ref h_this, .int p1] : List Value).toArray below meth c H locs 0 0 (MQ below (va_Qv (fun (_ : Unit) => True) (fun _ t => ∃ (fs_this' : List Value), (fs_this'.length = 153 ∧ (∀ j : Nat, j ≠ 4 → j ≠ 5 → j ≠ 2 → fs_this'[j]? = fs_this[j]?) ∧ fs_this'[4]? = some (.int (if p1 = 61 ∧ (if nI (a + 1) < nI tz then f_text (a + 1) else -1) = 61 then nI (a + 2) else nI (a + 1))) ∧ fs_this'[5]? = some (.int (if p1 = 61 ∧ (if nI (a + 1) < nI tz then f_text (a + 1) else -1) = 61 then 256 else p1)) ∧ fs_this'[2]? = some (.int (sgs p1 22))) ∧ va_P (dC, dI) cls_all [oc h_this 12 fs_this', ic h_text k_text 4000 f_text] t.heap ∧ va_K (dC, dI) cls_all [(k_text, .int)] t ∧ va_D A [oc h_this 12 fs_this', ic h_text k_text 4000 f_text]) A) ([.ref h_this, .int p1] : List Value).toArray s 0 0 A) (F0 m 26 ls []) := by
    clear hP hD hS
    clear hl
    intro nn
    induction nn with
    | zero => intro k hk hn fsL0 hLl hLf hL4 hL5 hL2 H locs hP hD hS ls hl; exfalso; omega
    | succ nn ih =>
      intro k hk hn fsL0 hLl hLf hL4 hL5 hL2 H locs hP hD hS ls hl
      refine lv_iload_n hx hb d_Model_sign_26 rfl (lv_at hl 0 rfl) ?_
      refine lv_aload_n hx hb d_Model_sign_27 rfl (lv_at hl 1 rfl) ?_
      have hPc := hP.sub (ws' := []) [] rfl
      have hKc := hK.sub (tys' := []) [] rfl
      refine vp_callSi (va_Run.run (va_runV (As := []) (rest := [.int (nI (k))]) ⟨hx, hb, hml, hown, hT⟩ (c_Str_length_l l dC dI (ad := ad) (av := av) (i := 5) (hi := (by decide))) (cwV 0 hT (gV ml_Model_330 im_Str_length se_Str_length ini_Str co_Str_length) rfl rfl rfl (by decide +kernel) ⟨Nat.le_of_ble_eq_true rfl, Nat.le_of_ble_eq_true rfl⟩) ⟨fbSe, (env_recv henv (by decide) hS), fun U hU hW => ⟨rfl, by rw [hU]; exact hPc, va_K.moved hW.alike hKc, env0.hand henv hS hU hW (fun q h => h.elim)⟩⟩ rfl rfl hl.1 rfl (lv_room (Nat.le_of_ble_eq_true rfl)) d_Model_sign_28 ⟨Nat.le_of_ble_eq_true rfl, Nat.le_of_ble_eq_true rfl⟩)) (fun r2 hr2 => ?_)
      obtain rfl : r2 = nI 22 := hr2.trans rfl
      refine lv_icmp_ge (tgt := 55) hx hb d_Model_sign_31 (by decide) (fun c3 => ?_) (fun c3 => ?_)
      · have b3 : (22) ≤ ((k)) := (ni_le (by omega) (by omega)).1 c3
        refine lv_iload_n hx hb d_Model_sign_55 rfl (lv_at hl 3 rfl) ?_
        refine lv_bipush (v := 61) hx hb d_Model_sign_56 (by decide) ?_
        refine lv_icmp_ne (tgt := 91) hx hb d_Model_sign_58 (by decide) (fun c4 => ?_) (fun c4 => ?_)
        · have hP9 := hP.sub (ws' := [oc h_this 12 fsL0, ic h_text k_text 4000 f_text]) [0, 1] rfl
          have hD9 := hD.sub (ws' := [oc h_this 12 fsL0, ic h_text k_text 4000 f_text]) [0, 1] (by decide) rfl
          have hK9 := hK.sub (tys' := [(k_text, .int)]) [0] rfl
          have hv5 : fsL0[4]? = some (.int (nI (a + 1))) := hL4
          have hv6 : fsL0[5]? = some (.int p1) := hL5
          have hv7 : fsL0[2]? = some (.int (sgs p1 k)) := hL2
          exact W.vret hx hb hr (fun t ht hW => ⟨⟨(), rfl, trivial, fsL0, ⟨(by first | exact hLl | (simp only [List.length_set]; exact hLl)), (fun j n4 n5 n2 => (hLf j n4 n5 n2)), (by first | exact hv5 | (rw [hv5]; refine congrArg some (congrArg _ ?_); first | (exact congrArg (sgs p1) (by omega)) | exact (if_neg (fun q => c4 q.1)).symm)), (by first | exact hv6 | (rw [hv6]; refine congrArg some (congrArg _ ?_); first | (exact congrArg (sgs p1) (by omega)) | exact (if_neg (fun q => c4 q.1)).symm)), (by first | exact hv7 | (rw [hv7]; refine congrArg some (congrArg _ ?_); first | (exact congrArg (sgs p1) (by omega)) | exact (if_neg (fun q => c4 q.1)).symm))⟩, by rw [ht]; exact hP9, va_K.moved hW.alike hK9, hD9⟩, hS.F ht⟩) hS.2.2 d_Model_sign_91
        · refine lv_aload_n hx hb d_Model_sign_61 rfl (lv_at hl 2 rfl) ?_
          refine lv_aload_n hx hb d_Model_sign_62 rfl (lv_at hl 2 rfl) ?_
          refine va_get (D := (dC, dI)) (ci := 12) (v := .int (nI (a + 1))) (C := R_Model) (T := F_Model) (N := 153) hx hb hT i_Model hown hK hP 0 rfl rfl 4 (by decide) (hT _ fl_Model_342) (fun _ h9 => h9) hL4 d_Model_sign_63 ?_
          have hPc := hP.sub (ws' := [oc h_this 12 fsL0, ic h_text k_text 4000 f_text]) [0, 1] rfl
          have hKc := hK.sub (tys' := [(k_text, .int)]) [0] rfl
          refine vp_callSi (va_Run.run (va_runV (As := [.int (nI (a + 1))]) (rest := []) ⟨hx, hb, hml, hown, hT⟩ (c_Model_see l dC dI (h_this := h_this) (h_text := h_text) (fs_this := fsL0) (v_this_size := (nI tz)) (k_text := k_text) (f_text := f_text) (p1 := (nI (a + 1))) (len_this := (by first | exact hLl | (simp only [List.length_set]; exact hLl))) (g_this_size := ((hLf 1 (by decide) (by decide) (by decide)).trans g_this_size)) (g_this_text := ((hLf 0 (by decide) (by decide) (by decide)).trans g_this_text)) (h0 := (nI_pos' (by omega))) (hs := (nI_le (b := 4000) (by omega) (by decide)))) (cwV 1 hT (gV ml_Model_345 im_Model_see_I se_Model_see_I ini_Model co_Model_see_I) rfl rfl rfl (by decide +kernel) ⟨Nat.le_of_ble_eq_true rfl, Nat.le_of_ble_eq_true rfl⟩) ⟨fbS, va_recv hKc hPc (ci := 12) (q0 := 0) rfl rfl, fun U hU hW => ⟨rfl, by rw [hU]; exact hPc, va_K.moved hW.alike hKc⟩⟩ rfl rfl hl.1 rfl (lv_room (Nat.le_of_ble_eq_true rfl)) d_Model_sign_66 ⟨Nat.le_of_ble_eq_true rfl, Nat.le_of_ble_eq_true rfl⟩)) (fun r8 hr8 => ?_)
          have hC9 : r8 = (if nI (a + 1) < nI tz then f_text (a + 1) else -1) := hr8.trans (by rw [nI_clamp (by omega)])
          refine lv_bipush (v := 61) hx hb d_Model_sign_69 (by decide) ?_
          refine lv_icmp_ne (tgt := 91) hx hb d_Model_sign_71 (by decide) (fun c10 => ?_) (fun c10 => ?_)
          · have hP9 := hP.sub (ws' := [oc h_this 12 fsL0, ic h_text k_text 4000 f_text]) [0, 1] rfl
            have hD9 := hD.sub (ws' := [oc h_this 12 fsL0, ic h_text k_text 4000 f_text]) [0, 1] (by decide) rfl
            have hK9 := hK.sub (tys' := [(k_text, .int)]) [0] rfl
            have hv11 : fsL0[4]? = some (.int (nI (a + 1))) := hL4
            have hv12 : fsL0[5]? = some (.int p1) := hL5
            have hv13 : fsL0[2]? = some (.int (sgs p1 k)) := hL2
            exact W.vret hx hb hr (fun t ht hW => ⟨⟨(), rfl, trivial, fsL0, ⟨(by first | exact hLl | (simp only [List.length_set]; exact hLl)), (fun j n4 n5 n2 => (hLf j n4 n5 n2)), (by first | exact hv11 | (rw [hv11]; refine congrArg some (congrArg _ ?_); first | (exact congrArg (sgs p1) (by omega)) | exact (if_neg (fun q => c10 (hC9.trans q.2))).symm)), (by first | exact hv12 | (rw [hv12]; refine congrArg some (congrArg _ ?_); first | (exact congrArg (sgs p1) (by omega)) | exact (if_neg (fun q => c10 (hC9.trans q.2))).symm)), (by first | exact hv13 | (rw [hv13]; refine congrArg some (congrArg _ ?_); first | (exact congrArg (sgs p1) (by omega)) | exact (if_neg (fun q => c10 (hC9.trans q.2))).symm))⟩, by rw [ht]; exact hP9, va_K.moved hW.alike hK9, hD9⟩, hS.F ht⟩) hS.2.2 d_Model_sign_91
          · refine lv_aload_n hx hb d_Model_sign_74 rfl (lv_at hl 2 rfl) ?_
            refine lv_sipush (v := 256) hx hb d_Model_sign_75 (by decide) ?_
            refine va_put (D := (dC, dI)) (ci := 12) (v := .int 256) (ty := .int) (C := R_Model) (T := F_Model) (N := 153) hx hb hT i_Model t_Model t_Model_ok n_Model hown hK hP hD hS 0 rfl rfl 5 (by decide) (hT _ fl_Model_369) (fun _ h9 => h9) rfl (by decide +kernel) rfl rfl (by simp only [List.length_set, hLl]; decide) d_Model_sign_78 (fun H locs hP hD hS => ?_)
            have hP : va_P (dC, dI) cls_all [oc h_this 12 (fsL0.set 5 (.int 256)), ic h_text k_text 4000 f_text] H := hP
            have hD : va_D A [oc h_this 12 (fsL0.set 5 (.int 256)), ic h_text k_text 4000 f_text] := hD
            refine lv_aload_n hx hb d_Model_sign_81 rfl (lv_at hl 2 rfl) ?_
            refine lv_dup hx hb d_Model_sign_82 rfl ?_
            refine va_get (D := (dC, dI)) (ci := 12) (v := .int (nI (a + 1))) (C := R_Model) (T := F_Model) (N := 153) hx hb hT i_Model hown hK hP 0 rfl rfl 4 (by decide) (hT _ fl_Model_342) (fun _ h9 => h9) ((ls_ne (by decide)).trans hL4) d_Model_sign_83 ?_
            refine lv_iconst (v := 1) hx hb d_Model_sign_86 (by decide) ?_
            refine lv_iadd hx hb d_Model_sign_87 ?_
            refine lv_topi (fun x14 e14 => ?_)
            obtain rfl : x14 = nI ((a + 1) + 1) := e14.trans (nI_add (a + 1) 1)
            refine va_put (D := (dC, dI)) (ci := 12) (v := .int (nI ((a + 1) + 1))) (ty := .int) (C := R_Model) (T := F_Model) (N := 153) hx hb hT i_Model t_Model t_Model_ok n_Model hown hK hP hD hS 0 rfl rfl 4 (by decide) (hT _ fl_Model_342) (fun _ h9 => h9) rfl (by decide +kernel) rfl rfl (by simp only [List.length_set, hLl]; decide) d_Model_sign_88 (fun H locs hP hD hS => ?_)
            have hP : va_P (dC, dI) cls_all [oc h_this 12 ((fsL0.set 5 (.int 256)).set 4 (.int (nI ((a + 1) + 1)))), ic h_text k_text 4000 f_text] H := hP
            have hD : va_D A [oc h_this 12 ((fsL0.set 5 (.int 256)).set 4 (.int (nI ((a + 1) + 1)))), ic h_text k_text 4000 f_text] := hD
            have hP9 := hP.sub (ws' := [oc h_this 12 ((fsL0.set 5 (.int 256)).set 4 (.int (nI ((a + 1) + 1)))), ic h_text k_text 4000 f_text]) [0, 1] rfl
            have hD9 := hD.sub (ws' := [oc h_this 12 ((fsL0.set 5 (.int 256)).set 4 (.int (nI ((a + 1) + 1)))), ic h_text k_text 4000 f_text]) [0, 1] (by decide) rfl
            have hK9 := hK.sub (tys' := [(k_text, .int)]) [0] rfl
            have hv15 : ((fsL0.set 5 (.int 256)).set 4 (.int (nI ((a + 1) + 1))))[4]? = some (.int (nI ((a + 1) + 1))) := (ls_eq (by simp only [List.length_set, hLl]; decide))
            have hv16 : ((fsL0.set 5 (.int 256)).set 4 (.int (nI ((a + 1) + 1))))[5]? = some (.int 256) := ((ls_ne (by decide)).trans (ls_eq (by simp only [List.length_set, hLl]; decide)))
            have hv17 : ((fsL0.set 5 (.int 256)).set 4 (.int (nI ((a + 1) + 1))))[2]? = some (.int (sgs p1 k)) := ((ls_ne (by decide)).trans ((ls_ne (by decide)).trans hL2))
            exact W.vret hx hb hr (fun t ht hW => ⟨⟨(), rfl, trivial, ((fsL0.set 5 (.int 256)).set 4 (.int (nI ((a + 1) + 1)))), ⟨(by first | exact hLl | (simp only [List.length_set]; exact hLl)), (fun j n4 n5 n2 => ((ls_ne n4).trans ((ls_ne n5).trans (hLf j n4 n5 n2)))), (by first | exact hv15 | (rw [hv15]; refine congrArg some (congrArg _ ?_); first | (exact congrArg (sgs p1) (by omega)) | exact (if_pos ⟨c4, hC9 ▸ c10⟩).symm)), (by first | exact hv16 | (rw [hv16]; refine congrArg some (congrArg _ ?_); first | (exact congrArg (sgs p1) (by omega)) | exact (if_pos ⟨c4, hC9 ▸ c10⟩).symm)), (by first | exact hv17 | (rw [hv17]; refine congrArg some (congrArg _ ?_); first | (exact congrArg (sgs p1) (by omega)) | exact (if_pos ⟨c4, hC9 ▸ c10⟩).symm))⟩, by rw [ht]; exact hP9, va_K.moved hW.alike hK9, hD9⟩, hS.F ht⟩) hS.2.2 d_Model_sign_91
      · have b3 : ((k)) < (22) := (ni_le (by omega) (by omega)).2 c3
        refine lv_aload_n hx hb d_Model_sign_34 rfl (lv_at hl 1 rfl) ?_
        refine lv_iload_n hx hb d_Model_sign_35 rfl (lv_at hl 0 rfl) ?_
        have hPc := hP.sub (ws' := []) [] rfl
        have hKc := hK.sub (tys' := []) [] rfl
        refine vp_callSi (va_Run.run (va_runV (As := [.int (nI (k))]) (rest := []) ⟨hx, hb, hml, hown, hT⟩ (c_Str_charAt_l l dC dI (ad := ad) (av := av) (p1 := (nI (k))) (i := 5) (hi := (by decide)) (h1 := (nI_pos (by omega))) (h2 := (show nI k < nI 22 from nI_lt (by omega) (by decide)))) (cwV 1 hT (gV ml_Model_336 im_Str_charAt se_Str_charAt ini_Str co_Str_charAt) rfl rfl rfl (by decide +kernel) ⟨Nat.le_of_ble_eq_true rfl, Nat.le_of_ble_eq_true rfl⟩) ⟨fbSe, (env_recv henv (by decide) hS), fun U hU hW => ⟨rfl, by rw [hU]; exact hPc, va_K.moved hW.alike hKc, env0.hand henv hS hU hW (fun q h => h.elim)⟩⟩ rfl rfl hl.1 rfl (lv_room (Nat.le_of_ble_eq_true rfl)) d_Model_sign_36 ⟨Nat.le_of_ble_eq_true rfl, Nat.le_of_ble_eq_true rfl⟩)) (fun r18 hr18 => ?_)
        obtain rfl : r18 = s_ch 5 k := hr18.trans (by rw [nI_clamp (by omega)])
        refine lv_iload_n hx hb d_Model_sign_39 rfl (lv_at hl 3 rfl) ?_
        refine lv_icmp_ne (tgt := 49) hx hb d_Model_sign_40 (by decide) (fun c19 => ?_) (fun c19 => ?_)
        · refine lv_iinc (v := (nI (k + 1))) (lv' := [(3, .int (nI (k + 1))), (2, .ref (ad 5)), (0, .ref h_this), (1, .int p1)]) hx hb d_Model_sign_49 hl (k := 0) rfl (nI_add (k) 1) (by decide) rfl (fun ls hl => ?_)
          refine lv_goto (tgt := 26) hx hb d_Model_sign_52 (by decide) ?_
          have hw : sgs p1 (k + 1) = (sgs p1 k) := if_neg c19
          exact ih (k + 1) (by omega) (by omega) fsL0 (by first | exact hLl | (simp only [List.length_set]; exact hLl)) (fun j n4 n5 n2 => (hLf j n4 n5 n2)) hL4 hL5 (by rw [hw]; exact hL2) _ _ hP hD hS ls (lv_sub hl [0, 1, 2, 3] rfl)
        · refine lv_aload_n hx hb d_Model_sign_43 rfl (lv_at hl 2 rfl) ?_
          refine lv_bipush (v := 6) hx hb d_Model_sign_44 (by decide) ?_
          refine va_put (D := (dC, dI)) (ci := 12) (v := .int 6) (ty := .int) (C := R_Model) (T := F_Model) (N := 153) hx hb hT i_Model t_Model t_Model_ok n_Model hown hK hP hD hS 0 rfl rfl 2 (by decide) (hT _ fl_Model_352) (fun _ h9 => h9) rfl (by decide +kernel) rfl rfl (by simp only [List.length_set, hLl]; decide) d_Model_sign_46 (fun H locs hP hD hS => ?_)
          have hP : va_P (dC, dI) cls_all [oc h_this 12 (fsL0.set 2 (.int 6)), ic h_text k_text 4000 f_text] H := hP
          have hD : va_D A [oc h_this 12 (fsL0.set 2 (.int 6)), ic h_text k_text 4000 f_text] := hD
          refine lv_iinc (v := (nI (k + 1))) (lv' := [(3, .int (nI (k + 1))), (2, .ref (ad 5)), (0, .ref h_this), (1, .int p1)]) hx hb d_Model_sign_49 hl (k := 0) rfl (nI_add (k) 1) (by decide) rfl (fun ls hl => ?_)
          refine lv_goto (tgt := 26) hx hb d_Model_sign_52 (by decide) ?_
          have hw : sgs p1 (k + 1) = 6 := if_pos c19
          exact ih (k + 1) (by omega) (by omega) (fsL0.set 2 (.int 6)) (by first | exact hLl | (simp only [List.length_set]; exact hLl)) (fun j n4 n5 n2 => ((ls_ne n2).trans (hLf j n4 n5 n2))) ((ls_ne (by decide)).trans hL4) ((ls_ne (by decide)).trans hL5) (by rw [hw]; exact (ls_eq (by simp only [List.length_set, hLl]; decide))) _ _ hP hD hS ls (lv_sub hl [0, 1, 2, 3] rfl)
  exact loop 23 0 (by omega) (by omega) (((fs_this.set 4 (.int (nI (a + 1)))).set 5 (.int p1)).set 2 (.int 0)) (by first | exact len_this | (simp only [List.length_set]; exact len_this)) (fun j n4 n5 n2 => ((ls_ne n2).trans ((ls_ne n5).trans ((ls_ne n4).trans rfl)))) ((ls_ne (by decide)).trans ((ls_ne (by decide)).trans (ls_eq (by simp only [List.length_set, len_this]; decide)))) ((ls_ne (by decide)).trans (ls_eq (by simp only [List.length_set, len_this]; decide))) (ls_eq (by simp only [List.length_set, len_this]; decide)) _ _ hP hD hS ls (lv_sub hl [0, 1, 2, 3] rfl)
