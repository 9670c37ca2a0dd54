abbrev b_Source_isDigit : ByteArray := prog_10_method_10_code
abbrev y_Source_isDigit : MethodName := ⟨R_Source, "isDigit", "(C)Z"⟩
theorem co_Source_isDigit : Cond.code y_Source_isDigit b_Source_isDigit 1 (some .boolean) ∈ lw_good := lg_in (tin_4 _ (List.mem_of_getElem? (i := 53) rfl)) rfl
abbrev w_Source_isDigit : List Cond := Cond.code y_Source_isDigit b_Source_isDigit 1 (some .boolean) :: lw_good
theorem st_Source_isDigit : Cond.static y_Source_isDigit ∈ lw_good := lg_right (i := 772) (by decide +kernel) rfl
theorem d_Source_isDigit_0 : decode b_Source_isDigit 0 = .ok (.iload_n 0, 1) := by decide +kernel
theorem d_Source_isDigit_1 : decode b_Source_isDigit 1 = .ok (.bipush 48, 2) := by decide +kernel
theorem d_Source_isDigit_3 : decode b_Source_isDigit 3 = .ok (.if_icmp .lt 13, 3) := by decide +kernel
theorem d_Source_isDigit_6 : decode b_Source_isDigit 6 = .ok (.iload_n 0, 1) := by decide +kernel
theorem d_Source_isDigit_7 : decode b_Source_isDigit 7 = .ok (.bipush 57, 2) := by decide +kernel
theorem d_Source_isDigit_9 : decode b_Source_isDigit 9 = .ok (.if_icmp .gt 7, 3) := by decide +kernel
theorem d_Source_isDigit_12 : decode b_Source_isDigit 12 = .ok (.iconst 1, 1) := by decide +kernel
theorem d_Source_isDigit_13 : decode b_Source_isDigit 13 = .ok (.goto 4, 3) := by decide +kernel
theorem d_Source_isDigit_16 : decode b_Source_isDigit 16 = .ok (.iconst 0, 1) := by decide +kernel
theorem d_Source_isDigit_17 : decode b_Source_isDigit 17 = .ok (.ireturn, 1) := by decide +kernel
abbrev b_Source_isSmall : ByteArray := prog_10_method_11_code
abbrev y_Source_isSmall : MethodName := ⟨R_Source, "isSmall", "(C)Z"⟩
theorem co_Source_isSmall : Cond.code y_Source_isSmall b_Source_isSmall 1 (some .boolean) ∈ lw_good := lg_in (tin_4 _ (List.mem_of_getElem? (i := 56) rfl)) rfl
abbrev w_Source_isSmall : List Cond := Cond.code y_Source_isSmall b_Source_isSmall 1 (some .boolean) :: lw_good
theorem st_Source_isSmall : Cond.static y_Source_isSmall ∈ lw_good := lg_right (i := 775) (by decide +kernel) rfl
theorem d_Source_isSmall_0 : decode b_Source_isSmall 0 = .ok (.iload_n 0, 1) := by decide +kernel
theorem d_Source_isSmall_1 : decode b_Source_isSmall 1 = .ok (.bipush 97, 2) := by decide +kernel
theorem d_Source_isSmall_3 : decode b_Source_isSmall 3 = .ok (.if_icmp .lt 13, 3) := by decide +kernel
theorem d_Source_isSmall_6 : decode b_Source_isSmall 6 = .ok (.iload_n 0, 1) := by decide +kernel
theorem d_Source_isSmall_7 : decode b_Source_isSmall 7 = .ok (.bipush 122, 2) := by decide +kernel
theorem d_Source_isSmall_9 : decode b_Source_isSmall 9 = .ok (.if_icmp .gt 7, 3) := by decide +kernel
theorem d_Source_isSmall_12 : decode b_Source_isSmall 12 = .ok (.iconst 1, 1) := by decide +kernel
theorem d_Source_isSmall_13 : decode b_Source_isSmall 13 = .ok (.goto 4, 3) := by decide +kernel
theorem d_Source_isSmall_16 : decode b_Source_isSmall 16 = .ok (.iconst 0, 1) := by decide +kernel
theorem d_Source_isSmall_17 : decode b_Source_isSmall 17 = .ok (.ireturn, 1) := by decide +kernel
abbrev b_Source_isLetterOrDigit : ByteArray := prog_10_method_12_code
abbrev y_Source_isLetterOrDigit : MethodName := ⟨R_Source, "isLetterOrDigit", "(C)Z"⟩
theorem co_Source_isLetterOrDigit : Cond.code y_Source_isLetterOrDigit b_Source_isLetterOrDigit 1 (some .boolean) ∈ lw_good := lg_in (tin_4 _ (List.mem_of_getElem? (i := 50) rfl)) rfl
abbrev w_Source_isLetterOrDigit : List Cond := Cond.code y_Source_isLetterOrDigit b_Source_isLetterOrDigit 1 (some .boolean) :: lw_good
theorem st_Source_isLetterOrDigit : Cond.static y_Source_isLetterOrDigit ∈ lw_good := lg_right (i := 769) (by decide +kernel) rfl
theorem d_Source_isLetterOrDigit_0 : decode b_Source_isLetterOrDigit 0 = .ok (.iload_n 0, 1) := by decide +kernel
theorem d_Source_isLetterOrDigit_1 : decode b_Source_isLetterOrDigit 1 = .ok (.invokestatic 121, 3) := by decide +kernel
theorem ml_Source_121 : Cond.methodLink R_Source 121 ⟨"PointerHouse$Source", "isDigit", "(C)Z"⟩ ∈ lw_good := lg_right (i := 771) (by decide +kernel) rfl
theorem d_Source_isLetterOrDigit_4 : decode b_Source_isLetterOrDigit 4 = .ok (.ifCond .ne 22, 3) := by decide +kernel
theorem d_Source_isLetterOrDigit_7 : decode b_Source_isLetterOrDigit 7 = .ok (.iload_n 0, 1) := by decide +kernel
theorem d_Source_isLetterOrDigit_8 : decode b_Source_isLetterOrDigit 8 = .ok (.invokestatic 136, 3) := by decide +kernel
theorem ml_Source_136 : Cond.methodLink R_Source 136 ⟨"PointerHouse$Source", "isSmall", "(C)Z"⟩ ∈ lw_good := lg_right (i := 774) (by decide +kernel) rfl
theorem d_Source_isLetterOrDigit_11 : decode b_Source_isLetterOrDigit 11 = .ok (.ifCond .ne 15, 3) := by decide +kernel
theorem d_Source_isLetterOrDigit_14 : decode b_Source_isLetterOrDigit 14 = .ok (.iload_n 0, 1) := by decide +kernel
theorem d_Source_isLetterOrDigit_15 : decode b_Source_isLetterOrDigit 15 = .ok (.bipush 65, 2) := by decide +kernel
theorem d_Source_isLetterOrDigit_17 : decode b_Source_isLetterOrDigit 17 = .ok (.if_icmp .lt 13, 3) := by decide +kernel
theorem d_Source_isLetterOrDigit_20 : decode b_Source_isLetterOrDigit 20 = .ok (.iload_n 0, 1) := by decide +kernel
theorem d_Source_isLetterOrDigit_21 : decode b_Source_isLetterOrDigit 21 = .ok (.bipush 90, 2) := by decide +kernel
theorem d_Source_isLetterOrDigit_23 : decode b_Source_isLetterOrDigit 23 = .ok (.if_icmp .gt 7, 3) := by decide +kernel
theorem d_Source_isLetterOrDigit_26 : decode b_Source_isLetterOrDigit 26 = .ok (.iconst 1, 1) := by decide +kernel
theorem d_Source_isLetterOrDigit_27 : decode b_Source_isLetterOrDigit 27 = .ok (.goto 4, 3) := by decide +kernel
theorem d_Source_isLetterOrDigit_30 : decode b_Source_isLetterOrDigit 30 = .ok (.iconst 0, 1) := by decide +kernel
theorem d_Source_isLetterOrDigit_31 : decode b_Source_isLetterOrDigit 31 = .ok (.ireturn, 1) := by decide +kernel
theorem i_nat {p : Int32} {n : Nat} (h0 : 0 ≤ p) (h1 : p.toInt < n) : ∃ a : Nat, a < n ∧ p = nI a := by
  obtain ⟨a, ha, e⟩ := nI_of (x := p) (by simp only [i_lt, i_le, Int32.reduceToInt] at *; omega)
  refine ⟨a, ?_, e⟩
  rw [e, nI_toInt ha] at h1
  omega
theorem part_in {p q r : Int32} (hr : r = if 0 ≤ p ∧ p < 24 ∧ 0 ≤ q ∧ q < 8 then 1 else 0) (c : ¬ r = 0) : vp_in (p * 8 + q) 192 := by
  by_cases h : 0 ≤ p ∧ p < 24 ∧ 0 ≤ q ∧ q < 8
  · obtain ⟨h1, h2, h3, h4⟩ := h
    obtain ⟨a, ha, rfl⟩ := i_nat (n := 24) h1 (by simp only [i_lt, Int32.reduceToInt] at h2; omega)
    obtain ⟨b, hb, rfl⟩ := i_nat (n := 8) h3 (by simp only [i_lt, Int32.reduceToInt] at h4; omega)
    have e : nI a * 8 + nI b = nI (a * 8 + b) := by
      rw [show (8 : Int32) = nI 8 from rfl, pk_mul, nI_add]
    rw [e]
    exact vp_in_nI (by omega) (by decide)
  · rw [if_neg h] at hr
    exact absurd hr c

set_option maxHeartbeats 1000000 in
set_option maxRecDepth 100000 in
theorem c_Items_isPart (l : Launch) (dC : Nat → ClassId) (dI : Nat → Nat → Nat)  (h_this : Nat) (fs_this : List Value) (p1 : Int32) (p2 : Int32) (len_this : fs_this.length = 21) : Met l y_Items_isPart w_Items_isPart ({ frames := 0, cells := 0, slots := 0, locals := 0 } : Room) (va_Pc [.ref h_this, .int p1, .int p2] (fun U => va_P (dC, dI) cls_all [oc h_this 3 fs_this] U.heap ∧ va_K (dC, dI) cls_all [] U)) (vp_Si (fun r : Int32 => (r = if 0 ≤ p1 ∧ p1 < 24 ∧ 0 ≤ p2 ∧ p2 < 8 then 1 else 0))) 0 0 (fun _ => False) := by
  refine Met.ofW (cc := b_Items_isPart) (maxL := 3) (ret := (some .boolean)) (by decide) rfl ?_
  intro p e s m args below meth c s₁ B hml hv
  obtain ⟨rfl, hP, hK⟩ := hv
  have hx := B.exec
  have hb := B.bytes
  have hr := B.returns
  have hT : ∀ w ∈ lw_good, w.before _ s = true := fun w h => atoms_spec (ws := w_Items_isPart) B.pre w (List.mem_cons_of_mem _ h)
  have hown : s.vm.findClass R_Items = some m.cls := findClass_of_methodNamed B.named
  have hlocks := B.notSynchronized
  have hl := lv_entry ([.ref h_this, .int p1, .int p2]) (n := 3) (Nat.le_of_ble_eq_true rfl)
  rw [lg_entry_eq]
  generalize (lg_sl ([.ref h_this, .int p1, .int p2]) ++ List.replicate (3 - (lg_sl ([.ref h_this, .int p1, .int p2])).length) Slot.unset).toArray = ls at hl ⊢
  have hl : lv_has ls 3 [(0, .ref h_this), (1, .int p1), (2, .int p2)] := hl
  refine lv_iload_n hx hb d_Items_isPart_0 rfl (lv_at hl 1 rfl) ?_
  refine lv_if_lt (tgt := 24) hx hb d_Items_isPart_1 (by decide) (fun c1 => ?_) (fun c1 => ?_)
  · refine lv_iconst (v := 0) hx hb d_Items_isPart_24 (by decide) ?_
    refine W.zret (v := 0) hx hb hr (by first | rfl | decide | assumption) (fun t ht hW => ⟨0, rfl, ?_, ht⟩) (fun q h => by cases h) d_Items_isPart_25
    (repeat' split) <;> first | rfl | (simp_all; done) | (exfalso; simp only [i_lt, i_le, i_eq, Int32.reduceToInt] at *; omega)
  · refine lv_iload_n hx hb d_Items_isPart_4 rfl (lv_at hl 1 rfl) ?_
    refine lv_bipush (v := 24) hx hb d_Items_isPart_5 (by decide) ?_
    refine lv_icmp_ge (tgt := 24) hx hb d_Items_isPart_7 (by decide) (fun c2 => ?_) (fun c2 => ?_)
    · refine lv_iconst (v := 0) hx hb d_Items_isPart_24 (by decide) ?_
      refine W.zret (v := 0) hx hb hr (by first | rfl | decide | assumption) (fun t ht hW => ⟨0, rfl, ?_, ht⟩) (fun q h => by cases h) d_Items_isPart_25
      (repeat' split) <;> first | rfl | (simp_all; done) | (exfalso; simp only [i_lt, i_le, i_eq, Int32.reduceToInt] at *; omega)
    · refine lv_iload_n hx hb d_Items_isPart_10 rfl (lv_at hl 2 rfl) ?_
      refine lv_if_lt (tgt := 24) hx hb d_Items_isPart_11 (by decide) (fun c3 => ?_) (fun c3 => ?_)
      · refine lv_iconst (v := 0) hx hb d_Items_isPart_24 (by decide) ?_
        refine W.zret (v := 0) hx hb hr (by first | rfl | decide | assumption) (fun t ht hW => ⟨0, rfl, ?_, ht⟩) (fun q h => by cases h) d_Items_isPart_25
        (repeat' split) <;> first | rfl | (simp_all; done) | (exfalso; simp only [i_lt, i_le, i_eq, Int32.reduceToInt] at *; omega)
      · refine lv_iload_n hx hb d_Items_isPart_14 rfl (lv_at hl 2 rfl) ?_
        refine lv_bipush (v := 8) hx hb d_Items_isPart_15 (by decide) ?_
        refine lv_icmp_ge (tgt := 24) hx hb d_Items_isPart_17 (by decide) (fun c4 => ?_) (fun c4 => ?_)
        · refine lv_iconst (v := 0) hx hb d_Items_isPart_24 (by decide) ?_
          refine W.zret (v := 0) hx hb hr (by first | rfl | decide | assumption) (fun t ht hW => ⟨0, rfl, ?_, ht⟩) (fun q h => by cases h) d_Items_isPart_25
          (repeat' split) <;> first | rfl | (simp_all; done) | (exfalso; simp only [i_lt, i_le, i_eq, Int32.reduceToInt] at *; omega)
        · refine lv_iconst (v := 1) hx hb d_Items_isPart_20 (by decide) ?_
          refine lv_goto (tgt := 25) hx hb d_Items_isPart_21 (by decide) ?_
          refine W.zret (v := 1) hx hb hr (by first | rfl | decide | assumption) (fun t ht hW => ⟨1, rfl, ?_, ht⟩) (fun q h => by cases h) d_Items_isPart_25
          (repeat' split) <;> first | rfl | (simp_all; done) | (exfalso; simp only [i_lt, i_le, i_eq, Int32.reduceToInt] at *; omega)
set_option maxHeartbeats 1000000 in
set_option maxRecDepth 100000 in
theorem c_Items_tokOfPart (l : Launch) (dC : Nat → ClassId) (dI : Nat → Nat → Nat)  (h_this : Nat) (h_partTok : Nat) (fs_this : List Value) (k_partTok : ClassId) (f_partTok : Nat → Int32) (p1 : Int32) (p2 : Int32) (len_this : fs_this.length = 21) (g_this_partTok : fs_this[16]? = some (.ref h_partTok)) : Met l y_Items_tokOfPart w_Items_tokOfPart ({ frames := 1, cells := 0, slots := 0, locals := 22 } : Room) (va_Pc [.ref h_this, .int p1, .int p2] (fun U => va_P (dC, dI) cls_all [oc h_this 3 fs_this, ic h_partTok k_partTok 192 f_partTok] U.heap ∧ va_K (dC, dI) cls_all [(k_partTok, .int)] U)) (vp_Si (fun r : Int32 => (r = if 0 ≤ p1 ∧ p1 < 24 ∧ 0 ≤ p2 ∧ p2 < 8 then f_partTok (p1 * 8 + p2).toNatClampNeg else 0))) 0 0 (fun _ => False) := by
  refine Met.ofW (cc := b_Items_tokOfPart) (maxL := 3) (ret := (some .int)) (by decide) rfl ?_
  intro p e s m args below meth c s₁ B hml hv
  obtain ⟨rfl, hP, hK⟩ := hv
  have hx := B.exec
  have hb := B.bytes
  have hr := B.returns
  have hT : ∀ w ∈ lw_good, w.before _ s = true := fun w h => atoms_spec (ws := w_Items_tokOfPart) B.pre w (List.mem_cons_of_mem _ h)
  have hown : s.vm.findClass R_Items = some m.cls := findClass_of_methodNamed B.named
  have hlocks := B.notSynchronized
  have hl := lv_entry ([.ref h_this, .int p1, .int p2]) (n := 3) (Nat.le_of_ble_eq_true rfl)
  rw [lg_entry_eq]
  generalize (lg_sl ([.ref h_this, .int p1, .int p2]) ++ List.replicate (3 - (lg_sl ([.ref h_this, .int p1, .int p2])).length) Slot.unset).toArray = ls at hl ⊢
  have hl : lv_has ls 3 [(0, .ref h_this), (1, .int p1), (2, .int p2)] := hl
  refine lv_aload_n hx hb d_Items_tokOfPart_0 rfl (lv_at hl 0 rfl) ?_
  refine lv_iload_n hx hb d_Items_tokOfPart_1 rfl (lv_at hl 1 rfl) ?_
  refine lv_iload_n hx hb d_Items_tokOfPart_2 rfl (lv_at hl 2 rfl) ?_
  have hPc := hP.sub (ws' := [oc h_this 3 fs_this]) [0] rfl
  have hKc := hK.sub (tys' := []) [] rfl
  refine vp_callSi (va_Run.run (va_runV (As := [.int p1, .int p2]) (rest := []) ⟨hx, hb, hml, hown, hT⟩ (c_Items_isPart l dC dI (h_this := h_this) (fs_this := fs_this) (p1 := p1) (p2 := p2) (len_this := (by first | exact len_this | (simp only [List.length_set]; exact len_this)))) (cwV 2 hT (gV ml_Items_73 im_Items_isPart se_Items_isPart ini_Items co_Items_isPart) rfl rfl rfl (by decide +kernel) ⟨Nat.le_of_ble_eq_true rfl, Nat.le_of_ble_eq_true rfl⟩) ⟨fbS, va_recv hKc hPc (ci := 3) (q0 := 0) rfl rfl, fun U hU hW => ⟨rfl, by rw [hU]; exact hPc, va_K.moved hW.alike hKc⟩⟩ rfl rfl hl.1 rfl (lv_room (Nat.le_of_ble_eq_true rfl)) d_Items_tokOfPart_3 ⟨Nat.le_of_ble_eq_true rfl, Nat.le_of_ble_eq_true rfl⟩)) (fun r1 hr1 => ?_)
  refine lv_if_eq (tgt := 23) hx hb d_Items_tokOfPart_6 (by decide) (fun c2 => ?_) (fun c2 => ?_)
  · refine lv_iconst (v := 0) hx hb d_Items_tokOfPart_23 (by decide) ?_
    refine W.iret (v := 0) hx hb hr (fun t ht hW => ⟨0, rfl, ?_, ht⟩) (fun q h => by cases h) d_Items_tokOfPart_24
    subst_vars; first | (simp_all; done) | ((repeat' split) <;> first | rfl | (simp_all; done) | (exfalso; simp only [i_lt, i_le, i_eq, Int32.reduceToInt] at *; omega))
  · refine lv_aload_n hx hb d_Items_tokOfPart_9 rfl (lv_at hl 0 rfl) ?_
    refine va_get (D := (dC, dI)) (ci := 3) (v := .ref h_partTok) (C := R_Items) (T := F_Items) (N := 21) hx hb hT i_Items hown hK hP 0 rfl rfl 16 (by decide) (hT _ fl_Items_58) (fun _ h9 => h9) g_this_partTok d_Items_tokOfPart_10 ?_
    refine lv_iload_n hx hb d_Items_tokOfPart_13 rfl (lv_at hl 1 rfl) ?_
    refine lv_bipush (v := 8) hx hb d_Items_tokOfPart_14 (by decide) ?_
    refine lv_imul hx hb d_Items_tokOfPart_16 ?_
    refine lv_topi (fun x3 e3 => ?_)
    refine lv_iload_n hx hb d_Items_tokOfPart_17 rfl (lv_at hl 2 rfl) ?_
    refine lv_iadd hx hb d_Items_tokOfPart_18 ?_
    refine lv_topi (fun x4 e4 => ?_)
    refine va_iald hx hb hK hP 1 0 rfl rfl (by subst_vars; exact part_in rfl (by assumption)) d_Items_tokOfPart_19 ?_
    refine lv_topi (fun x5 e5 => ?_)
    refine lv_goto (tgt := 24) hx hb d_Items_tokOfPart_20 (by decide) ?_
    refine W.iret (v := x5) hx hb hr (fun t ht hW => ⟨x5, rfl, ?_, ht⟩) (fun q h => by cases h) d_Items_tokOfPart_24
    subst_vars; first | (simp_all; done) | ((repeat' split) <;> first | rfl | (simp_all; done) | (exfalso; simp only [i_lt, i_le, i_eq, Int32.reduceToInt] at *; omega))
set_option maxHeartbeats 1000000 in
set_option maxRecDepth 100000 in
theorem c_Items_typeOfPart (l : Launch) (dC : Nat → ClassId) (dI : Nat → Nat → Nat)  (h_this : Nat) (h_partType : Nat) (fs_this : List Value) (k_partType : ClassId) (f_partType : Nat → Int32) (p1 : Int32) (p2 : Int32) (len_this : fs_this.length = 21) (g_this_partType : fs_this[17]? = some (.ref h_partType)) : Met l y_Items_typeOfPart w_Items_typeOfPart ({ frames := 1, cells := 0, slots := 0, locals := 22 } : Room) (va_Pc [.ref h_this, .int p1, .int p2] (fun U => va_P (dC, dI) cls_all [oc h_this 3 fs_this, ic h_partType k_partType 192 f_partType] U.heap ∧ va_K (dC, dI) cls_all [(k_partType, .int)] U)) (vp_Si (fun r : Int32 => (r = if 0 ≤ p1 ∧ p1 < 24 ∧ 0 ≤ p2 ∧ p2 < 8 then f_partType (p1 * 8 + p2).toNatClampNeg else 1))) 0 0 (fun _ => False) := by
  refine Met.ofW (cc := b_Items_typeOfPart) (maxL := 3) (ret := (some .int)) (by decide) rfl ?_
  intro p e s m args below meth c s₁ B hml hv
  obtain ⟨rfl, hP, hK⟩ := hv
  have hx := B.exec
  have hb := B.bytes
  have hr := B.returns
  have hT : ∀ w ∈ lw_good, w.before _ s = true := fun w h => atoms_spec (ws := w_Items_typeOfPart) B.pre w (List.mem_cons_of_mem _ h)
  have hown : s.vm.findClass R_Items = some m.cls := findClass_of_methodNamed B.named
  have hlocks := B.notSynchronized
  have hl := lv_entry ([.ref h_this, .int p1, .int p2]) (n := 3) (Nat.le_of_ble_eq_true rfl)
  rw [lg_entry_eq]
  generalize (lg_sl ([.ref h_this, .int p1, .int p2]) ++ List.replicate (3 - (lg_sl ([.ref h_this, .int p1, .int p2])).length) Slot.unset).toArray = ls at hl ⊢
  have hl : lv_has ls 3 [(0, .ref h_this), (1, .int p1), (2, .int p2)] := hl
  refine lv_aload_n hx hb d_Items_typeOfPart_0 rfl (lv_at hl 0 rfl) ?_
  refine lv_iload_n hx hb d_Items_typeOfPart_1 rfl (lv_at hl 1 rfl) ?_
  refine lv_iload_n hx hb d_Items_typeOfPart_2 rfl (lv_at hl 2 rfl) ?_
  have hPc := hP.sub (ws' := [oc h_this 3 fs_this]) [0] rfl
  have hKc := hK.sub (tys' := []) [] rfl
  refine vp_callSi (va_Run.run (va_runV (As := [.int p1, .int p2]) (rest := []) ⟨hx, hb, hml, hown, hT⟩ (c_Items_isPart l dC dI (h_this := h_this) (fs_this := fs_this) (p1 := p1) (p2 := p2) (len_this := (by first | exact len_this | (simp only [List.length_set]; exact len_this)))) (cwV 2 hT (gV ml_Items_73 im_Items_isPart se_Items_isPart ini_Items co_Items_isPart) rfl rfl rfl (by decide +kernel) ⟨Nat.le_of_ble_eq_true rfl, Nat.le_of_ble_eq_true rfl⟩) ⟨fbS, va_recv hKc hPc (ci := 3) (q0 := 0) rfl rfl, fun U hU hW => ⟨rfl, by rw [hU]; exact hPc, va_K.moved hW.alike hKc⟩⟩ rfl rfl hl.1 rfl (lv_room (Nat.le_of_ble_eq_true rfl)) d_Items_typeOfPart_3 ⟨Nat.le_of_ble_eq_true rfl, Nat.le_of_ble_eq_true rfl⟩)) (fun r1 hr1 => ?_)
  refine lv_if_eq (tgt := 23) hx hb d_Items_typeOfPart_6 (by decide) (fun c2 => ?_) (fun c2 => ?_)
  · refine lv_iconst (v := 1) hx hb d_Items_typeOfPart_23 (by decide) ?_
    refine W.iret (v := 1) hx hb hr (fun t ht hW => ⟨1, rfl, ?_, ht⟩) (fun q h => by cases h) d_Items_typeOfPart_24
    subst_vars; first | (simp_all; done) | ((repeat' split) <;> first | rfl | (simp_all; done) | (exfalso; simp only [i_lt, i_le, i_eq, Int32.reduceToInt] at *; omega))
  · refine lv_aload_n hx hb d_Items_typeOfPart_9 rfl (lv_at hl 0 rfl) ?_
    refine va_get (D := (dC, dI)) (ci := 3) (v := .ref h_partType) (C := R_Items) (T := F_Items) (N := 21) hx hb hT i_Items hown hK hP 0 rfl rfl 17 (by decide) (hT _ fl_Items_61) (fun _ h9 => h9) g_this_partType d_Items_typeOfPart_10 ?_
    refine lv_iload_n hx hb d_Items_typeOfPart_13 rfl (lv_at hl 1 rfl) ?_
    refine lv_bipush (v := 8) hx hb d_Items_typeOfPart_14 (by decide) ?_
    refine lv_imul hx hb d_Items_typeOfPart_16 ?_
    refine lv_topi (fun x3 e3 => ?_)
    refine lv_iload_n hx hb d_Items_typeOfPart_17 rfl (lv_at hl 2 rfl) ?_
    refine lv_iadd hx hb d_Items_typeOfPart_18 ?_
    refine lv_topi (fun x4 e4 => ?_)
    refine va_iald hx hb hK hP 1 0 rfl rfl (by subst_vars; exact part_in rfl (by assumption)) d_Items_typeOfPart_19 ?_
    refine lv_topi (fun x5 e5 => ?_)
    refine lv_goto (tgt := 24) hx hb d_Items_typeOfPart_20 (by decide) ?_
    refine W.iret (v := x5) hx hb hr (fun t ht hW => ⟨x5, rfl, ?_, ht⟩) (fun q h => by cases h) d_Items_typeOfPart_24
    subst_vars; first | (simp_all; done) | ((repeat' split) <;> first | rfl | (simp_all; done) | (exfalso; simp only [i_lt, i_le, i_eq, Int32.reduceToInt] at *; omega))
set_option maxHeartbeats 1000000 in
set_option maxRecDepth 100000 in
theorem c_Items_placeOfPart (l : Launch) (dC : Nat → ClassId) (dI : Nat → Nat → Nat)  (h_this : Nat) (h_partPlace : Nat) (fs_this : List Value) (k_partPlace : ClassId) (f_partPlace : Nat → Int32) (p1 : Int32) (p2 : Int32) (len_this : fs_this.length = 21) (g_this_partPlace : fs_this[18]? = some (.ref h_partPlace)) : Met l y_Items_placeOfPart w_Items_placeOfPart ({ frames := 1, cells := 0, slots := 0, locals := 22 } : Room) (va_Pc [.ref h_this, .int p1, .int p2] (fun U => va_P (dC, dI) cls_all [oc h_this 3 fs_this, ic h_partPlace k_partPlace 192 f_partPlace] U.heap ∧ va_K (dC, dI) cls_all [(k_partPlace, .int)] U)) (vp_Si (fun r : Int32 => (r = if 0 ≤ p1 ∧ p1 < 24 ∧ 0 ≤ p2 ∧ p2 < 8 then f_partPlace (p1 * 8 + p2).toNatClampNeg else 0))) 0 0 (fun _ => False) := by
  refine Met.ofW (cc := b_Items_placeOfPart) (maxL := 3) (ret := (some .int)) (by decide) rfl ?_
  intro p e s m args below meth c s₁ B hml hv
  obtain ⟨rfl, hP, hK⟩ := hv
  have hx := B.exec
  have hb := B.bytes
  have hr := B.returns
  have hT : ∀ w ∈ lw_good, w.before _ s = true := fun w h => atoms_spec (ws := w_Items_placeOfPart) B.pre w (List.mem_cons_of_mem _ h)
  have hown : s.vm.findClass R_Items = some m.cls := findClass_of_methodNamed B.named
  have hlocks := B.notSynchronized
  have hl := lv_entry ([.ref h_this, .int p1, .int p2]) (n := 3) (Nat.le_of_ble_eq_true rfl)
  rw [lg_entry_eq]
  generalize (lg_sl ([.ref h_this, .int p1, .int p2]) ++ List.replicate (3 - (lg_sl ([.ref h_this, .int p1, .int p2])).length) Slot.unset).toArray = ls at hl ⊢
  have hl : lv_has ls 3 [(0, .ref h_this), (1, .int p1), (2, .int p2)] := hl
  refine lv_aload_n hx hb d_Items_placeOfPart_0 rfl (lv_at hl 0 rfl) ?_
  refine lv_iload_n hx hb d_Items_placeOfPart_1 rfl (lv_at hl 1 rfl) ?_
  refine lv_iload_n hx hb d_Items_placeOfPart_2 rfl (lv_at hl 2 rfl) ?_
  have hPc := hP.sub (ws' := [oc h_this 3 fs_this]) [0] rfl
  have hKc := hK.sub (tys' := []) [] rfl
  refine vp_callSi (va_Run.run (va_runV (As := [.int p1, .int p2]) (rest := []) ⟨hx, hb, hml, hown, hT⟩ (c_Items_isPart l dC dI (h_this := h_this) (fs_this := fs_this) (p1 := p1) (p2 := p2) (len_this := (by first | exact len_this | (simp only [List.length_set]; exact len_this)))) (cwV 2 hT (gV ml_Items_73 im_Items_isPart se_Items_isPart ini_Items co_Items_isPart) rfl rfl rfl (by decide +kernel) ⟨Nat.le_of_ble_eq_true rfl, Nat.le_of_ble_eq_true rfl⟩) ⟨fbS, va_recv hKc hPc (ci := 3) (q0 := 0) rfl rfl, fun U hU hW => ⟨rfl, by rw [hU]; exact hPc, va_K.moved hW.alike hKc⟩⟩ rfl rfl hl.1 rfl (lv_room (Nat.le_of_ble_eq_true rfl)) d_Items_placeOfPart_3 ⟨Nat.le_of_ble_eq_true rfl, Nat.le_of_ble_eq_true rfl⟩)) (fun r1 hr1 => ?_)
  refine lv_if_eq (tgt := 23) hx hb d_Items_placeOfPart_6 (by decide) (fun c2 => ?_) (fun c2 => ?_)
  · refine lv_iconst (v := 0) hx hb d_Items_placeOfPart_23 (by decide) ?_
    refine W.iret (v := 0) hx hb hr (fun t ht hW => ⟨0, rfl, ?_, ht⟩) (fun q h => by cases h) d_Items_placeOfPart_24
    subst_vars; first | (simp_all; done) | ((repeat' split) <;> first | rfl | (simp_all; done) | (exfalso; simp only [i_lt, i_le, i_eq, Int32.reduceToInt] at *; omega))
  · refine lv_aload_n hx hb d_Items_placeOfPart_9 rfl (lv_at hl 0 rfl) ?_
    refine va_get (D := (dC, dI)) (ci := 3) (v := .ref h_partPlace) (C := R_Items) (T := F_Items) (N := 21) hx hb hT i_Items hown hK hP 0 rfl rfl 18 (by decide) (hT _ fl_Items_64) (fun _ h9 => h9) g_this_partPlace d_Items_placeOfPart_10 ?_
    refine lv_iload_n hx hb d_Items_placeOfPart_13 rfl (lv_at hl 1 rfl) ?_
    refine lv_bipush (v := 8) hx hb d_Items_placeOfPart_14 (by decide) ?_
    refine lv_imul hx hb d_Items_placeOfPart_16 ?_
    refine lv_topi (fun x3 e3 => ?_)
    refine lv_iload_n hx hb d_Items_placeOfPart_17 rfl (lv_at hl 2 rfl) ?_
    refine lv_iadd hx hb d_Items_placeOfPart_18 ?_
    refine lv_topi (fun x4 e4 => ?_)
    refine va_iald hx hb hK hP 1 0 rfl rfl (by subst_vars; exact part_in rfl (by assumption)) d_Items_placeOfPart_19 ?_
    refine lv_topi (fun x5 e5 => ?_)
    refine lv_goto (tgt := 24) hx hb d_Items_placeOfPart_20 (by decide) ?_
    refine W.iret (v := x5) hx hb hr (fun t ht hW => ⟨x5, rfl, ?_, ht⟩) (fun q h => by cases h) d_Items_placeOfPart_24
    subst_vars; first | (simp_all; done) | ((repeat' split) <;> first | rfl | (simp_all; done) | (exfalso; simp only [i_lt, i_le, i_eq, Int32.reduceToInt] at *; omega))
set_option maxHeartbeats 1000000 in
set_option maxRecDepth 100000 in
theorem c_Source_isDigit (l : Launch) (dC : Nat → ClassId) (dI : Nat → Nat → Nat)  (p1 : Int32) : Met l y_Source_isDigit w_Source_isDigit ({ frames := 0, cells := 0, slots := 0, locals := 0 } : Room) (va_Pc [.int p1] (fun U => va_P (dC, dI) cls_all [] U.heap ∧ va_K (dC, dI) cls_all [] U)) (vp_Si (fun r : Int32 => (r = if 48 ≤ p1 ∧ p1 ≤ 57 then 1 else 0))) 0 0 (fun _ => False) := by
  refine Met.ofW (cc := b_Source_isDigit) (maxL := 1) (ret := (some .boolean)) (by decide) rfl ?_
  intro p e s m args below meth c s₁ B hml hv
  obtain ⟨rfl, hP, hK⟩ := hv
  have hx := B.exec
  have hb := B.bytes
  have hr := B.returns
  have hT : ∀ w ∈ lw_good, w.before _ s = true := fun w h => atoms_spec (ws := w_Source_isDigit) B.pre w (List.mem_cons_of_mem _ h)
  have hown : s.vm.findClass R_Source = some m.cls := findClass_of_methodNamed B.named
  have hlocks := B.notSynchronized
  have hl := lv_entry ([.int p1]) (n := 1) (Nat.le_of_ble_eq_true rfl)
  rw [lg_entry_eq]
  generalize (lg_sl ([.int p1]) ++ List.replicate (1 - (lg_sl ([.int p1])).length) Slot.unset).toArray = ls at hl ⊢
  have hl : lv_has ls 1 [(0, .int p1)] := hl
  refine lv_iload_n hx hb d_Source_isDigit_0 rfl (lv_at hl 0 rfl) ?_
  refine lv_bipush (v := 48) hx hb d_Source_isDigit_1 (by decide) ?_
  refine lv_icmp_lt (tgt := 16) hx hb d_Source_isDigit_3 (by decide) (fun c1 => ?_) (fun c1 => ?_)
  · refine lv_iconst (v := 0) hx hb d_Source_isDigit_16 (by decide) ?_
    refine W.zret (v := 0) hx hb hr (by first | rfl | decide | assumption) (fun t ht hW => ⟨0, rfl, ?_, ht⟩) (fun q h => by cases h) d_Source_isDigit_17
    (repeat' split) <;> first | rfl | (simp_all; done) | (exfalso; simp only [i_lt, i_le, i_eq, Int32.reduceToInt] at *; omega)
  · refine lv_iload_n hx hb d_Source_isDigit_6 rfl (lv_at hl 0 rfl) ?_
    refine lv_bipush (v := 57) hx hb d_Source_isDigit_7 (by decide) ?_
    refine lv_icmp_gt (tgt := 16) hx hb d_Source_isDigit_9 (by decide) (fun c2 => ?_) (fun c2 => ?_)
    · refine lv_iconst (v := 0) hx hb d_Source_isDigit_16 (by decide) ?_
      refine W.zret (v := 0) hx hb hr (by first | rfl | decide | assumption) (fun t ht hW => ⟨0, rfl, ?_, ht⟩) (fun q h => by cases h) d_Source_isDigit_17
      (repeat' split) <;> first | rfl | (simp_all; done) | (exfalso; simp only [i_lt, i_le, i_eq, Int32.reduceToInt] at *; omega)
    · refine lv_iconst (v := 1) hx hb d_Source_isDigit_12 (by decide) ?_
      refine lv_goto (tgt := 17) hx hb d_Source_isDigit_13 (by decide) ?_
      refine W.zret (v := 1) hx hb hr (by first | rfl | decide | assumption) (fun t ht hW => ⟨1, rfl, ?_, ht⟩) (fun q h => by cases h) d_Source_isDigit_17
      (repeat' split) <;> first | rfl | (simp_all; done) | (exfalso; simp only [i_lt, i_le, i_eq, Int32.reduceToInt] at *; omega)
set_option maxHeartbeats 1000000 in
set_option maxRecDepth 100000 in
theorem c_Source_isSmall (l : Launch) (dC : Nat → ClassId) (dI : Nat → Nat → Nat)  (p1 : Int32) : Met l y_Source_isSmall w_Source_isSmall ({ frames := 0, cells := 0, slots := 0, locals := 0 } : Room) (va_Pc [.int p1] (fun U => va_P (dC, dI) cls_all [] U.heap ∧ va_K (dC, dI) cls_all [] U)) (vp_Si (fun r : Int32 => (r = if 97 ≤ p1 ∧ p1 ≤ 122 then 1 else 0))) 0 0 (fun _ => False) := by
  refine Met.ofW (cc := b_Source_isSmall) (maxL := 1) (ret := (some .boolean)) (by decide) rfl ?_
  intro p e s m args below meth c s₁ B hml hv
  obtain ⟨rfl, hP, hK⟩ := hv
  have hx := B.exec
  have hb := B.bytes
  have hr := B.returns
  have hT : ∀ w ∈ lw_good, w.before _ s = true := fun w h => atoms_spec (ws := w_Source_isSmall) B.pre w (List.mem_cons_of_mem _ h)
  have hown : s.vm.findClass R_Source = some m.cls := findClass_of_methodNamed B.named
  have hlocks := B.notSynchronized
  have hl := lv_entry ([.int p1]) (n := 1) (Nat.le_of_ble_eq_true rfl)
  rw [lg_entry_eq]
  generalize (lg_sl ([.int p1]) ++ List.replicate (1 - (lg_sl ([.int p1])).length) Slot.unset).toArray = ls at hl ⊢
  have hl : lv_has ls 1 [(0, .int p1)] := hl
  refine lv_iload_n hx hb d_Source_isSmall_0 rfl (lv_at hl 0 rfl) ?_
  refine lv_bipush (v := 97) hx hb d_Source_isSmall_1 (by decide) ?_
  refine lv_icmp_lt (tgt := 16) hx hb d_Source_isSmall_3 (by decide) (fun c1 => ?_) (fun c1 => ?_)
  · refine lv_iconst (v := 0) hx hb d_Source_isSmall_16 (by decide) ?_
    refine W.zret (v := 0) hx hb hr (by first | rfl | decide | assumption) (fun t ht hW => ⟨0, rfl, ?_, ht⟩) (fun q h => by cases h) d_Source_isSmall_17
    (repeat' split) <;> first | rfl | (simp_all; done) | (exfalso; simp only [i_lt, i_le, i_eq, Int32.reduceToInt] at *; omega)
  · refine lv_iload_n hx hb d_Source_isSmall_6 rfl (lv_at hl 0 rfl) ?_
    refine lv_bipush (v := 122) hx hb d_Source_isSmall_7 (by decide) ?_
    refine lv_icmp_gt (tgt := 16) hx hb d_Source_isSmall_9 (by decide) (fun c2 => ?_) (fun c2 => ?_)
    · refine lv_iconst (v := 0) hx hb d_Source_isSmall_16 (by decide) ?_
      refine W.zret (v := 0) hx hb hr (by first | rfl | decide | assumption) (fun t ht hW => ⟨0, rfl, ?_, ht⟩) (fun q h => by cases h) d_Source_isSmall_17
      (repeat' split) <;> first | rfl | (simp_all; done) | (exfalso; simp only [i_lt, i_le, i_eq, Int32.reduceToInt] at *; omega)
    · refine lv_iconst (v := 1) hx hb d_Source_isSmall_12 (by decide) ?_
      refine lv_goto (tgt := 17) hx hb d_Source_isSmall_13 (by decide) ?_
      refine W.zret (v := 1) hx hb hr (by first | rfl | decide | assumption) (fun t ht hW => ⟨1, rfl, ?_, ht⟩) (fun q h => by cases h) d_Source_isSmall_17
      (repeat' split) <;> first | rfl | (simp_all; done) | (exfalso; simp only [i_lt, i_le, i_eq, Int32.reduceToInt] at *; omega)
set_option maxHeartbeats 1000000 in
set_option maxRecDepth 100000 in
theorem c_Source_isLetterOrDigit (l : Launch) (dC : Nat → ClassId) (dI : Nat → Nat → Nat)  (p1 : Int32) : Met l y_Source_isLetterOrDigit w_Source_isLetterOrDigit ({ frames := 1, cells := 0, slots := 0, locals := 20 } : Room) (va_Pc [.int p1] (fun U => va_P (dC, dI) cls_all [] U.heap ∧ va_K (dC, dI) cls_all [] U)) (vp_Si (fun r : Int32 => (r = if (48 ≤ p1 ∧ p1 ≤ 57) ∨ (97 ≤ p1 ∧ p1 ≤ 122) ∨ (65 ≤ p1 ∧ p1 ≤ 90) then 1 else 0))) 0 0 (fun _ => False) := by
  refine Met.ofW (cc := b_Source_isLetterOrDigit) (maxL := 1) (ret := (some .boolean)) (by decide) rfl ?_
  intro p e s m args below meth c s₁ B hml hv
  obtain ⟨rfl, hP, hK⟩ := hv
  have hx := B.exec
  have hb := B.bytes
  have hr := B.returns
  have hT : ∀ w ∈ lw_good, w.before _ s = true := fun w h => atoms_spec (ws := w_Source_isLetterOrDigit) B.pre w (List.mem_cons_of_mem _ h)
  have hown : s.vm.findClass R_Source = some m.cls := findClass_of_methodNamed B.named
  have hlocks := B.notSynchronized
  have hl := lv_entry ([.int p1]) (n := 1) (Nat.le_of_ble_eq_true rfl)
  rw [lg_entry_eq]
  generalize (lg_sl ([.int p1]) ++ List.replicate (1 - (lg_sl ([.int p1])).length) Slot.unset).toArray = ls at hl ⊢
  have hl : lv_has ls 1 [(0, .int p1)] := hl
  refine lv_iload_n hx hb d_Source_isLetterOrDigit_0 rfl (lv_at hl 0 rfl) ?_
  have hPc := hP.sub (ws' := []) [] rfl
  have hKc := hK.sub (tys' := []) [] rfl
  refine vp_callSi (va_Run.run (va_runS (As := [.int p1]) (rest := []) ⟨hx, hb, hml, hown, hT⟩ (c_Source_isDigit l dC dI (p1 := p1) ) (va_cwS 1 hT (gS ml_Source_121 st_Source_isDigit ini_Source co_Source_isDigit) rfl rfl rfl (by decide +kernel) ⟨Nat.le_of_ble_eq_true rfl, Nat.le_of_ble_eq_true rfl⟩) ⟨fbS, fun U hU hW => ⟨rfl, by rw [hU]; exact hPc, va_K.moved hW.alike hKc⟩⟩ rfl rfl hl.1 rfl (lv_room (Nat.le_of_ble_eq_true rfl)) d_Source_isLetterOrDigit_1 ⟨Nat.le_of_ble_eq_true rfl, Nat.le_of_ble_eq_true rfl⟩)) (fun r1 hr1 => ?_)
  refine lv_if_ne (tgt := 26) hx hb d_Source_isLetterOrDigit_4 (by decide) (fun c2 => ?_) (fun c2 => ?_)
  · refine lv_iconst (v := 1) hx hb d_Source_isLetterOrDigit_26 (by decide) ?_
    refine lv_goto (tgt := 31) hx hb d_Source_isLetterOrDigit_27 (by decide) ?_
    refine W.zret (v := 1) hx hb hr (by first | rfl | decide | assumption) (fun t ht hW => ⟨1, rfl, ?_, ht⟩) (fun q h => by cases h) d_Source_isLetterOrDigit_31
    (by_cases a1 : 48 ≤ p1 ∧ p1 ≤ 57) <;> (by_cases a2 : 97 ≤ p1 ∧ p1 ≤ 122) <;> (by_cases a3 : 65 ≤ p1 ∧ p1 ≤ 90) <;> first | (simp only [a1, a2, a3, or_self, or_true, true_or, or_false, false_or, if_true, if_false]; done) | (simp_all; done) | (exfalso; simp only [i_lt, i_le, Int32.reduceToInt] at *; omega)
  · refine lv_iload_n hx hb d_Source_isLetterOrDigit_7 rfl (lv_at hl 0 rfl) ?_
    have hPc := hP.sub (ws' := []) [] rfl
    have hKc := hK.sub (tys' := []) [] rfl
    refine vp_callSi (va_Run.run (va_runS (As := [.int p1]) (rest := []) ⟨hx, hb, hml, hown, hT⟩ (c_Source_isSmall l dC dI (p1 := p1) ) (va_cwS 1 hT (gS ml_Source_136 st_Source_isSmall ini_Source co_Source_isSmall) rfl rfl rfl (by decide +kernel) ⟨Nat.le_of_ble_eq_true rfl, Nat.le_of_ble_eq_true rfl⟩) ⟨fbS, fun U hU hW => ⟨rfl, by rw [hU]; exact hPc, va_K.moved hW.alike hKc⟩⟩ rfl rfl hl.1 rfl (lv_room (Nat.le_of_ble_eq_true rfl)) d_Source_isLetterOrDigit_8 ⟨Nat.le_of_ble_eq_true rfl, Nat.le_of_ble_eq_true rfl⟩)) (fun r3 hr3 => ?_)
    refine lv_if_ne (tgt := 26) hx hb d_Source_isLetterOrDigit_11 (by decide) (fun c4 => ?_) (fun c4 => ?_)
    · refine lv_iconst (v := 1) hx hb d_Source_isLetterOrDigit_26 (by decide) ?_
      refine lv_goto (tgt := 31) hx hb d_Source_isLetterOrDigit_27 (by decide) ?_
      refine W.zret (v := 1) hx hb hr (by first | rfl | decide | assumption) (fun t ht hW => ⟨1, rfl, ?_, ht⟩) (fun q h => by cases h) d_Source_isLetterOrDigit_31
      (by_cases a1 : 48 ≤ p1 ∧ p1 ≤ 57) <;> (by_cases a2 : 97 ≤ p1 ∧ p1 ≤ 122) <;> (by_cases a3 : 65 ≤ p1 ∧ p1 ≤ 90) <;> first | (simp only [a1, a2, a3, or_self, or_true, true_or, or_false, false_or, if_true, if_false]; done) | (simp_all; done) | (exfalso; simp only [i_lt, i_le, Int32.reduceToInt] at *; omega)
    · refine lv_iload_n hx hb d_Source_isLetterOrDigit_14 rfl (lv_at hl 0 rfl) ?_
      refine lv_bipush (v := 65) hx hb d_Source_isLetterOrDigit_15 (by decide) ?_
      refine lv_icmp_lt (tgt := 30) hx hb d_Source_isLetterOrDigit_17 (by decide) (fun c5 => ?_) (fun c5 => ?_)
      · refine lv_iconst (v := 0) hx hb d_Source_isLetterOrDigit_30 (by decide) ?_
        refine W.zret (v := 0) hx hb hr (by first | rfl | decide | assumption) (fun t ht hW => ⟨0, rfl, ?_, ht⟩) (fun q h => by cases h) d_Source_isLetterOrDigit_31
        (by_cases a1 : 48 ≤ p1 ∧ p1 ≤ 57) <;> (by_cases a2 : 97 ≤ p1 ∧ p1 ≤ 122) <;> (by_cases a3 : 65 ≤ p1 ∧ p1 ≤ 90) <;> first | (simp only [a1, a2, a3, or_self, or_true, true_or, or_false, false_or, if_true, if_false]; done) | (simp_all; done) | (exfalso; simp only [i_lt, i_le, Int32.reduceToInt] at *; omega)
      · refine lv_iload_n hx hb d_Source_isLetterOrDigit_20 rfl (lv_at hl 0 rfl) ?_
        refine lv_bipush (v := 90) hx hb d_Source_isLetterOrDigit_21 (by decide) ?_
        refine lv_icmp_gt (tgt := 30) hx hb d_Source_isLetterOrDigit_23 (by decide) (fun c6 => ?_) (fun c6 => ?_)
        · refine lv_iconst (v := 0) hx hb d_Source_isLetterOrDigit_30 (by decide) ?_
          refine W.zret (v := 0) hx hb hr (by first | rfl | decide | assumption) (fun t ht hW => ⟨0, rfl, ?_, ht⟩) (fun q h => by cases h) d_Source_isLetterOrDigit_31
          (by_cases a1 : 48 ≤ p1 ∧ p1 ≤ 57) <;> (by_cases a2 : 97 ≤ p1 ∧ p1 ≤ 122) <;> (by_cases a3 : 65 ≤ p1 ∧ p1 ≤ 90) <;> first | (simp only [a1, a2, a3, or_self, or_true, true_or, or_false, false_or, if_true, if_false]; done) | (simp_all; done) | (exfalso; simp only [i_lt, i_le, Int32.reduceToInt] at *; omega)
        · refine lv_iconst (v := 1) hx hb d_Source_isLetterOrDigit_26 (by decide) ?_
          refine lv_goto (tgt := 31) hx hb d_Source_isLetterOrDigit_27 (by decide) ?_
          refine W.zret (v := 1) hx hb hr (by first | rfl | decide | assumption) (fun t ht hW => ⟨1, rfl, ?_, ht⟩) (fun q h => by cases h) d_Source_isLetterOrDigit_31
          (by_cases a1 : 48 ≤ p1 ∧ p1 ≤ 57) <;> (by_cases a2 : 97 ≤ p1 ∧ p1 ≤ 122) <;> (by_cases a3 : 65 ≤ p1 ∧ p1 ≤ 90) <;> first | (simp only [a1, a2, a3, or_self, or_true, true_or, or_false, false_or, if_true, if_false]; done) | (simp_all; done) | (exfalso; simp only [i_lt, i_le, Int32.reduceToInt] at *; omega)
set_option maxHeartbeats 1000000 in
set_option maxRecDepth 100000 in
theorem c_Scope_varsSeen (l : Launch) (dC : Nat → ClassId) (dI : Nat → Nat → Nat)  (h_this : Nat) (fs_this : List Value) (v_this_varCount : Int32) (len_this : fs_this.length = 14) (g_this_varCount : fs_this[4]? = some (.int v_this_varCount)) : Met l y_Scope_varsSeen w_Scope_varsSeen ({ frames := 0, cells := 0, slots := 0, locals := 0 } : Room) (va_Pc [.ref h_this] (fun U => va_P (dC, dI) cls_all [oc h_this 7 fs_this] U.heap ∧ va_K (dC, dI) cls_all [] U)) (vp_Si (fun r : Int32 => (r = v_this_varCount))) 0 0 (fun _ => False) := by
  refine Met.ofW (cc := b_Scope_varsSeen) (maxL := 1) (ret := (some .int)) (by decide) rfl ?_
  intro p e s m args below meth c s₁ B hml hv
  obtain ⟨rfl, hP, hK⟩ := hv
  have hx := B.exec
  have hb := B.bytes
  have hr := B.returns
  have hT : ∀ w ∈ lw_good, w.before _ s = true := fun w h => atoms_spec (ws := w_Scope_varsSeen) B.pre w (List.mem_cons_of_mem _ h)
  have hown : s.vm.findClass R_Scope = some m.cls := findClass_of_methodNamed B.named
  have hlocks := B.notSynchronized
  have hl := lv_entry ([.ref h_this]) (n := 1) (Nat.le_of_ble_eq_true rfl)
  rw [lg_entry_eq]
  generalize (lg_sl ([.ref h_this]) ++ List.replicate (1 - (lg_sl ([.ref h_this])).length) Slot.unset).toArray = ls at hl ⊢
  have hl : lv_has ls 1 [(0, .ref h_this)] := hl
  refine lv_aload_n hx hb d_Scope_varsSeen_0 rfl (lv_at hl 0 rfl) ?_
  refine va_get (D := (dC, dI)) (ci := 7) (v := .int v_this_varCount) (C := R_Scope) (T := F_Scope) (N := 14) hx hb hT i_Scope hown hK hP 0 rfl rfl 4 (by decide) (hT _ fl_Scope_44) (fun _ h9 => h9) g_this_varCount d_Scope_varsSeen_1 ?_
  refine W.iret (v := v_this_varCount) hx hb hr (fun t ht hW => ⟨v_this_varCount, rfl, ?_, ht⟩) (fun q h => by cases h) d_Scope_varsSeen_4
  rfl
set_option maxHeartbeats 1000000 in
set_option maxRecDepth 100000 in
theorem c_Scope_typeOf (l : Launch) (dC : Nat → ClassId) (dI : Nat → Nat → Nat)  (h_this : Nat) (h_varType : Nat) (fs_this : List Value) (v_this_varCount : Int32) (k_varType : ClassId) (f_varType : Nat → Int32) (p1 : Int32) (len_this : fs_this.length = 14) (g_this_varCount : fs_this[4]? = some (.int v_this_varCount)) (g_this_varType : fs_this[6]? = some (.ref h_varType)) (hv : v_this_varCount ≤ 20) : Met l y_Scope_typeOf w_Scope_typeOf ({ frames := 0, cells := 0, slots := 0, locals := 0 } : Room) (va_Pc [.ref h_this, .int p1] (fun U => va_P (dC, dI) cls_all [oc h_this 7 fs_this, ic h_varType k_varType 20 f_varType] U.heap ∧ va_K (dC, dI) cls_all [(k_varType, .int)] U)) (vp_Si (fun r : Int32 => (r = if p1 < 0 ∨ v_this_varCount ≤ p1 then 1 else f_varType p1.toNatClampNeg))) 0 0 (fun _ => False) := by
  refine Met.ofW (cc := b_Scope_typeOf) (maxL := 2) (ret := (some .int)) (by decide) rfl ?_
  intro p e s m args below meth c s₁ B hml hv
  obtain ⟨rfl, hP, hK⟩ := hv
  have hx := B.exec
  have hb := B.bytes
  have hr := B.returns
  have hT : ∀ w ∈ lw_good, w.before _ s = true := fun w h => atoms_spec (ws := w_Scope_typeOf) B.pre w (List.mem_cons_of_mem _ h)
  have hown : s.vm.findClass R_Scope = some m.cls := findClass_of_methodNamed B.named
  have hlocks := B.notSynchronized
  have hl := lv_entry ([.ref h_this, .int p1]) (n := 2) (Nat.le_of_ble_eq_true rfl)
  rw [lg_entry_eq]
  generalize (lg_sl ([.ref h_this, .int p1]) ++ List.replicate (2 - (lg_sl ([.ref h_this, .int p1])).length) Slot.unset).toArray = ls at hl ⊢
  have hl : lv_has ls 2 [(0, .ref h_this), (1, .int p1)] := hl
  refine lv_iload_n hx hb d_Scope_typeOf_0 rfl (lv_at hl 1 rfl) ?_
  refine lv_if_lt (tgt := 12) hx hb d_Scope_typeOf_1 (by decide) (fun c1 => ?_) (fun c1 => ?_)
  · refine lv_iconst (v := 1) hx hb d_Scope_typeOf_12 (by decide) ?_
    refine lv_goto (tgt := 22) hx hb d_Scope_typeOf_13 (by decide) ?_
    refine W.iret (v := 1) hx hb hr (fun t ht hW => ⟨1, rfl, ?_, ht⟩) (fun q h => by cases h) d_Scope_typeOf_22
    (repeat' split) <;> first | rfl | (simp_all; done) | (exfalso; simp only [i_lt, i_le, i_eq, Int32.reduceToInt] at *; omega)
  · refine lv_iload_n hx hb d_Scope_typeOf_4 rfl (lv_at hl 1 rfl) ?_
    refine lv_aload_n hx hb d_Scope_typeOf_5 rfl (lv_at hl 0 rfl) ?_
    refine va_get (D := (dC, dI)) (ci := 7) (v := .int v_this_varCount) (C := R_Scope) (T := F_Scope) (N := 14) hx hb hT i_Scope hown hK hP 0 rfl rfl 4 (by decide) (hT _ fl_Scope_44) (fun _ h9 => h9) g_this_varCount d_Scope_typeOf_6 ?_
    refine lv_icmp_lt (tgt := 16) hx hb d_Scope_typeOf_9 (by decide) (fun c2 => ?_) (fun c2 => ?_)
    · refine lv_aload_n hx hb d_Scope_typeOf_16 rfl (lv_at hl 0 rfl) ?_
      refine va_get (D := (dC, dI)) (ci := 7) (v := .ref h_varType) (C := R_Scope) (T := F_Scope) (N := 14) hx hb hT i_Scope hown hK hP 0 rfl rfl 6 (by decide) (hT _ fl_Scope_15) (fun _ h9 => h9) g_this_varType d_Scope_typeOf_17 ?_
      refine lv_iload_n hx hb d_Scope_typeOf_20 rfl (lv_at hl 1 rfl) ?_
      refine va_iald hx hb hK hP 1 0 rfl rfl (by first | exact has_in (by assumption) (by assumption) (by assumption) | (refine vp_in_iff.mpr ?_; simp only [i_lt, i_le, i_eq, Int32.reduceToInt] at *; omega)) d_Scope_typeOf_21 ?_
      refine lv_topi (fun x3 e3 => ?_)
      refine W.iret (v := x3) hx hb hr (fun t ht hW => ⟨x3, rfl, ?_, ht⟩) (fun q h => by cases h) d_Scope_typeOf_22
      (repeat' split) <;> first | rfl | (simp_all; done) | (exfalso; simp only [i_lt, i_le, i_eq, Int32.reduceToInt] at *; omega)
    · refine lv_iconst (v := 1) hx hb d_Scope_typeOf_12 (by decide) ?_
      refine lv_goto (tgt := 22) hx hb d_Scope_typeOf_13 (by decide) ?_
      refine W.iret (v := 1) hx hb hr (fun t ht hW => ⟨1, rfl, ?_, ht⟩) (fun q h => by cases h) d_Scope_typeOf_22
      (repeat' split) <;> first | rfl | (simp_all; done) | (exfalso; simp only [i_lt, i_le, i_eq, Int32.reduceToInt] at *; omega)
set_option maxHeartbeats 1000000 in
set_option maxRecDepth 100000 in
theorem c_Scope_slotOf (l : Launch) (dC : Nat → ClassId) (dI : Nat → Nat → Nat)  (h_this : Nat) (h_varSlot : Nat) (fs_this : List Value) (v_this_varCount : Int32) (k_varSlot : ClassId) (f_varSlot : Nat → Int32) (p1 : Int32) (len_this : fs_this.length = 14) (g_this_varCount : fs_this[4]? = some (.int v_this_varCount)) (g_this_varSlot : fs_this[7]? = some (.ref h_varSlot)) (hv : v_this_varCount ≤ 20) : Met l y_Scope_slotOf w_Scope_slotOf ({ frames := 0, cells := 0, slots := 0, locals := 0 } : Room) (va_Pc [.ref h_this, .int p1] (fun U => va_P (dC, dI) cls_all [oc h_this 7 fs_this, ic h_varSlot k_varSlot 21 f_varSlot] U.heap ∧ va_K (dC, dI) cls_all [(k_varSlot, .int)] U)) (vp_Si (fun r : Int32 => (r = if p1 < 0 ∨ v_this_varCount ≤ p1 then 0 else f_varSlot p1.toNatClampNeg))) 0 0 (fun _ => False) := by
  refine Met.ofW (cc := b_Scope_slotOf) (maxL := 2) (ret := (some .int)) (by decide) rfl ?_
  intro p e s m args below meth c s₁ B hml hv
  obtain ⟨rfl, hP, hK⟩ := hv
  have hx := B.exec
  have hb := B.bytes
  have hr := B.returns
  have hT : ∀ w ∈ lw_good, w.before _ s = true := fun w h => atoms_spec (ws := w_Scope_slotOf) B.pre w (List.mem_cons_of_mem _ h)
  have hown : s.vm.findClass R_Scope = some m.cls := findClass_of_methodNamed B.named
  have hlocks := B.notSynchronized
  have hl := lv_entry ([.ref h_this, .int p1]) (n := 2) (Nat.le_of_ble_eq_true rfl)
  rw [lg_entry_eq]
  generalize (lg_sl ([.ref h_this, .int p1]) ++ List.replicate (2 - (lg_sl ([.ref h_this, .int p1])).length) Slot.unset).toArray = ls at hl ⊢
  have hl : lv_has ls 2 [(0, .ref h_this), (1, .int p1)] := hl
  refine lv_iload_n hx hb d_Scope_slotOf_0 rfl (lv_at hl 1 rfl) ?_
  refine lv_if_lt (tgt := 12) hx hb d_Scope_slotOf_1 (by decide) (fun c1 => ?_) (fun c1 => ?_)
  · refine lv_iconst (v := 0) hx hb d_Scope_slotOf_12 (by decide) ?_
    refine lv_goto (tgt := 22) hx hb d_Scope_slotOf_13 (by decide) ?_
    refine W.iret (v := 0) hx hb hr (fun t ht hW => ⟨0, rfl, ?_, ht⟩) (fun q h => by cases h) d_Scope_slotOf_22
    (repeat' split) <;> first | rfl | (simp_all; done) | (exfalso; simp only [i_lt, i_le, i_eq, Int32.reduceToInt] at *; omega)
  · refine lv_iload_n hx hb d_Scope_slotOf_4 rfl (lv_at hl 1 rfl) ?_
    refine lv_aload_n hx hb d_Scope_slotOf_5 rfl (lv_at hl 0 rfl) ?_
    refine va_get (D := (dC, dI)) (ci := 7) (v := .int v_this_varCount) (C := R_Scope) (T := F_Scope) (N := 14) hx hb hT i_Scope hown hK hP 0 rfl rfl 4 (by decide) (hT _ fl_Scope_44) (fun _ h9 => h9) g_this_varCount d_Scope_slotOf_6 ?_
    refine lv_icmp_lt (tgt := 16) hx hb d_Scope_slotOf_9 (by decide) (fun c2 => ?_) (fun c2 => ?_)
    · refine lv_aload_n hx hb d_Scope_slotOf_16 rfl (lv_at hl 0 rfl) ?_
      refine va_get (D := (dC, dI)) (ci := 7) (v := .ref h_varSlot) (C := R_Scope) (T := F_Scope) (N := 14) hx hb hT i_Scope hown hK hP 0 rfl rfl 7 (by decide) (hT _ fl_Scope_19) (fun _ h9 => h9) g_this_varSlot d_Scope_slotOf_17 ?_
      refine lv_iload_n hx hb d_Scope_slotOf_20 rfl (lv_at hl 1 rfl) ?_
      refine va_iald hx hb hK hP 1 0 rfl rfl (by first | exact has_in (by assumption) (by assumption) (by assumption) | (refine vp_in_iff.mpr ?_; simp only [i_lt, i_le, i_eq, Int32.reduceToInt] at *; omega)) d_Scope_slotOf_21 ?_
      refine lv_topi (fun x3 e3 => ?_)
      refine W.iret (v := x3) hx hb hr (fun t ht hW => ⟨x3, rfl, ?_, ht⟩) (fun q h => by cases h) d_Scope_slotOf_22
      (repeat' split) <;> first | rfl | (simp_all; done) | (exfalso; simp only [i_lt, i_le, i_eq, Int32.reduceToInt] at *; omega)
    · refine lv_iconst (v := 0) hx hb d_Scope_slotOf_12 (by decide) ?_
      refine lv_goto (tgt := 22) hx hb d_Scope_slotOf_13 (by decide) ?_
      refine W.iret (v := 0) hx hb hr (fun t ht hW => ⟨0, rfl, ?_, ht⟩) (fun q h => by cases h) d_Scope_slotOf_22
      (repeat' split) <;> first | rfl | (simp_all; done) | (exfalso; simp only [i_lt, i_le, i_eq, Int32.reduceToInt] at *; omega)
set_option maxHeartbeats 1000000 in
set_option maxRecDepth 100000 in
theorem c_Machine_wordAt (l : Launch) (dC : Nat → ClassId) (dI : Nat → Nat → Nat)  (h_this : Nat) (h_stack : Nat) (fs_this : List Value) (k_stack : ClassId) (f_stack : Nat → Int32) (p1 : Int32) (len_this : fs_this.length = 18) (g_this_stack : fs_this[3]? = some (.ref h_stack)) : Met l y_Machine_wordAt w_Machine_wordAt ({ frames := 0, cells := 0, slots := 0, locals := 0 } : Room) (va_Pc [.ref h_this, .int p1] (fun U => va_P (dC, dI) cls_all [oc h_this 4 fs_this, ic h_stack k_stack 23200 f_stack] U.heap ∧ va_K (dC, dI) cls_all [(k_stack, .int)] U)) (vp_Si (fun r : Int32 => (r = if p1 < 0 ∨ 23200 ≤ p1 then 0 else f_stack p1.toNatClampNeg))) 0 0 (fun _ => False) := by
  refine Met.ofW (cc := b_Machine_wordAt) (maxL := 2) (ret := (some .int)) (by decide) rfl ?_
  intro p e s m args below meth c s₁ B hml hv
  obtain ⟨rfl, hP, hK⟩ := hv
  have hx := B.exec
  have hb := B.bytes
  have hr := B.returns
  have hT : ∀ w ∈ lw_good, w.before _ s = true := fun w h => atoms_spec (ws := w_Machine_wordAt) B.pre w (List.mem_cons_of_mem _ h)
  have hown : s.vm.findClass R_Machine = some m.cls := findClass_of_methodNamed B.named
  have hlocks := B.notSynchronized
  have hl := lv_entry ([.ref h_this, .int p1]) (n := 2) (Nat.le_of_ble_eq_true rfl)
  rw [lg_entry_eq]
  generalize (lg_sl ([.ref h_this, .int p1]) ++ List.replicate (2 - (lg_sl ([.ref h_this, .int p1])).length) Slot.unset).toArray = ls at hl ⊢
  have hl : lv_has ls 2 [(0, .ref h_this), (1, .int p1)] := hl
  refine lv_iload_n hx hb d_Machine_wordAt_0 rfl (lv_at hl 1 rfl) ?_
  refine lv_if_lt (tgt := 13) hx hb d_Machine_wordAt_1 (by decide) (fun c1 => ?_) (fun c1 => ?_)
  · refine lv_iconst (v := 0) hx hb d_Machine_wordAt_13 (by decide) ?_
    refine lv_goto (tgt := 23) hx hb d_Machine_wordAt_14 (by decide) ?_
    refine W.iret (v := 0) hx hb hr (fun t ht hW => ⟨0, rfl, ?_, ht⟩) (fun q h => by cases h) d_Machine_wordAt_23
    (repeat' split) <;> first | rfl | (simp_all; done) | (exfalso; simp only [i_lt, i_le, i_eq, Int32.reduceToInt] at *; omega)
  · refine lv_iload_n hx hb d_Machine_wordAt_4 rfl (lv_at hl 1 rfl) ?_
    refine lv_aload_n hx hb d_Machine_wordAt_5 rfl (lv_at hl 0 rfl) ?_
    refine va_get (D := (dC, dI)) (ci := 4) (v := .ref h_stack) (C := R_Machine) (T := F_Machine) (N := 18) hx hb hT i_Machine hown hK hP 0 rfl rfl 3 (by decide) (hT _ fl_Machine_20) (fun _ h9 => h9) g_this_stack d_Machine_wordAt_6 ?_
    refine va_alen (v := 23200) hx hb hK hP 1 0 rfl rfl rfl d_Machine_wordAt_9 ?_
    refine lv_icmp_lt (tgt := 17) hx hb d_Machine_wordAt_10 (by decide) (fun c2 => ?_) (fun c2 => ?_)
    · refine lv_aload_n hx hb d_Machine_wordAt_17 rfl (lv_at hl 0 rfl) ?_
      refine va_get (D := (dC, dI)) (ci := 4) (v := .ref h_stack) (C := R_Machine) (T := F_Machine) (N := 18) hx hb hT i_Machine hown hK hP 0 rfl rfl 3 (by decide) (hT _ fl_Machine_20) (fun _ h9 => h9) g_this_stack d_Machine_wordAt_18 ?_
      refine lv_iload_n hx hb d_Machine_wordAt_21 rfl (lv_at hl 1 rfl) ?_
      refine va_iald hx hb hK hP 1 0 rfl rfl (by first | exact has_in (by assumption) (by assumption) (by assumption) | (refine vp_in_iff.mpr ?_; simp only [i_lt, i_le, i_eq, Int32.reduceToInt] at *; omega)) d_Machine_wordAt_22 ?_
      refine lv_topi (fun x3 e3 => ?_)
      refine W.iret (v := x3) hx hb hr (fun t ht hW => ⟨x3, rfl, ?_, ht⟩) (fun q h => by cases h) d_Machine_wordAt_23
      (repeat' split) <;> first | rfl | (simp_all; done) | (exfalso; simp only [i_lt, i_le, i_eq, Int32.reduceToInt] at *; omega)
    · refine lv_iconst (v := 0) hx hb d_Machine_wordAt_13 (by decide) ?_
      refine lv_goto (tgt := 23) hx hb d_Machine_wordAt_14 (by decide) ?_
      refine W.iret (v := 0) hx hb hr (fun t ht hW => ⟨0, rfl, ?_, ht⟩) (fun q h => by cases h) d_Machine_wordAt_23
      (repeat' split) <;> first | rfl | (simp_all; done) | (exfalso; simp only [i_lt, i_le, i_eq, Int32.reduceToInt] at *; omega)
set_option maxHeartbeats 1000000 in
set_option maxRecDepth 100000 in
theorem c_Machine_setWord (l : Launch) (dC : Nat → ClassId) (dI : Nat → Nat → Nat) (sz : Nat) (h_this : Nat) (h_stack : Nat) (fs_this : List Value) (k_stack : ClassId) (f_stack : Nat → Int32) (p1 : Int32) (p2 : Int32) (len_this : fs_this.length = 18) (g_this_stack : fs_this[3]? = some (.ref h_stack)) : Met l y_Machine_setWord w_Machine_setWord ({ frames := 0, cells := 0, slots := 0, locals := 0 } : Room) (va_Pc [.ref h_this, .int p1, .int p2] (fun U => U.heap.size = sz ∧ va_P (dC, dI) cls_all [oc h_this 4 fs_this, ic h_stack k_stack 23200 f_stack] U.heap ∧ va_K (dC, dI) cls_all [(k_stack, .int)] U ∧ va_D (fun _ => True) [oc h_this 4 fs_this, ic h_stack k_stack 23200 f_stack])) (va_Qv (fun (_ : Unit) => True) (fun _ t => ∃ (f_stack' : Nat → Int32), ((f_stack' = if p1 < 0 ∨ 23200 ≤ p1 then f_stack else upd f_stack p1.toNatClampNeg p2)) ∧ va_P (dC, dI) cls_all [oc h_this 4 fs_this, ic h_stack k_stack 23200 f_stack'] t.heap ∧ va_K (dC, dI) cls_all [(k_stack, .int)] t ∧ va_D (va_A [oc h_this 4 fs_this, ic h_stack k_stack 23200 f_stack] sz) [oc h_this 4 fs_this, ic h_stack k_stack 23200 f_stack']) (va_A [oc h_this 4 fs_this, ic h_stack k_stack 23200 f_stack] sz)) 0 0 (va_A [oc h_this 4 fs_this, ic h_stack k_stack 23200 f_stack] sz) := by
  refine Met.ofW (cc := b_Machine_setWord) (maxL := 3) (ret := none) (by decide) rfl ?_
  intro p e s m args below meth c s₁ B hml hv
  obtain ⟨rfl, hsz, hP, hK, hD0⟩ := hv
  have hx := B.exec
  have hb := B.bytes
  have hr := B.returns
  have hT : ∀ w ∈ lw_good, w.before _ s = true := fun w h => atoms_spec (ws := w_Machine_setWord) B.pre w (List.mem_cons_of_mem _ h)
  have hown : s.vm.findClass R_Machine = some m.cls := findClass_of_methodNamed B.named
  have hlocks := B.notSynchronized
  subst hsz
  have hD := hD0.self (sz := s.heap.size)
  generalize hAe : va_A [oc h_this 4 fs_this, ic h_stack k_stack 23200 f_stack] s.heap.size = A at hD ⊢
  have hA : ∀ q : Nat, s.heap.size ≤ q → A q := fun q h => by rw [← hAe]; exact Or.inr h
  have hS : va_S A s.heap s.heap [] := va_S.rf
  have hP : va_P (dC, dI) cls_all [oc h_this 4 fs_this, ic h_stack k_stack 23200 f_stack] s.heap := hP
  have hl := lv_entry ([.ref h_this, .int p1, .int p2]) (n := 3) (Nat.le_of_ble_eq_true rfl)
  rw [lg_entry_eq]
  generalize (lg_sl ([.ref h_this, .int p1, .int p2]) ++ List.replicate (3 - (lg_sl ([.ref h_this, .int p1, .int p2])).length) Slot.unset).toArray = ls at hl ⊢
  have hl : lv_has ls 3 [(0, .ref h_this), (1, .int p1), (2, .int p2)] := hl
  refine lv_iload_n hx hb d_Machine_setWord_0 rfl (lv_at hl 1 rfl) ?_
  refine lv_if_lt (tgt := 20) hx hb d_Machine_setWord_1 (by decide) (fun c1 => ?_) (fun c1 => ?_)
  · have hP9 := hP.sub (ws' := [oc h_this 4 fs_this, ic h_stack k_stack 23200 f_stack]) [0, 1] rfl
    have hD9 := hD.sub (ws' := [oc h_this 4 fs_this, ic h_stack k_stack 23200 f_stack]) [0, 1] (by decide) rfl
    have hK9 := hK.sub (tys' := [(k_stack, .int)]) [0] rfl
    exact W.vret hx hb hr (fun t ht hW => ⟨⟨(), rfl, trivial, f_stack, (by subst_vars; (repeat' split) <;> first | rfl | (exfalso; simp only [i_lt, i_le, i_eq, Int32.reduceToInt] at *; omega)), by rw [ht]; exact hP9, va_K.moved hW.alike hK9, hD9⟩, hS.F ht⟩) hS.2.2 d_Machine_setWord_20
  · refine lv_iload_n hx hb d_Machine_setWord_4 rfl (lv_at hl 1 rfl) ?_
    refine lv_aload_n hx hb d_Machine_setWord_5 rfl (lv_at hl 0 rfl) ?_
    refine va_get (D := (dC, dI)) (ci := 4) (v := .ref h_stack) (C := R_Machine) (T := F_Machine) (N := 18) hx hb hT i_Machine hown hK hP 0 rfl rfl 3 (by decide) (hT _ fl_Machine_20) (fun _ h9 => h9) g_this_stack d_Machine_setWord_6 ?_
    refine va_alen (v := 23200) hx hb hK hP 1 0 rfl rfl rfl d_Machine_setWord_9 ?_
    refine lv_icmp_ge (tgt := 20) hx hb d_Machine_setWord_10 (by decide) (fun c2 => ?_) (fun c2 => ?_)
    · have hP9 := hP.sub (ws' := [oc h_this 4 fs_this, ic h_stack k_stack 23200 f_stack]) [0, 1] rfl
      have hD9 := hD.sub (ws' := [oc h_this 4 fs_this, ic h_stack k_stack 23200 f_stack]) [0, 1] (by decide) rfl
      have hK9 := hK.sub (tys' := [(k_stack, .int)]) [0] rfl
      exact W.vret hx hb hr (fun t ht hW => ⟨⟨(), rfl, trivial, f_stack, (by subst_vars; (repeat' split) <;> first | rfl | (exfalso; simp only [i_lt, i_le, i_eq, Int32.reduceToInt] at *; omega)), by rw [ht]; exact hP9, va_K.moved hW.alike hK9, hD9⟩, hS.F ht⟩) hS.2.2 d_Machine_setWord_20
    · refine lv_aload_n hx hb d_Machine_setWord_13 rfl (lv_at hl 0 rfl) ?_
      refine va_get (D := (dC, dI)) (ci := 4) (v := .ref h_stack) (C := R_Machine) (T := F_Machine) (N := 18) hx hb hT i_Machine hown hK hP 0 rfl rfl 3 (by decide) (hT _ fl_Machine_20) (fun _ h9 => h9) g_this_stack d_Machine_setWord_14 ?_
      refine lv_iload_n hx hb d_Machine_setWord_17 rfl (lv_at hl 1 rfl) ?_
      refine lv_iload_n hx hb d_Machine_setWord_18 rfl (lv_at hl 2 rfl) ?_
      refine va_iast hx hb hK hP hD hS 1 0 rfl rfl (by first | exact has_in (by assumption) (by assumption) (by assumption) | (refine vp_in_iff.mpr ?_; simp only [i_lt, i_le, i_eq, Int32.reduceToInt] at *; omega)) d_Machine_setWord_19 (fun H locs hP hD hS => ?_)
      have hP : va_P (dC, dI) cls_all [oc h_this 4 fs_this, ic h_stack k_stack 23200 (upd f_stack p1.toNatClampNeg p2)] H := hP
      have hD : va_D A [oc h_this 4 fs_this, ic h_stack k_stack 23200 (upd f_stack p1.toNatClampNeg p2)] := hD
      obtain ⟨f3, ef3⟩ : ∃ g, g = upd f_stack p1.toNatClampNeg p2 := ⟨_, rfl⟩
      rw [← ef3] at hP hD
      have hP9 := hP.sub (ws' := [oc h_this 4 fs_this, ic h_stack k_stack 23200 f3]) [0, 1] rfl
      have hD9 := hD.sub (ws' := [oc h_this 4 fs_this, ic h_stack k_stack 23200 f3]) [0, 1] (by decide) rfl
      have hK9 := hK.sub (tys' := [(k_stack, .int)]) [0] rfl
      exact W.vret hx hb hr (fun t ht hW => ⟨⟨(), rfl, trivial, f3, (by subst_vars; (repeat' split) <;> first | rfl | (exfalso; simp only [i_lt, i_le, i_eq, Int32.reduceToInt] at *; omega)), by rw [ht]; exact hP9, va_K.moved hW.alike hK9, hD9⟩, hS.F ht⟩) hS.2.2 d_Machine_setWord_20
set_option maxHeartbeats 1000000 in
set_option maxRecDepth 100000 in
theorem c_Memory_pageWords (l : Launch) (dC : Nat → ClassId) (dI : Nat → Nat → Nat)  (h_this : Nat) (fs_this : List Value) (v_this_wordsAPage : Int32) (len_this : fs_this.length = 14) (g_this_wordsAPage : fs_this[4]? = some (.int v_this_wordsAPage)) : Met l y_Memory_pageWords w_Memory_pageWords ({ frames := 0, cells := 0, slots := 0, locals := 0 } : Room) (va_Pc [.ref h_this] (fun U => va_P (dC, dI) cls_all [oc h_this 5 fs_this] U.heap ∧ va_K (dC, dI) cls_all [] U)) (vp_Si (fun r : Int32 => (r = v_this_wordsAPage))) 0 0 (fun _ => False) := by
  refine Met.ofW (cc := b_Memory_pageWords) (maxL := 1) (ret := (some .int)) (by decide) rfl ?_
  intro p e s m args below meth c s₁ B hml hv
  obtain ⟨rfl, hP, hK⟩ := hv
  have hx := B.exec
  have hb := B.bytes
  have hr := B.returns
  have hT : ∀ w ∈ lw_good, w.before _ s = true := fun w h => atoms_spec (ws := w_Memory_pageWords) B.pre w (List.mem_cons_of_mem _ h)
  have hown : s.vm.findClass R_Memory = some m.cls := findClass_of_methodNamed B.named
  have hlocks := B.notSynchronized
  have hl := lv_entry ([.ref h_this]) (n := 1) (Nat.le_of_ble_eq_true rfl)
  rw [lg_entry_eq]
  generalize (lg_sl ([.ref h_this]) ++ List.replicate (1 - (lg_sl ([.ref h_this])).length) Slot.unset).toArray = ls at hl ⊢
  have hl : lv_has ls 1 [(0, .ref h_this)] := hl
  refine lv_aload_n hx hb d_Memory_pageWords_0 rfl (lv_at hl 0 rfl) ?_
  refine va_get (D := (dC, dI)) (ci := 5) (v := .int v_this_wordsAPage) (C := R_Memory) (T := F_Memory) (N := 14) hx hb hT i_Memory hown hK hP 0 rfl rfl 4 (by decide) (hT _ fl_Memory_52) (fun _ h9 => h9) g_this_wordsAPage d_Memory_pageWords_1 ?_
  refine W.iret (v := v_this_wordsAPage) hx hb hr (fun t ht hW => ⟨v_this_wordsAPage, rfl, ?_, ht⟩) (fun q h => by cases h) d_Memory_pageWords_4
  rfl
