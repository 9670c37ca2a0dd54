abbrev b_Source_isDigit : ByteArray := prog_10_method_10_code
abbrev y_Source_isDigit : MethodName := ⟨R_Source, "isDigit", "(C)Z"⟩
theorem co_Source_isDigit : Cond.code y_Source_isDigit b_Source_isDigit 1 (some .boolean) ∈ lw_good := lg_in (tin_4 _ (List.mem_of_getElem? (i := 56) rfl)) rfl
abbrev w_Source_isDigit : List Cond := Cond.code y_Source_isDigit b_Source_isDigit 1 (some .boolean) :: lw_good
theorem st_Source_isDigit : Cond.static y_Source_isDigit ∈ lw_good := lg_right (i := 775) (by decide +kernel) rfl
theorem d_Source_isDigit_0 : decode b_Source_isDigit 0 = .ok (.iload_n 0, 1) := by decide +kernel
theorem d_Source_isDigit_1 : decode b_Source_isDigit 1 = .ok (.bipush 48, 2) := by decide +kernel
theorem d_Source_isDigit_3 : decode b_Source_isDigit 3 = .ok (.if_icmp .lt 13, 3) := by decide +kernel
theorem d_Source_isDigit_6 : decode b_Source_isDigit 6 = .ok (.iload_n 0, 1) := by decide +kernel
theorem d_Source_isDigit_7 : decode b_Source_isDigit 7 = .ok (.bipush 57, 2) := by decide +kernel
theorem d_Source_isDigit_9 : decode b_Source_isDigit 9 = .ok (.if_icmp .gt 7, 3) := by decide +kernel
theorem d_Source_isDigit_12 : decode b_Source_isDigit 12 = .ok (.iconst 1, 1) := by decide +kernel
theorem d_Source_isDigit_13 : decode b_Source_isDigit 13 = .ok (.goto 4, 3) := by decide +kernel
theorem d_Source_isDigit_16 : decode b_Source_isDigit 16 = .ok (.iconst 0, 1) := by decide +kernel
theorem d_Source_isDigit_17 : decode b_Source_isDigit 17 = .ok (.ireturn, 1) := by decide +kernel
abbrev b_Source_isSmall : ByteArray := prog_10_method_11_code
abbrev y_Source_isSmall : MethodName := ⟨R_Source, "isSmall", "(C)Z"⟩
theorem co_Source_isSmall : Cond.code y_Source_isSmall b_Source_isSmall 1 (some .boolean) ∈ lw_good := lg_in (tin_4 _ (List.mem_of_getElem? (i := 59) rfl)) rfl
abbrev w_Source_isSmall : List Cond := Cond.code y_Source_isSmall b_Source_isSmall 1 (some .boolean) :: lw_good
theorem st_Source_isSmall : Cond.static y_Source_isSmall ∈ lw_good := lg_right (i := 778) (by decide +kernel) rfl
theorem d_Source_isSmall_0 : decode b_Source_isSmall 0 = .ok (.iload_n 0, 1) := by decide +kernel
theorem d_Source_isSmall_1 : decode b_Source_isSmall 1 = .ok (.bipush 97, 2) := by decide +kernel
theorem d_Source_isSmall_3 : decode b_Source_isSmall 3 = .ok (.if_icmp .lt 13, 3) := by decide +kernel
theorem d_Source_isSmall_6 : decode b_Source_isSmall 6 = .ok (.iload_n 0, 1) := by decide +kernel
theorem d_Source_isSmall_7 : decode b_Source_isSmall 7 = .ok (.bipush 122, 2) := by decide +kernel
theorem d_Source_isSmall_9 : decode b_Source_isSmall 9 = .ok (.if_icmp .gt 7, 3) := by decide +kernel
theorem d_Source_isSmall_12 : decode b_Source_isSmall 12 = .ok (.iconst 1, 1) := by decide +kernel
theorem d_Source_isSmall_13 : decode b_Source_isSmall 13 = .ok (.goto 4, 3) := by decide +kernel
theorem d_Source_isSmall_16 : decode b_Source_isSmall 16 = .ok (.iconst 0, 1) := by decide +kernel
theorem d_Source_isSmall_17 : decode b_Source_isSmall 17 = .ok (.ireturn, 1) := by decide +kernel
abbrev b_Source_isLetterOrDigit : ByteArray := prog_10_method_12_code
abbrev y_Source_isLetterOrDigit : MethodName := ⟨R_Source, "isLetterOrDigit", "(C)Z"⟩
theorem co_Source_isLetterOrDigit : Cond.code y_Source_isLetterOrDigit b_Source_isLetterOrDigit 1 (some .boolean) ∈ lw_good := lg_in (tin_4 _ (List.mem_of_getElem? (i := 53) rfl)) rfl
abbrev w_Source_isLetterOrDigit : List Cond := Cond.code y_Source_isLetterOrDigit b_Source_isLetterOrDigit 1 (some .boolean) :: lw_good
theorem st_Source_isLetterOrDigit : Cond.static y_Source_isLetterOrDigit ∈ lw_good := lg_right (i := 772) (by decide +kernel) rfl
theorem d_Source_isLetterOrDigit_0 : decode b_Source_isLetterOrDigit 0 = .ok (.iload_n 0, 1) := by decide +kernel
theorem d_Source_isLetterOrDigit_1 : decode b_Source_isLetterOrDigit 1 = .ok (.invokestatic 121, 3) := by decide +kernel
theorem ml_Source_121 : Cond.methodLink R_Source 121 ⟨"PointerHouse$Source", "isDigit", "(C)Z"⟩ ∈ lw_good := lg_right (i := 774) (by decide +kernel) rfl
theorem d_Source_isLetterOrDigit_4 : decode b_Source_isLetterOrDigit 4 = .ok (.ifCond .ne 22, 3) := by decide +kernel
theorem d_Source_isLetterOrDigit_7 : decode b_Source_isLetterOrDigit 7 = .ok (.iload_n 0, 1) := by decide +kernel
theorem d_Source_isLetterOrDigit_8 : decode b_Source_isLetterOrDigit 8 = .ok (.invokestatic 136, 3) := by decide +kernel
theorem ml_Source_136 : Cond.methodLink R_Source 136 ⟨"PointerHouse$Source", "isSmall", "(C)Z"⟩ ∈ lw_good := lg_right (i := 777) (by decide +kernel) rfl
theorem d_Source_isLetterOrDigit_11 : decode b_Source_isLetterOrDigit 11 = .ok (.ifCond .ne 15, 3) := by decide +kernel
theorem d_Source_isLetterOrDigit_14 : decode b_Source_isLetterOrDigit 14 = .ok (.iload_n 0, 1) := by decide +kernel
theorem d_Source_isLetterOrDigit_15 : decode b_Source_isLetterOrDigit 15 = .ok (.bipush 65, 2) := by decide +kernel
theorem d_Source_isLetterOrDigit_17 : decode b_Source_isLetterOrDigit 17 = .ok (.if_icmp .lt 13, 3) := by decide +kernel
theorem d_Source_isLetterOrDigit_20 : decode b_Source_isLetterOrDigit 20 = .ok (.iload_n 0, 1) := by decide +kernel
theorem d_Source_isLetterOrDigit_21 : decode b_Source_isLetterOrDigit 21 = .ok (.bipush 90, 2) := by decide +kernel
theorem d_Source_isLetterOrDigit_23 : decode b_Source_isLetterOrDigit 23 = .ok (.if_icmp .gt 7, 3) := by decide +kernel
theorem d_Source_isLetterOrDigit_26 : decode b_Source_isLetterOrDigit 26 = .ok (.iconst 1, 1) := by decide +kernel
theorem d_Source_isLetterOrDigit_27 : decode b_Source_isLetterOrDigit 27 = .ok (.goto 4, 3) := by decide +kernel
theorem d_Source_isLetterOrDigit_30 : decode b_Source_isLetterOrDigit 30 = .ok (.iconst 0, 1) := by decide +kernel
theorem d_Source_isLetterOrDigit_31 : decode b_Source_isLetterOrDigit 31 = .ok (.ireturn, 1) := by decide +kernel
set_option maxHeartbeats 1000000 in
set_option maxRecDepth 100000 in
theorem c_Source_isDigit (l : Launch) (dC : Nat → ClassId) (dI : Nat → Nat → Nat)  (p1 : Int32) : Met l y_Source_isDigit w_Source_isDigit ({ frames := 0, cells := 0, slots := 0, locals := 0 } : Room) (va_Pc [.int p1] (fun U => va_P (dC, dI) cls_all [] U.heap ∧ va_K (dC, dI) cls_all [] U)) (vp_Si (fun r : Int32 => (r = if 48 ≤ p1 ∧ p1 ≤ 57 then 1 else 0))) 0 0 (fun _ => False) := by
  refine Met.ofW (cc := b_Source_isDigit) (maxL := 1) (ret := (some .boolean)) (by decide) rfl ?_
  intro p e s m args below meth c s₁ B hml hv
  obtain ⟨rfl, hP, hK⟩ := hv
  have hx := B.exec
  have hb := B.bytes
  have hr := B.returns
  have hT : ∀ w ∈ lw_good, w.before _ s = true := fun w h => atoms_spec (ws := w_Source_isDigit) B.pre w (List.mem_cons_of_mem _ h)
  have hown : s.vm.findClass R_Source = some m.cls := findClass_of_methodNamed B.named
  have hlocks := B.notSynchronized
  have hl := lv_entry ([.int p1]) (n := 1) (Nat.le_of_ble_eq_true rfl)
  rw [lg_entry_eq]
  generalize (lg_sl ([.int p1]) ++ List.replicate (1 - (lg_sl ([.int p1])).length) Slot.unset).toArray = ls at hl ⊢
  have hl : lv_has ls 1 [(0, .int p1)] := hl
  refine lv_iload_n hx hb d_Source_isDigit_0 rfl (lv_at hl 0 rfl) ?_
  refine lv_bipush (v := 48) hx hb d_Source_isDigit_1 (by decide) ?_
  refine lv_icmp_lt (tgt := 16) hx hb d_Source_isDigit_3 (by decide) (fun c1 => ?_) (fun c1 => ?_)
  · refine lv_iconst (v := 0) hx hb d_Source_isDigit_16 (by decide) ?_
    refine W.zret (v := 0) hx hb hr (by first | rfl | decide | assumption) (fun t ht hW => ⟨0, rfl, ?_, ht⟩) (fun q h => by cases h) d_Source_isDigit_17
    (repeat' split) <;> first | rfl | (simp_all; done) | (exfalso; simp only [i_lt, i_le, i_eq, Int32.reduceToInt] at *; omega)
  · refine lv_iload_n hx hb d_Source_isDigit_6 rfl (lv_at hl 0 rfl) ?_
    refine lv_bipush (v := 57) hx hb d_Source_isDigit_7 (by decide) ?_
    refine lv_icmp_gt (tgt := 16) hx hb d_Source_isDigit_9 (by decide) (fun c2 => ?_) (fun c2 => ?_)
    · refine lv_iconst (v := 0) hx hb d_Source_isDigit_16 (by decide) ?_
      refine W.zret (v := 0) hx hb hr (by first | rfl | decide | assumption) (fun t ht hW => ⟨0, rfl, ?_, ht⟩) (fun q h => by cases h) d_Source_isDigit_17
      (repeat' split) <;> first | rfl | (simp_all; done) | (exfalso; simp only [i_lt, i_le, i_eq, Int32.reduceToInt] at *; omega)
    · refine lv_iconst (v := 1) hx hb d_Source_isDigit_12 (by decide) ?_
      refine lv_goto (tgt := 17) hx hb d_Source_isDigit_13 (by decide) ?_
      refine W.zret (v := 1) hx hb hr (by first | rfl | decide | assumption) (fun t ht hW => ⟨1, rfl, ?_, ht⟩) (fun q h => by cases h) d_Source_isDigit_17
      (repeat' split) <;> first | rfl | (simp_all; done) | (exfalso; simp only [i_lt, i_le, i_eq, Int32.reduceToInt] at *; omega)
set_option maxHeartbeats 1000000 in
set_option maxRecDepth 100000 in
theorem c_Source_isSmall (l : Launch) (dC : Nat → ClassId) (dI : Nat → Nat → Nat)  (p1 : Int32) : Met l y_Source_isSmall w_Source_isSmall ({ frames := 0, cells := 0, slots := 0, locals := 0 } : Room) (va_Pc [.int p1] (fun U => va_P (dC, dI) cls_all [] U.heap ∧ va_K (dC, dI) cls_all [] U)) (vp_Si (fun r : Int32 => (r = if 97 ≤ p1 ∧ p1 ≤ 122 then 1 else 0))) 0 0 (fun _ => False) := by
  refine Met.ofW (cc := b_Source_isSmall) (maxL := 1) (ret := (some .boolean)) (by decide) rfl ?_
  intro p e s m args below meth c s₁ B hml hv
  obtain ⟨rfl, hP, hK⟩ := hv
  have hx := B.exec
  have hb := B.bytes
  have hr := B.returns
  have hT : ∀ w ∈ lw_good, w.before _ s = true := fun w h => atoms_spec (ws := w_Source_isSmall) B.pre w (List.mem_cons_of_mem _ h)
  have hown : s.vm.findClass R_Source = some m.cls := findClass_of_methodNamed B.named
  have hlocks := B.notSynchronized
  have hl := lv_entry ([.int p1]) (n := 1) (Nat.le_of_ble_eq_true rfl)
  rw [lg_entry_eq]
  generalize (lg_sl ([.int p1]) ++ List.replicate (1 - (lg_sl ([.int p1])).length) Slot.unset).toArray = ls at hl ⊢
  have hl : lv_has ls 1 [(0, .int p1)] := hl
  refine lv_iload_n hx hb d_Source_isSmall_0 rfl (lv_at hl 0 rfl) ?_
  refine lv_bipush (v := 97) hx hb d_Source_isSmall_1 (by decide) ?_
  refine lv_icmp_lt (tgt := 16) hx hb d_Source_isSmall_3 (by decide) (fun c1 => ?_) (fun c1 => ?_)
  · refine lv_iconst (v := 0) hx hb d_Source_isSmall_16 (by decide) ?_
    refine W.zret (v := 0) hx hb hr (by first | rfl | decide | assumption) (fun t ht hW => ⟨0, rfl, ?_, ht⟩) (fun q h => by cases h) d_Source_isSmall_17
    (repeat' split) <;> first | rfl | (simp_all; done) | (exfalso; simp only [i_lt, i_le, i_eq, Int32.reduceToInt] at *; omega)
  · refine lv_iload_n hx hb d_Source_isSmall_6 rfl (lv_at hl 0 rfl) ?_
    refine lv_bipush (v := 122) hx hb d_Source_isSmall_7 (by decide) ?_
    refine lv_icmp_gt (tgt := 16) hx hb d_Source_isSmall_9 (by decide) (fun c2 => ?_) (fun c2 => ?_)
    · refine lv_iconst (v := 0) hx hb d_Source_isSmall_16 (by decide) ?_
      refine W.zret (v := 0) hx hb hr (by first | rfl | decide | assumption) (fun t ht hW => ⟨0, rfl, ?_, ht⟩) (fun q h => by cases h) d_Source_isSmall_17
      (repeat' split) <;> first | rfl | (simp_all; done) | (exfalso; simp only [i_lt, i_le, i_eq, Int32.reduceToInt] at *; omega)
    · refine lv_iconst (v := 1) hx hb d_Source_isSmall_12 (by decide) ?_
      refine lv_goto (tgt := 17) hx hb d_Source_isSmall_13 (by decide) ?_
      refine W.zret (v := 1) hx hb hr (by first | rfl | decide | assumption) (fun t ht hW => ⟨1, rfl, ?_, ht⟩) (fun q h => by cases h) d_Source_isSmall_17
      (repeat' split) <;> first | rfl | (simp_all; done) | (exfalso; simp only [i_lt, i_le, i_eq, Int32.reduceToInt] at *; omega)
set_option maxHeartbeats 1000000 in
set_option maxRecDepth 100000 in
theorem c_Source_isLetterOrDigit (l : Launch) (dC : Nat → ClassId) (dI : Nat → Nat → Nat)  (p1 : Int32) : Met l y_Source_isLetterOrDigit w_Source_isLetterOrDigit ({ frames := 1, cells := 0, slots := 0, locals := 20 } : Room) (va_Pc [.int p1] (fun U => va_P (dC, dI) cls_all [] U.heap ∧ va_K (dC, dI) cls_all [] U)) (vp_Si (fun r : Int32 => (r = if (48 ≤ p1 ∧ p1 ≤ 57) ∨ (97 ≤ p1 ∧ p1 ≤ 122) ∨ (65 ≤ p1 ∧ p1 ≤ 90) then 1 else 0))) 0 0 (fun _ => False) := by
  refine Met.ofW (cc := b_Source_isLetterOrDigit) (maxL := 1) (ret := (some .boolean)) (by decide) rfl ?_
  intro p e s m args below meth c s₁ B hml hv
  obtain ⟨rfl, hP, hK⟩ := hv
  have hx := B.exec
  have hb := B.bytes
  have hr := B.returns
  have hT : ∀ w ∈ lw_good, w.before _ s = true := fun w h => atoms_spec (ws := w_Source_isLetterOrDigit) B.pre w (List.mem_cons_of_mem _ h)
  have hown : s.vm.findClass R_Source = some m.cls := findClass_of_methodNamed B.named
  have hlocks := B.notSynchronized
  have hl := lv_entry ([.int p1]) (n := 1) (Nat.le_of_ble_eq_true rfl)
  rw [lg_entry_eq]
  generalize (lg_sl ([.int p1]) ++ List.replicate (1 - (lg_sl ([.int p1])).length) Slot.unset).toArray = ls at hl ⊢
  have hl : lv_has ls 1 [(0, .int p1)] := hl
  refine lv_iload_n hx hb d_Source_isLetterOrDigit_0 rfl (lv_at hl 0 rfl) ?_
  have hPc := hP.sub (ws' := []) [] rfl
  have hKc := hK.sub (tys' := []) [] rfl
  refine vp_callSi (va_Run.run (va_runS (As := [.int p1]) (rest := []) ⟨hx, hb, hml, hown, hT⟩ (c_Source_isDigit l dC dI (p1 := p1) ) (va_cwS 1 hT (gS ml_Source_121 st_Source_isDigit ini_Source co_Source_isDigit) rfl rfl rfl (by decide +kernel) ⟨Nat.le_of_ble_eq_true rfl, Nat.le_of_ble_eq_true rfl⟩) ⟨fbS, fun U hU hW => ⟨rfl, by rw [hU]; exact hPc, va_K.moved hW.alike hKc⟩⟩ rfl rfl hl.1 rfl (lv_room (Nat.le_of_ble_eq_true rfl)) d_Source_isLetterOrDigit_1 ⟨Nat.le_of_ble_eq_true rfl, Nat.le_of_ble_eq_true rfl⟩)) (fun r1 hr1 => ?_)
  refine lv_if_ne (tgt := 26) hx hb d_Source_isLetterOrDigit_4 (by decide) (fun c2 => ?_) (fun c2 => ?_)
  · refine lv_iconst (v := 1) hx hb d_Source_isLetterOrDigit_26 (by decide) ?_
    refine lv_goto (tgt := 31) hx hb d_Source_isLetterOrDigit_27 (by decide) ?_
    refine W.zret (v := 1) hx hb hr (by first | rfl | decide | assumption) (fun t ht hW => ⟨1, rfl, ?_, ht⟩) (fun q h => by cases h) d_Source_isLetterOrDigit_31
    (by_cases a1 : 48 ≤ p1 ∧ p1 ≤ 57) <;> (by_cases a2 : 97 ≤ p1 ∧ p1 ≤ 122) <;> (by_cases a3 : 65 ≤ p1 ∧ p1 ≤ 90) <;> first | (simp only [a1, a2, a3, or_self, or_true, true_or, or_false, false_or, if_true, if_false]; done) | (simp_all; done) | (exfalso; simp only [i_lt, i_le, Int32.reduceToInt] at *; omega)
  · refine lv_iload_n hx hb d_Source_isLetterOrDigit_7 rfl (lv_at hl 0 rfl) ?_
    have hPc := hP.sub (ws' := []) [] rfl
    have hKc := hK.sub (tys' := []) [] rfl
    refine vp_callSi (va_Run.run (va_runS (As := [.int p1]) (rest := []) ⟨hx, hb, hml, hown, hT⟩ (c_Source_isSmall l dC dI (p1 := p1) ) (va_cwS 1 hT (gS ml_Source_136 st_Source_isSmall ini_Source co_Source_isSmall) rfl rfl rfl (by decide +kernel) ⟨Nat.le_of_ble_eq_true rfl, Nat.le_of_ble_eq_true rfl⟩) ⟨fbS, fun U hU hW => ⟨rfl, by rw [hU]; exact hPc, va_K.moved hW.alike hKc⟩⟩ rfl rfl hl.1 rfl (lv_room (Nat.le_of_ble_eq_true rfl)) d_Source_isLetterOrDigit_8 ⟨Nat.le_of_ble_eq_true rfl, Nat.le_of_ble_eq_true rfl⟩)) (fun r3 hr3 => ?_)
    refine lv_if_ne (tgt := 26) hx hb d_Source_isLetterOrDigit_11 (by decide) (fun c4 => ?_) (fun c4 => ?_)
    · refine lv_iconst (v := 1) hx hb d_Source_isLetterOrDigit_26 (by decide) ?_
      refine lv_goto (tgt := 31) hx hb d_Source_isLetterOrDigit_27 (by decide) ?_
      refine W.zret (v := 1) hx hb hr (by first | rfl | decide | assumption) (fun t ht hW => ⟨1, rfl, ?_, ht⟩) (fun q h => by cases h) d_Source_isLetterOrDigit_31
      (by_cases a1 : 48 ≤ p1 ∧ p1 ≤ 57) <;> (by_cases a2 : 97 ≤ p1 ∧ p1 ≤ 122) <;> (by_cases a3 : 65 ≤ p1 ∧ p1 ≤ 90) <;> first | (simp only [a1, a2, a3, or_self, or_true, true_or, or_false, false_or, if_true, if_false]; done) | (simp_all; done) | (exfalso; simp only [i_lt, i_le, Int32.reduceToInt] at *; omega)
    · refine lv_iload_n hx hb d_Source_isLetterOrDigit_14 rfl (lv_at hl 0 rfl) ?_
      refine lv_bipush (v := 65) hx hb d_Source_isLetterOrDigit_15 (by decide) ?_
      refine lv_icmp_lt (tgt := 30) hx hb d_Source_isLetterOrDigit_17 (by decide) (fun c5 => ?_) (fun c5 => ?_)
      · refine lv_iconst (v := 0) hx hb d_Source_isLetterOrDigit_30 (by decide) ?_
        refine W.zret (v := 0) hx hb hr (by first | rfl | decide | assumption) (fun t ht hW => ⟨0, rfl, ?_, ht⟩) (fun q h => by cases h) d_Source_isLetterOrDigit_31
        (by_cases a1 : 48 ≤ p1 ∧ p1 ≤ 57) <;> (by_cases a2 : 97 ≤ p1 ∧ p1 ≤ 122) <;> (by_cases a3 : 65 ≤ p1 ∧ p1 ≤ 90) <;> first | (simp only [a1, a2, a3, or_self, or_true, true_or, or_false, false_or, if_true, if_false]; done) | (simp_all; done) | (exfalso; simp only [i_lt, i_le, Int32.reduceToInt] at *; omega)
      · refine lv_iload_n hx hb d_Source_isLetterOrDigit_20 rfl (lv_at hl 0 rfl) ?_
        refine lv_bipush (v := 90) hx hb d_Source_isLetterOrDigit_21 (by decide) ?_
        refine lv_icmp_gt (tgt := 30) hx hb d_Source_isLetterOrDigit_23 (by decide) (fun c6 => ?_) (fun c6 => ?_)
        · refine lv_iconst (v := 0) hx hb d_Source_isLetterOrDigit_30 (by decide) ?_
          refine W.zret (v := 0) hx hb hr (by first | rfl | decide | assumption) (fun t ht hW => ⟨0, rfl, ?_, ht⟩) (fun q h => by cases h) d_Source_isLetterOrDigit_31
          (by_cases a1 : 48 ≤ p1 ∧ p1 ≤ 57) <;> (by_cases a2 : 97 ≤ p1 ∧ p1 ≤ 122) <;> (by_cases a3 : 65 ≤ p1 ∧ p1 ≤ 90) <;> first | (simp only [a1, a2, a3, or_self, or_true, true_or, or_false, false_or, if_true, if_false]; done) | (simp_all; done) | (exfalso; simp only [i_lt, i_le, Int32.reduceToInt] at *; omega)
        · refine lv_iconst (v := 1) hx hb d_Source_isLetterOrDigit_26 (by decide) ?_
          refine lv_goto (tgt := 31) hx hb d_Source_isLetterOrDigit_27 (by decide) ?_
          refine W.zret (v := 1) hx hb hr (by first | rfl | decide | assumption) (fun t ht hW => ⟨1, rfl, ?_, ht⟩) (fun q h => by cases h) d_Source_isLetterOrDigit_31
          (by_cases a1 : 48 ≤ p1 ∧ p1 ≤ 57) <;> (by_cases a2 : 97 ≤ p1 ∧ p1 ≤ 122) <;> (by_cases a3 : 65 ≤ p1 ∧ p1 ≤ 90) <;> first | (simp only [a1, a2, a3, or_self, or_true, true_or, or_false, false_or, if_true, if_false]; done) | (simp_all; done) | (exfalso; simp only [i_lt, i_le, Int32.reduceToInt] at *; omega)
