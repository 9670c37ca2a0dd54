abbrev b_Model_isSmall : ByteArray := prog_14_method_5_code
abbrev y_Model_isSmall : MethodName := ⟨R_Model, "isSmall", "(I)Z"⟩
theorem co_Model_isSmall : Cond.code y_Model_isSmall b_Model_isSmall 1 (some .boolean) ∈ lw_good := lg_in (tin_10 _ (List.mem_of_getElem? (i := 148) rfl)) rfl
abbrev w_Model_isSmall : List Cond := Cond.code y_Model_isSmall b_Model_isSmall 1 (some .boolean) :: lw_good
theorem st_Model_isSmall : Cond.static y_Model_isSmall ∈ lw_good := lg_right (i := 2307) (by decide +kernel) rfl
theorem d_Model_isSmall_0 : decode b_Model_isSmall 0 = .ok (.iload_n 0, 1) := by decide +kernel
theorem d_Model_isSmall_1 : decode b_Model_isSmall 1 = .ok (.bipush 97, 2) := by decide +kernel
theorem d_Model_isSmall_3 : decode b_Model_isSmall 3 = .ok (.if_icmp .lt 13, 3) := by decide +kernel
theorem d_Model_isSmall_6 : decode b_Model_isSmall 6 = .ok (.iload_n 0, 1) := by decide +kernel
theorem d_Model_isSmall_7 : decode b_Model_isSmall 7 = .ok (.bipush 122, 2) := by decide +kernel
theorem d_Model_isSmall_9 : decode b_Model_isSmall 9 = .ok (.if_icmp .gt 7, 3) := by decide +kernel
theorem d_Model_isSmall_12 : decode b_Model_isSmall 12 = .ok (.iconst 1, 1) := by decide +kernel
theorem d_Model_isSmall_13 : decode b_Model_isSmall 13 = .ok (.goto 4, 3) := by decide +kernel
theorem d_Model_isSmall_16 : decode b_Model_isSmall 16 = .ok (.iconst 0, 1) := by decide +kernel
theorem d_Model_isSmall_17 : decode b_Model_isSmall 17 = .ok (.ireturn, 1) := by decide +kernel
abbrev b_Model_isGreat : ByteArray := prog_14_method_6_code
abbrev y_Model_isGreat : MethodName := ⟨R_Model, "isGreat", "(I)Z"⟩
theorem co_Model_isGreat : Cond.code y_Model_isGreat b_Model_isGreat 1 (some .boolean) ∈ lw_good := lg_in (tin_10 _ (List.mem_of_getElem? (i := 151) rfl)) rfl
abbrev w_Model_isGreat : List Cond := Cond.code y_Model_isGreat b_Model_isGreat 1 (some .boolean) :: lw_good
theorem st_Model_isGreat : Cond.static y_Model_isGreat ∈ lw_good := lg_right (i := 2310) (by decide +kernel) rfl
theorem d_Model_isGreat_0 : decode b_Model_isGreat 0 = .ok (.iload_n 0, 1) := by decide +kernel
theorem d_Model_isGreat_1 : decode b_Model_isGreat 1 = .ok (.bipush 65, 2) := by decide +kernel
theorem d_Model_isGreat_3 : decode b_Model_isGreat 3 = .ok (.if_icmp .lt 13, 3) := by decide +kernel
theorem d_Model_isGreat_6 : decode b_Model_isGreat 6 = .ok (.iload_n 0, 1) := by decide +kernel
theorem d_Model_isGreat_7 : decode b_Model_isGreat 7 = .ok (.bipush 90, 2) := by decide +kernel
theorem d_Model_isGreat_9 : decode b_Model_isGreat 9 = .ok (.if_icmp .gt 7, 3) := by decide +kernel
theorem d_Model_isGreat_12 : decode b_Model_isGreat 12 = .ok (.iconst 1, 1) := by decide +kernel
theorem d_Model_isGreat_13 : decode b_Model_isGreat 13 = .ok (.goto 4, 3) := by decide +kernel
theorem d_Model_isGreat_16 : decode b_Model_isGreat 16 = .ok (.iconst 0, 1) := by decide +kernel
theorem d_Model_isGreat_17 : decode b_Model_isGreat 17 = .ok (.ireturn, 1) := by decide +kernel
abbrev b_Model_isDigit : ByteArray := prog_14_method_7_code
abbrev y_Model_isDigit : MethodName := ⟨R_Model, "isDigit", "(I)Z"⟩
theorem co_Model_isDigit : Cond.code y_Model_isDigit b_Model_isDigit 1 (some .boolean) ∈ lw_good := lg_in (tin_10 _ (List.mem_of_getElem? (i := 154) rfl)) rfl
abbrev w_Model_isDigit : List Cond := Cond.code y_Model_isDigit b_Model_isDigit 1 (some .boolean) :: lw_good
theorem st_Model_isDigit : Cond.static y_Model_isDigit ∈ lw_good := lg_right (i := 2313) (by decide +kernel) rfl
theorem d_Model_isDigit_0 : decode b_Model_isDigit 0 = .ok (.iload_n 0, 1) := by decide +kernel
theorem d_Model_isDigit_1 : decode b_Model_isDigit 1 = .ok (.bipush 48, 2) := by decide +kernel
theorem d_Model_isDigit_3 : decode b_Model_isDigit 3 = .ok (.if_icmp .lt 13, 3) := by decide +kernel
theorem d_Model_isDigit_6 : decode b_Model_isDigit 6 = .ok (.iload_n 0, 1) := by decide +kernel
theorem d_Model_isDigit_7 : decode b_Model_isDigit 7 = .ok (.bipush 57, 2) := by decide +kernel
theorem d_Model_isDigit_9 : decode b_Model_isDigit 9 = .ok (.if_icmp .gt 7, 3) := by decide +kernel
theorem d_Model_isDigit_12 : decode b_Model_isDigit 12 = .ok (.iconst 1, 1) := by decide +kernel
theorem d_Model_isDigit_13 : decode b_Model_isDigit 13 = .ok (.goto 4, 3) := by decide +kernel
theorem d_Model_isDigit_16 : decode b_Model_isDigit 16 = .ok (.iconst 0, 1) := by decide +kernel
theorem d_Model_isDigit_17 : decode b_Model_isDigit 17 = .ok (.ireturn, 1) := by decide +kernel
abbrev b_Model_isLetter : ByteArray := prog_14_method_8_code
abbrev y_Model_isLetter : MethodName := ⟨R_Model, "isLetter", "(I)Z"⟩
theorem co_Model_isLetter : Cond.code y_Model_isLetter b_Model_isLetter 1 (some .boolean) ∈ lw_good := lg_in (tin_10 _ (List.mem_of_getElem? (i := 145) rfl)) rfl
abbrev w_Model_isLetter : List Cond := Cond.code y_Model_isLetter b_Model_isLetter 1 (some .boolean) :: lw_good
theorem st_Model_isLetter : Cond.static y_Model_isLetter ∈ lw_good := lg_right (i := 2304) (by decide +kernel) rfl
theorem d_Model_isLetter_0 : decode b_Model_isLetter 0 = .ok (.iload_n 0, 1) := by decide +kernel
theorem d_Model_isLetter_1 : decode b_Model_isLetter 1 = .ok (.invokestatic 320, 3) := by decide +kernel
theorem ml_Model_320 : Cond.methodLink R_Model 320 ⟨"PointerHouseModel", "isSmall", "(I)Z"⟩ ∈ lw_good := lg_right (i := 2306) (by decide +kernel) rfl
theorem d_Model_isLetter_4 : decode b_Model_isLetter 4 = .ok (.ifCond .ne 17, 3) := by decide +kernel
theorem d_Model_isLetter_7 : decode b_Model_isLetter 7 = .ok (.iload_n 0, 1) := by decide +kernel
theorem d_Model_isLetter_8 : decode b_Model_isLetter 8 = .ok (.invokestatic 324, 3) := by decide +kernel
theorem ml_Model_324 : Cond.methodLink R_Model 324 ⟨"PointerHouseModel", "isGreat", "(I)Z"⟩ ∈ lw_good := lg_right (i := 2309) (by decide +kernel) rfl
theorem d_Model_isLetter_11 : decode b_Model_isLetter 11 = .ok (.ifCond .ne 10, 3) := by decide +kernel
theorem d_Model_isLetter_14 : decode b_Model_isLetter 14 = .ok (.iload_n 0, 1) := by decide +kernel
theorem d_Model_isLetter_15 : decode b_Model_isLetter 15 = .ok (.invokestatic 327, 3) := by decide +kernel
theorem ml_Model_327 : Cond.methodLink R_Model 327 ⟨"PointerHouseModel", "isDigit", "(I)Z"⟩ ∈ lw_good := lg_right (i := 2312) (by decide +kernel) rfl
theorem d_Model_isLetter_18 : decode b_Model_isLetter 18 = .ok (.ifCond .eq 7, 3) := by decide +kernel
theorem d_Model_isLetter_21 : decode b_Model_isLetter 21 = .ok (.iconst 1, 1) := by decide +kernel
theorem d_Model_isLetter_22 : decode b_Model_isLetter 22 = .ok (.goto 4, 3) := by decide +kernel
theorem d_Model_isLetter_25 : decode b_Model_isLetter 25 = .ok (.iconst 0, 1) := by decide +kernel
theorem d_Model_isLetter_26 : decode b_Model_isLetter 26 = .ok (.ireturn, 1) := by decide +kernel
set_option maxHeartbeats 1000000 in
set_option maxRecDepth 100000 in
theorem c_Model_isSmall (l : Launch) (dC : Nat → ClassId) (dI : Nat → Nat → Nat)  (p1 : Int32) : Met l y_Model_isSmall w_Model_isSmall ({ frames := 0, cells := 0, slots := 0, locals := 0 } : Room) (va_Pc [.int p1] (fun U => va_P (dC, dI) cls_all [] U.heap ∧ va_K (dC, dI) cls_all [] U)) (vp_Si (fun r : Int32 => (r = if 97 ≤ p1 ∧ p1 ≤ 122 then 1 else 0))) 0 0 (fun _ => False) := by
  refine Met.ofW (cc := b_Model_isSmall) (maxL := 1) (ret := (some .boolean)) (by decide) rfl ?_
  intro p e s m args below meth c s₁ B hml hv
  obtain ⟨rfl, hP, hK⟩ := hv
  have hx := B.exec
  have hb := B.bytes
  have hr := B.returns
  have hT : ∀ w ∈ lw_good, w.before _ s = true := fun w h => atoms_spec (ws := w_Model_isSmall) B.pre w (List.mem_cons_of_mem _ h)
  have hown : s.vm.findClass R_Model = some m.cls := findClass_of_methodNamed B.named
  have hlocks := B.notSynchronized
  have hl := lv_entry ([.int p1]) (n := 1) (Nat.le_of_ble_eq_true rfl)
  rw [lg_entry_eq]
  generalize (lg_sl ([.int p1]) ++ List.replicate (1 - (lg_sl ([.int p1])).length) Slot.unset).toArray = ls at hl ⊢
  have hl : lv_has ls 1 [(0, .int p1)] := hl
  refine lv_iload_n hx hb d_Model_isSmall_0 rfl (lv_at hl 0 rfl) ?_
  refine lv_bipush (v := 97) hx hb d_Model_isSmall_1 (by decide) ?_
  refine lv_icmp_lt (tgt := 16) hx hb d_Model_isSmall_3 (by decide) (fun c1 => ?_) (fun c1 => ?_)
  · refine lv_iconst (v := 0) hx hb d_Model_isSmall_16 (by decide) ?_
    refine W.zret (v := 0) hx hb hr (by first | rfl | decide | assumption) (fun t ht hW => ⟨0, rfl, ?_, ht⟩) (fun q h => by cases h) d_Model_isSmall_17
    (repeat' split) <;> first | rfl | (simp_all; done) | (exfalso; simp only [i_lt, i_le, i_eq, Int32.reduceToInt] at *; omega)
  · refine lv_iload_n hx hb d_Model_isSmall_6 rfl (lv_at hl 0 rfl) ?_
    refine lv_bipush (v := 122) hx hb d_Model_isSmall_7 (by decide) ?_
    refine lv_icmp_gt (tgt := 16) hx hb d_Model_isSmall_9 (by decide) (fun c2 => ?_) (fun c2 => ?_)
    · refine lv_iconst (v := 0) hx hb d_Model_isSmall_16 (by decide) ?_
      refine W.zret (v := 0) hx hb hr (by first | rfl | decide | assumption) (fun t ht hW => ⟨0, rfl, ?_, ht⟩) (fun q h => by cases h) d_Model_isSmall_17
      (repeat' split) <;> first | rfl | (simp_all; done) | (exfalso; simp only [i_lt, i_le, i_eq, Int32.reduceToInt] at *; omega)
    · refine lv_iconst (v := 1) hx hb d_Model_isSmall_12 (by decide) ?_
      refine lv_goto (tgt := 17) hx hb d_Model_isSmall_13 (by decide) ?_
      refine W.zret (v := 1) hx hb hr (by first | rfl | decide | assumption) (fun t ht hW => ⟨1, rfl, ?_, ht⟩) (fun q h => by cases h) d_Model_isSmall_17
      (repeat' split) <;> first | rfl | (simp_all; done) | (exfalso; simp only [i_lt, i_le, i_eq, Int32.reduceToInt] at *; omega)
set_option maxHeartbeats 1000000 in
set_option maxRecDepth 100000 in
theorem c_Model_isGreat (l : Launch) (dC : Nat → ClassId) (dI : Nat → Nat → Nat)  (p1 : Int32) : Met l y_Model_isGreat w_Model_isGreat ({ frames := 0, cells := 0, slots := 0, locals := 0 } : Room) (va_Pc [.int p1] (fun U => va_P (dC, dI) cls_all [] U.heap ∧ va_K (dC, dI) cls_all [] U)) (vp_Si (fun r : Int32 => (r = if 65 ≤ p1 ∧ p1 ≤ 90 then 1 else 0))) 0 0 (fun _ => False) := by
  refine Met.ofW (cc := b_Model_isGreat) (maxL := 1) (ret := (some .boolean)) (by decide) rfl ?_
  intro p e s m args below meth c s₁ B hml hv
  obtain ⟨rfl, hP, hK⟩ := hv
  have hx := B.exec
  have hb := B.bytes
  have hr := B.returns
  have hT : ∀ w ∈ lw_good, w.before _ s = true := fun w h => atoms_spec (ws := w_Model_isGreat) B.pre w (List.mem_cons_of_mem _ h)
  have hown : s.vm.findClass R_Model = some m.cls := findClass_of_methodNamed B.named
  have hlocks := B.notSynchronized
  have hl := lv_entry ([.int p1]) (n := 1) (Nat.le_of_ble_eq_true rfl)
  rw [lg_entry_eq]
  generalize (lg_sl ([.int p1]) ++ List.replicate (1 - (lg_sl ([.int p1])).length) Slot.unset).toArray = ls at hl ⊢
  have hl : lv_has ls 1 [(0, .int p1)] := hl
  refine lv_iload_n hx hb d_Model_isGreat_0 rfl (lv_at hl 0 rfl) ?_
  refine lv_bipush (v := 65) hx hb d_Model_isGreat_1 (by decide) ?_
  refine lv_icmp_lt (tgt := 16) hx hb d_Model_isGreat_3 (by decide) (fun c1 => ?_) (fun c1 => ?_)
  · refine lv_iconst (v := 0) hx hb d_Model_isGreat_16 (by decide) ?_
    refine W.zret (v := 0) hx hb hr (by first | rfl | decide | assumption) (fun t ht hW => ⟨0, rfl, ?_, ht⟩) (fun q h => by cases h) d_Model_isGreat_17
    (repeat' split) <;> first | rfl | (simp_all; done) | (exfalso; simp only [i_lt, i_le, i_eq, Int32.reduceToInt] at *; omega)
  · refine lv_iload_n hx hb d_Model_isGreat_6 rfl (lv_at hl 0 rfl) ?_
    refine lv_bipush (v := 90) hx hb d_Model_isGreat_7 (by decide) ?_
    refine lv_icmp_gt (tgt := 16) hx hb d_Model_isGreat_9 (by decide) (fun c2 => ?_) (fun c2 => ?_)
    · refine lv_iconst (v := 0) hx hb d_Model_isGreat_16 (by decide) ?_
      refine W.zret (v := 0) hx hb hr (by first | rfl | decide | assumption) (fun t ht hW => ⟨0, rfl, ?_, ht⟩) (fun q h => by cases h) d_Model_isGreat_17
      (repeat' split) <;> first | rfl | (simp_all; done) | (exfalso; simp only [i_lt, i_le, i_eq, Int32.reduceToInt] at *; omega)
    · refine lv_iconst (v := 1) hx hb d_Model_isGreat_12 (by decide) ?_
      refine lv_goto (tgt := 17) hx hb d_Model_isGreat_13 (by decide) ?_
      refine W.zret (v := 1) hx hb hr (by first | rfl | decide | assumption) (fun t ht hW => ⟨1, rfl, ?_, ht⟩) (fun q h => by cases h) d_Model_isGreat_17
      (repeat' split) <;> first | rfl | (simp_all; done) | (exfalso; simp only [i_lt, i_le, i_eq, Int32.reduceToInt] at *; omega)
set_option maxHeartbeats 1000000 in
set_option maxRecDepth 100000 in
theorem c_Model_isDigit (l : Launch) (dC : Nat → ClassId) (dI : Nat → Nat → Nat)  (p1 : Int32) : Met l y_Model_isDigit w_Model_isDigit ({ frames := 0, cells := 0, slots := 0, locals := 0 } : Room) (va_Pc [.int p1] (fun U => va_P (dC, dI) cls_all [] U.heap ∧ va_K (dC, dI) cls_all [] U)) (vp_Si (fun r : Int32 => (r = if 48 ≤ p1 ∧ p1 ≤ 57 then 1 else 0))) 0 0 (fun _ => False) := by
  refine Met.ofW (cc := b_Model_isDigit) (maxL := 1) (ret := (some .boolean)) (by decide) rfl ?_
  intro p e s m args below meth c s₁ B hml hv
  obtain ⟨rfl, hP, hK⟩ := hv
  have hx := B.exec
  have hb := B.bytes
  have hr := B.returns
  have hT : ∀ w ∈ lw_good, w.before _ s = true := fun w h => atoms_spec (ws := w_Model_isDigit) B.pre w (List.mem_cons_of_mem _ h)
  have hown : s.vm.findClass R_Model = some m.cls := findClass_of_methodNamed B.named
  have hlocks := B.notSynchronized
  have hl := lv_entry ([.int p1]) (n := 1) (Nat.le_of_ble_eq_true rfl)
  rw [lg_entry_eq]
  generalize (lg_sl ([.int p1]) ++ List.replicate (1 - (lg_sl ([.int p1])).length) Slot.unset).toArray = ls at hl ⊢
  have hl : lv_has ls 1 [(0, .int p1)] := hl
  refine lv_iload_n hx hb d_Model_isDigit_0 rfl (lv_at hl 0 rfl) ?_
  refine lv_bipush (v := 48) hx hb d_Model_isDigit_1 (by decide) ?_
  refine lv_icmp_lt (tgt := 16) hx hb d_Model_isDigit_3 (by decide) (fun c1 => ?_) (fun c1 => ?_)
  · refine lv_iconst (v := 0) hx hb d_Model_isDigit_16 (by decide) ?_
    refine W.zret (v := 0) hx hb hr (by first | rfl | decide | assumption) (fun t ht hW => ⟨0, rfl, ?_, ht⟩) (fun q h => by cases h) d_Model_isDigit_17
    (repeat' split) <;> first | rfl | (simp_all; done) | (exfalso; simp only [i_lt, i_le, i_eq, Int32.reduceToInt] at *; omega)
  · refine lv_iload_n hx hb d_Model_isDigit_6 rfl (lv_at hl 0 rfl) ?_
    refine lv_bipush (v := 57) hx hb d_Model_isDigit_7 (by decide) ?_
    refine lv_icmp_gt (tgt := 16) hx hb d_Model_isDigit_9 (by decide) (fun c2 => ?_) (fun c2 => ?_)
    · refine lv_iconst (v := 0) hx hb d_Model_isDigit_16 (by decide) ?_
      refine W.zret (v := 0) hx hb hr (by first | rfl | decide | assumption) (fun t ht hW => ⟨0, rfl, ?_, ht⟩) (fun q h => by cases h) d_Model_isDigit_17
      (repeat' split) <;> first | rfl | (simp_all; done) | (exfalso; simp only [i_lt, i_le, i_eq, Int32.reduceToInt] at *; omega)
    · refine lv_iconst (v := 1) hx hb d_Model_isDigit_12 (by decide) ?_
      refine lv_goto (tgt := 17) hx hb d_Model_isDigit_13 (by decide) ?_
      refine W.zret (v := 1) hx hb hr (by first | rfl | decide | assumption) (fun t ht hW => ⟨1, rfl, ?_, ht⟩) (fun q h => by cases h) d_Model_isDigit_17
      (repeat' split) <;> first | rfl | (simp_all; done) | (exfalso; simp only [i_lt, i_le, i_eq, Int32.reduceToInt] at *; omega)
set_option maxHeartbeats 1000000 in
set_option maxRecDepth 100000 in
theorem c_Model_isLetter (l : Launch) (dC : Nat → ClassId) (dI : Nat → Nat → Nat)  (p1 : Int32) : Met l y_Model_isLetter w_Model_isLetter ({ frames := 1, cells := 0, slots := 0, locals := 20 } : Room) (va_Pc [.int p1] (fun U => va_P (dC, dI) cls_all [] U.heap ∧ va_K (dC, dI) cls_all [] U)) (vp_Si (fun r : Int32 => (r = if (97 ≤ p1 ∧ p1 ≤ 122) ∨ (65 ≤ p1 ∧ p1 ≤ 90) ∨ (48 ≤ p1 ∧ p1 ≤ 57) then 1 else 0))) 0 0 (fun _ => False) := by
  refine Met.ofW (cc := b_Model_isLetter) (maxL := 1) (ret := (some .boolean)) (by decide) rfl ?_
  intro p e s m args below meth c s₁ B hml hv
  obtain ⟨rfl, hP, hK⟩ := hv
  have hx := B.exec
  have hb := B.bytes
  have hr := B.returns
  have hT : ∀ w ∈ lw_good, w.before _ s = true := fun w h => atoms_spec (ws := w_Model_isLetter) B.pre w (List.mem_cons_of_mem _ h)
  have hown : s.vm.findClass R_Model = some m.cls := findClass_of_methodNamed B.named
  have hlocks := B.notSynchronized
  have hl := lv_entry ([.int p1]) (n := 1) (Nat.le_of_ble_eq_true rfl)
  rw [lg_entry_eq]
  generalize (lg_sl ([.int p1]) ++ List.replicate (1 - (lg_sl ([.int p1])).length) Slot.unset).toArray = ls at hl ⊢
  have hl : lv_has ls 1 [(0, .int p1)] := hl
  refine lv_iload_n hx hb d_Model_isLetter_0 rfl (lv_at hl 0 rfl) ?_
  have hPc := hP.sub (ws' := []) [] rfl
  have hKc := hK.sub (tys' := []) [] rfl
  refine vp_callSi (va_Run.run (va_runS (As := [.int p1]) (rest := []) ⟨hx, hb, hml, hown, hT⟩ (c_Model_isSmall l dC dI (p1 := p1) ) (va_cwS 1 hT (gS ml_Model_320 st_Model_isSmall ini_Model co_Model_isSmall) rfl rfl rfl (by decide +kernel) ⟨Nat.le_of_ble_eq_true rfl, Nat.le_of_ble_eq_true rfl⟩) ⟨fbS, fun U hU hW => ⟨rfl, by rw [hU]; exact hPc, va_K.moved hW.alike hKc⟩⟩ rfl rfl hl.1 rfl (lv_room (Nat.le_of_ble_eq_true rfl)) d_Model_isLetter_1 ⟨Nat.le_of_ble_eq_true rfl, Nat.le_of_ble_eq_true rfl⟩)) (fun r1 hr1 => ?_)
  refine lv_if_ne (tgt := 21) hx hb d_Model_isLetter_4 (by decide) (fun c2 => ?_) (fun c2 => ?_)
  · refine lv_iconst (v := 1) hx hb d_Model_isLetter_21 (by decide) ?_
    refine lv_goto (tgt := 26) hx hb d_Model_isLetter_22 (by decide) ?_
    refine W.zret (v := 1) hx hb hr (by first | rfl | decide | assumption) (fun t ht hW => ⟨1, rfl, ?_, ht⟩) (fun q h => by cases h) d_Model_isLetter_26
    (by_cases a1 : 48 ≤ p1 ∧ p1 ≤ 57) <;> (by_cases a2 : 97 ≤ p1 ∧ p1 ≤ 122) <;> (by_cases a3 : 65 ≤ p1 ∧ p1 ≤ 90) <;> first | (simp only [a1, a2, a3, or_self, or_true, true_or, or_false, false_or, if_true, if_false]; done) | (simp_all; done) | (exfalso; simp only [i_lt, i_le, Int32.reduceToInt] at *; omega)
  · refine lv_iload_n hx hb d_Model_isLetter_7 rfl (lv_at hl 0 rfl) ?_
    have hPc := hP.sub (ws' := []) [] rfl
    have hKc := hK.sub (tys' := []) [] rfl
    refine vp_callSi (va_Run.run (va_runS (As := [.int p1]) (rest := []) ⟨hx, hb, hml, hown, hT⟩ (c_Model_isGreat l dC dI (p1 := p1) ) (va_cwS 1 hT (gS ml_Model_324 st_Model_isGreat ini_Model co_Model_isGreat) rfl rfl rfl (by decide +kernel) ⟨Nat.le_of_ble_eq_true rfl, Nat.le_of_ble_eq_true rfl⟩) ⟨fbS, fun U hU hW => ⟨rfl, by rw [hU]; exact hPc, va_K.moved hW.alike hKc⟩⟩ rfl rfl hl.1 rfl (lv_room (Nat.le_of_ble_eq_true rfl)) d_Model_isLetter_8 ⟨Nat.le_of_ble_eq_true rfl, Nat.le_of_ble_eq_true rfl⟩)) (fun r3 hr3 => ?_)
    refine lv_if_ne (tgt := 21) hx hb d_Model_isLetter_11 (by decide) (fun c4 => ?_) (fun c4 => ?_)
    · refine lv_iconst (v := 1) hx hb d_Model_isLetter_21 (by decide) ?_
      refine lv_goto (tgt := 26) hx hb d_Model_isLetter_22 (by decide) ?_
      refine W.zret (v := 1) hx hb hr (by first | rfl | decide | assumption) (fun t ht hW => ⟨1, rfl, ?_, ht⟩) (fun q h => by cases h) d_Model_isLetter_26
      (by_cases a1 : 48 ≤ p1 ∧ p1 ≤ 57) <;> (by_cases a2 : 97 ≤ p1 ∧ p1 ≤ 122) <;> (by_cases a3 : 65 ≤ p1 ∧ p1 ≤ 90) <;> first | (simp only [a1, a2, a3, or_self, or_true, true_or, or_false, false_or, if_true, if_false]; done) | (simp_all; done) | (exfalso; simp only [i_lt, i_le, Int32.reduceToInt] at *; omega)
    · refine lv_iload_n hx hb d_Model_isLetter_14 rfl (lv_at hl 0 rfl) ?_
      have hPc := hP.sub (ws' := []) [] rfl
      have hKc := hK.sub (tys' := []) [] rfl
      refine vp_callSi (va_Run.run (va_runS (As := [.int p1]) (rest := []) ⟨hx, hb, hml, hown, hT⟩ (c_Model_isDigit l dC dI (p1 := p1) ) (va_cwS 1 hT (gS ml_Model_327 st_Model_isDigit ini_Model co_Model_isDigit) rfl rfl rfl (by decide +kernel) ⟨Nat.le_of_ble_eq_true rfl, Nat.le_of_ble_eq_true rfl⟩) ⟨fbS, fun U hU hW => ⟨rfl, by rw [hU]; exact hPc, va_K.moved hW.alike hKc⟩⟩ rfl rfl hl.1 rfl (lv_room (Nat.le_of_ble_eq_true rfl)) d_Model_isLetter_15 ⟨Nat.le_of_ble_eq_true rfl, Nat.le_of_ble_eq_true rfl⟩)) (fun r5 hr5 => ?_)
      refine lv_if_eq (tgt := 25) hx hb d_Model_isLetter_18 (by decide) (fun c6 => ?_) (fun c6 => ?_)
      · refine lv_iconst (v := 0) hx hb d_Model_isLetter_25 (by decide) ?_
        refine W.zret (v := 0) hx hb hr (by first | rfl | decide | assumption) (fun t ht hW => ⟨0, rfl, ?_, ht⟩) (fun q h => by cases h) d_Model_isLetter_26
        (by_cases a1 : 48 ≤ p1 ∧ p1 ≤ 57) <;> (by_cases a2 : 97 ≤ p1 ∧ p1 ≤ 122) <;> (by_cases a3 : 65 ≤ p1 ∧ p1 ≤ 90) <;> first | (simp only [a1, a2, a3, or_self, or_true, true_or, or_false, false_or, if_true, if_false]; done) | (simp_all; done) | (exfalso; simp only [i_lt, i_le, Int32.reduceToInt] at *; omega)
      · refine lv_iconst (v := 1) hx hb d_Model_isLetter_21 (by decide) ?_
        refine lv_goto (tgt := 26) hx hb d_Model_isLetter_22 (by decide) ?_
        refine W.zret (v := 1) hx hb hr (by first | rfl | decide | assumption) (fun t ht hW => ⟨1, rfl, ?_, ht⟩) (fun q h => by cases h) d_Model_isLetter_26
        (by_cases a1 : 48 ≤ p1 ∧ p1 ≤ 57) <;> (by_cases a2 : 97 ≤ p1 ∧ p1 ≤ 122) <;> (by_cases a3 : 65 ≤ p1 ∧ p1 ≤ 90) <;> first | (simp only [a1, a2, a3, or_self, or_true, true_or, or_false, false_or, if_true, if_false]; done) | (simp_all; done) | (exfalso; simp only [i_lt, i_le, Int32.reduceToInt] at *; omega)
set_option maxHeartbeats 1000000 in
set_option maxRecDepth 100000 in
theorem c_Model_isLeft (l : Launch) (dC : Nat → ClassId) (dI : Nat → Nat → Nat)  (p1 : Int32) : Met l y_Model_isLeft w_Model_isLeft ({ frames := 0, cells := 0, slots := 0, locals := 0 } : Room) (va_Pc [.int p1] (fun U => va_P (dC, dI) cls_all [] U.heap ∧ va_K (dC, dI) cls_all [] U)) (vp_Si (fun r : Int32 => (r = if p1 = 13 ∨ p1 = 14 ∨ p1 = 15 ∨ p1 = 16 ∨ p1 = 17 then 1 else 0))) 0 0 (fun _ => False) := by
  refine Met.ofW (cc := b_Model_isLeft) (maxL := 1) (ret := (some .boolean)) (by decide) rfl ?_
  intro p e s m args below meth c s₁ B hml hv
  obtain ⟨rfl, hP, hK⟩ := hv
  have hx := B.exec
  have hb := B.bytes
  have hr := B.returns
  have hT : ∀ w ∈ lw_good, w.before _ s = true := fun w h => atoms_spec (ws := w_Model_isLeft) B.pre w (List.mem_cons_of_mem _ h)
  have hown : s.vm.findClass R_Model = some m.cls := findClass_of_methodNamed B.named
  have hlocks := B.notSynchronized
  have hl := lv_entry ([.int p1]) (n := 1) (Nat.le_of_ble_eq_true rfl)
  rw [lg_entry_eq]
  generalize (lg_sl ([.int p1]) ++ List.replicate (1 - (lg_sl ([.int p1])).length) Slot.unset).toArray = ls at hl ⊢
  have hl : lv_has ls 1 [(0, .int p1)] := hl
  refine lv_iload_n hx hb d_Model_isLeft_0 rfl (lv_at hl 0 rfl) ?_
  refine lv_bipush (v := 13) hx hb d_Model_isLeft_1 (by decide) ?_
  refine lv_icmp_eq (tgt := 30) hx hb d_Model_isLeft_3 (by decide) (fun c1 => ?_) (fun c1 => ?_)
  · refine lv_iconst (v := 1) hx hb d_Model_isLeft_30 (by decide) ?_
    refine lv_goto (tgt := 35) hx hb d_Model_isLeft_31 (by decide) ?_
    refine W.zret (v := 1) hx hb hr (by first | rfl | decide | assumption) (fun t ht hW => ⟨1, rfl, ?_, ht⟩) (fun q h => by cases h) d_Model_isLeft_35
    first | (simp [c1]; done) | (subst_vars; rfl)
  · refine lv_iload_n hx hb d_Model_isLeft_6 rfl (lv_at hl 0 rfl) ?_
    refine lv_bipush (v := 14) hx hb d_Model_isLeft_7 (by decide) ?_
    refine lv_icmp_eq (tgt := 30) hx hb d_Model_isLeft_9 (by decide) (fun c2 => ?_) (fun c2 => ?_)
    · refine lv_iconst (v := 1) hx hb d_Model_isLeft_30 (by decide) ?_
      refine lv_goto (tgt := 35) hx hb d_Model_isLeft_31 (by decide) ?_
      refine W.zret (v := 1) hx hb hr (by first | rfl | decide | assumption) (fun t ht hW => ⟨1, rfl, ?_, ht⟩) (fun q h => by cases h) d_Model_isLeft_35
      first | (simp [c1, c2]; done) | (subst_vars; rfl)
    · refine lv_iload_n hx hb d_Model_isLeft_12 rfl (lv_at hl 0 rfl) ?_
      refine lv_bipush (v := 15) hx hb d_Model_isLeft_13 (by decide) ?_
      refine lv_icmp_eq (tgt := 30) hx hb d_Model_isLeft_15 (by decide) (fun c3 => ?_) (fun c3 => ?_)
      · refine lv_iconst (v := 1) hx hb d_Model_isLeft_30 (by decide) ?_
        refine lv_goto (tgt := 35) hx hb d_Model_isLeft_31 (by decide) ?_
        refine W.zret (v := 1) hx hb hr (by first | rfl | decide | assumption) (fun t ht hW => ⟨1, rfl, ?_, ht⟩) (fun q h => by cases h) d_Model_isLeft_35
        first | (simp [c1, c2, c3]; done) | (subst_vars; rfl)
      · refine lv_iload_n hx hb d_Model_isLeft_18 rfl (lv_at hl 0 rfl) ?_
        refine lv_bipush (v := 16) hx hb d_Model_isLeft_19 (by decide) ?_
        refine lv_icmp_eq (tgt := 30) hx hb d_Model_isLeft_21 (by decide) (fun c4 => ?_) (fun c4 => ?_)
        · refine lv_iconst (v := 1) hx hb d_Model_isLeft_30 (by decide) ?_
          refine lv_goto (tgt := 35) hx hb d_Model_isLeft_31 (by decide) ?_
          refine W.zret (v := 1) hx hb hr (by first | rfl | decide | assumption) (fun t ht hW => ⟨1, rfl, ?_, ht⟩) (fun q h => by cases h) d_Model_isLeft_35
          first | (simp [c1, c2, c3, c4]; done) | (subst_vars; rfl)
        · refine lv_iload_n hx hb d_Model_isLeft_24 rfl (lv_at hl 0 rfl) ?_
          refine lv_bipush (v := 17) hx hb d_Model_isLeft_25 (by decide) ?_
          refine lv_icmp_ne (tgt := 34) hx hb d_Model_isLeft_27 (by decide) (fun c5 => ?_) (fun c5 => ?_)
          · refine lv_iconst (v := 0) hx hb d_Model_isLeft_34 (by decide) ?_
            refine W.zret (v := 0) hx hb hr (by first | rfl | decide | assumption) (fun t ht hW => ⟨0, rfl, ?_, ht⟩) (fun q h => by cases h) d_Model_isLeft_35
            first | (simp [c1, c2, c3, c4, c5]; done) | (subst_vars; rfl)
          · refine lv_iconst (v := 1) hx hb d_Model_isLeft_30 (by decide) ?_
            refine lv_goto (tgt := 35) hx hb d_Model_isLeft_31 (by decide) ?_
            refine W.zret (v := 1) hx hb hr (by first | rfl | decide | assumption) (fun t ht hW => ⟨1, rfl, ?_, ht⟩) (fun q h => by cases h) d_Model_isLeft_35
            first | (simp [c1, c2, c3, c4, c5]; done) | (subst_vars; rfl)
set_option maxHeartbeats 1000000 in
set_option maxRecDepth 100000 in
theorem c_Model_part (l : Launch) (dC : Nat → ClassId) (dI : Nat → Nat → Nat)  (p1 : Int32) (p2 : Int32) : Met l y_Model_part w_Model_part ({ frames := 0, cells := 0, slots := 0, locals := 0 } : Room) (va_Pc [.int p1, .int p2] (fun U => va_P (dC, dI) cls_all [] U.heap ∧ va_K (dC, dI) cls_all [] U)) (vp_Si (fun r : Int32 => (r = (p1 >>> ((10 * p2) &&& 31)) &&& 1023))) 0 0 (fun _ => False) := by
  refine Met.ofW (cc := b_Model_part) (maxL := 2) (ret := (some .int)) (by decide) rfl ?_
  intro p e s m args below meth c s₁ B hml hv
  obtain ⟨rfl, hP, hK⟩ := hv
  have hx := B.exec
  have hb := B.bytes
  have hr := B.returns
  have hT : ∀ w ∈ lw_good, w.before _ s = true := fun w h => atoms_spec (ws := w_Model_part) B.pre w (List.mem_cons_of_mem _ h)
  have hown : s.vm.findClass R_Model = some m.cls := findClass_of_methodNamed B.named
  have hlocks := B.notSynchronized
  have hl := lv_entry ([.int p1, .int p2]) (n := 2) (Nat.le_of_ble_eq_true rfl)
  rw [lg_entry_eq]
  generalize (lg_sl ([.int p1, .int p2]) ++ List.replicate (2 - (lg_sl ([.int p1, .int p2])).length) Slot.unset).toArray = ls at hl ⊢
  have hl : lv_has ls 2 [(0, .int p1), (1, .int p2)] := hl
  refine lv_iload_n hx hb d_Model_part_0 rfl (lv_at hl 0 rfl) ?_
  refine lv_bipush (v := 10) hx hb d_Model_part_1 (by decide) ?_
  refine lv_iload_n hx hb d_Model_part_3 rfl (lv_at hl 1 rfl) ?_
  refine lv_imul hx hb d_Model_part_4 ?_
  refine lv_topi (fun x1 e1 => ?_)
  refine lv_ishr hx hb d_Model_part_5 ?_
  refine lv_topi (fun x2 e2 => ?_)
  refine lv_sipush (v := 1023) hx hb d_Model_part_6 (by decide) ?_
  refine lv_iand hx hb d_Model_part_9 ?_
  refine lv_topi (fun x3 e3 => ?_)
  refine W.iret (v := x3) hx hb hr (fun t ht hW => ⟨x3, rfl, ?_, ht⟩) (fun q h => by cases h) d_Model_part_10
  subst_vars; rfl
set_option maxHeartbeats 1000000 in
set_option maxRecDepth 100000 in
theorem c_Model_see (l : Launch) (dC : Nat → ClassId) (dI : Nat → Nat → Nat)  (h_this : Nat) (h_text : Nat) (fs_this : List Value) (v_this_size : Int32) (k_text : ClassId) (f_text : Nat → Int32) (p1 : Int32) (len_this : fs_this.length = 153) (g_this_size : fs_this[1]? = some (.int v_this_size)) (g_this_text : fs_this[0]? = some (.ref h_text)) (h0 : 0 ≤ p1) (hs : v_this_size ≤ 4000) : Met l y_Model_see_I w_Model_see_I ({ frames := 0, cells := 0, slots := 0, locals := 0 } : Room) (va_Pc [.ref h_this, .int p1] (fun U => va_P (dC, dI) cls_all [oc h_this 12 fs_this, ic h_text k_text 4000 f_text] U.heap ∧ va_K (dC, dI) cls_all [(k_text, .int)] U)) (vp_Si (fun r : Int32 => (r = if p1 < v_this_size then f_text p1.toNatClampNeg else -1))) 0 0 (fun _ => False) := by
  refine Met.ofW (cc := b_Model_see_I) (maxL := 2) (ret := (some .int)) (by decide) rfl ?_
  intro p e s m args below meth c s₁ B hml hv
  obtain ⟨rfl, hP, hK⟩ := hv
  have hx := B.exec
  have hb := B.bytes
  have hr := B.returns
  have hT : ∀ w ∈ lw_good, w.before _ s = true := fun w h => atoms_spec (ws := w_Model_see_I) B.pre w (List.mem_cons_of_mem _ h)
  have hown : s.vm.findClass R_Model = some m.cls := findClass_of_methodNamed B.named
  have hlocks := B.notSynchronized
  have hl := lv_entry ([.ref h_this, .int p1]) (n := 2) (Nat.le_of_ble_eq_true rfl)
  rw [lg_entry_eq]
  generalize (lg_sl ([.ref h_this, .int p1]) ++ List.replicate (2 - (lg_sl ([.ref h_this, .int p1])).length) Slot.unset).toArray = ls at hl ⊢
  have hl : lv_has ls 2 [(0, .ref h_this), (1, .int p1)] := hl
  refine lv_iload_n hx hb d_Model_see_I_0 rfl (lv_at hl 1 rfl) ?_
  refine lv_aload_n hx hb d_Model_see_I_1 rfl (lv_at hl 0 rfl) ?_
  refine va_get (D := (dC, dI)) (ci := 12) (v := .int v_this_size) (C := R_Model) (T := F_Model) (N := 153) hx hb hT i_Model hown hK hP 0 rfl rfl 1 (by decide) (hT _ fl_Model_313) (fun _ h9 => h9) g_this_size d_Model_see_I_2 ?_
  refine lv_icmp_ge (tgt := 17) hx hb d_Model_see_I_5 (by decide) (fun c1 => ?_) (fun c1 => ?_)
  · refine lv_iconst (v := (-1)) hx hb d_Model_see_I_17 (by decide) ?_
    refine W.iret (v := (-1)) hx hb hr (fun t ht hW => ⟨(-1), rfl, ?_, ht⟩) (fun q h => by cases h) d_Model_see_I_18
    (repeat' split) <;> first | rfl | (simp_all; done) | (exfalso; simp only [i_lt, i_le, i_eq, Int32.reduceToInt] at *; omega)
  · refine lv_aload_n hx hb d_Model_see_I_8 rfl (lv_at hl 0 rfl) ?_
    refine va_get (D := (dC, dI)) (ci := 12) (v := .ref h_text) (C := R_Model) (T := F_Model) (N := 153) hx hb hT i_Model hown hK hP 0 rfl rfl 0 (by decide) (hT _ fl_Model_7) (fun _ h9 => h9) g_this_text d_Model_see_I_9 ?_
    refine lv_iload_n hx hb d_Model_see_I_12 rfl (lv_at hl 1 rfl) ?_
    refine va_iald hx hb hK hP 1 0 rfl rfl (by first | exact has_in (by assumption) (by assumption) (by assumption) | (refine vp_in_iff.mpr ?_; simp only [i_lt, i_le, i_eq, Int32.reduceToInt] at *; omega)) d_Model_see_I_13 ?_
    refine lv_topi (fun x2 e2 => ?_)
    refine lv_goto (tgt := 18) hx hb d_Model_see_I_14 (by decide) ?_
    refine W.iret (v := x2) hx hb hr (fun t ht hW => ⟨x2, rfl, ?_, ht⟩) (fun q h => by cases h) d_Model_see_I_18
    (repeat' split) <;> first | rfl | (simp_all; done) | (exfalso; simp only [i_lt, i_le, i_eq, Int32.reduceToInt] at *; omega)
set_option maxHeartbeats 1000000 in
set_option maxRecDepth 100000 in
theorem c_Model_fail (l : Launch) (dC : Nat → ClassId) (dI : Nat → Nat → Nat) (sz : Nat) (h_this : Nat) (fs_this : List Value) (v_this_fault : Int32) (v_this_faultPlace : Int32) (p1 : Int32) (p2 : Int32) (len_this : fs_this.length = 153) (g_this_fault : fs_this[7]? = some (.int v_this_fault)) (g_this_faultPlace : fs_this[8]? = some (.int v_this_faultPlace)) : Met l y_Model_fail w_Model_fail ({ frames := 0, cells := 0, slots := 0, locals := 0 } : Room) (va_Pc [.ref h_this, .int p1, .int p2] (fun U => U.heap.size = sz ∧ va_P (dC, dI) cls_all [oc h_this 12 fs_this] U.heap ∧ va_K (dC, dI) cls_all [] U ∧ va_D (fun _ => True) [oc h_this 12 fs_this])) (va_Qv (fun (_ : Unit) => True) (fun _ t => ∃ (fs_this' : List Value), (fs_this'.length = 153 ∧ (∀ j : Nat, j ≠ 7 → j ≠ 8 → fs_this'[j]? = fs_this[j]?) ∧ fs_this'[7]? = some (.int (if v_this_fault = 0 then p1 else v_this_fault)) ∧ fs_this'[8]? = some (.int (if v_this_fault = 0 then p2 else v_this_faultPlace))) ∧ va_P (dC, dI) cls_all [oc h_this 12 fs_this'] t.heap ∧ va_K (dC, dI) cls_all [] t ∧ va_D (va_A [oc h_this 12 fs_this] sz) [oc h_this 12 fs_this']) (va_A [oc h_this 12 fs_this] sz)) 0 0 (va_A [oc h_this 12 fs_this] sz) := by
  refine Met.ofW (cc := b_Model_fail) (maxL := 3) (ret := none) (by decide) rfl ?_
  intro p e s m args below meth c s₁ B hml hv
  obtain ⟨rfl, hsz, hP, hK, hD0⟩ := hv
  have hx := B.exec
  have hb := B.bytes
  have hr := B.returns
  have hT : ∀ w ∈ lw_good, w.before _ s = true := fun w h => atoms_spec (ws := w_Model_fail) B.pre w (List.mem_cons_of_mem _ h)
  have hown : s.vm.findClass R_Model = some m.cls := findClass_of_methodNamed B.named
  have hlocks := B.notSynchronized
  subst hsz
  have hD := hD0.self (sz := s.heap.size)
  generalize hAe : va_A [oc h_this 12 fs_this] s.heap.size = A at hD ⊢
  have hA : ∀ q : Nat, s.heap.size ≤ q → A q := fun q h => by rw [← hAe]; exact Or.inr h
  have hS : va_S A s.heap s.heap [] := va_S.rf
  have hP : va_P (dC, dI) cls_all [oc h_this 12 fs_this] s.heap := hP
  have hl := lv_entry ([.ref h_this, .int p1, .int p2]) (n := 3) (Nat.le_of_ble_eq_true rfl)
  rw [lg_entry_eq]
  generalize (lg_sl ([.ref h_this, .int p1, .int p2]) ++ List.replicate (3 - (lg_sl ([.ref h_this, .int p1, .int p2])).length) Slot.unset).toArray = ls at hl ⊢
  have hl : lv_has ls 3 [(0, .ref h_this), (1, .int p1), (2, .int p2)] := hl
  refine lv_aload_n hx hb d_Model_fail_0 rfl (lv_at hl 0 rfl) ?_
  refine va_get (D := (dC, dI)) (ci := 12) (v := .int v_this_fault) (C := R_Model) (T := F_Model) (N := 153) hx hb hT i_Model hown hK hP 0 rfl rfl 7 (by decide) (hT _ fl_Model_378) (fun _ h9 => h9) g_this_fault d_Model_fail_1 ?_
  refine lv_if_eq (tgt := 8) hx hb d_Model_fail_4 (by decide) (fun c1 => ?_) (fun c1 => ?_)
  · refine lv_aload_n hx hb d_Model_fail_8 rfl (lv_at hl 0 rfl) ?_
    refine lv_iload_n hx hb d_Model_fail_9 rfl (lv_at hl 1 rfl) ?_
    refine va_put (D := (dC, dI)) (ci := 12) (v := .int p1) (ty := .int) (C := R_Model) (T := F_Model) (N := 153) hx hb hT i_Model t_Model t_Model_ok n_Model hown hK hP hD hS 0 rfl rfl 7 (by decide) (hT _ fl_Model_378) (fun _ h9 => h9) rfl (by decide +kernel) rfl rfl (by simp only [List.length_set, len_this]; decide) d_Model_fail_10 (fun H locs hP hD hS => ?_)
    have hP : va_P (dC, dI) cls_all [oc h_this 12 (fs_this.set 7 (.int p1))] H := hP
    have hD : va_D A [oc h_this 12 (fs_this.set 7 (.int p1))] := hD
    refine lv_aload_n hx hb d_Model_fail_13 rfl (lv_at hl 0 rfl) ?_
    refine lv_iload_n hx hb d_Model_fail_14 rfl (lv_at hl 2 rfl) ?_
    refine va_put (D := (dC, dI)) (ci := 12) (v := .int p2) (ty := .int) (C := R_Model) (T := F_Model) (N := 153) hx hb hT i_Model t_Model t_Model_ok n_Model hown hK hP hD hS 0 rfl rfl 8 (by decide) (hT _ fl_Model_13) (fun _ h9 => h9) rfl (by decide +kernel) rfl rfl (by simp only [List.length_set, len_this]; decide) d_Model_fail_15 (fun H locs hP hD hS => ?_)
    have hP : va_P (dC, dI) cls_all [oc h_this 12 ((fs_this.set 7 (.int p1)).set 8 (.int p2))] H := hP
    have hD : va_D A [oc h_this 12 ((fs_this.set 7 (.int p1)).set 8 (.int p2))] := hD
    have hP9 := hP.sub (ws' := [oc h_this 12 ((fs_this.set 7 (.int p1)).set 8 (.int p2))]) [0] rfl
    have hD9 := hD.sub (ws' := [oc h_this 12 ((fs_this.set 7 (.int p1)).set 8 (.int p2))]) [0] (by decide) rfl
    have hK9 := hK.sub (tys' := []) [] rfl
    have hv2 : ((fs_this.set 7 (.int p1)).set 8 (.int p2))[7]? = some (.int p1) := ((ls_ne (by decide)).trans (ls_eq (by simp only [List.length_set, len_this]; decide)))
    have hv3 : ((fs_this.set 7 (.int p1)).set 8 (.int p2))[8]? = some (.int p2) := (ls_eq (by simp only [List.length_set, len_this]; decide))
    exact W.vret hx hb hr (fun t ht hW => ⟨⟨(), rfl, trivial, ((fs_this.set 7 (.int p1)).set 8 (.int p2)), ⟨(by first | exact len_this | (simp only [List.length_set]; exact len_this)), (fun j n7 n8 => ((ls_ne n8).trans ((ls_ne n7).trans rfl))), (by first | exact hv2 | (rw [hv2]; refine congrArg some (congrArg _ ?_); subst_vars; first | rfl | exact (if_pos (by assumption)).symm | exact (if_neg (by assumption)).symm | (simp_all; done))), (by first | exact hv3 | (rw [hv3]; refine congrArg some (congrArg _ ?_); subst_vars; first | rfl | exact (if_pos (by assumption)).symm | exact (if_neg (by assumption)).symm | (simp_all; done)))⟩, by rw [ht]; exact hP9, va_K.moved hW.alike hK9, hD9⟩, hS.F ht⟩) hS.2.2 d_Model_fail_18
  · have hP9 := hP.sub (ws' := [oc h_this 12 fs_this]) [0] rfl
    have hD9 := hD.sub (ws' := [oc h_this 12 fs_this]) [0] (by decide) rfl
    have hK9 := hK.sub (tys' := []) [] rfl
    have hv4 : fs_this[7]? = some (.int v_this_fault) := g_this_fault
    have hv5 : fs_this[8]? = some (.int v_this_faultPlace) := g_this_faultPlace
    exact W.vret hx hb hr (fun t ht hW => ⟨⟨(), rfl, trivial, fs_this, ⟨(by first | exact len_this | (simp only [List.length_set]; exact len_this)), (fun j n7 n8 => rfl), (by first | exact hv4 | (rw [hv4]; refine congrArg some (congrArg _ ?_); subst_vars; first | rfl | exact (if_pos (by assumption)).symm | exact (if_neg (by assumption)).symm | (simp_all; done))), (by first | exact hv5 | (rw [hv5]; refine congrArg some (congrArg _ ?_); subst_vars; first | rfl | exact (if_pos (by assumption)).symm | exact (if_neg (by assumption)).symm | (simp_all; done)))⟩, by rw [ht]; exact hP9, va_K.moved hW.alike hK9, hD9⟩, hS.F ht⟩) hS.2.2 d_Model_fail_7
set_option maxHeartbeats 1000000 in
set_option maxRecDepth 100000 in
theorem c_Model_wrong (l : Launch) (dC : Nat → ClassId) (dI : Nat → Nat → Nat) (sz : Nat) (h_this : Nat) (fs_this : List Value) (v_this_fault : Int32) (v_this_faultPlace : Int32) (v_this_place : Int32) (len_this : fs_this.length = 153) (g_this_fault : fs_this[7]? = some (.int v_this_fault)) (g_this_faultPlace : fs_this[8]? = some (.int v_this_faultPlace)) (g_this_place : fs_this[3]? = some (.int v_this_place)) : Met l y_Model_wrong w_Model_wrong ({ frames := 1, cells := 0, slots := 0, locals := 22 } : Room) (va_Pc [.ref h_this] (fun U => U.heap.size = sz ∧ va_P (dC, dI) cls_all [oc h_this 12 fs_this] U.heap ∧ va_K (dC, dI) cls_all [] U ∧ va_D (fun _ => True) [oc h_this 12 fs_this])) (va_Qv (fun (_ : Unit) => True) (fun _ t => ∃ (fs_this' : List Value), (fs_this'.length = 153 ∧ (∀ j : Nat, j ≠ 7 → j ≠ 8 → fs_this'[j]? = fs_this[j]?) ∧ fs_this'[7]? = some (.int (if v_this_fault = 0 then 1 else v_this_fault)) ∧ fs_this'[8]? = some (.int (if v_this_fault = 0 then v_this_place else v_this_faultPlace))) ∧ va_P (dC, dI) cls_all [oc h_this 12 fs_this'] t.heap ∧ va_K (dC, dI) cls_all [] t ∧ va_D (va_A [oc h_this 12 fs_this] sz) [oc h_this 12 fs_this']) (va_A [oc h_this 12 fs_this] sz)) 0 0 (va_A [oc h_this 12 fs_this] sz) := by
  refine Met.ofW (cc := b_Model_wrong) (maxL := 1) (ret := none) (by decide) rfl ?_
  intro p e s m args below meth c s₁ B hml hv
  obtain ⟨rfl, hsz, hP, hK, hD0⟩ := hv
  have hx := B.exec
  have hb := B.bytes
  have hr := B.returns
  have hT : ∀ w ∈ lw_good, w.before _ s = true := fun w h => atoms_spec (ws := w_Model_wrong) B.pre w (List.mem_cons_of_mem _ h)
  have hown : s.vm.findClass R_Model = some m.cls := findClass_of_methodNamed B.named
  have hlocks := B.notSynchronized
  subst hsz
  have hD := hD0.self (sz := s.heap.size)
  generalize hAe : va_A [oc h_this 12 fs_this] s.heap.size = A at hD ⊢
  have hA : ∀ q : Nat, s.heap.size ≤ q → A q := fun q h => by rw [← hAe]; exact Or.inr h
  have hS : va_S A s.heap s.heap [] := va_S.rf
  have hP : va_P (dC, dI) cls_all [oc h_this 12 fs_this] s.heap := hP
  have hl := lv_entry ([.ref h_this]) (n := 1) (Nat.le_of_ble_eq_true rfl)
  rw [lg_entry_eq]
  generalize (lg_sl ([.ref h_this]) ++ List.replicate (1 - (lg_sl ([.ref h_this])).length) Slot.unset).toArray = ls at hl ⊢
  have hl : lv_has ls 1 [(0, .ref h_this)] := hl
  refine lv_aload_n hx hb d_Model_wrong_0 rfl (lv_at hl 0 rfl) ?_
  refine lv_iconst (v := 1) hx hb d_Model_wrong_1 (by decide) ?_
  refine lv_aload_n hx hb d_Model_wrong_2 rfl (lv_at hl 0 rfl) ?_
  refine va_get (D := (dC, dI)) (ci := 12) (v := .int v_this_place) (C := R_Model) (T := F_Model) (N := 153) hx hb hT i_Model hown hK hP 0 rfl rfl 3 (by decide) (hT _ fl_Model_349) (fun _ h9 => h9) g_this_place d_Model_wrong_3 ?_
  have hPc := hP.sub (ws' := [oc h_this 12 fs_this]) [0] rfl
  have hKc := hK.sub (tys' := []) [] rfl
  have hDc := hD.sub (ws' := [oc h_this 12 fs_this]) [0] (by decide) rfl
  have hFc := va_free (wc := [oc h_this 12 fs_this]) hD hS hA [0] rfl
  refine va_callv (va_runV (As := [.int 1, .int v_this_place]) (rest := []) ⟨hx, hb, hml, hown, hT⟩ (c_Model_fail l dC dI (sz := s.heap.size) (h_this := h_this) (fs_this := fs_this) (v_this_fault := v_this_fault) (v_this_faultPlace := v_this_faultPlace) (p1 := 1) (p2 := v_this_place) (len_this := (by first | exact len_this | (simp only [List.length_set]; exact len_this))) (g_this_fault := g_this_fault) (g_this_faultPlace := g_this_faultPlace)) (cwV 2 hT (gV ml_Model_381 im_Model_fail se_Model_fail ini_Model co_Model_fail) rfl rfl rfl (by decide +kernel) ⟨Nat.le_of_ble_eq_true rfl, Nat.le_of_ble_eq_true rfl⟩) ⟨fbQ, va_recv hKc hPc (ci := 12) (q0 := 0) rfl rfl, fun U hU hW => ⟨rfl, by rw [hU], by rw [hU]; exact hPc, va_K.moved hW.alike hKc, hDc.weaken (fun _ _ _ _ => trivial)⟩⟩ rfl rfl hl.1 rfl (lv_room (Nat.le_of_ble_eq_true rfl)) d_Model_wrong_6 ⟨Nat.le_of_ble_eq_true rfl, Nat.le_of_ble_eq_true rfl⟩) hS (fun q _ h => hFc q h) hFc (fun u t H1 locs ht hvm hw hB hz1 hk1 hS => ?_)
  obtain ⟨fs_this_1, ⟨hw1_0, hw1_1, hw1_2, hw1_3⟩, hP1, hK1, hD1⟩ := hB
  rw [ht] at hP1
  have hK1 := va_K.moved hvm.symm hK1
  obtain ⟨hP, hD⟩ := va_join (wr := []) (w1 := [oc h_this 12 fs_this_1]) hP hD [0] [] rfl rfl (by decide) (by decide) hk1 hFc hP1 hD1
  generalize H1 = H at hP hS ⊢
  have hP : va_P (dC, dI) cls_all [oc h_this 12 fs_this_1] H := hP
  have hD : va_D A [oc h_this 12 fs_this_1] := hD
  have hP9 := hP.sub (ws' := [oc h_this 12 fs_this_1]) [0] rfl
  have hD9 := hD.sub (ws' := [oc h_this 12 fs_this_1]) [0] (by decide) rfl
  have hK9 := hK.sub (tys' := []) [] rfl
  have hv2 : fs_this_1[7]? = some (.int (if v_this_fault = 0 then (1 : Int32) else v_this_fault)) := hw1_2
  have hv3 : fs_this_1[8]? = some (.int (if v_this_fault = 0 then v_this_place else v_this_faultPlace)) := hw1_3
  exact W.vret hx hb hr (fun t ht hW => ⟨⟨(), rfl, trivial, fs_this_1, ⟨(by first | exact hw1_0 | (simp only [List.length_set]; exact hw1_0)), (fun j n7 n8 => ((hw1_1 j n7 n8).trans rfl)), (by first | exact hv2 | (rw [hv2]; refine congrArg some (congrArg _ ?_); rfl)), (by first | exact hv3 | (rw [hv3]; refine congrArg some (congrArg _ ?_); rfl))⟩, by rw [ht]; exact hP9, va_K.moved hW.alike hK9, hD9⟩, hS.F ht⟩) hS.2.2 d_Model_wrong_9
set_option maxHeartbeats 1000000 in
set_option maxRecDepth 100000 in
theorem c_Model_isSign (l : Launch) (dC : Nat → ClassId) (dI : Nat → Nat → Nat)  (h_this : Nat) (fs_this : List Value) (v_this_sort : Int32) (v_this_number : Int32) (v_this_fault : Int32) (p1 : Int32) (len_this : fs_this.length = 153) (g_this_sort : fs_this[2]? = some (.int v_this_sort)) (g_this_number : fs_this[5]? = some (.int v_this_number)) (g_this_fault : fs_this[7]? = some (.int v_this_fault)) : Met l y_Model_isSign w_Model_isSign ({ frames := 1, cells := 0, slots := 0, locals := 20 } : Room) (va_Pc [.ref h_this, .int p1] (fun U => va_P (dC, dI) cls_all [oc h_this 12 fs_this] U.heap ∧ va_K (dC, dI) cls_all [] U)) (vp_Si (fun r : Int32 => (r = if v_this_sort = 6 ∧ v_this_number = p1 ∧ v_this_fault = 0 then 1 else 0))) 0 0 (fun _ => False) := by
  refine Met.ofW (cc := b_Model_isSign) (maxL := 2) (ret := (some .boolean)) (by decide) rfl ?_
  intro p e s m args below meth c s₁ B hml hv
  obtain ⟨rfl, hP, hK⟩ := hv
  have hx := B.exec
  have hb := B.bytes
  have hr := B.returns
  have hT : ∀ w ∈ lw_good, w.before _ s = true := fun w h => atoms_spec (ws := w_Model_isSign) B.pre w (List.mem_cons_of_mem _ h)
  have hown : s.vm.findClass R_Model = some m.cls := findClass_of_methodNamed B.named
  have hlocks := B.notSynchronized
  have hl := lv_entry ([.ref h_this, .int p1]) (n := 2) (Nat.le_of_ble_eq_true rfl)
  rw [lg_entry_eq]
  generalize (lg_sl ([.ref h_this, .int p1]) ++ List.replicate (2 - (lg_sl ([.ref h_this, .int p1])).length) Slot.unset).toArray = ls at hl ⊢
  have hl : lv_has ls 2 [(0, .ref h_this), (1, .int p1)] := hl
  refine lv_aload_n hx hb d_Model_isSign_0 rfl (lv_at hl 0 rfl) ?_
  refine va_get (D := (dC, dI)) (ci := 12) (v := .int v_this_sort) (C := R_Model) (T := F_Model) (N := 153) hx hb hT i_Model hown hK hP 0 rfl rfl 2 (by decide) (hT _ fl_Model_352) (fun _ h9 => h9) g_this_sort d_Model_isSign_1 ?_
  refine lv_bipush (v := 6) hx hb d_Model_isSign_4 (by decide) ?_
  refine lv_icmp_ne (tgt := 28) hx hb d_Model_isSign_6 (by decide) (fun c1 => ?_) (fun c1 => ?_)
  · refine lv_iconst (v := 0) hx hb d_Model_isSign_28 (by decide) ?_
    refine W.zret (v := 0) hx hb hr (by first | rfl | decide | assumption) (fun t ht hW => ⟨0, rfl, ?_, ht⟩) (fun q h => by cases h) d_Model_isSign_29
    (by_cases a1 : v_this_fault = 0) <;> simp_all
  · refine lv_aload_n hx hb d_Model_isSign_9 rfl (lv_at hl 0 rfl) ?_
    refine va_get (D := (dC, dI)) (ci := 12) (v := .int v_this_number) (C := R_Model) (T := F_Model) (N := 153) hx hb hT i_Model hown hK hP 0 rfl rfl 5 (by decide) (hT _ fl_Model_369) (fun _ h9 => h9) g_this_number d_Model_isSign_10 ?_
    refine lv_iload_n hx hb d_Model_isSign_13 rfl (lv_at hl 1 rfl) ?_
    refine lv_icmp_ne (tgt := 28) hx hb d_Model_isSign_14 (by decide) (fun c2 => ?_) (fun c2 => ?_)
    · refine lv_iconst (v := 0) hx hb d_Model_isSign_28 (by decide) ?_
      refine W.zret (v := 0) hx hb hr (by first | rfl | decide | assumption) (fun t ht hW => ⟨0, rfl, ?_, ht⟩) (fun q h => by cases h) d_Model_isSign_29
      (by_cases a1 : v_this_fault = 0) <;> simp_all
    · refine lv_aload_n hx hb d_Model_isSign_17 rfl (lv_at hl 0 rfl) ?_
      have hPc := hP.sub (ws' := [oc h_this 12 fs_this]) [0] rfl
      have hKc := hK.sub (tys' := []) [] rfl
      refine vp_callSi (va_Run.run (va_runV (As := []) (rest := []) ⟨hx, hb, hml, hown, hT⟩ (c_Model_bad l dC dI (h_this := h_this) (fs_this := fs_this) (v_this_fault := v_this_fault) (len_this := (by first | exact len_this | (simp only [List.length_set]; exact len_this))) (g_this_fault := g_this_fault)) (cwV 0 hT (gV ml_Model_385 im_Model_bad se_Model_bad ini_Model co_Model_bad) rfl rfl rfl (by decide +kernel) ⟨Nat.le_of_ble_eq_true rfl, Nat.le_of_ble_eq_true rfl⟩) ⟨fbS, va_recv hKc hPc (ci := 12) (q0 := 0) rfl rfl, fun U hU hW => ⟨rfl, by rw [hU]; exact hPc, va_K.moved hW.alike hKc⟩⟩ rfl rfl hl.1 rfl (lv_room (Nat.le_of_ble_eq_true rfl)) d_Model_isSign_18 ⟨Nat.le_of_ble_eq_true rfl, Nat.le_of_ble_eq_true rfl⟩)) (fun r3 hr3 => ?_)
      refine lv_if_ne (tgt := 28) hx hb d_Model_isSign_21 (by decide) (fun c4 => ?_) (fun c4 => ?_)
      · refine lv_iconst (v := 0) hx hb d_Model_isSign_28 (by decide) ?_
        refine W.zret (v := 0) hx hb hr (by first | rfl | decide | assumption) (fun t ht hW => ⟨0, rfl, ?_, ht⟩) (fun q h => by cases h) d_Model_isSign_29
        (by_cases a1 : v_this_fault = 0) <;> simp_all
      · refine lv_iconst (v := 1) hx hb d_Model_isSign_24 (by decide) ?_
        refine lv_goto (tgt := 29) hx hb d_Model_isSign_25 (by decide) ?_
        refine W.zret (v := 1) hx hb hr (by first | rfl | decide | assumption) (fun t ht hW => ⟨1, rfl, ?_, ht⟩) (fun q h => by cases h) d_Model_isSign_29
        (by_cases a1 : v_this_fault = 0) <;> simp_all
set_option maxHeartbeats 1000000 in
set_option maxRecDepth 100000 in
theorem c_Model_isPointer (l : Launch) (dC : Nat → ClassId) (dI : Nat → Nat → Nat)  (h_this : Nat) (h_kindOf : Nat) (fs_this : List Value) (k_kindOf : ClassId) (f_kindOf : Nat → Int32) (p1 : Int32) (len_this : fs_this.length = 153) (g_this_kindOf : fs_this[66]? = some (.ref h_kindOf)) (hz : 0 < p1 → vp_in p1 6000) : Met l y_Model_isPointer w_Model_isPointer ({ frames := 0, cells := 0, slots := 0, locals := 0 } : Room) (va_Pc [.ref h_this, .int p1] (fun U => va_P (dC, dI) cls_all [oc h_this 12 fs_this, ic h_kindOf k_kindOf 6000 f_kindOf] U.heap ∧ va_K (dC, dI) cls_all [(k_kindOf, .int)] U)) (vp_Si (fun r : Int32 => (r = if 0 < p1 ∧ f_kindOf p1.toNatClampNeg < 3 then 1 else 0))) 0 0 (fun _ => False) := by
  refine Met.ofW (cc := b_Model_isPointer) (maxL := 2) (ret := (some .boolean)) (by decide) rfl ?_
  intro p e s m args below meth c s₁ B hml hv
  obtain ⟨rfl, hP, hK⟩ := hv
  have hx := B.exec
  have hb := B.bytes
  have hr := B.returns
  have hT : ∀ w ∈ lw_good, w.before _ s = true := fun w h => atoms_spec (ws := w_Model_isPointer) B.pre w (List.mem_cons_of_mem _ h)
  have hown : s.vm.findClass R_Model = some m.cls := findClass_of_methodNamed B.named
  have hlocks := B.notSynchronized
  have hl := lv_entry ([.ref h_this, .int p1]) (n := 2) (Nat.le_of_ble_eq_true rfl)
  rw [lg_entry_eq]
  generalize (lg_sl ([.ref h_this, .int p1]) ++ List.replicate (2 - (lg_sl ([.ref h_this, .int p1])).length) Slot.unset).toArray = ls at hl ⊢
  have hl : lv_has ls 2 [(0, .ref h_this), (1, .int p1)] := hl
  refine lv_iload_n hx hb d_Model_isPointer_0 rfl (lv_at hl 1 rfl) ?_
  refine lv_if_le (tgt := 18) hx hb d_Model_isPointer_1 (by decide) (fun c1 => ?_) (fun c1 => ?_)
  · refine lv_iconst (v := 0) hx hb d_Model_isPointer_18 (by decide) ?_
    refine W.zret (v := 0) hx hb hr (by first | rfl | decide | assumption) (fun t ht hW => ⟨0, rfl, ?_, ht⟩) (fun q h => by cases h) d_Model_isPointer_19
    subst_vars; (repeat' split) <;> first | rfl | (simp_all; done) | (exfalso; simp only [i_lt, i_le, i_eq, Int32.reduceToInt] at *; omega)
  · refine lv_aload_n hx hb d_Model_isPointer_4 rfl (lv_at hl 0 rfl) ?_
    refine va_get (D := (dC, dI)) (ci := 12) (v := .ref h_kindOf) (C := R_Model) (T := F_Model) (N := 153) hx hb hT i_Model hown hK hP 0 rfl rfl 66 (by decide) (hT _ fl_Model_156) (fun _ h9 => h9) g_this_kindOf d_Model_isPointer_5 ?_
    refine lv_iload_n hx hb d_Model_isPointer_8 rfl (lv_at hl 1 rfl) ?_
    refine va_iald hx hb hK hP 1 0 rfl rfl (hz (Int32.not_le.mp (by assumption))) d_Model_isPointer_9 ?_
    refine lv_topi (fun x2 e2 => ?_)
    refine lv_iconst (v := 3) hx hb d_Model_isPointer_10 (by decide) ?_
    refine lv_icmp_ge (tgt := 18) hx hb d_Model_isPointer_11 (by decide) (fun c3 => ?_) (fun c3 => ?_)
    · refine lv_iconst (v := 0) hx hb d_Model_isPointer_18 (by decide) ?_
      refine W.zret (v := 0) hx hb hr (by first | rfl | decide | assumption) (fun t ht hW => ⟨0, rfl, ?_, ht⟩) (fun q h => by cases h) d_Model_isPointer_19
      subst_vars; (repeat' split) <;> first | rfl | (simp_all; done) | (exfalso; simp only [i_lt, i_le, i_eq, Int32.reduceToInt] at *; omega)
    · refine lv_iconst (v := 1) hx hb d_Model_isPointer_14 (by decide) ?_
      refine lv_goto (tgt := 19) hx hb d_Model_isPointer_15 (by decide) ?_
      refine W.zret (v := 1) hx hb hr (by first | rfl | decide | assumption) (fun t ht hW => ⟨1, rfl, ?_, ht⟩) (fun q h => by cases h) d_Model_isPointer_19
      subst_vars; (repeat' split) <;> first | rfl | (simp_all; done) | (exfalso; simp only [i_lt, i_le, i_eq, Int32.reduceToInt] at *; omega)
set_option maxHeartbeats 1000000 in
set_option maxRecDepth 100000 in
theorem c_Model_isRow (l : Launch) (dC : Nat → ClassId) (dI : Nat → Nat → Nat)  (h_this : Nat) (h_kindOf : Nat) (fs_this : List Value) (k_kindOf : ClassId) (f_kindOf : Nat → Int32) (p1 : Int32) (len_this : fs_this.length = 153) (g_this_kindOf : fs_this[66]? = some (.ref h_kindOf)) (hz : 0 < p1 → vp_in p1 6000) : Met l y_Model_isRow w_Model_isRow ({ frames := 0, cells := 0, slots := 0, locals := 0 } : Room) (va_Pc [.ref h_this, .int p1] (fun U => va_P (dC, dI) cls_all [oc h_this 12 fs_this, ic h_kindOf k_kindOf 6000 f_kindOf] U.heap ∧ va_K (dC, dI) cls_all [(k_kindOf, .int)] U)) (vp_Si (fun r : Int32 => (r = if 0 < p1 ∧ f_kindOf p1.toNatClampNeg = 3 then 1 else 0))) 0 0 (fun _ => False) := by
  refine Met.ofW (cc := b_Model_isRow) (maxL := 2) (ret := (some .boolean)) (by decide) rfl ?_
  intro p e s m args below meth c s₁ B hml hv
  obtain ⟨rfl, hP, hK⟩ := hv
  have hx := B.exec
  have hb := B.bytes
  have hr := B.returns
  have hT : ∀ w ∈ lw_good, w.before _ s = true := fun w h => atoms_spec (ws := w_Model_isRow) B.pre w (List.mem_cons_of_mem _ h)
  have hown : s.vm.findClass R_Model = some m.cls := findClass_of_methodNamed B.named
  have hlocks := B.notSynchronized
  have hl := lv_entry ([.ref h_this, .int p1]) (n := 2) (Nat.le_of_ble_eq_true rfl)
  rw [lg_entry_eq]
  generalize (lg_sl ([.ref h_this, .int p1]) ++ List.replicate (2 - (lg_sl ([.ref h_this, .int p1])).length) Slot.unset).toArray = ls at hl ⊢
  have hl : lv_has ls 2 [(0, .ref h_this), (1, .int p1)] := hl
  refine lv_iload_n hx hb d_Model_isRow_0 rfl (lv_at hl 1 rfl) ?_
  refine lv_if_le (tgt := 18) hx hb d_Model_isRow_1 (by decide) (fun c1 => ?_) (fun c1 => ?_)
  · refine lv_iconst (v := 0) hx hb d_Model_isRow_18 (by decide) ?_
    refine W.zret (v := 0) hx hb hr (by first | rfl | decide | assumption) (fun t ht hW => ⟨0, rfl, ?_, ht⟩) (fun q h => by cases h) d_Model_isRow_19
    subst_vars; (repeat' split) <;> first | rfl | (simp_all; done) | (exfalso; simp only [i_lt, i_le, i_eq, Int32.reduceToInt] at *; omega)
  · refine lv_aload_n hx hb d_Model_isRow_4 rfl (lv_at hl 0 rfl) ?_
    refine va_get (D := (dC, dI)) (ci := 12) (v := .ref h_kindOf) (C := R_Model) (T := F_Model) (N := 153) hx hb hT i_Model hown hK hP 0 rfl rfl 66 (by decide) (hT _ fl_Model_156) (fun _ h9 => h9) g_this_kindOf d_Model_isRow_5 ?_
    refine lv_iload_n hx hb d_Model_isRow_8 rfl (lv_at hl 1 rfl) ?_
    refine va_iald hx hb hK hP 1 0 rfl rfl (hz (Int32.not_le.mp (by assumption))) d_Model_isRow_9 ?_
    refine lv_topi (fun x2 e2 => ?_)
    refine lv_iconst (v := 3) hx hb d_Model_isRow_10 (by decide) ?_
    refine lv_icmp_ne (tgt := 18) hx hb d_Model_isRow_11 (by decide) (fun c3 => ?_) (fun c3 => ?_)
    · refine lv_iconst (v := 0) hx hb d_Model_isRow_18 (by decide) ?_
      refine W.zret (v := 0) hx hb hr (by first | rfl | decide | assumption) (fun t ht hW => ⟨0, rfl, ?_, ht⟩) (fun q h => by cases h) d_Model_isRow_19
      subst_vars; (repeat' split) <;> first | rfl | (simp_all; done) | (exfalso; simp only [i_lt, i_le, i_eq, Int32.reduceToInt] at *; omega)
    · refine lv_iconst (v := 1) hx hb d_Model_isRow_14 (by decide) ?_
      refine lv_goto (tgt := 19) hx hb d_Model_isRow_15 (by decide) ?_
      refine W.zret (v := 1) hx hb hr (by first | rfl | decide | assumption) (fun t ht hW => ⟨1, rfl, ?_, ht⟩) (fun q h => by cases h) d_Model_isRow_19
      subst_vars; (repeat' split) <;> first | rfl | (simp_all; done) | (exfalso; simp only [i_lt, i_le, i_eq, Int32.reduceToInt] at *; omega)
set_option maxHeartbeats 1000000 in
set_option maxRecDepth 100000 in
theorem c_Model_isLive (l : Launch) (dC : Nat → ClassId) (dI : Nat → Nat → Nat)  (h_this : Nat) (fs_this : List Value) (v_this_live : Int32) (p1 : Int32) (len_this : fs_this.length = 153) (g_this_live : fs_this[75]? = some (.int v_this_live)) : Met l y_Model_isLive w_Model_isLive ({ frames := 0, cells := 0, slots := 0, locals := 0 } : Room) (va_Pc [.ref h_this, .int p1] (fun U => va_P (dC, dI) cls_all [oc h_this 12 fs_this] U.heap ∧ va_K (dC, dI) cls_all [] U)) (vp_Si (fun r : Int32 => (r = if (v_this_live >>> (p1 &&& 31)) &&& 1 = 1 then 1 else 0))) 0 0 (fun _ => False) := by
  refine Met.ofW (cc := b_Model_isLive) (maxL := 2) (ret := (some .boolean)) (by decide) rfl ?_
  intro p e s m args below meth c s₁ B hml hv
  obtain ⟨rfl, hP, hK⟩ := hv
  have hx := B.exec
  have hb := B.bytes
  have hr := B.returns
  have hT : ∀ w ∈ lw_good, w.before _ s = true := fun w h => atoms_spec (ws := w_Model_isLive) B.pre w (List.mem_cons_of_mem _ h)
  have hown : s.vm.findClass R_Model = some m.cls := findClass_of_methodNamed B.named
  have hlocks := B.notSynchronized
  have hl := lv_entry ([.ref h_this, .int p1]) (n := 2) (Nat.le_of_ble_eq_true rfl)
  rw [lg_entry_eq]
  generalize (lg_sl ([.ref h_this, .int p1]) ++ List.replicate (2 - (lg_sl ([.ref h_this, .int p1])).length) Slot.unset).toArray = ls at hl ⊢
  have hl : lv_has ls 2 [(0, .ref h_this), (1, .int p1)] := hl
  refine lv_aload_n hx hb d_Model_isLive_0 rfl (lv_at hl 0 rfl) ?_
  refine va_get (D := (dC, dI)) (ci := 12) (v := .int v_this_live) (C := R_Model) (T := F_Model) (N := 153) hx hb hT i_Model hown hK hP 0 rfl rfl 75 (by decide) (hT _ fl_Model_575) (fun _ h9 => h9) g_this_live d_Model_isLive_1 ?_
  refine lv_iload_n hx hb d_Model_isLive_4 rfl (lv_at hl 1 rfl) ?_
  refine lv_ishr hx hb d_Model_isLive_5 ?_
  refine lv_topi (fun x1 e1 => ?_)
  refine lv_iconst (v := 1) hx hb d_Model_isLive_6 (by decide) ?_
  refine lv_iand hx hb d_Model_isLive_7 ?_
  refine lv_topi (fun x2 e2 => ?_)
  refine lv_iconst (v := 1) hx hb d_Model_isLive_8 (by decide) ?_
  refine lv_icmp_ne (tgt := 16) hx hb d_Model_isLive_9 (by decide) (fun c3 => ?_) (fun c3 => ?_)
  · refine lv_iconst (v := 0) hx hb d_Model_isLive_16 (by decide) ?_
    refine W.zret (v := 0) hx hb hr (by first | rfl | decide | assumption) (fun t ht hW => ⟨0, rfl, ?_, ht⟩) (fun q h => by cases h) d_Model_isLive_17
    rw [← e1, ← e2]; first | exact (if_pos c3).symm | exact (if_neg c3).symm
  · refine lv_iconst (v := 1) hx hb d_Model_isLive_12 (by decide) ?_
    refine lv_goto (tgt := 17) hx hb d_Model_isLive_13 (by decide) ?_
    refine W.zret (v := 1) hx hb hr (by first | rfl | decide | assumption) (fun t ht hW => ⟨1, rfl, ?_, ht⟩) (fun q h => by cases h) d_Model_isLive_17
    rw [← e1, ← e2]; first | exact (if_pos c3).symm | exact (if_neg c3).symm
set_option maxHeartbeats 1000000 in
set_option maxRecDepth 100000 in
theorem c_Model_knowing (l : Launch) (dC : Nat → ClassId) (dI : Nat → Nat → Nat) (sz : Nat) (h_this : Nat) (fs_this : List Value) (v_this_knownVars : Int32) (p1 : Int32) (len_this : fs_this.length = 153) (g_this_knownVars : fs_this[82]? = some (.int v_this_knownVars)) : Met l y_Model_knowing w_Model_knowing ({ frames := 0, cells := 0, slots := 0, locals := 0 } : Room) (va_Pc [.ref h_this, .int p1] (fun U => U.heap.size = sz ∧ va_P (dC, dI) cls_all [oc h_this 12 fs_this] U.heap ∧ va_K (dC, dI) cls_all [] U ∧ va_D (fun _ => True) [oc h_this 12 fs_this])) (va_Qv (fun (_ : Unit) => True) (fun _ t => ∃ (fs_this' : List Value), (fs_this'.length = 153 ∧ (∀ j : Nat, j ≠ 82 → fs_this'[j]? = fs_this[j]?) ∧ fs_this'[82]? = some (.int (if p1 < 0 then v_this_knownVars else v_this_knownVars ||| ((1 : Int32) <<< (p1 &&& 31))))) ∧ va_P (dC, dI) cls_all [oc h_this 12 fs_this'] t.heap ∧ va_K (dC, dI) cls_all [] t ∧ va_D (va_A [oc h_this 12 fs_this] sz) [oc h_this 12 fs_this']) (va_A [oc h_this 12 fs_this] sz)) 0 0 (va_A [oc h_this 12 fs_this] sz) := by
  refine Met.ofW (cc := b_Model_knowing) (maxL := 2) (ret := none) (by decide) rfl ?_
  intro p e s m args below meth c s₁ B hml hv
  obtain ⟨rfl, hsz, hP, hK, hD0⟩ := hv
  have hx := B.exec
  have hb := B.bytes
  have hr := B.returns
  have hT : ∀ w ∈ lw_good, w.before _ s = true := fun w h => atoms_spec (ws := w_Model_knowing) B.pre w (List.mem_cons_of_mem _ h)
  have hown : s.vm.findClass R_Model = some m.cls := findClass_of_methodNamed B.named
  have hlocks := B.notSynchronized
  subst hsz
  have hD := hD0.self (sz := s.heap.size)
  generalize hAe : va_A [oc h_this 12 fs_this] s.heap.size = A at hD ⊢
  have hA : ∀ q : Nat, s.heap.size ≤ q → A q := fun q h => by rw [← hAe]; exact Or.inr h
  have hS : va_S A s.heap s.heap [] := va_S.rf
  have hP : va_P (dC, dI) cls_all [oc h_this 12 fs_this] s.heap := hP
  have hl := lv_entry ([.ref h_this, .int p1]) (n := 2) (Nat.le_of_ble_eq_true rfl)
  rw [lg_entry_eq]
  generalize (lg_sl ([.ref h_this, .int p1]) ++ List.replicate (2 - (lg_sl ([.ref h_this, .int p1])).length) Slot.unset).toArray = ls at hl ⊢
  have hl : lv_has ls 2 [(0, .ref h_this), (1, .int p1)] := hl
  refine lv_iload_n hx hb d_Model_knowing_0 rfl (lv_at hl 1 rfl) ?_
  refine lv_if_lt (tgt := 16) hx hb d_Model_knowing_1 (by decide) (fun c1 => ?_) (fun c1 => ?_)
  · have hP9 := hP.sub (ws' := [oc h_this 12 fs_this]) [0] rfl
    have hD9 := hD.sub (ws' := [oc h_this 12 fs_this]) [0] (by decide) rfl
    have hK9 := hK.sub (tys' := []) [] rfl
    have hv2 : fs_this[82]? = some (.int v_this_knownVars) := g_this_knownVars
    exact W.vret hx hb hr (fun t ht hW => ⟨⟨(), rfl, trivial, fs_this, ⟨(by first | exact len_this | (simp only [List.length_set]; exact len_this)), (fun j n82 => rfl), (by first | exact hv2 | (rw [hv2]; refine congrArg some (congrArg _ ?_); subst_vars; first | rfl | exact (if_pos (by assumption)).symm | exact (if_neg (by assumption)).symm | (simp_all; done)))⟩, by rw [ht]; exact hP9, va_K.moved hW.alike hK9, hD9⟩, hS.F ht⟩) hS.2.2 d_Model_knowing_16
  · refine lv_aload_n hx hb d_Model_knowing_4 rfl (lv_at hl 0 rfl) ?_
    refine lv_dup hx hb d_Model_knowing_5 rfl ?_
    refine va_get (D := (dC, dI)) (ci := 12) (v := .int v_this_knownVars) (C := R_Model) (T := F_Model) (N := 153) hx hb hT i_Model hown hK hP 0 rfl rfl 82 (by decide) (hT _ fl_Model_627) (fun _ h9 => h9) g_this_knownVars d_Model_knowing_6 ?_
    refine lv_iconst (v := 1) hx hb d_Model_knowing_9 (by decide) ?_
    refine lv_iload_n hx hb d_Model_knowing_10 rfl (lv_at hl 1 rfl) ?_
    refine lv_ishl hx hb d_Model_knowing_11 ?_
    refine lv_topi (fun x3 e3 => ?_)
    refine lv_ior hx hb d_Model_knowing_12 ?_
    refine lv_topi (fun x4 e4 => ?_)
    refine va_put (D := (dC, dI)) (ci := 12) (v := .int x4) (ty := .int) (C := R_Model) (T := F_Model) (N := 153) hx hb hT i_Model t_Model t_Model_ok n_Model hown hK hP hD hS 0 rfl rfl 82 (by decide) (hT _ fl_Model_627) (fun _ h9 => h9) rfl (by decide +kernel) rfl rfl (by simp only [List.length_set, len_this]; decide) d_Model_knowing_13 (fun H locs hP hD hS => ?_)
    have hP : va_P (dC, dI) cls_all [oc h_this 12 (fs_this.set 82 (.int x4))] H := hP
    have hD : va_D A [oc h_this 12 (fs_this.set 82 (.int x4))] := hD
    have hP9 := hP.sub (ws' := [oc h_this 12 (fs_this.set 82 (.int x4))]) [0] rfl
    have hD9 := hD.sub (ws' := [oc h_this 12 (fs_this.set 82 (.int x4))]) [0] (by decide) rfl
    have hK9 := hK.sub (tys' := []) [] rfl
    have hv5 : (fs_this.set 82 (.int x4))[82]? = some (.int x4) := (ls_eq (by simp only [List.length_set, len_this]; decide))
    exact W.vret hx hb hr (fun t ht hW => ⟨⟨(), rfl, trivial, (fs_this.set 82 (.int x4)), ⟨(by first | exact len_this | (simp only [List.length_set]; exact len_this)), (fun j n82 => ((ls_ne n82).trans rfl)), (by first | exact hv5 | (rw [hv5]; refine congrArg some (congrArg _ ?_); subst_vars; first | rfl | exact (if_pos (by assumption)).symm | exact (if_neg (by assumption)).symm | (simp_all; done)))⟩, by rw [ht]; exact hP9, va_K.moved hW.alike hK9, hD9⟩, hS.F ht⟩) hS.2.2 d_Model_knowing_16
set_option maxHeartbeats 1000000 in
set_option maxRecDepth 100000 in
theorem c_Model_regionIndex (l : Launch) (dC : Nat → ClassId) (dI : Nat → Nat → Nat)  (h_this : Nat) (h_regionNow : Nat) (fs_this : List Value) (v_this_depth : Int32) (k_regionNow : ClassId) (f_regionNow : Nat → Int32) (p1 : Int32) (len_this : fs_this.length = 153) (g_this_depth : fs_this[103]? = some (.int v_this_depth)) (g_this_regionNow : fs_this[121]? = some (.ref h_regionNow)) (hz : ¬ p1 = 0 → vp_in (12 * (v_this_depth - 1) + p1) 492) : Met l y_Model_regionIndex w_Model_regionIndex ({ frames := 0, cells := 0, slots := 0, locals := 0 } : Room) (va_Pc [.ref h_this, .int p1] (fun U => va_P (dC, dI) cls_all [oc h_this 12 fs_this, ic h_regionNow k_regionNow 492 f_regionNow] U.heap ∧ va_K (dC, dI) cls_all [(k_regionNow, .int)] U)) (vp_Si (fun r : Int32 => (r = if p1 = 0 then 0 else f_regionNow (12 * (v_this_depth - 1) + p1).toNatClampNeg))) 0 0 (fun _ => False) := by
  refine Met.ofW (cc := b_Model_regionIndex) (maxL := 2) (ret := (some .int)) (by decide) rfl ?_
  intro p e s m args below meth c s₁ B hml hv
  obtain ⟨rfl, hP, hK⟩ := hv
  have hx := B.exec
  have hb := B.bytes
  have hr := B.returns
  have hT : ∀ w ∈ lw_good, w.before _ s = true := fun w h => atoms_spec (ws := w_Model_regionIndex) B.pre w (List.mem_cons_of_mem _ h)
  have hown : s.vm.findClass R_Model = some m.cls := findClass_of_methodNamed B.named
  have hlocks := B.notSynchronized
  have hl := lv_entry ([.ref h_this, .int p1]) (n := 2) (Nat.le_of_ble_eq_true rfl)
  rw [lg_entry_eq]
  generalize (lg_sl ([.ref h_this, .int p1]) ++ List.replicate (2 - (lg_sl ([.ref h_this, .int p1])).length) Slot.unset).toArray = ls at hl ⊢
  have hl : lv_has ls 2 [(0, .ref h_this), (1, .int p1)] := hl
  refine lv_iload_n hx hb d_Model_regionIndex_0 rfl (lv_at hl 1 rfl) ?_
  refine lv_if_ne (tgt := 8) hx hb d_Model_regionIndex_1 (by decide) (fun c1 => ?_) (fun c1 => ?_)
  · refine lv_aload_n hx hb d_Model_regionIndex_8 rfl (lv_at hl 0 rfl) ?_
    refine va_get (D := (dC, dI)) (ci := 12) (v := .ref h_regionNow) (C := R_Model) (T := F_Model) (N := 153) hx hb hT i_Model hown hK hP 0 rfl rfl 121 (by decide) (hT _ fl_Model_240) (fun _ h9 => h9) g_this_regionNow d_Model_regionIndex_9 ?_
    refine lv_bipush (v := 12) hx hb d_Model_regionIndex_12 (by decide) ?_
    refine lv_aload_n hx hb d_Model_regionIndex_14 rfl (lv_at hl 0 rfl) ?_
    refine va_get (D := (dC, dI)) (ci := 12) (v := .int v_this_depth) (C := R_Model) (T := F_Model) (N := 153) hx hb hT i_Model hown hK hP 0 rfl rfl 103 (by decide) (hT _ fl_Model_808) (fun _ h9 => h9) g_this_depth d_Model_regionIndex_15 ?_
    refine lv_iconst (v := 1) hx hb d_Model_regionIndex_18 (by decide) ?_
    refine lv_isub hx hb d_Model_regionIndex_19 ?_
    refine lv_topi (fun x2 e2 => ?_)
    refine lv_imul hx hb d_Model_regionIndex_20 ?_
    refine lv_topi (fun x3 e3 => ?_)
    refine lv_iload_n hx hb d_Model_regionIndex_21 rfl (lv_at hl 1 rfl) ?_
    refine lv_iadd hx hb d_Model_regionIndex_22 ?_
    refine lv_topi (fun x4 e4 => ?_)
    refine va_iald hx hb hK hP 1 0 rfl rfl (by subst_vars; exact hz (by assumption)) d_Model_regionIndex_23 ?_
    refine lv_topi (fun x5 e5 => ?_)
    refine W.iret (v := x5) hx hb hr (fun t ht hW => ⟨x5, rfl, ?_, ht⟩) (fun q h => by cases h) d_Model_regionIndex_24
    subst_vars; first | rfl | exact (if_pos (by assumption)).symm | exact (if_neg (by assumption)).symm | (simp_all; done)
  · refine lv_iconst (v := 0) hx hb d_Model_regionIndex_4 (by decide) ?_
    refine lv_goto (tgt := 24) hx hb d_Model_regionIndex_5 (by decide) ?_
    refine W.iret (v := 0) hx hb hr (fun t ht hW => ⟨0, rfl, ?_, ht⟩) (fun q h => by cases h) d_Model_regionIndex_24
    subst_vars; first | rfl | exact (if_pos (by assumption)).symm | exact (if_neg (by assumption)).symm | (simp_all; done)
set_option maxHeartbeats 1000000 in
set_option maxRecDepth 100000 in
theorem c_Model_var (l : Launch) (dC : Nat → ClassId) (dI : Nat → Nat → Nat)  (h_this : Nat) (fs_this : List Value) (v_this_depth : Int32) (p1 : Int32) (len_this : fs_this.length = 153) (g_this_depth : fs_this[103]? = some (.int v_this_depth)) : Met l y_Model_var w_Model_var ({ frames := 0, cells := 0, slots := 0, locals := 0 } : Room) (va_Pc [.ref h_this, .int p1] (fun U => va_P (dC, dI) cls_all [oc h_this 12 fs_this] U.heap ∧ va_K (dC, dI) cls_all [] U)) (vp_Si (fun r : Int32 => (r = 20 * (v_this_depth - 1) + p1))) 0 0 (fun _ => False) := by
  refine Met.ofW (cc := b_Model_var) (maxL := 2) (ret := (some .int)) (by decide) rfl ?_
  intro p e s m args below meth c s₁ B hml hv
  obtain ⟨rfl, hP, hK⟩ := hv
  have hx := B.exec
  have hb := B.bytes
  have hr := B.returns
  have hT : ∀ w ∈ lw_good, w.before _ s = true := fun w h => atoms_spec (ws := w_Model_var) B.pre w (List.mem_cons_of_mem _ h)
  have hown : s.vm.findClass R_Model = some m.cls := findClass_of_methodNamed B.named
  have hlocks := B.notSynchronized
  have hl := lv_entry ([.ref h_this, .int p1]) (n := 2) (Nat.le_of_ble_eq_true rfl)
  rw [lg_entry_eq]
  generalize (lg_sl ([.ref h_this, .int p1]) ++ List.replicate (2 - (lg_sl ([.ref h_this, .int p1])).length) Slot.unset).toArray = ls at hl ⊢
  have hl : lv_has ls 2 [(0, .ref h_this), (1, .int p1)] := hl
  refine lv_bipush (v := 20) hx hb d_Model_var_0 (by decide) ?_
  refine lv_aload_n hx hb d_Model_var_2 rfl (lv_at hl 0 rfl) ?_
  refine va_get (D := (dC, dI)) (ci := 12) (v := .int v_this_depth) (C := R_Model) (T := F_Model) (N := 153) hx hb hT i_Model hown hK hP 0 rfl rfl 103 (by decide) (hT _ fl_Model_808) (fun _ h9 => h9) g_this_depth d_Model_var_3 ?_
  refine lv_iconst (v := 1) hx hb d_Model_var_6 (by decide) ?_
  refine lv_isub hx hb d_Model_var_7 ?_
  refine lv_topi (fun x1 e1 => ?_)
  refine lv_imul hx hb d_Model_var_8 ?_
  refine lv_topi (fun x2 e2 => ?_)
  refine lv_iload_n hx hb d_Model_var_9 rfl (lv_at hl 1 rfl) ?_
  refine lv_iadd hx hb d_Model_var_10 ?_
  refine lv_topi (fun x3 e3 => ?_)
  refine W.iret (v := x3) hx hb hr (fun t ht hW => ⟨x3, rfl, ?_, ht⟩) (fun q h => by cases h) d_Model_var_11
  subst_vars; rfl
set_option maxHeartbeats 1000000 in
set_option maxRecDepth 100000 in
theorem c_Model_push (l : Launch) (dC : Nat → ClassId) (dI : Nat → Nat → Nat) (sz : Nat) (h_this : Nat) (h_x : Nat) (h_y : Nat) (h_z : Nat) (h_rowed : Nat) (fs_this : List Value) (k_x : ClassId) (f_x : Nat → Int32) (k_y : ClassId) (f_y : Nat → Int32) (k_z : ClassId) (f_z : Nat → Int32) (k_rowed : ClassId) (f_rowed : Nat → Int32) (p1 : Int32) (p2 : Int32) (p3 : Int32) (n : Nat) (len_this : fs_this.length = 153) (g_this_height : fs_this[109]? = some (.int (nI n))) (g_this_x : fs_this[110]? = some (.ref h_x)) (g_this_y : fs_this[111]? = some (.ref h_y)) (g_this_z : fs_this[112]? = some (.ref h_z)) (g_this_rowed : fs_this[113]? = some (.ref h_rowed)) (hn : n < 8200) : Met l y_Model_push w_Model_push ({ frames := 0, cells := 0, slots := 0, locals := 0 } : Room) (va_Pc [.ref h_this, .int p1, .int p2, .int p3] (fun U => U.heap.size = sz ∧ va_P (dC, dI) cls_all [oc h_this 12 fs_this, ic h_x k_x 8200 f_x, ic h_y k_y 8200 f_y, ic h_z k_z 8200 f_z, ic h_rowed k_rowed 8200 f_rowed] U.heap ∧ va_K (dC, dI) cls_all [(k_x, .int), (k_y, .int), (k_z, .int), (k_rowed, .int)] U ∧ va_D (fun _ => True) [oc h_this 12 fs_this, ic h_x k_x 8200 f_x, ic h_y k_y 8200 f_y, ic h_z k_z 8200 f_z, ic h_rowed k_rowed 8200 f_rowed])) (va_Qv (fun (_ : Unit) => True) (fun _ t => ∃ (fs_this' : List Value) (f_x' : Nat → Int32) (f_y' : Nat → Int32) (f_z' : Nat → Int32) (f_rowed' : Nat → Int32), (fs_this'.length = 153 ∧ (∀ j : Nat, j ≠ 109 → fs_this'[j]? = fs_this[j]?) ∧ fs_this'[109]? = some (.int (nI (n + 1))) ∧ (f_x' = upd f_x n p1) ∧ (f_y' = upd f_y n p2) ∧ (f_z' = upd f_z n p3) ∧ (f_rowed' = upd f_rowed n 0)) ∧ va_P (dC, dI) cls_all [oc h_this 12 fs_this', ic h_x k_x 8200 f_x', ic h_y k_y 8200 f_y', ic h_z k_z 8200 f_z', ic h_rowed k_rowed 8200 f_rowed'] t.heap ∧ va_K (dC, dI) cls_all [(k_x, .int), (k_y, .int), (k_z, .int), (k_rowed, .int)] t ∧ va_D (va_A [oc h_this 12 fs_this, ic h_x k_x 8200 f_x, ic h_y k_y 8200 f_y, ic h_z k_z 8200 f_z, ic h_rowed k_rowed 8200 f_rowed] sz) [oc h_this 12 fs_this', ic h_x k_x 8200 f_x', ic h_y k_y 8200 f_y', ic h_z k_z 8200 f_z', ic h_rowed k_rowed 8200 f_rowed']) (va_A [oc h_this 12 fs_this, ic h_x k_x 8200 f_x, ic h_y k_y 8200 f_y, ic h_z k_z 8200 f_z, ic h_rowed k_rowed 8200 f_rowed] sz)) 0 0 (va_A [oc h_this 12 fs_this, ic h_x k_x 8200 f_x, ic h_y k_y 8200 f_y, ic h_z k_z 8200 f_z, ic h_rowed k_rowed 8200 f_rowed] sz) := by
  refine Met.ofW (cc := b_Model_push) (maxL := 4) (ret := none) (by decide) rfl ?_
  intro p e s m args below meth c s₁ B hml hv
  obtain ⟨rfl, hsz, hP, hK, hD0⟩ := hv
  have hx := B.exec
  have hb := B.bytes
  have hr := B.returns
  have hT : ∀ w ∈ lw_good, w.before _ s = true := fun w h => atoms_spec (ws := w_Model_push) B.pre w (List.mem_cons_of_mem _ h)
  have hown : s.vm.findClass R_Model = some m.cls := findClass_of_methodNamed B.named
  have hlocks := B.notSynchronized
  subst hsz
  have hD := hD0.self (sz := s.heap.size)
  generalize hAe : va_A [oc h_this 12 fs_this, ic h_x k_x 8200 f_x, ic h_y k_y 8200 f_y, ic h_z k_z 8200 f_z, ic h_rowed k_rowed 8200 f_rowed] s.heap.size = A at hD ⊢
  have hA : ∀ q : Nat, s.heap.size ≤ q → A q := fun q h => by rw [← hAe]; exact Or.inr h
  have hS : va_S A s.heap s.heap [] := va_S.rf
  have hP : va_P (dC, dI) cls_all [oc h_this 12 fs_this, ic h_x k_x 8200 f_x, ic h_y k_y 8200 f_y, ic h_z k_z 8200 f_z, ic h_rowed k_rowed 8200 f_rowed] s.heap := hP
  have hl := lv_entry ([.ref h_this, .int p1, .int p2, .int p3]) (n := 4) (Nat.le_of_ble_eq_true rfl)
  rw [lg_entry_eq]
  generalize (lg_sl ([.ref h_this, .int p1, .int p2, .int p3]) ++ List.replicate (4 - (lg_sl ([.ref h_this, .int p1, .int p2, .int p3])).length) Slot.unset).toArray = ls at hl ⊢
  have hl : lv_has ls 4 [(0, .ref h_this), (1, .int p1), (2, .int p2), (3, .int p3)] := hl
  refine lv_aload_n hx hb d_Model_push_0 rfl (lv_at hl 0 rfl) ?_
  refine va_get (D := (dC, dI)) (ci := 12) (v := .ref h_x) (C := R_Model) (T := F_Model) (N := 153) hx hb hT i_Model hown hK hP 0 rfl rfl 110 (by decide) (hT _ fl_Model_207) (fun _ h9 => h9) g_this_x d_Model_push_1 ?_
  refine lv_aload_n hx hb d_Model_push_4 rfl (lv_at hl 0 rfl) ?_
  refine va_get (D := (dC, dI)) (ci := 12) (v := .int (nI n)) (C := R_Model) (T := F_Model) (N := 153) hx hb hT i_Model hown hK hP 0 rfl rfl 109 (by decide) (hT _ fl_Model_799) (fun _ h9 => h9) g_this_height d_Model_push_5 ?_
  refine lv_iload_n hx hb d_Model_push_8 rfl (lv_at hl 1 rfl) ?_
  refine va_iast hx hb hK hP hD hS 1 0 rfl rfl (vp_in_nI (by omega) (by decide)) d_Model_push_9 (fun H locs hP hD hS => ?_)
  have es1 : upd f_x (nI n).toNatClampNeg p1 = upd f_x n p1 := (by rw [nI_clamp (by omega)])
  have hP : va_P (dC, dI) cls_all [oc h_this 12 fs_this, ic h_x k_x 8200 (upd f_x (nI n).toNatClampNeg p1), ic h_y k_y 8200 f_y, ic h_z k_z 8200 f_z, ic h_rowed k_rowed 8200 f_rowed] H := hP
  have hD : va_D A [oc h_this 12 fs_this, ic h_x k_x 8200 (upd f_x (nI n).toNatClampNeg p1), ic h_y k_y 8200 f_y, ic h_z k_z 8200 f_z, ic h_rowed k_rowed 8200 f_rowed] := hD
  rw [es1] at hP hD
  obtain ⟨f1, ef1⟩ : ∃ g, g = upd f_x n p1 := ⟨_, rfl⟩
  rw [← ef1] at hP hD
  refine lv_aload_n hx hb d_Model_push_10 rfl (lv_at hl 0 rfl) ?_
  refine va_get (D := (dC, dI)) (ci := 12) (v := .ref h_y) (C := R_Model) (T := F_Model) (N := 153) hx hb hT i_Model hown hK hP 0 rfl rfl 111 (by decide) (hT _ fl_Model_210) (fun _ h9 => h9) g_this_y d_Model_push_11 ?_
  refine lv_aload_n hx hb d_Model_push_14 rfl (lv_at hl 0 rfl) ?_
  refine va_get (D := (dC, dI)) (ci := 12) (v := .int (nI n)) (C := R_Model) (T := F_Model) (N := 153) hx hb hT i_Model hown hK hP 0 rfl rfl 109 (by decide) (hT _ fl_Model_799) (fun _ h9 => h9) g_this_height d_Model_push_15 ?_
  refine lv_iload_n hx hb d_Model_push_18 rfl (lv_at hl 2 rfl) ?_
  refine va_iast hx hb hK hP hD hS 2 1 rfl rfl (vp_in_nI (by omega) (by decide)) d_Model_push_19 (fun H locs hP hD hS => ?_)
  have es2 : upd f_y (nI n).toNatClampNeg p2 = upd f_y n p2 := (by rw [nI_clamp (by omega)])
  have hP : va_P (dC, dI) cls_all [oc h_this 12 fs_this, ic h_x k_x 8200 f1, ic h_y k_y 8200 (upd f_y (nI n).toNatClampNeg p2), ic h_z k_z 8200 f_z, ic h_rowed k_rowed 8200 f_rowed] H := hP
  have hD : va_D A [oc h_this 12 fs_this, ic h_x k_x 8200 f1, ic h_y k_y 8200 (upd f_y (nI n).toNatClampNeg p2), ic h_z k_z 8200 f_z, ic h_rowed k_rowed 8200 f_rowed] := hD
  rw [es2] at hP hD
  obtain ⟨f2, ef2⟩ : ∃ g, g = upd f_y n p2 := ⟨_, rfl⟩
  rw [← ef2] at hP hD
  refine lv_aload_n hx hb d_Model_push_20 rfl (lv_at hl 0 rfl) ?_
  refine va_get (D := (dC, dI)) (ci := 12) (v := .ref h_z) (C := R_Model) (T := F_Model) (N := 153) hx hb hT i_Model hown hK hP 0 rfl rfl 112 (by decide) (hT _ fl_Model_213) (fun _ h9 => h9) g_this_z d_Model_push_21 ?_
  refine lv_aload_n hx hb d_Model_push_24 rfl (lv_at hl 0 rfl) ?_
  refine va_get (D := (dC, dI)) (ci := 12) (v := .int (nI n)) (C := R_Model) (T := F_Model) (N := 153) hx hb hT i_Model hown hK hP 0 rfl rfl 109 (by decide) (hT _ fl_Model_799) (fun _ h9 => h9) g_this_height d_Model_push_25 ?_
  refine lv_iload_n hx hb d_Model_push_28 rfl (lv_at hl 3 rfl) ?_
  refine va_iast hx hb hK hP hD hS 3 2 rfl rfl (vp_in_nI (by omega) (by decide)) d_Model_push_29 (fun H locs hP hD hS => ?_)
  have es3 : upd f_z (nI n).toNatClampNeg p3 = upd f_z n p3 := (by rw [nI_clamp (by omega)])
  have hP : va_P (dC, dI) cls_all [oc h_this 12 fs_this, ic h_x k_x 8200 f1, ic h_y k_y 8200 f2, ic h_z k_z 8200 (upd f_z (nI n).toNatClampNeg p3), ic h_rowed k_rowed 8200 f_rowed] H := hP
  have hD : va_D A [oc h_this 12 fs_this, ic h_x k_x 8200 f1, ic h_y k_y 8200 f2, ic h_z k_z 8200 (upd f_z (nI n).toNatClampNeg p3), ic h_rowed k_rowed 8200 f_rowed] := hD
  rw [es3] at hP hD
  obtain ⟨f3, ef3⟩ : ∃ g, g = upd f_z n p3 := ⟨_, rfl⟩
  rw [← ef3] at hP hD
  refine lv_aload_n hx hb d_Model_push_30 rfl (lv_at hl 0 rfl) ?_
  refine va_get (D := (dC, dI)) (ci := 12) (v := .ref h_rowed) (C := R_Model) (T := F_Model) (N := 153) hx hb hT i_Model hown hK hP 0 rfl rfl 113 (by decide) (hT _ fl_Model_216) (fun _ h9 => h9) g_this_rowed d_Model_push_31 ?_
  refine lv_aload_n hx hb d_Model_push_34 rfl (lv_at hl 0 rfl) ?_
  refine va_get (D := (dC, dI)) (ci := 12) (v := .int (nI n)) (C := R_Model) (T := F_Model) (N := 153) hx hb hT i_Model hown hK hP 0 rfl rfl 109 (by decide) (hT _ fl_Model_799) (fun _ h9 => h9) g_this_height d_Model_push_35 ?_
  refine lv_iconst (v := 0) hx hb d_Model_push_38 (by decide) ?_
  refine va_iast hx hb hK hP hD hS 4 3 rfl rfl (vp_in_nI (by omega) (by decide)) d_Model_push_39 (fun H locs hP hD hS => ?_)
  have es4 : upd f_rowed (nI n).toNatClampNeg 0 = upd f_rowed n 0 := (by rw [nI_clamp (by omega)])
  have hP : va_P (dC, dI) cls_all [oc h_this 12 fs_this, ic h_x k_x 8200 f1, ic h_y k_y 8200 f2, ic h_z k_z 8200 f3, ic h_rowed k_rowed 8200 (upd f_rowed (nI n).toNatClampNeg 0)] H := hP
  have hD : va_D A [oc h_this 12 fs_this, ic h_x k_x 8200 f1, ic h_y k_y 8200 f2, ic h_z k_z 8200 f3, ic h_rowed k_rowed 8200 (upd f_rowed (nI n).toNatClampNeg 0)] := hD
  rw [es4] at hP hD
  obtain ⟨f4, ef4⟩ : ∃ g, g = upd f_rowed n 0 := ⟨_, rfl⟩
  rw [← ef4] at hP hD
  refine lv_aload_n hx hb d_Model_push_40 rfl (lv_at hl 0 rfl) ?_
  refine lv_dup hx hb d_Model_push_41 rfl ?_
  refine va_get (D := (dC, dI)) (ci := 12) (v := .int (nI n)) (C := R_Model) (T := F_Model) (N := 153) hx hb hT i_Model hown hK hP 0 rfl rfl 109 (by decide) (hT _ fl_Model_799) (fun _ h9 => h9) g_this_height d_Model_push_42 ?_
  refine lv_iconst (v := 1) hx hb d_Model_push_45 (by decide) ?_
  refine lv_iadd hx hb d_Model_push_46 ?_
  refine lv_topi (fun x5 e5 => ?_)
  obtain rfl : x5 = nI (n + 1) := e5.trans (nI_add n 1)
  refine va_put (D := (dC, dI)) (ci := 12) (v := .int (nI (n + 1))) (ty := .int) (C := R_Model) (T := F_Model) (N := 153) hx hb hT i_Model t_Model t_Model_ok n_Model hown hK hP hD hS 0 rfl rfl 109 (by decide) (hT _ fl_Model_799) (fun _ h9 => h9) rfl (by decide +kernel) rfl rfl (by simp only [List.length_set, len_this]; decide) d_Model_push_47 (fun H locs hP hD hS => ?_)
  have hP : va_P (dC, dI) cls_all [oc h_this 12 (fs_this.set 109 (.int (nI (n + 1)))), ic h_x k_x 8200 f1, ic h_y k_y 8200 f2, ic h_z k_z 8200 f3, ic h_rowed k_rowed 8200 f4] H := hP
  have hD : va_D A [oc h_this 12 (fs_this.set 109 (.int (nI (n + 1)))), ic h_x k_x 8200 f1, ic h_y k_y 8200 f2, ic h_z k_z 8200 f3, ic h_rowed k_rowed 8200 f4] := hD
  have hP9 := hP.sub (ws' := [oc h_this 12 (fs_this.set 109 (.int (nI (n + 1)))), ic h_x k_x 8200 f1, ic h_y k_y 8200 f2, ic h_z k_z 8200 f3, ic h_rowed k_rowed 8200 f4]) [0, 1, 2, 3, 4] rfl
  have hD9 := hD.sub (ws' := [oc h_this 12 (fs_this.set 109 (.int (nI (n + 1)))), ic h_x k_x 8200 f1, ic h_y k_y 8200 f2, ic h_z k_z 8200 f3, ic h_rowed k_rowed 8200 f4]) [0, 1, 2, 3, 4] (by decide) rfl
  have hK9 := hK.sub (tys' := [(k_x, .int), (k_y, .int), (k_z, .int), (k_rowed, .int)]) [0, 1, 2, 3] rfl
  have hv6 : (fs_this.set 109 (.int (nI (n + 1))))[109]? = some (.int (nI (n + 1))) := (ls_eq (by simp only [List.length_set, len_this]; decide))
  exact W.vret hx hb hr (fun t ht hW => ⟨⟨(), rfl, trivial, (fs_this.set 109 (.int (nI (n + 1)))), f1, f2, f3, f4, ⟨(by first | exact len_this | (simp only [List.length_set]; exact len_this)), (fun j n109 => ((ls_ne n109).trans rfl)), (by first | exact hv6 | (rw [hv6]; refine congrArg some (congrArg _ ?_); rfl)), (by first | assumption | (subst_vars; rfl)), (by first | assumption | (subst_vars; rfl)), (by first | assumption | (subst_vars; rfl)), (by first | assumption | (subst_vars; rfl))⟩, by rw [ht]; exact hP9, va_K.moved hW.alike hK9, hD9⟩, hS.F ht⟩) hS.2.2 d_Model_push_50
set_option maxHeartbeats 1000000 in
set_option maxRecDepth 100000 in
theorem c_Model_lay (l : Launch) (dC : Nat → ClassId) (dI : Nat → Nat → Nat) (sz : Nat) (h_this : Nat) (h_code : Nat) (h_first : Nat) (h_second : Nat) (h_third : Nat) (fs_this : List Value) (k_code : ClassId) (f_code : Nat → Int32) (k_first : ClassId) (f_first : Nat → Int32) (k_second : ClassId) (f_second : Nat → Int32) (k_third : ClassId) (f_third : Nat → Int32) (p1 : Int32) (p2 : Int32) (p3 : Int32) (p4 : Int32) (n : Nat) (len_this : fs_this.length = 153) (g_this_codes : fs_this[95]? = some (.int (nI n))) (g_this_code : fs_this[96]? = some (.ref h_code)) (g_this_first : fs_this[97]? = some (.ref h_first)) (g_this_second : fs_this[98]? = some (.ref h_second)) (g_this_third : fs_this[99]? = some (.ref h_third)) (hn : n < 12000) : Met l y_Model_lay w_Model_lay ({ frames := 0, cells := 0, slots := 0, locals := 0 } : Room) (va_Pc [.ref h_this, .int p1, .int p2, .int p3, .int p4] (fun U => U.heap.size = sz ∧ va_P (dC, dI) cls_all [oc h_this 12 fs_this, ic h_code k_code 12000 f_code, ic h_first k_first 12000 f_first, ic h_second k_second 12000 f_second, ic h_third k_third 12000 f_third] U.heap ∧ va_K (dC, dI) cls_all [(k_code, .int), (k_first, .int), (k_second, .int), (k_third, .int)] U ∧ va_D (fun _ => True) [oc h_this 12 fs_this, ic h_code k_code 12000 f_code, ic h_first k_first 12000 f_first, ic h_second k_second 12000 f_second, ic h_third k_third 12000 f_third])) (va_Qi (fun (z r : Int32) => z = r) (fun r t => ∃ (fs_this' : List Value) (f_code' : Nat → Int32) (f_first' : Nat → Int32) (f_second' : Nat → Int32) (f_third' : Nat → Int32), (fs_this'.length = 153 ∧ (∀ j : Nat, j ≠ 95 → fs_this'[j]? = fs_this[j]?) ∧ fs_this'[95]? = some (.int (nI (n + 1))) ∧ (f_code' = upd f_code n p1) ∧ (f_first' = upd f_first n p2) ∧ (f_second' = upd f_second n p3) ∧ (f_third' = upd f_third n p4) ∧ (r = nI n)) ∧ va_P (dC, dI) cls_all [oc h_this 12 fs_this', ic h_code k_code 12000 f_code', ic h_first k_first 12000 f_first', ic h_second k_second 12000 f_second', ic h_third k_third 12000 f_third'] t.heap ∧ va_K (dC, dI) cls_all [(k_code, .int), (k_first, .int), (k_second, .int), (k_third, .int)] t ∧ va_D (va_A [oc h_this 12 fs_this, ic h_code k_code 12000 f_code, ic h_first k_first 12000 f_first, ic h_second k_second 12000 f_second, ic h_third k_third 12000 f_third] sz) [oc h_this 12 fs_this', ic h_code k_code 12000 f_code', ic h_first k_first 12000 f_first', ic h_second k_second 12000 f_second', ic h_third k_third 12000 f_third']) (va_A [oc h_this 12 fs_this, ic h_code k_code 12000 f_code, ic h_first k_first 12000 f_first, ic h_second k_second 12000 f_second, ic h_third k_third 12000 f_third] sz)) 0 0 (va_A [oc h_this 12 fs_this, ic h_code k_code 12000 f_code, ic h_first k_first 12000 f_first, ic h_second k_second 12000 f_second, ic h_third k_third 12000 f_third] sz) := by
  refine Met.ofW (cc := b_Model_lay) (maxL := 5) (ret := (some .int)) (by decide) rfl ?_
  intro p e s m args below meth c s₁ B hml hv
  obtain ⟨rfl, hsz, hP, hK, hD0⟩ := hv
  have hx := B.exec
  have hb := B.bytes
  have hr := B.returns
  have hT : ∀ w ∈ lw_good, w.before _ s = true := fun w h => atoms_spec (ws := w_Model_lay) B.pre w (List.mem_cons_of_mem _ h)
  have hown : s.vm.findClass R_Model = some m.cls := findClass_of_methodNamed B.named
  have hlocks := B.notSynchronized
  subst hsz
  have hD := hD0.self (sz := s.heap.size)
  generalize hAe : va_A [oc h_this 12 fs_this, ic h_code k_code 12000 f_code, ic h_first k_first 12000 f_first, ic h_second k_second 12000 f_second, ic h_third k_third 12000 f_third] s.heap.size = A at hD ⊢
  have hA : ∀ q : Nat, s.heap.size ≤ q → A q := fun q h => by rw [← hAe]; exact Or.inr h
  have hS : va_S A s.heap s.heap [] := va_S.rf
  have hP : va_P (dC, dI) cls_all [oc h_this 12 fs_this, ic h_code k_code 12000 f_code, ic h_first k_first 12000 f_first, ic h_second k_second 12000 f_second, ic h_third k_third 12000 f_third] s.heap := hP
  have hl := lv_entry ([.ref h_this, .int p1, .int p2, .int p3, .int p4]) (n := 5) (Nat.le_of_ble_eq_true rfl)
  rw [lg_entry_eq]
  generalize (lg_sl ([.ref h_this, .int p1, .int p2, .int p3, .int p4]) ++ List.replicate (5 - (lg_sl ([.ref h_this, .int p1, .int p2, .int p3, .int p4])).length) Slot.unset).toArray = ls at hl ⊢
  have hl : lv_has ls 5 [(0, .ref h_this), (1, .int p1), (2, .int p2), (3, .int p3), (4, .int p4)] := hl
  refine lv_aload_n hx hb d_Model_lay_0 rfl (lv_at hl 0 rfl) ?_
  refine va_get (D := (dC, dI)) (ci := 12) (v := .ref h_code) (C := R_Model) (T := F_Model) (N := 153) hx hb hT i_Model hown hK hP 0 rfl rfl 96 (by decide) (hT _ fl_Model_195) (fun _ h9 => h9) g_this_code d_Model_lay_1 ?_
  refine lv_aload_n hx hb d_Model_lay_4 rfl (lv_at hl 0 rfl) ?_
  refine va_get (D := (dC, dI)) (ci := 12) (v := .int (nI n)) (C := R_Model) (T := F_Model) (N := 153) hx hb hT i_Model hown hK hP 0 rfl rfl 95 (by decide) (hT _ fl_Model_771) (fun _ h9 => h9) g_this_codes d_Model_lay_5 ?_
  refine lv_iload_n hx hb d_Model_lay_8 rfl (lv_at hl 1 rfl) ?_
  refine va_iast hx hb hK hP hD hS 1 0 rfl rfl (vp_in_nI (by omega) (by decide)) d_Model_lay_9 (fun H locs hP hD hS => ?_)
  have es1 : upd f_code (nI n).toNatClampNeg p1 = upd f_code n p1 := (by rw [nI_clamp (by omega)])
  have hP : va_P (dC, dI) cls_all [oc h_this 12 fs_this, ic h_code k_code 12000 (upd f_code (nI n).toNatClampNeg p1), ic h_first k_first 12000 f_first, ic h_second k_second 12000 f_second, ic h_third k_third 12000 f_third] H := hP
  have hD : va_D A [oc h_this 12 fs_this, ic h_code k_code 12000 (upd f_code (nI n).toNatClampNeg p1), ic h_first k_first 12000 f_first, ic h_second k_second 12000 f_second, ic h_third k_third 12000 f_third] := hD
  rw [es1] at hP hD
  obtain ⟨f1, ef1⟩ : ∃ g, g = upd f_code n p1 := ⟨_, rfl⟩
  rw [← ef1] at hP hD
  refine lv_aload_n hx hb d_Model_lay_10 rfl (lv_at hl 0 rfl) ?_
  refine va_get (D := (dC, dI)) (ci := 12) (v := .ref h_first) (C := R_Model) (T := F_Model) (N := 153) hx hb hT i_Model hown hK hP 0 rfl rfl 97 (by decide) (hT _ fl_Model_198) (fun _ h9 => h9) g_this_first d_Model_lay_11 ?_
  refine lv_aload_n hx hb d_Model_lay_14 rfl (lv_at hl 0 rfl) ?_
  refine va_get (D := (dC, dI)) (ci := 12) (v := .int (nI n)) (C := R_Model) (T := F_Model) (N := 153) hx hb hT i_Model hown hK hP 0 rfl rfl 95 (by decide) (hT _ fl_Model_771) (fun _ h9 => h9) g_this_codes d_Model_lay_15 ?_
  refine lv_iload_n hx hb d_Model_lay_18 rfl (lv_at hl 2 rfl) ?_
  refine va_iast hx hb hK hP hD hS 2 1 rfl rfl (vp_in_nI (by omega) (by decide)) d_Model_lay_19 (fun H locs hP hD hS => ?_)
  have es2 : upd f_first (nI n).toNatClampNeg p2 = upd f_first n p2 := (by rw [nI_clamp (by omega)])
  have hP : va_P (dC, dI) cls_all [oc h_this 12 fs_this, ic h_code k_code 12000 f1, ic h_first k_first 12000 (upd f_first (nI n).toNatClampNeg p2), ic h_second k_second 12000 f_second, ic h_third k_third 12000 f_third] H := hP
  have hD : va_D A [oc h_this 12 fs_this, ic h_code k_code 12000 f1, ic h_first k_first 12000 (upd f_first (nI n).toNatClampNeg p2), ic h_second k_second 12000 f_second, ic h_third k_third 12000 f_third] := hD
  rw [es2] at hP hD
  obtain ⟨f2, ef2⟩ : ∃ g, g = upd f_first n p2 := ⟨_, rfl⟩
  rw [← ef2] at hP hD
  refine lv_aload_n hx hb d_Model_lay_20 rfl (lv_at hl 0 rfl) ?_
  refine va_get (D := (dC, dI)) (ci := 12) (v := .ref h_second) (C := R_Model) (T := F_Model) (N := 153) hx hb hT i_Model hown hK hP 0 rfl rfl 98 (by decide) (hT _ fl_Model_201) (fun _ h9 => h9) g_this_second d_Model_lay_21 ?_
  refine lv_aload_n hx hb d_Model_lay_24 rfl (lv_at hl 0 rfl) ?_
  refine va_get (D := (dC, dI)) (ci := 12) (v := .int (nI n)) (C := R_Model) (T := F_Model) (N := 153) hx hb hT i_Model hown hK hP 0 rfl rfl 95 (by decide) (hT _ fl_Model_771) (fun _ h9 => h9) g_this_codes d_Model_lay_25 ?_
  refine lv_iload_n hx hb d_Model_lay_28 rfl (lv_at hl 3 rfl) ?_
  refine va_iast hx hb hK hP hD hS 3 2 rfl rfl (vp_in_nI (by omega) (by decide)) d_Model_lay_29 (fun H locs hP hD hS => ?_)
  have es3 : upd f_second (nI n).toNatClampNeg p3 = upd f_second n p3 := (by rw [nI_clamp (by omega)])
  have hP : va_P (dC, dI) cls_all [oc h_this 12 fs_this, ic h_code k_code 12000 f1, ic h_first k_first 12000 f2, ic h_second k_second 12000 (upd f_second (nI n).toNatClampNeg p3), ic h_third k_third 12000 f_third] H := hP
  have hD : va_D A [oc h_this 12 fs_this, ic h_code k_code 12000 f1, ic h_first k_first 12000 f2, ic h_second k_second 12000 (upd f_second (nI n).toNatClampNeg p3), ic h_third k_third 12000 f_third] := hD
  rw [es3] at hP hD
  obtain ⟨f3, ef3⟩ : ∃ g, g = upd f_second n p3 := ⟨_, rfl⟩
  rw [← ef3] at hP hD
  refine lv_aload_n hx hb d_Model_lay_30 rfl (lv_at hl 0 rfl) ?_
  refine va_get (D := (dC, dI)) (ci := 12) (v := .ref h_third) (C := R_Model) (T := F_Model) (N := 153) hx hb hT i_Model hown hK hP 0 rfl rfl 99 (by decide) (hT _ fl_Model_204) (fun _ h9 => h9) g_this_third d_Model_lay_31 ?_
  refine lv_aload_n hx hb d_Model_lay_34 rfl (lv_at hl 0 rfl) ?_
  refine va_get (D := (dC, dI)) (ci := 12) (v := .int (nI n)) (C := R_Model) (T := F_Model) (N := 153) hx hb hT i_Model hown hK hP 0 rfl rfl 95 (by decide) (hT _ fl_Model_771) (fun _ h9 => h9) g_this_codes d_Model_lay_35 ?_
  refine lv_iload hx hb d_Model_lay_38 (lv_at hl 4 rfl) ?_
  refine va_iast hx hb hK hP hD hS 4 3 rfl rfl (vp_in_nI (by omega) (by decide)) d_Model_lay_40 (fun H locs hP hD hS => ?_)
  have es4 : upd f_third (nI n).toNatClampNeg p4 = upd f_third n p4 := (by rw [nI_clamp (by omega)])
  have hP : va_P (dC, dI) cls_all [oc h_this 12 fs_this, ic h_code k_code 12000 f1, ic h_first k_first 12000 f2, ic h_second k_second 12000 f3, ic h_third k_third 12000 (upd f_third (nI n).toNatClampNeg p4)] H := hP
  have hD : va_D A [oc h_this 12 fs_this, ic h_code k_code 12000 f1, ic h_first k_first 12000 f2, ic h_second k_second 12000 f3, ic h_third k_third 12000 (upd f_third (nI n).toNatClampNeg p4)] := hD
  rw [es4] at hP hD
  obtain ⟨f4, ef4⟩ : ∃ g, g = upd f_third n p4 := ⟨_, rfl⟩
  rw [← ef4] at hP hD
  refine lv_aload_n hx hb d_Model_lay_41 rfl (lv_at hl 0 rfl) ?_
  refine lv_dup hx hb d_Model_lay_42 rfl ?_
  refine va_get (D := (dC, dI)) (ci := 12) (v := .int (nI n)) (C := R_Model) (T := F_Model) (N := 153) hx hb hT i_Model hown hK hP 0 rfl rfl 95 (by decide) (hT _ fl_Model_771) (fun _ h9 => h9) g_this_codes d_Model_lay_43 ?_
  refine lv_iconst (v := 1) hx hb d_Model_lay_46 (by decide) ?_
  refine lv_iadd hx hb d_Model_lay_47 ?_
  refine lv_topi (fun x5 e5 => ?_)
  obtain rfl : x5 = nI (n + 1) := e5.trans (nI_add n 1)
  refine va_put (D := (dC, dI)) (ci := 12) (v := .int (nI (n + 1))) (ty := .int) (C := R_Model) (T := F_Model) (N := 153) hx hb hT i_Model t_Model t_Model_ok n_Model hown hK hP hD hS 0 rfl rfl 95 (by decide) (hT _ fl_Model_771) (fun _ h9 => h9) rfl (by decide +kernel) rfl rfl (by simp only [List.length_set, len_this]; decide) d_Model_lay_48 (fun H locs hP hD hS => ?_)
  have hP : va_P (dC, dI) cls_all [oc h_this 12 (fs_this.set 95 (.int (nI (n + 1)))), ic h_code k_code 12000 f1, ic h_first k_first 12000 f2, ic h_second k_second 12000 f3, ic h_third k_third 12000 f4] H := hP
  have hD : va_D A [oc h_this 12 (fs_this.set 95 (.int (nI (n + 1)))), ic h_code k_code 12000 f1, ic h_first k_first 12000 f2, ic h_second k_second 12000 f3, ic h_third k_third 12000 f4] := hD
  refine lv_aload_n hx hb d_Model_lay_51 rfl (lv_at hl 0 rfl) ?_
  refine va_get (D := (dC, dI)) (ci := 12) (v := .int (nI (n + 1))) (C := R_Model) (T := F_Model) (N := 153) hx hb hT i_Model hown hK hP 0 rfl rfl 95 (by decide) (hT _ fl_Model_771) (fun _ h9 => h9) (ls_eq (by simp only [List.length_set, len_this]; decide)) d_Model_lay_52 ?_
  refine lv_iconst (v := 1) hx hb d_Model_lay_55 (by decide) ?_
  refine lv_isub hx hb d_Model_lay_56 ?_
  refine lv_topi (fun x6 e6 => ?_)
  obtain rfl : x6 = nI n := e6.trans ((pk_sub (a := n + 1) (b := 1) (by omega)).trans (congrArg nI (by omega)))
  have hP9 := hP.sub (ws' := [oc h_this 12 (fs_this.set 95 (.int (nI (n + 1)))), ic h_code k_code 12000 f1, ic h_first k_first 12000 f2, ic h_second k_second 12000 f3, ic h_third k_third 12000 f4]) [0, 1, 2, 3, 4] rfl
  have hD9 := hD.sub (ws' := [oc h_this 12 (fs_this.set 95 (.int (nI (n + 1)))), ic h_code k_code 12000 f1, ic h_first k_first 12000 f2, ic h_second k_second 12000 f3, ic h_third k_third 12000 f4]) [0, 1, 2, 3, 4] (by decide) rfl
  have hK9 := hK.sub (tys' := [(k_code, .int), (k_first, .int), (k_second, .int), (k_third, .int)]) [0, 1, 2, 3] rfl
  have hv7 : (fs_this.set 95 (.int (nI (n + 1))))[95]? = some (.int (nI (n + 1))) := (ls_eq (by simp only [List.length_set, len_this]; decide))
  exact W.iret (v := (nI n)) hx hb hr (fun t ht hW => ⟨⟨(nI n), (nI n), rfl, rfl, (fs_this.set 95 (.int (nI (n + 1)))), f1, f2, f3, f4, ⟨(by first | exact len_this | (simp only [List.length_set]; exact len_this)), (fun j n95 => ((ls_ne n95).trans rfl)), (by first | exact hv7 | (rw [hv7]; refine congrArg some (congrArg _ ?_); rfl)), (by first | assumption | (subst_vars; rfl)), (by first | assumption | (subst_vars; rfl)), (by first | assumption | (subst_vars; rfl)), (by first | assumption | (subst_vars; rfl)), (by rfl)⟩, by rw [ht]; exact hP9, va_K.moved hW.alike hK9, hD9⟩, hS.F ht⟩) hS.2.2 d_Model_lay_57
set_option maxHeartbeats 1000000 in
set_option maxRecDepth 100000 in
theorem c_Model_node (l : Launch) (dC : Nat → ClassId) (dI : Nat → Nat → Nat) (sz : Nat) (h_this : Nat) (h_kind : Nat) (h_at : Nat) (h_one : Nat) (h_two : Nat) (h_three : Nat) (h_next : Nat) (h_manyUses : Nat) (fs_this : List Value) (k_kind : ClassId) (f_kind : Nat → Int32) (k_at : ClassId) (f_at : Nat → Int32) (k_one : ClassId) (f_one : Nat → Int32) (k_two : ClassId) (f_two : Nat → Int32) (k_three : ClassId) (f_three : Nat → Int32) (k_next : ClassId) (f_next : Nat → Int32) (k_manyUses : ClassId) (f_manyUses : Nat → Int32) (p1 : Int32) (p2 : Int32) (n : Nat) (len_this : fs_this.length = 153) (g_this_nodes : fs_this[49]? = some (.int (nI n))) (g_this_kind : fs_this[50]? = some (.ref h_kind)) (g_this_at : fs_this[51]? = some (.ref h_at)) (g_this_one : fs_this[52]? = some (.ref h_one)) (g_this_two : fs_this[53]? = some (.ref h_two)) (g_this_three : fs_this[54]? = some (.ref h_three)) (g_this_next : fs_this[55]? = some (.ref h_next)) (g_this_manyUses : fs_this[59]? = some (.ref h_manyUses)) (hn : n < 8200) : Met l y_Model_node w_Model_node ({ frames := 0, cells := 0, slots := 0, locals := 0 } : Room) (va_Pc [.ref h_this, .int p1, .int p2] (fun U => U.heap.size = sz ∧ va_P (dC, dI) cls_all [oc h_this 12 fs_this, ic h_kind k_kind 8200 f_kind, ic h_at k_at 8200 f_at, ic h_one k_one 8200 f_one, ic h_two k_two 8200 f_two, ic h_three k_three 8200 f_three, ic h_next k_next 8200 f_next, ic h_manyUses k_manyUses 8200 f_manyUses] U.heap ∧ va_K (dC, dI) cls_all [(k_kind, .int), (k_at, .int), (k_one, .int), (k_two, .int), (k_three, .int), (k_next, .int), (k_manyUses, .int)] U ∧ va_D (fun _ => True) [oc h_this 12 fs_this, ic h_kind k_kind 8200 f_kind, ic h_at k_at 8200 f_at, ic h_one k_one 8200 f_one, ic h_two k_two 8200 f_two, ic h_three k_three 8200 f_three, ic h_next k_next 8200 f_next, ic h_manyUses k_manyUses 8200 f_manyUses])) (va_Qi (fun (z r : Int32) => z = r) (fun r t => ∃ (fs_this' : List Value) (f_kind' : Nat → Int32) (f_at' : Nat → Int32) (f_one' : Nat → Int32) (f_two' : Nat → Int32) (f_three' : Nat → Int32) (f_next' : Nat → Int32) (f_manyUses' : Nat → Int32), (fs_this'.length = 153 ∧ (∀ j : Nat, j ≠ 49 → fs_this'[j]? = fs_this[j]?) ∧ fs_this'[49]? = some (.int (nI (n + 1))) ∧ (f_kind' = upd f_kind n p1) ∧ (f_at' = upd f_at n p2) ∧ (f_one' = upd f_one n (-1)) ∧ (f_two' = upd f_two n (-1)) ∧ (f_three' = upd f_three n (-1)) ∧ (f_next' = upd f_next n (-1)) ∧ (f_manyUses' = upd f_manyUses n 0) ∧ (r = nI n)) ∧ va_P (dC, dI) cls_all [oc h_this 12 fs_this', ic h_kind k_kind 8200 f_kind', ic h_at k_at 8200 f_at', ic h_one k_one 8200 f_one', ic h_two k_two 8200 f_two', ic h_three k_three 8200 f_three', ic h_next k_next 8200 f_next', ic h_manyUses k_manyUses 8200 f_manyUses'] t.heap ∧ va_K (dC, dI) cls_all [(k_kind, .int), (k_at, .int), (k_one, .int), (k_two, .int), (k_three, .int), (k_next, .int), (k_manyUses, .int)] t ∧ va_D (va_A [oc h_this 12 fs_this, ic h_kind k_kind 8200 f_kind, ic h_at k_at 8200 f_at, ic h_one k_one 8200 f_one, ic h_two k_two 8200 f_two, ic h_three k_three 8200 f_three, ic h_next k_next 8200 f_next, ic h_manyUses k_manyUses 8200 f_manyUses] sz) [oc h_this 12 fs_this', ic h_kind k_kind 8200 f_kind', ic h_at k_at 8200 f_at', ic h_one k_one 8200 f_one', ic h_two k_two 8200 f_two', ic h_three k_three 8200 f_three', ic h_next k_next 8200 f_next', ic h_manyUses k_manyUses 8200 f_manyUses']) (va_A [oc h_this 12 fs_this, ic h_kind k_kind 8200 f_kind, ic h_at k_at 8200 f_at, ic h_one k_one 8200 f_one, ic h_two k_two 8200 f_two, ic h_three k_three 8200 f_three, ic h_next k_next 8200 f_next, ic h_manyUses k_manyUses 8200 f_manyUses] sz)) 0 0 (va_A [oc h_this 12 fs_this, ic h_kind k_kind 8200 f_kind, ic h_at k_at 8200 f_at, ic h_one k_one 8200 f_one, ic h_two k_two 8200 f_two, ic h_three k_three 8200 f_three, ic h_next k_next 8200 f_next, ic h_manyUses k_manyUses 8200 f_manyUses] sz) := by
  refine Met.ofW (cc := b_Model_node) (maxL := 4) (ret := (some .int)) (by decide) rfl ?_
  intro p e s m args below meth c s₁ B hml hv
  obtain ⟨rfl, hsz, hP, hK, hD0⟩ := hv
  have hx := B.exec
  have hb := B.bytes
  have hr := B.returns
  have hT : ∀ w ∈ lw_good, w.before _ s = true := fun w h => atoms_spec (ws := w_Model_node) B.pre w (List.mem_cons_of_mem _ h)
  have hown : s.vm.findClass R_Model = some m.cls := findClass_of_methodNamed B.named
  have hlocks := B.notSynchronized
  subst hsz
  have hD := hD0.self (sz := s.heap.size)
  generalize hAe : va_A [oc h_this 12 fs_this, ic h_kind k_kind 8200 f_kind, ic h_at k_at 8200 f_at, ic h_one k_one 8200 f_one, ic h_two k_two 8200 f_two, ic h_three k_three 8200 f_three, ic h_next k_next 8200 f_next, ic h_manyUses k_manyUses 8200 f_manyUses] s.heap.size = A at hD ⊢
  have hA : ∀ q : Nat, s.heap.size ≤ q → A q := fun q h => by rw [← hAe]; exact Or.inr h
  have hS : va_S A s.heap s.heap [] := va_S.rf
  have hP : va_P (dC, dI) cls_all [oc h_this 12 fs_this, ic h_kind k_kind 8200 f_kind, ic h_at k_at 8200 f_at, ic h_one k_one 8200 f_one, ic h_two k_two 8200 f_two, ic h_three k_three 8200 f_three, ic h_next k_next 8200 f_next, ic h_manyUses k_manyUses 8200 f_manyUses] s.heap := hP
  have hl := lv_entry ([.ref h_this, .int p1, .int p2]) (n := 4) (Nat.le_of_ble_eq_true rfl)
  rw [lg_entry_eq]
  generalize (lg_sl ([.ref h_this, .int p1, .int p2]) ++ List.replicate (4 - (lg_sl ([.ref h_this, .int p1, .int p2])).length) Slot.unset).toArray = ls at hl ⊢
  have hl : lv_has ls 4 [(0, .ref h_this), (1, .int p1), (2, .int p2)] := hl
  refine lv_aload_n hx hb d_Model_node_0 rfl (lv_at hl 0 rfl) ?_
  refine va_get (D := (dC, dI)) (ci := 12) (v := .int (nI n)) (C := R_Model) (T := F_Model) (N := 153) hx hb hT i_Model hown hK hP 0 rfl rfl 49 (by decide) (hT _ fl_Model_421) (fun _ h9 => h9) g_this_nodes d_Model_node_1 ?_
  refine lv_istore_n (lv' := [(3, .int (nI n)), (0, .ref h_this), (1, .int p1), (2, .int p2)]) hx hb d_Model_node_4 rfl hl (by decide) rfl (fun ls hl => ?_)
  refine lv_aload_n hx hb d_Model_node_5 rfl (lv_at hl 1 rfl) ?_
  refine lv_dup hx hb d_Model_node_6 rfl ?_
  refine va_get (D := (dC, dI)) (ci := 12) (v := .int (nI n)) (C := R_Model) (T := F_Model) (N := 153) hx hb hT i_Model hown hK hP 0 rfl rfl 49 (by decide) (hT _ fl_Model_421) (fun _ h9 => h9) g_this_nodes d_Model_node_7 ?_
  refine lv_iconst (v := 1) hx hb d_Model_node_10 (by decide) ?_
  refine lv_iadd hx hb d_Model_node_11 ?_
  refine lv_topi (fun x1 e1 => ?_)
  obtain rfl : x1 = nI (n + 1) := e1.trans (nI_add n 1)
  refine va_put (D := (dC, dI)) (ci := 12) (v := .int (nI (n + 1))) (ty := .int) (C := R_Model) (T := F_Model) (N := 153) hx hb hT i_Model t_Model t_Model_ok n_Model hown hK hP hD hS 0 rfl rfl 49 (by decide) (hT _ fl_Model_421) (fun _ h9 => h9) rfl (by decide +kernel) rfl rfl (by simp only [List.length_set, len_this]; decide) d_Model_node_12 (fun H locs hP hD hS => ?_)
  have hP : va_P (dC, dI) cls_all [oc h_this 12 (fs_this.set 49 (.int (nI (n + 1)))), ic h_kind k_kind 8200 f_kind, ic h_at k_at 8200 f_at, ic h_one k_one 8200 f_one, ic h_two k_two 8200 f_two, ic h_three k_three 8200 f_three, ic h_next k_next 8200 f_next, ic h_manyUses k_manyUses 8200 f_manyUses] H := hP
  have hD : va_D A [oc h_this 12 (fs_this.set 49 (.int (nI (n + 1)))), ic h_kind k_kind 8200 f_kind, ic h_at k_at 8200 f_at, ic h_one k_one 8200 f_one, ic h_two k_two 8200 f_two, ic h_three k_three 8200 f_three, ic h_next k_next 8200 f_next, ic h_manyUses k_manyUses 8200 f_manyUses] := hD
  refine lv_aload_n hx hb d_Model_node_15 rfl (lv_at hl 1 rfl) ?_
  refine va_get (D := (dC, dI)) (ci := 12) (v := .ref h_kind) (C := R_Model) (T := F_Model) (N := 153) hx hb hT i_Model hown hK hP 0 rfl rfl 50 (by decide) (hT _ fl_Model_120) (fun _ h9 => h9) ((ls_ne (by decide)).trans g_this_kind) d_Model_node_16 ?_
  refine lv_iload_n hx hb d_Model_node_19 rfl (lv_at hl 0 rfl) ?_
  refine lv_iload_n hx hb d_Model_node_20 rfl (lv_at hl 2 rfl) ?_
  refine va_iast hx hb hK hP hD hS 1 0 rfl rfl (vp_in_nI (by omega) (by decide)) d_Model_node_21 (fun H locs hP hD hS => ?_)
  have es2 : upd f_kind (nI n).toNatClampNeg p1 = upd f_kind n p1 := (by rw [nI_clamp (by omega)])
  have hP : va_P (dC, dI) cls_all [oc h_this 12 (fs_this.set 49 (.int (nI (n + 1)))), ic h_kind k_kind 8200 (upd f_kind (nI n).toNatClampNeg p1), ic h_at k_at 8200 f_at, ic h_one k_one 8200 f_one, ic h_two k_two 8200 f_two, ic h_three k_three 8200 f_three, ic h_next k_next 8200 f_next, ic h_manyUses k_manyUses 8200 f_manyUses] H := hP
  have hD : va_D A [oc h_this 12 (fs_this.set 49 (.int (nI (n + 1)))), ic h_kind k_kind 8200 (upd f_kind (nI n).toNatClampNeg p1), ic h_at k_at 8200 f_at, ic h_one k_one 8200 f_one, ic h_two k_two 8200 f_two, ic h_three k_three 8200 f_three, ic h_next k_next 8200 f_next, ic h_manyUses k_manyUses 8200 f_manyUses] := hD
  rw [es2] at hP hD
  obtain ⟨f2, ef2⟩ : ∃ g, g = upd f_kind n p1 := ⟨_, rfl⟩
  rw [← ef2] at hP hD
  refine lv_aload_n hx hb d_Model_node_22 rfl (lv_at hl 1 rfl) ?_
  refine va_get (D := (dC, dI)) (ci := 12) (v := .ref h_at) (C := R_Model) (T := F_Model) (N := 153) hx hb hT i_Model hown hK hP 0 rfl rfl 51 (by decide) (hT _ fl_Model_123) (fun _ h9 => h9) ((ls_ne (by decide)).trans g_this_at) d_Model_node_23 ?_
  refine lv_iload_n hx hb d_Model_node_26 rfl (lv_at hl 0 rfl) ?_
  refine lv_iload_n hx hb d_Model_node_27 rfl (lv_at hl 3 rfl) ?_
  refine va_iast hx hb hK hP hD hS 2 1 rfl rfl (vp_in_nI (by omega) (by decide)) d_Model_node_28 (fun H locs hP hD hS => ?_)
  have es3 : upd f_at (nI n).toNatClampNeg p2 = upd f_at n p2 := (by rw [nI_clamp (by omega)])
  have hP : va_P (dC, dI) cls_all [oc h_this 12 (fs_this.set 49 (.int (nI (n + 1)))), ic h_kind k_kind 8200 f2, ic h_at k_at 8200 (upd f_at (nI n).toNatClampNeg p2), ic h_one k_one 8200 f_one, ic h_two k_two 8200 f_two, ic h_three k_three 8200 f_three, ic h_next k_next 8200 f_next, ic h_manyUses k_manyUses 8200 f_manyUses] H := hP
  have hD : va_D A [oc h_this 12 (fs_this.set 49 (.int (nI (n + 1)))), ic h_kind k_kind 8200 f2, ic h_at k_at 8200 (upd f_at (nI n).toNatClampNeg p2), ic h_one k_one 8200 f_one, ic h_two k_two 8200 f_two, ic h_three k_three 8200 f_three, ic h_next k_next 8200 f_next, ic h_manyUses k_manyUses 8200 f_manyUses] := hD
  rw [es3] at hP hD
  obtain ⟨f3, ef3⟩ : ∃ g, g = upd f_at n p2 := ⟨_, rfl⟩
  rw [← ef3] at hP hD
  refine lv_aload_n hx hb d_Model_node_29 rfl (lv_at hl 1 rfl) ?_
  refine va_get (D := (dC, dI)) (ci := 12) (v := .ref h_one) (C := R_Model) (T := F_Model) (N := 153) hx hb hT i_Model hown hK hP 0 rfl rfl 52 (by decide) (hT _ fl_Model_126) (fun _ h9 => h9) ((ls_ne (by decide)).trans g_this_one) d_Model_node_30 ?_
  refine lv_iload_n hx hb d_Model_node_33 rfl (lv_at hl 0 rfl) ?_
  refine lv_iconst (v := (-1)) hx hb d_Model_node_34 (by decide) ?_
  refine va_iast hx hb hK hP hD hS 3 2 rfl rfl (vp_in_nI (by omega) (by decide)) d_Model_node_35 (fun H locs hP hD hS => ?_)
  have es4 : upd f_one (nI n).toNatClampNeg (-1) = upd f_one n (-1) := (by rw [nI_clamp (by omega)])
  have hP : va_P (dC, dI) cls_all [oc h_this 12 (fs_this.set 49 (.int (nI (n + 1)))), ic h_kind k_kind 8200 f2, ic h_at k_at 8200 f3, ic h_one k_one 8200 (upd f_one (nI n).toNatClampNeg (-1)), ic h_two k_two 8200 f_two, ic h_three k_three 8200 f_three, ic h_next k_next 8200 f_next, ic h_manyUses k_manyUses 8200 f_manyUses] H := hP
  have hD : va_D A [oc h_this 12 (fs_this.set 49 (.int (nI (n + 1)))), ic h_kind k_kind 8200 f2, ic h_at k_at 8200 f3, ic h_one k_one 8200 (upd f_one (nI n).toNatClampNeg (-1)), ic h_two k_two 8200 f_two, ic h_three k_three 8200 f_three, ic h_next k_next 8200 f_next, ic h_manyUses k_manyUses 8200 f_manyUses] := hD
  rw [es4] at hP hD
  obtain ⟨f4, ef4⟩ : ∃ g, g = upd f_one n (-1) := ⟨_, rfl⟩
  rw [← ef4] at hP hD
  refine lv_aload_n hx hb d_Model_node_36 rfl (lv_at hl 1 rfl) ?_
  refine va_get (D := (dC, dI)) (ci := 12) (v := .ref h_two) (C := R_Model) (T := F_Model) (N := 153) hx hb hT i_Model hown hK hP 0 rfl rfl 53 (by decide) (hT _ fl_Model_129) (fun _ h9 => h9) ((ls_ne (by decide)).trans g_this_two) d_Model_node_37 ?_
  refine lv_iload_n hx hb d_Model_node_40 rfl (lv_at hl 0 rfl) ?_
  refine lv_iconst (v := (-1)) hx hb d_Model_node_41 (by decide) ?_
  refine va_iast hx hb hK hP hD hS 4 3 rfl rfl (vp_in_nI (by omega) (by decide)) d_Model_node_42 (fun H locs hP hD hS => ?_)
  have es5 : upd f_two (nI n).toNatClampNeg (-1) = upd f_two n (-1) := (by rw [nI_clamp (by omega)])
  have hP : va_P (dC, dI) cls_all [oc h_this 12 (fs_this.set 49 (.int (nI (n + 1)))), ic h_kind k_kind 8200 f2, ic h_at k_at 8200 f3, ic h_one k_one 8200 f4, ic h_two k_two 8200 (upd f_two (nI n).toNatClampNeg (-1)), ic h_three k_three 8200 f_three, ic h_next k_next 8200 f_next, ic h_manyUses k_manyUses 8200 f_manyUses] H := hP
  have hD : va_D A [oc h_this 12 (fs_this.set 49 (.int (nI (n + 1)))), ic h_kind k_kind 8200 f2, ic h_at k_at 8200 f3, ic h_one k_one 8200 f4, ic h_two k_two 8200 (upd f_two (nI n).toNatClampNeg (-1)), ic h_three k_three 8200 f_three, ic h_next k_next 8200 f_next, ic h_manyUses k_manyUses 8200 f_manyUses] := hD
  rw [es5] at hP hD
  obtain ⟨f5, ef5⟩ : ∃ g, g = upd f_two n (-1) := ⟨_, rfl⟩
  rw [← ef5] at hP hD
  refine lv_aload_n hx hb d_Model_node_43 rfl (lv_at hl 1 rfl) ?_
  refine va_get (D := (dC, dI)) (ci := 12) (v := .ref h_three) (C := R_Model) (T := F_Model) (N := 153) hx hb hT i_Model hown hK hP 0 rfl rfl 54 (by decide) (hT _ fl_Model_132) (fun _ h9 => h9) ((ls_ne (by decide)).trans g_this_three) d_Model_node_44 ?_
  refine lv_iload_n hx hb d_Model_node_47 rfl (lv_at hl 0 rfl) ?_
  refine lv_iconst (v := (-1)) hx hb d_Model_node_48 (by decide) ?_
  refine va_iast hx hb hK hP hD hS 5 4 rfl rfl (vp_in_nI (by omega) (by decide)) d_Model_node_49 (fun H locs hP hD hS => ?_)
  have es6 : upd f_three (nI n).toNatClampNeg (-1) = upd f_three n (-1) := (by rw [nI_clamp (by omega)])
  have hP : va_P (dC, dI) cls_all [oc h_this 12 (fs_this.set 49 (.int (nI (n + 1)))), ic h_kind k_kind 8200 f2, ic h_at k_at 8200 f3, ic h_one k_one 8200 f4, ic h_two k_two 8200 f5, ic h_three k_three 8200 (upd f_three (nI n).toNatClampNeg (-1)), ic h_next k_next 8200 f_next, ic h_manyUses k_manyUses 8200 f_manyUses] H := hP
  have hD : va_D A [oc h_this 12 (fs_this.set 49 (.int (nI (n + 1)))), ic h_kind k_kind 8200 f2, ic h_at k_at 8200 f3, ic h_one k_one 8200 f4, ic h_two k_two 8200 f5, ic h_three k_three 8200 (upd f_three (nI n).toNatClampNeg (-1)), ic h_next k_next 8200 f_next, ic h_manyUses k_manyUses 8200 f_manyUses] := hD
  rw [es6] at hP hD
  obtain ⟨f6, ef6⟩ : ∃ g, g = upd f_three n (-1) := ⟨_, rfl⟩
  rw [← ef6] at hP hD
  refine lv_aload_n hx hb d_Model_node_50 rfl (lv_at hl 1 rfl) ?_
  refine va_get (D := (dC, dI)) (ci := 12) (v := .ref h_next) (C := R_Model) (T := F_Model) (N := 153) hx hb hT i_Model hown hK hP 0 rfl rfl 55 (by decide) (hT _ fl_Model_135) (fun _ h9 => h9) ((ls_ne (by decide)).trans g_this_next) d_Model_node_51 ?_
  refine lv_iload_n hx hb d_Model_node_54 rfl (lv_at hl 0 rfl) ?_
  refine lv_iconst (v := (-1)) hx hb d_Model_node_55 (by decide) ?_
  refine va_iast hx hb hK hP hD hS 6 5 rfl rfl (vp_in_nI (by omega) (by decide)) d_Model_node_56 (fun H locs hP hD hS => ?_)
  have es7 : upd f_next (nI n).toNatClampNeg (-1) = upd f_next n (-1) := (by rw [nI_clamp (by omega)])
  have hP : va_P (dC, dI) cls_all [oc h_this 12 (fs_this.set 49 (.int (nI (n + 1)))), ic h_kind k_kind 8200 f2, ic h_at k_at 8200 f3, ic h_one k_one 8200 f4, ic h_two k_two 8200 f5, ic h_three k_three 8200 f6, ic h_next k_next 8200 (upd f_next (nI n).toNatClampNeg (-1)), ic h_manyUses k_manyUses 8200 f_manyUses] H := hP
  have hD : va_D A [oc h_this 12 (fs_this.set 49 (.int (nI (n + 1)))), ic h_kind k_kind 8200 f2, ic h_at k_at 8200 f3, ic h_one k_one 8200 f4, ic h_two k_two 8200 f5, ic h_three k_three 8200 f6, ic h_next k_next 8200 (upd f_next (nI n).toNatClampNeg (-1)), ic h_manyUses k_manyUses 8200 f_manyUses] := hD
  rw [es7] at hP hD
  obtain ⟨f7, ef7⟩ : ∃ g, g = upd f_next n (-1) := ⟨_, rfl⟩
  rw [← ef7] at hP hD
  refine lv_aload_n hx hb d_Model_node_57 rfl (lv_at hl 1 rfl) ?_
  refine va_get (D := (dC, dI)) (ci := 12) (v := .ref h_manyUses) (C := R_Model) (T := F_Model) (N := 153) hx hb hT i_Model hown hK hP 0 rfl rfl 59 (by decide) (hT _ fl_Model_147) (fun _ h9 => h9) ((ls_ne (by decide)).trans g_this_manyUses) d_Model_node_58 ?_
  refine lv_iload_n hx hb d_Model_node_61 rfl (lv_at hl 0 rfl) ?_
  refine lv_iconst (v := 0) hx hb d_Model_node_62 (by decide) ?_
  refine va_iast hx hb hK hP hD hS 7 6 rfl rfl (vp_in_nI (by omega) (by decide)) d_Model_node_63 (fun H locs hP hD hS => ?_)
  have es8 : upd f_manyUses (nI n).toNatClampNeg 0 = upd f_manyUses n 0 := (by rw [nI_clamp (by omega)])
  have hP : va_P (dC, dI) cls_all [oc h_this 12 (fs_this.set 49 (.int (nI (n + 1)))), ic h_kind k_kind 8200 f2, ic h_at k_at 8200 f3, ic h_one k_one 8200 f4, ic h_two k_two 8200 f5, ic h_three k_three 8200 f6, ic h_next k_next 8200 f7, ic h_manyUses k_manyUses 8200 (upd f_manyUses (nI n).toNatClampNeg 0)] H := hP
  have hD : va_D A [oc h_this 12 (fs_this.set 49 (.int (nI (n + 1)))), ic h_kind k_kind 8200 f2, ic h_at k_at 8200 f3, ic h_one k_one 8200 f4, ic h_two k_two 8200 f5, ic h_three k_three 8200 f6, ic h_next k_next 8200 f7, ic h_manyUses k_manyUses 8200 (upd f_manyUses (nI n).toNatClampNeg 0)] := hD
  rw [es8] at hP hD
  obtain ⟨f8, ef8⟩ : ∃ g, g = upd f_manyUses n 0 := ⟨_, rfl⟩
  rw [← ef8] at hP hD
  refine lv_iload_n hx hb d_Model_node_64 rfl (lv_at hl 0 rfl) ?_
  have hP9 := hP.sub (ws' := [oc h_this 12 (fs_this.set 49 (.int (nI (n + 1)))), ic h_kind k_kind 8200 f2, ic h_at k_at 8200 f3, ic h_one k_one 8200 f4, ic h_two k_two 8200 f5, ic h_three k_three 8200 f6, ic h_next k_next 8200 f7, ic h_manyUses k_manyUses 8200 f8]) [0, 1, 2, 3, 4, 5, 6, 7] rfl
  have hD9 := hD.sub (ws' := [oc h_this 12 (fs_this.set 49 (.int (nI (n + 1)))), ic h_kind k_kind 8200 f2, ic h_at k_at 8200 f3, ic h_one k_one 8200 f4, ic h_two k_two 8200 f5, ic h_three k_three 8200 f6, ic h_next k_next 8200 f7, ic h_manyUses k_manyUses 8200 f8]) [0, 1, 2, 3, 4, 5, 6, 7] (by decide) rfl
  have hK9 := hK.sub (tys' := [(k_kind, .int), (k_at, .int), (k_one, .int), (k_two, .int), (k_three, .int), (k_next, .int), (k_manyUses, .int)]) [0, 1, 2, 3, 4, 5, 6] rfl
  have hv9 : (fs_this.set 49 (.int (nI (n + 1))))[49]? = some (.int (nI (n + 1))) := (ls_eq (by simp only [List.length_set, len_this]; decide))
  exact W.iret (v := (nI n)) hx hb hr (fun t ht hW => ⟨⟨(nI n), (nI n), rfl, rfl, (fs_this.set 49 (.int (nI (n + 1)))), f2, f3, f4, f5, f6, f7, f8, ⟨(by first | exact len_this | (simp only [List.length_set]; exact len_this)), (fun j n49 => ((ls_ne n49).trans rfl)), (by first | exact hv9 | (rw [hv9]; refine congrArg some (congrArg _ ?_); rfl)), (by first | assumption | (subst_vars; rfl)), (by first | assumption | (subst_vars; rfl)), (by first | assumption | (subst_vars; rfl)), (by first | assumption | (subst_vars; rfl)), (by first | assumption | (subst_vars; rfl)), (by first | assumption | (subst_vars; rfl)), (by first | assumption | (subst_vars; rfl)), (by rfl)⟩, by rw [ht]; exact hP9, va_K.moved hW.alike hK9, hD9⟩, hS.F ht⟩) hS.2.2 d_Model_node_65
set_option maxHeartbeats 1000000 in
set_option maxRecDepth 100000 in
theorem c_Model_begin (l : Launch) (dC : Nat → ClassId) (dI : Nat → Nat → Nat) (sz : Nat) (h_this : Nat) (h_pagesOf : Nat) (h_lastUsed : Nat) (h_wordsIn : Nat) (h_objectsIn : Nat) (fs_this : List Value) (k_pagesOf : ClassId) (f_pagesOf : Nat → Int32) (k_lastUsed : ClassId) (f_lastUsed : Nat → Int32) (k_wordsIn : ClassId) (f_wordsIn : Nat → Int32) (k_objectsIn : ClassId) (f_objectsIn : Nat → Int32) (p1 : Int32) (len_this : fs_this.length = 153) (g_this_pagesOf : fs_this[133]? = some (.ref h_pagesOf)) (g_this_lastUsed : fs_this[134]? = some (.ref h_lastUsed)) (g_this_wordsIn : fs_this[135]? = some (.ref h_wordsIn)) (g_this_objectsIn : fs_this[136]? = some (.ref h_objectsIn)) (hz : vp_in p1 400) : Met l y_Model_begin w_Model_begin ({ frames := 0, cells := 0, slots := 0, locals := 0 } : Room) (va_Pc [.ref h_this, .int p1] (fun U => U.heap.size = sz ∧ va_P (dC, dI) cls_all [oc h_this 12 fs_this, ic h_pagesOf k_pagesOf 400 f_pagesOf, ic h_lastUsed k_lastUsed 400 f_lastUsed, ic h_wordsIn k_wordsIn 400 f_wordsIn, ic h_objectsIn k_objectsIn 400 f_objectsIn] U.heap ∧ va_K (dC, dI) cls_all [(k_pagesOf, .int), (k_lastUsed, .int), (k_wordsIn, .int), (k_objectsIn, .int)] U ∧ va_D (fun _ => True) [oc h_this 12 fs_this, ic h_pagesOf k_pagesOf 400 f_pagesOf, ic h_lastUsed k_lastUsed 400 f_lastUsed, ic h_wordsIn k_wordsIn 400 f_wordsIn, ic h_objectsIn k_objectsIn 400 f_objectsIn])) (va_Qv (fun (_ : Unit) => True) (fun _ t => ∃ (f_pagesOf' : Nat → Int32) (f_lastUsed' : Nat → Int32) (f_wordsIn' : Nat → Int32) (f_objectsIn' : Nat → Int32), ((f_pagesOf' = upd f_pagesOf p1.toNatClampNeg 0) ∧ (f_lastUsed' = upd f_lastUsed p1.toNatClampNeg 0) ∧ (f_wordsIn' = upd f_wordsIn p1.toNatClampNeg 0) ∧ (f_objectsIn' = upd f_objectsIn p1.toNatClampNeg 0)) ∧ va_P (dC, dI) cls_all [oc h_this 12 fs_this, ic h_pagesOf k_pagesOf 400 f_pagesOf', ic h_lastUsed k_lastUsed 400 f_lastUsed', ic h_wordsIn k_wordsIn 400 f_wordsIn', ic h_objectsIn k_objectsIn 400 f_objectsIn'] t.heap ∧ va_K (dC, dI) cls_all [(k_pagesOf, .int), (k_lastUsed, .int), (k_wordsIn, .int), (k_objectsIn, .int)] t ∧ va_D (va_A [oc h_this 12 fs_this, ic h_pagesOf k_pagesOf 400 f_pagesOf, ic h_lastUsed k_lastUsed 400 f_lastUsed, ic h_wordsIn k_wordsIn 400 f_wordsIn, ic h_objectsIn k_objectsIn 400 f_objectsIn] sz) [oc h_this 12 fs_this, ic h_pagesOf k_pagesOf 400 f_pagesOf', ic h_lastUsed k_lastUsed 400 f_lastUsed', ic h_wordsIn k_wordsIn 400 f_wordsIn', ic h_objectsIn k_objectsIn 400 f_objectsIn']) (va_A [oc h_this 12 fs_this, ic h_pagesOf k_pagesOf 400 f_pagesOf, ic h_lastUsed k_lastUsed 400 f_lastUsed, ic h_wordsIn k_wordsIn 400 f_wordsIn, ic h_objectsIn k_objectsIn 400 f_objectsIn] sz)) 0 0 (va_A [oc h_this 12 fs_this, ic h_pagesOf k_pagesOf 400 f_pagesOf, ic h_lastUsed k_lastUsed 400 f_lastUsed, ic h_wordsIn k_wordsIn 400 f_wordsIn, ic h_objectsIn k_objectsIn 400 f_objectsIn] sz) := by
  refine Met.ofW (cc := b_Model_begin) (maxL := 2) (ret := none) (by decide) rfl ?_
  intro p e s m args below meth c s₁ B hml hv
  obtain ⟨rfl, hsz, hP, hK, hD0⟩ := hv
  have hx := B.exec
  have hb := B.bytes
  have hr := B.returns
  have hT : ∀ w ∈ lw_good, w.before _ s = true := fun w h => atoms_spec (ws := w_Model_begin) B.pre w (List.mem_cons_of_mem _ h)
  have hown : s.vm.findClass R_Model = some m.cls := findClass_of_methodNamed B.named
  have hlocks := B.notSynchronized
  subst hsz
  have hD := hD0.self (sz := s.heap.size)
  generalize hAe : va_A [oc h_this 12 fs_this, ic h_pagesOf k_pagesOf 400 f_pagesOf, ic h_lastUsed k_lastUsed 400 f_lastUsed, ic h_wordsIn k_wordsIn 400 f_wordsIn, ic h_objectsIn k_objectsIn 400 f_objectsIn] s.heap.size = A at hD ⊢
  have hA : ∀ q : Nat, s.heap.size ≤ q → A q := fun q h => by rw [← hAe]; exact Or.inr h
  have hS : va_S A s.heap s.heap [] := va_S.rf
  have hP : va_P (dC, dI) cls_all [oc h_this 12 fs_this, ic h_pagesOf k_pagesOf 400 f_pagesOf, ic h_lastUsed k_lastUsed 400 f_lastUsed, ic h_wordsIn k_wordsIn 400 f_wordsIn, ic h_objectsIn k_objectsIn 400 f_objectsIn] s.heap := hP
  have hl := lv_entry ([.ref h_this, .int p1]) (n := 2) (Nat.le_of_ble_eq_true rfl)
  rw [lg_entry_eq]
  generalize (lg_sl ([.ref h_this, .int p1]) ++ List.replicate (2 - (lg_sl ([.ref h_this, .int p1])).length) Slot.unset).toArray = ls at hl ⊢
  have hl : lv_has ls 2 [(0, .ref h_this), (1, .int p1)] := hl
  refine lv_aload_n hx hb d_Model_begin_0 rfl (lv_at hl 0 rfl) ?_
  refine va_get (D := (dC, dI)) (ci := 12) (v := .ref h_pagesOf) (C := R_Model) (T := F_Model) (N := 153) hx hb hT i_Model hown hK hP 0 rfl rfl 133 (by decide) (hT _ fl_Model_261) (fun _ h9 => h9) g_this_pagesOf d_Model_begin_1 ?_
  refine lv_iload_n hx hb d_Model_begin_4 rfl (lv_at hl 1 rfl) ?_
  refine lv_iconst (v := 0) hx hb d_Model_begin_5 (by decide) ?_
  refine va_iast hx hb hK hP hD hS 1 0 rfl rfl hz d_Model_begin_6 (fun H locs hP hD hS => ?_)
  have hP : va_P (dC, dI) cls_all [oc h_this 12 fs_this, ic h_pagesOf k_pagesOf 400 (upd f_pagesOf p1.toNatClampNeg 0), ic h_lastUsed k_lastUsed 400 f_lastUsed, ic h_wordsIn k_wordsIn 400 f_wordsIn, ic h_objectsIn k_objectsIn 400 f_objectsIn] H := hP
  have hD : va_D A [oc h_this 12 fs_this, ic h_pagesOf k_pagesOf 400 (upd f_pagesOf p1.toNatClampNeg 0), ic h_lastUsed k_lastUsed 400 f_lastUsed, ic h_wordsIn k_wordsIn 400 f_wordsIn, ic h_objectsIn k_objectsIn 400 f_objectsIn] := hD
  obtain ⟨f1, ef1⟩ : ∃ g, g = upd f_pagesOf p1.toNatClampNeg 0 := ⟨_, rfl⟩
  rw [← ef1] at hP hD
  refine lv_aload_n hx hb d_Model_begin_7 rfl (lv_at hl 0 rfl) ?_
  refine va_get (D := (dC, dI)) (ci := 12) (v := .ref h_lastUsed) (C := R_Model) (T := F_Model) (N := 153) hx hb hT i_Model hown hK hP 0 rfl rfl 134 (by decide) (hT _ fl_Model_264) (fun _ h9 => h9) g_this_lastUsed d_Model_begin_8 ?_
  refine lv_iload_n hx hb d_Model_begin_11 rfl (lv_at hl 1 rfl) ?_
  refine lv_iconst (v := 0) hx hb d_Model_begin_12 (by decide) ?_
  refine va_iast hx hb hK hP hD hS 2 1 rfl rfl hz d_Model_begin_13 (fun H locs hP hD hS => ?_)
  have hP : va_P (dC, dI) cls_all [oc h_this 12 fs_this, ic h_pagesOf k_pagesOf 400 f1, ic h_lastUsed k_lastUsed 400 (upd f_lastUsed p1.toNatClampNeg 0), ic h_wordsIn k_wordsIn 400 f_wordsIn, ic h_objectsIn k_objectsIn 400 f_objectsIn] H := hP
  have hD : va_D A [oc h_this 12 fs_this, ic h_pagesOf k_pagesOf 400 f1, ic h_lastUsed k_lastUsed 400 (upd f_lastUsed p1.toNatClampNeg 0), ic h_wordsIn k_wordsIn 400 f_wordsIn, ic h_objectsIn k_objectsIn 400 f_objectsIn] := hD
  obtain ⟨f2, ef2⟩ : ∃ g, g = upd f_lastUsed p1.toNatClampNeg 0 := ⟨_, rfl⟩
  rw [← ef2] at hP hD
  refine lv_aload_n hx hb d_Model_begin_14 rfl (lv_at hl 0 rfl) ?_
  refine va_get (D := (dC, dI)) (ci := 12) (v := .ref h_wordsIn) (C := R_Model) (T := F_Model) (N := 153) hx hb hT i_Model hown hK hP 0 rfl rfl 135 (by decide) (hT _ fl_Model_267) (fun _ h9 => h9) g_this_wordsIn d_Model_begin_15 ?_
  refine lv_iload_n hx hb d_Model_begin_18 rfl (lv_at hl 1 rfl) ?_
  refine lv_iconst (v := 0) hx hb d_Model_begin_19 (by decide) ?_
  refine va_iast hx hb hK hP hD hS 3 2 rfl rfl hz d_Model_begin_20 (fun H locs hP hD hS => ?_)
  have hP : va_P (dC, dI) cls_all [oc h_this 12 fs_this, ic h_pagesOf k_pagesOf 400 f1, ic h_lastUsed k_lastUsed 400 f2, ic h_wordsIn k_wordsIn 400 (upd f_wordsIn p1.toNatClampNeg 0), ic h_objectsIn k_objectsIn 400 f_objectsIn] H := hP
  have hD : va_D A [oc h_this 12 fs_this, ic h_pagesOf k_pagesOf 400 f1, ic h_lastUsed k_lastUsed 400 f2, ic h_wordsIn k_wordsIn 400 (upd f_wordsIn p1.toNatClampNeg 0), ic h_objectsIn k_objectsIn 400 f_objectsIn] := hD
  obtain ⟨f3, ef3⟩ : ∃ g, g = upd f_wordsIn p1.toNatClampNeg 0 := ⟨_, rfl⟩
  rw [← ef3] at hP hD
  refine lv_aload_n hx hb d_Model_begin_21 rfl (lv_at hl 0 rfl) ?_
  refine va_get (D := (dC, dI)) (ci := 12) (v := .ref h_objectsIn) (C := R_Model) (T := F_Model) (N := 153) hx hb hT i_Model hown hK hP 0 rfl rfl 136 (by decide) (hT _ fl_Model_270) (fun _ h9 => h9) g_this_objectsIn d_Model_begin_22 ?_
  refine lv_iload_n hx hb d_Model_begin_25 rfl (lv_at hl 1 rfl) ?_
  refine lv_iconst (v := 0) hx hb d_Model_begin_26 (by decide) ?_
  refine va_iast hx hb hK hP hD hS 4 3 rfl rfl hz d_Model_begin_27 (fun H locs hP hD hS => ?_)
  have hP : va_P (dC, dI) cls_all [oc h_this 12 fs_this, ic h_pagesOf k_pagesOf 400 f1, ic h_lastUsed k_lastUsed 400 f2, ic h_wordsIn k_wordsIn 400 f3, ic h_objectsIn k_objectsIn 400 (upd f_objectsIn p1.toNatClampNeg 0)] H := hP
  have hD : va_D A [oc h_this 12 fs_this, ic h_pagesOf k_pagesOf 400 f1, ic h_lastUsed k_lastUsed 400 f2, ic h_wordsIn k_wordsIn 400 f3, ic h_objectsIn k_objectsIn 400 (upd f_objectsIn p1.toNatClampNeg 0)] := hD
  obtain ⟨f4, ef4⟩ : ∃ g, g = upd f_objectsIn p1.toNatClampNeg 0 := ⟨_, rfl⟩
  rw [← ef4] at hP hD
  have hP9 := hP.sub (ws' := [oc h_this 12 fs_this, ic h_pagesOf k_pagesOf 400 f1, ic h_lastUsed k_lastUsed 400 f2, ic h_wordsIn k_wordsIn 400 f3, ic h_objectsIn k_objectsIn 400 f4]) [0, 1, 2, 3, 4] rfl
  have hD9 := hD.sub (ws' := [oc h_this 12 fs_this, ic h_pagesOf k_pagesOf 400 f1, ic h_lastUsed k_lastUsed 400 f2, ic h_wordsIn k_wordsIn 400 f3, ic h_objectsIn k_objectsIn 400 f4]) [0, 1, 2, 3, 4] (by decide) rfl
  have hK9 := hK.sub (tys' := [(k_pagesOf, .int), (k_lastUsed, .int), (k_wordsIn, .int), (k_objectsIn, .int)]) [0, 1, 2, 3] rfl
  exact W.vret hx hb hr (fun t ht hW => ⟨⟨(), rfl, trivial, f1, f2, f3, f4, ⟨(by assumption), (by assumption), (by assumption), (by assumption)⟩, by rw [ht]; exact hP9, va_K.moved hW.alike hK9, hD9⟩, hS.F ht⟩) hS.2.2 d_Model_begin_28
set_option maxHeartbeats 1000000 in
set_option maxRecDepth 100000 in
theorem c_Model_sameCell (l : Launch) (dC : Nat → ClassId) (dI : Nat → Nat → Nat)  (h_this : Nat) (h_innerOf : Nat) (h_titleOf : Nat) (h_withOf : Nat) (fs_this : List Value) (k_innerOf : ClassId) (f_innerOf : Nat → Int32) (k_titleOf : ClassId) (f_titleOf : Nat → Int32) (k_withOf : ClassId) (f_withOf : Nat → Int32) (p1 : Int32) (p2 : Int32) (len_this : fs_this.length = 153) (g_this_innerOf : fs_this[68]? = some (.ref h_innerOf)) (g_this_titleOf : fs_this[69]? = some (.ref h_titleOf)) (g_this_withOf : fs_this[70]? = some (.ref h_withOf)) (h1 : vp_in p1 6000) (h2 : vp_in p2 6000) : Met l y_Model_sameCell w_Model_sameCell ({ frames := 0, cells := 0, slots := 0, locals := 0 } : Room) (va_Pc [.ref h_this, .int p1, .int p2] (fun U => va_P (dC, dI) cls_all [oc h_this 12 fs_this, ic h_innerOf k_innerOf 6000 f_innerOf, ic h_titleOf k_titleOf 6000 f_titleOf, ic h_withOf k_withOf 6000 f_withOf] U.heap ∧ va_K (dC, dI) cls_all [(k_innerOf, .int), (k_titleOf, .int), (k_withOf, .int)] U)) (vp_Si (fun r : Int32 => (r = if f_innerOf p1.toNatClampNeg = f_innerOf p2.toNatClampNeg ∧ f_titleOf p1.toNatClampNeg = f_titleOf p2.toNatClampNeg ∧ f_withOf p1.toNatClampNeg = f_withOf p2.toNatClampNeg then 1 else 0))) 0 0 (fun _ => False) := by
  refine Met.ofW (cc := b_Model_sameCell) (maxL := 3) (ret := (some .boolean)) (by decide) rfl ?_
  intro p e s m args below meth c s₁ B hml hv
  obtain ⟨rfl, hP, hK⟩ := hv
  have hx := B.exec
  have hb := B.bytes
  have hr := B.returns
  have hT : ∀ w ∈ lw_good, w.before _ s = true := fun w h => atoms_spec (ws := w_Model_sameCell) B.pre w (List.mem_cons_of_mem _ h)
  have hown : s.vm.findClass R_Model = some m.cls := findClass_of_methodNamed B.named
  have hlocks := B.notSynchronized
  have hl := lv_entry ([.ref h_this, .int p1, .int p2]) (n := 3) (Nat.le_of_ble_eq_true rfl)
  rw [lg_entry_eq]
  generalize (lg_sl ([.ref h_this, .int p1, .int p2]) ++ List.replicate (3 - (lg_sl ([.ref h_this, .int p1, .int p2])).length) Slot.unset).toArray = ls at hl ⊢
  have hl : lv_has ls 3 [(0, .ref h_this), (1, .int p1), (2, .int p2)] := hl
  refine lv_aload_n hx hb d_Model_sameCell_0 rfl (lv_at hl 0 rfl) ?_
  refine va_get (D := (dC, dI)) (ci := 12) (v := .ref h_innerOf) (C := R_Model) (T := F_Model) (N := 153) hx hb hT i_Model hown hK hP 0 rfl rfl 68 (by decide) (hT _ fl_Model_162) (fun _ h9 => h9) g_this_innerOf d_Model_sameCell_1 ?_
  refine lv_iload_n hx hb d_Model_sameCell_4 rfl (lv_at hl 1 rfl) ?_
  refine va_iald hx hb hK hP 1 0 rfl rfl (by assumption) d_Model_sameCell_5 ?_
  refine lv_topi (fun x1 e1 => ?_)
  refine lv_aload_n hx hb d_Model_sameCell_6 rfl (lv_at hl 0 rfl) ?_
  refine va_get (D := (dC, dI)) (ci := 12) (v := .ref h_innerOf) (C := R_Model) (T := F_Model) (N := 153) hx hb hT i_Model hown hK hP 0 rfl rfl 68 (by decide) (hT _ fl_Model_162) (fun _ h9 => h9) g_this_innerOf d_Model_sameCell_7 ?_
  refine lv_iload_n hx hb d_Model_sameCell_10 rfl (lv_at hl 2 rfl) ?_
  refine va_iald hx hb hK hP 1 0 rfl rfl (by assumption) d_Model_sameCell_11 ?_
  refine lv_topi (fun x2 e2 => ?_)
  refine lv_icmp_ne (tgt := 49) hx hb d_Model_sameCell_12 (by decide) (fun c3 => ?_) (fun c3 => ?_)
  · refine lv_iconst (v := 0) hx hb d_Model_sameCell_49 (by decide) ?_
    refine W.zret (v := 0) hx hb hr (by first | rfl | decide | assumption) (fun t ht hW => ⟨0, rfl, ?_, ht⟩) (fun q h => by cases h) d_Model_sameCell_50
    subst_vars; (repeat' split) <;> first | rfl | (simp_all; done) | (exfalso; simp only [i_lt, i_le, i_eq, Int32.reduceToInt] at *; omega)
  · refine lv_aload_n hx hb d_Model_sameCell_15 rfl (lv_at hl 0 rfl) ?_
    refine va_get (D := (dC, dI)) (ci := 12) (v := .ref h_titleOf) (C := R_Model) (T := F_Model) (N := 153) hx hb hT i_Model hown hK hP 0 rfl rfl 69 (by decide) (hT _ fl_Model_165) (fun _ h9 => h9) g_this_titleOf d_Model_sameCell_16 ?_
    refine lv_iload_n hx hb d_Model_sameCell_19 rfl (lv_at hl 1 rfl) ?_
    refine va_iald hx hb hK hP 2 1 rfl rfl (by assumption) d_Model_sameCell_20 ?_
    refine lv_topi (fun x4 e4 => ?_)
    refine lv_aload_n hx hb d_Model_sameCell_21 rfl (lv_at hl 0 rfl) ?_
    refine va_get (D := (dC, dI)) (ci := 12) (v := .ref h_titleOf) (C := R_Model) (T := F_Model) (N := 153) hx hb hT i_Model hown hK hP 0 rfl rfl 69 (by decide) (hT _ fl_Model_165) (fun _ h9 => h9) g_this_titleOf d_Model_sameCell_22 ?_
    refine lv_iload_n hx hb d_Model_sameCell_25 rfl (lv_at hl 2 rfl) ?_
    refine va_iald hx hb hK hP 2 1 rfl rfl (by assumption) d_Model_sameCell_26 ?_
    refine lv_topi (fun x5 e5 => ?_)
    refine lv_icmp_ne (tgt := 49) hx hb d_Model_sameCell_27 (by decide) (fun c6 => ?_) (fun c6 => ?_)
    · refine lv_iconst (v := 0) hx hb d_Model_sameCell_49 (by decide) ?_
      refine W.zret (v := 0) hx hb hr (by first | rfl | decide | assumption) (fun t ht hW => ⟨0, rfl, ?_, ht⟩) (fun q h => by cases h) d_Model_sameCell_50
      subst_vars; (repeat' split) <;> first | rfl | (simp_all; done) | (exfalso; simp only [i_lt, i_le, i_eq, Int32.reduceToInt] at *; omega)
    · refine lv_aload_n hx hb d_Model_sameCell_30 rfl (lv_at hl 0 rfl) ?_
      refine va_get (D := (dC, dI)) (ci := 12) (v := .ref h_withOf) (C := R_Model) (T := F_Model) (N := 153) hx hb hT i_Model hown hK hP 0 rfl rfl 70 (by decide) (hT _ fl_Model_168) (fun _ h9 => h9) g_this_withOf d_Model_sameCell_31 ?_
      refine lv_iload_n hx hb d_Model_sameCell_34 rfl (lv_at hl 1 rfl) ?_
      refine va_iald hx hb hK hP 3 2 rfl rfl (by assumption) d_Model_sameCell_35 ?_
      refine lv_topi (fun x7 e7 => ?_)
      refine lv_aload_n hx hb d_Model_sameCell_36 rfl (lv_at hl 0 rfl) ?_
      refine va_get (D := (dC, dI)) (ci := 12) (v := .ref h_withOf) (C := R_Model) (T := F_Model) (N := 153) hx hb hT i_Model hown hK hP 0 rfl rfl 70 (by decide) (hT _ fl_Model_168) (fun _ h9 => h9) g_this_withOf d_Model_sameCell_37 ?_
      refine lv_iload_n hx hb d_Model_sameCell_40 rfl (lv_at hl 2 rfl) ?_
      refine va_iald hx hb hK hP 3 2 rfl rfl (by assumption) d_Model_sameCell_41 ?_
      refine lv_topi (fun x8 e8 => ?_)
      refine lv_icmp_ne (tgt := 49) hx hb d_Model_sameCell_42 (by decide) (fun c9 => ?_) (fun c9 => ?_)
      · refine lv_iconst (v := 0) hx hb d_Model_sameCell_49 (by decide) ?_
        refine W.zret (v := 0) hx hb hr (by first | rfl | decide | assumption) (fun t ht hW => ⟨0, rfl, ?_, ht⟩) (fun q h => by cases h) d_Model_sameCell_50
        subst_vars; (repeat' split) <;> first | rfl | (simp_all; done) | (exfalso; simp only [i_lt, i_le, i_eq, Int32.reduceToInt] at *; omega)
      · refine lv_iconst (v := 1) hx hb d_Model_sameCell_45 (by decide) ?_
        refine lv_goto (tgt := 50) hx hb d_Model_sameCell_46 (by decide) ?_
        refine W.zret (v := 1) hx hb hr (by first | rfl | decide | assumption) (fun t ht hW => ⟨1, rfl, ?_, ht⟩) (fun q h => by cases h) d_Model_sameCell_50
        subst_vars; (repeat' split) <;> first | rfl | (simp_all; done) | (exfalso; simp only [i_lt, i_le, i_eq, Int32.reduceToInt] at *; omega)
