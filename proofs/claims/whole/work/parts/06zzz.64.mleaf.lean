abbrev b_Model_isSmall : ByteArray := prog_14_method_5_code
abbrev y_Model_isSmall : MethodName := ⟨R_Model, "isSmall", "(I)Z"⟩
theorem co_Model_isSmall : Cond.code y_Model_isSmall b_Model_isSmall 1 (some .boolean) ∈ lw_good := lg_in (tin_10 _ (List.mem_of_getElem? (i := 156) rfl)) rfl
abbrev w_Model_isSmall : List Cond := Cond.code y_Model_isSmall b_Model_isSmall 1 (some .boolean) :: lw_good
theorem st_Model_isSmall : Cond.static y_Model_isSmall ∈ lw_good := lg_right (i := 2315) (by decide +kernel) rfl
theorem d_Model_isSmall_0 : decode b_Model_isSmall 0 = .ok (.iload_n 0, 1) := by decide +kernel
theorem d_Model_isSmall_1 : decode b_Model_isSmall 1 = .ok (.bipush 97, 2) := by decide +kernel
theorem d_Model_isSmall_3 : decode b_Model_isSmall 3 = .ok (.if_icmp .lt 13, 3) := by decide +kernel
theorem d_Model_isSmall_6 : decode b_Model_isSmall 6 = .ok (.iload_n 0, 1) := by decide +kernel
theorem d_Model_isSmall_7 : decode b_Model_isSmall 7 = .ok (.bipush 122, 2) := by decide +kernel
theorem d_Model_isSmall_9 : decode b_Model_isSmall 9 = .ok (.if_icmp .gt 7, 3) := by decide +kernel
theorem d_Model_isSmall_12 : decode b_Model_isSmall 12 = .ok (.iconst 1, 1) := by decide +kernel
theorem d_Model_isSmall_13 : decode b_Model_isSmall 13 = .ok (.goto 4, 3) := by decide +kernel
theorem d_Model_isSmall_16 : decode b_Model_isSmall 16 = .ok (.iconst 0, 1) := by decide +kernel
theorem d_Model_isSmall_17 : decode b_Model_isSmall 17 = .ok (.ireturn, 1) := by decide +kernel
abbrev b_Model_isGreat : ByteArray := prog_14_method_6_code
abbrev y_Model_isGreat : MethodName := ⟨R_Model, "isGreat", "(I)Z"⟩
theorem co_Model_isGreat : Cond.code y_Model_isGreat b_Model_isGreat 1 (some .boolean) ∈ lw_good := lg_in (tin_10 _ (List.mem_of_getElem? (i := 159) rfl)) rfl
abbrev w_Model_isGreat : List Cond := Cond.code y_Model_isGreat b_Model_isGreat 1 (some .boolean) :: lw_good
theorem st_Model_isGreat : Cond.static y_Model_isGreat ∈ lw_good := lg_right (i := 2318) (by decide +kernel) rfl
theorem d_Model_isGreat_0 : decode b_Model_isGreat 0 = .ok (.iload_n 0, 1) := by decide +kernel
theorem d_Model_isGreat_1 : decode b_Model_isGreat 1 = .ok (.bipush 65, 2) := by decide +kernel
theorem d_Model_isGreat_3 : decode b_Model_isGreat 3 = .ok (.if_icmp .lt 13, 3) := by decide +kernel
theorem d_Model_isGreat_6 : decode b_Model_isGreat 6 = .ok (.iload_n 0, 1) := by decide +kernel
theorem d_Model_isGreat_7 : decode b_Model_isGreat 7 = .ok (.bipush 90, 2) := by decide +kernel
theorem d_Model_isGreat_9 : decode b_Model_isGreat 9 = .ok (.if_icmp .gt 7, 3) := by decide +kernel
theorem d_Model_isGreat_12 : decode b_Model_isGreat 12 = .ok (.iconst 1, 1) := by decide +kernel
theorem d_Model_isGreat_13 : decode b_Model_isGreat 13 = .ok (.goto 4, 3) := by decide +kernel
theorem d_Model_isGreat_16 : decode b_Model_isGreat 16 = .ok (.iconst 0, 1) := by decide +kernel
theorem d_Model_isGreat_17 : decode b_Model_isGreat 17 = .ok (.ireturn, 1) := by decide +kernel
abbrev b_Model_isDigit : ByteArray := prog_14_method_7_code
abbrev y_Model_isDigit : MethodName := ⟨R_Model, "isDigit", "(I)Z"⟩
theorem co_Model_isDigit : Cond.code y_Model_isDigit b_Model_isDigit 1 (some .boolean) ∈ lw_good := lg_in (tin_10 _ (List.mem_of_getElem? (i := 162) rfl)) rfl
abbrev w_Model_isDigit : List Cond := Cond.code y_Model_isDigit b_Model_isDigit 1 (some .boolean) :: lw_good
theorem st_Model_isDigit : Cond.static y_Model_isDigit ∈ lw_good := lg_right (i := 2321) (by decide +kernel) rfl
theorem d_Model_isDigit_0 : decode b_Model_isDigit 0 = .ok (.iload_n 0, 1) := by decide +kernel
theorem d_Model_isDigit_1 : decode b_Model_isDigit 1 = .ok (.bipush 48, 2) := by decide +kernel
theorem d_Model_isDigit_3 : decode b_Model_isDigit 3 = .ok (.if_icmp .lt 13, 3) := by decide +kernel
theorem d_Model_isDigit_6 : decode b_Model_isDigit 6 = .ok (.iload_n 0, 1) := by decide +kernel
theorem d_Model_isDigit_7 : decode b_Model_isDigit 7 = .ok (.bipush 57, 2) := by decide +kernel
theorem d_Model_isDigit_9 : decode b_Model_isDigit 9 = .ok (.if_icmp .gt 7, 3) := by decide +kernel
theorem d_Model_isDigit_12 : decode b_Model_isDigit 12 = .ok (.iconst 1, 1) := by decide +kernel
theorem d_Model_isDigit_13 : decode b_Model_isDigit 13 = .ok (.goto 4, 3) := by decide +kernel
theorem d_Model_isDigit_16 : decode b_Model_isDigit 16 = .ok (.iconst 0, 1) := by decide +kernel
theorem d_Model_isDigit_17 : decode b_Model_isDigit 17 = .ok (.ireturn, 1) := by decide +kernel
abbrev b_Model_isLetter : ByteArray := prog_14_method_8_code
abbrev y_Model_isLetter : MethodName := ⟨R_Model, "isLetter", "(I)Z"⟩
theorem co_Model_isLetter : Cond.code y_Model_isLetter b_Model_isLetter 1 (some .boolean) ∈ lw_good := lg_in (tin_10 _ (List.mem_of_getElem? (i := 153) rfl)) rfl
abbrev w_Model_isLetter : List Cond := Cond.code y_Model_isLetter b_Model_isLetter 1 (some .boolean) :: lw_good
theorem st_Model_isLetter : Cond.static y_Model_isLetter ∈ lw_good := lg_right (i := 2312) (by decide +kernel) rfl
theorem d_Model_isLetter_0 : decode b_Model_isLetter 0 = .ok (.iload_n 0, 1) := by decide +kernel
theorem d_Model_isLetter_1 : decode b_Model_isLetter 1 = .ok (.invokestatic 320, 3) := by decide +kernel
theorem ml_Model_320 : Cond.methodLink R_Model 320 ⟨"PointerHouseModel", "isSmall", "(I)Z"⟩ ∈ lw_good := lg_right (i := 2314) (by decide +kernel) rfl
theorem d_Model_isLetter_4 : decode b_Model_isLetter 4 = .ok (.ifCond .ne 17, 3) := by decide +kernel
theorem d_Model_isLetter_7 : decode b_Model_isLetter 7 = .ok (.iload_n 0, 1) := by decide +kernel
theorem d_Model_isLetter_8 : decode b_Model_isLetter 8 = .ok (.invokestatic 324, 3) := by decide +kernel
theorem ml_Model_324 : Cond.methodLink R_Model 324 ⟨"PointerHouseModel", "isGreat", "(I)Z"⟩ ∈ lw_good := lg_right (i := 2317) (by decide +kernel) rfl
theorem d_Model_isLetter_11 : decode b_Model_isLetter 11 = .ok (.ifCond .ne 10, 3) := by decide +kernel
theorem d_Model_isLetter_14 : decode b_Model_isLetter 14 = .ok (.iload_n 0, 1) := by decide +kernel
theorem d_Model_isLetter_15 : decode b_Model_isLetter 15 = .ok (.invokestatic 327, 3) := by decide +kernel
theorem ml_Model_327 : Cond.methodLink R_Model 327 ⟨"PointerHouseModel", "isDigit", "(I)Z"⟩ ∈ lw_good := lg_right (i := 2320) (by decide +kernel) rfl
theorem d_Model_isLetter_18 : decode b_Model_isLetter 18 = .ok (.ifCond .eq 7, 3) := by decide +kernel
theorem d_Model_isLetter_21 : decode b_Model_isLetter 21 = .ok (.iconst 1, 1) := by decide +kernel
theorem d_Model_isLetter_22 : decode b_Model_isLetter 22 = .ok (.goto 4, 3) := by decide +kernel
theorem d_Model_isLetter_25 : decode b_Model_isLetter 25 = .ok (.iconst 0, 1) := by decide +kernel
theorem d_Model_isLetter_26 : decode b_Model_isLetter 26 = .ok (.ireturn, 1) := by decide +kernel
set_option maxHeartbeats 1000000 in
set_option maxRecDepth 100000 in
theorem c_Model_isSmall (l : Launch) (dC : Nat → ClassId) (dI : Nat → Nat → Nat)  (p1 : Int32) : Met l y_Model_isSmall w_Model_isSmall ({ frames := 0, cells := 0, slots := 0, locals := 0 } : Room) (va_Pc [.int p1] (fun U => va_P (dC, dI) cls_all [] U.heap ∧ va_K (dC, dI) cls_all [] U)) (vp_Si (fun r : Int32 => (r = if 97 ≤ p1 ∧ p1 ≤ 122 then 1 else 0))) 0 0 (fun _ => False) := by
  refine Met.ofW (cc := b_Model_isSmall) (maxL := 1) (ret := (some .boolean)) (by decide) rfl ?_
  intro p e s m args below meth c s₁ B hml hv
  obtain ⟨rfl, hP, hK⟩ := hv
  have hx := B.exec
  have hb := B.bytes
  have hr := B.returns
  have hT : ∀ w ∈ lw_good, w.before _ s = true := fun w h => atoms_spec (ws := w_Model_isSmall) B.pre w (List.mem_cons_of_mem _ h)
  have hown : s.vm.findClass R_Model = some m.cls := findClass_of_methodNamed B.named
  have hlocks := B.notSynchronized
  have hl := lv_entry ([.int p1]) (n := 1) (Nat.le_of_ble_eq_true rfl)
  rw [lg_entry_eq]
  generalize (lg_sl ([.int p1]) ++ List.replicate (1 - (lg_sl ([.int p1])).length) Slot.unset).toArray = ls at hl ⊢
  have hl : lv_has ls 1 [(0, .int p1)] := hl
  refine lv_iload_n hx hb d_Model_isSmall_0 rfl (lv_at hl 0 rfl) ?_
  refine lv_bipush (v := 97) hx hb d_Model_isSmall_1 (by decide) ?_
  refine lv_icmp_lt (tgt := 16) hx hb d_Model_isSmall_3 (by decide) (fun c1 => ?_) (fun c1 => ?_)
  · refine lv_iconst (v := 0) hx hb d_Model_isSmall_16 (by decide) ?_
    refine W.zret (v := 0) hx hb hr (by first | rfl | decide | assumption) (fun t ht hW => ⟨0, rfl, ?_, ht⟩) (fun q h => by cases h) d_Model_isSmall_17
    (repeat' split) <;> first | rfl | (simp_all; done) | (exfalso; simp only [i_lt, i_le, i_eq, Int32.reduceToInt] at *; omega)
  · refine lv_iload_n hx hb d_Model_isSmall_6 rfl (lv_at hl 0 rfl) ?_
    refine lv_bipush (v := 122) hx hb d_Model_isSmall_7 (by decide) ?_
    refine lv_icmp_gt (tgt := 16) hx hb d_Model_isSmall_9 (by decide) (fun c2 => ?_) (fun c2 => ?_)
    · refine lv_iconst (v := 0) hx hb d_Model_isSmall_16 (by decide) ?_
      refine W.zret (v := 0) hx hb hr (by first | rfl | decide | assumption) (fun t ht hW => ⟨0, rfl, ?_, ht⟩) (fun q h => by cases h) d_Model_isSmall_17
      (repeat' split) <;> first | rfl | (simp_all; done) | (exfalso; simp only [i_lt, i_le, i_eq, Int32.reduceToInt] at *; omega)
    · refine lv_iconst (v := 1) hx hb d_Model_isSmall_12 (by decide) ?_
      refine lv_goto (tgt := 17) hx hb d_Model_isSmall_13 (by decide) ?_
      refine W.zret (v := 1) hx hb hr (by first | rfl | decide | assumption) (fun t ht hW => ⟨1, rfl, ?_, ht⟩) (fun q h => by cases h) d_Model_isSmall_17
      (repeat' split) <;> first | rfl | (simp_all; done) | (exfalso; simp only [i_lt, i_le, i_eq, Int32.reduceToInt] at *; omega)
set_option maxHeartbeats 1000000 in
set_option maxRecDepth 100000 in
theorem c_Model_isGreat (l : Launch) (dC : Nat → ClassId) (dI : Nat → Nat → Nat)  (p1 : Int32) : Met l y_Model_isGreat w_Model_isGreat ({ frames := 0, cells := 0, slots := 0, locals := 0 } : Room) (va_Pc [.int p1] (fun U => va_P (dC, dI) cls_all [] U.heap ∧ va_K (dC, dI) cls_all [] U)) (vp_Si (fun r : Int32 => (r = if 65 ≤ p1 ∧ p1 ≤ 90 then 1 else 0))) 0 0 (fun _ => False) := by
  refine Met.ofW (cc := b_Model_isGreat) (maxL := 1) (ret := (some .boolean)) (by decide) rfl ?_
  intro p e s m args below meth c s₁ B hml hv
  obtain ⟨rfl, hP, hK⟩ := hv
  have hx := B.exec
  have hb := B.bytes
  have hr := B.returns
  have hT : ∀ w ∈ lw_good, w.before _ s = true := fun w h => atoms_spec (ws := w_Model_isGreat) B.pre w (List.mem_cons_of_mem _ h)
  have hown : s.vm.findClass R_Model = some m.cls := findClass_of_methodNamed B.named
  have hlocks := B.notSynchronized
  have hl := lv_entry ([.int p1]) (n := 1) (Nat.le_of_ble_eq_true rfl)
  rw [lg_entry_eq]
  generalize (lg_sl ([.int p1]) ++ List.replicate (1 - (lg_sl ([.int p1])).length) Slot.unset).toArray = ls at hl ⊢
  have hl : lv_has ls 1 [(0, .int p1)] := hl
  refine lv_iload_n hx hb d_Model_isGreat_0 rfl (lv_at hl 0 rfl) ?_
  refine lv_bipush (v := 65) hx hb d_Model_isGreat_1 (by decide) ?_
  refine lv_icmp_lt (tgt := 16) hx hb d_Model_isGreat_3 (by decide) (fun c1 => ?_) (fun c1 => ?_)
  · refine lv_iconst (v := 0) hx hb d_Model_isGreat_16 (by decide) ?_
    refine W.zret (v := 0) hx hb hr (by first | rfl | decide | assumption) (fun t ht hW => ⟨0, rfl, ?_, ht⟩) (fun q h => by cases h) d_Model_isGreat_17
    (repeat' split) <;> first | rfl | (simp_all; done) | (exfalso; simp only [i_lt, i_le, i_eq, Int32.reduceToInt] at *; omega)
  · refine lv_iload_n hx hb d_Model_isGreat_6 rfl (lv_at hl 0 rfl) ?_
    refine lv_bipush (v := 90) hx hb d_Model_isGreat_7 (by decide) ?_
    refine lv_icmp_gt (tgt := 16) hx hb d_Model_isGreat_9 (by decide) (fun c2 => ?_) (fun c2 => ?_)
    · refine lv_iconst (v := 0) hx hb d_Model_isGreat_16 (by decide) ?_
      refine W.zret (v := 0) hx hb hr (by first | rfl | decide | assumption) (fun t ht hW => ⟨0, rfl, ?_, ht⟩) (fun q h => by cases h) d_Model_isGreat_17
      (repeat' split) <;> first | rfl | (simp_all; done) | (exfalso; simp only [i_lt, i_le, i_eq, Int32.reduceToInt] at *; omega)
    · refine lv_iconst (v := 1) hx hb d_Model_isGreat_12 (by decide) ?_
      refine lv_goto (tgt := 17) hx hb d_Model_isGreat_13 (by decide) ?_
      refine W.zret (v := 1) hx hb hr (by first | rfl | decide | assumption) (fun t ht hW => ⟨1, rfl, ?_, ht⟩) (fun q h => by cases h) d_Model_isGreat_17
      (repeat' split) <;> first | rfl | (simp_all; done) | (exfalso; simp only [i_lt, i_le, i_eq, Int32.reduceToInt] at *; omega)
set_option maxHeartbeats 1000000 in
set_option maxRecDepth 100000 in
theorem c_Model_isDigit (l : Launch) (dC : Nat → ClassId) (dI : Nat → Nat → Nat)  (p1 : Int32) : Met l y_Model_isDigit w_Model_isDigit ({ frames := 0, cells := 0, slots := 0, locals := 0 } : Room) (va_Pc [.int p1] (fun U => va_P (dC, dI) cls_all [] U.heap ∧ va_K (dC, dI) cls_all [] U)) (vp_Si (fun r : Int32 => (r = if 48 ≤ p1 ∧ p1 ≤ 57 then 1 else 0))) 0 0 (fun _ => False) := by
  refine Met.ofW (cc := b_Model_isDigit) (maxL := 1) (ret := (some .boolean)) (by decide) rfl ?_
  intro p e s m args below meth c s₁ B hml hv
  obtain ⟨rfl, hP, hK⟩ := hv
  have hx := B.exec
  have hb := B.bytes
  have hr := B.returns
  have hT : ∀ w ∈ lw_good, w.before _ s = true := fun w h => atoms_spec (ws := w_Model_isDigit) B.pre w (List.mem_cons_of_mem _ h)
  have hown : s.vm.findClass R_Model = some m.cls := findClass_of_methodNamed B.named
  have hlocks := B.notSynchronized
  have hl := lv_entry ([.int p1]) (n := 1) (Nat.le_of_ble_eq_true rfl)
  rw [lg_entry_eq]
  generalize (lg_sl ([.int p1]) ++ List.replicate (1 - (lg_sl ([.int p1])).length) Slot.unset).toArray = ls at hl ⊢
  have hl : lv_has ls 1 [(0, .int p1)] := hl
  refine lv_iload_n hx hb d_Model_isDigit_0 rfl (lv_at hl 0 rfl) ?_
  refine lv_bipush (v := 48) hx hb d_Model_isDigit_1 (by decide) ?_
  refine lv_icmp_lt (tgt := 16) hx hb d_Model_isDigit_3 (by decide) (fun c1 => ?_) (fun c1 => ?_)
  · refine lv_iconst (v := 0) hx hb d_Model_isDigit_16 (by decide) ?_
    refine W.zret (v := 0) hx hb hr (by first | rfl | decide | assumption) (fun t ht hW => ⟨0, rfl, ?_, ht⟩) (fun q h => by cases h) d_Model_isDigit_17
    (repeat' split) <;> first | rfl | (simp_all; done) | (exfalso; simp only [i_lt, i_le, i_eq, Int32.reduceToInt] at *; omega)
  · refine lv_iload_n hx hb d_Model_isDigit_6 rfl (lv_at hl 0 rfl) ?_
    refine lv_bipush (v := 57) hx hb d_Model_isDigit_7 (by decide) ?_
    refine lv_icmp_gt (tgt := 16) hx hb d_Model_isDigit_9 (by decide) (fun c2 => ?_) (fun c2 => ?_)
    · refine lv_iconst (v := 0) hx hb d_Model_isDigit_16 (by decide) ?_
      refine W.zret (v := 0) hx hb hr (by first | rfl | decide | assumption) (fun t ht hW => ⟨0, rfl, ?_, ht⟩) (fun q h => by cases h) d_Model_isDigit_17
      (repeat' split) <;> first | rfl | (simp_all; done) | (exfalso; simp only [i_lt, i_le, i_eq, Int32.reduceToInt] at *; omega)
    · refine lv_iconst (v := 1) hx hb d_Model_isDigit_12 (by decide) ?_
      refine lv_goto (tgt := 17) hx hb d_Model_isDigit_13 (by decide) ?_
      refine W.zret (v := 1) hx hb hr (by first | rfl | decide | assumption) (fun t ht hW => ⟨1, rfl, ?_, ht⟩) (fun q h => by cases h) d_Model_isDigit_17
      (repeat' split) <;> first | rfl | (simp_all; done) | (exfalso; simp only [i_lt, i_le, i_eq, Int32.reduceToInt] at *; omega)
set_option maxHeartbeats 1000000 in
set_option maxRecDepth 100000 in
theorem c_Model_isLetter (l : Launch) (dC : Nat → ClassId) (dI : Nat → Nat → Nat)  (p1 : Int32) : Met l y_Model_isLetter w_Model_isLetter ({ frames := 1, cells := 0, slots := 0, locals := 20 } : Room) (va_Pc [.int p1] (fun U => va_P (dC, dI) cls_all [] U.heap ∧ va_K (dC, dI) cls_all [] U)) (vp_Si (fun r : Int32 => (r = if (97 ≤ p1 ∧ p1 ≤ 122) ∨ (65 ≤ p1 ∧ p1 ≤ 90) ∨ (48 ≤ p1 ∧ p1 ≤ 57) then 1 else 0))) 0 0 (fun _ => False) := by
  refine Met.ofW (cc := b_Model_isLetter) (maxL := 1) (ret := (some .boolean)) (by decide) rfl ?_
  intro p e s m args below meth c s₁ B hml hv
  obtain ⟨rfl, hP, hK⟩ := hv
  have hx := B.exec
  have hb := B.bytes
  have hr := B.returns
  have hT : ∀ w ∈ lw_good, w.before _ s = true := fun w h => atoms_spec (ws := w_Model_isLetter) B.pre w (List.mem_cons_of_mem _ h)
  have hown : s.vm.findClass R_Model = some m.cls := findClass_of_methodNamed B.named
  have hlocks := B.notSynchronized
  have hl := lv_entry ([.int p1]) (n := 1) (Nat.le_of_ble_eq_true rfl)
  rw [lg_entry_eq]
  generalize (lg_sl ([.int p1]) ++ List.replicate (1 - (lg_sl ([.int p1])).length) Slot.unset).toArray = ls at hl ⊢
  have hl : lv_has ls 1 [(0, .int p1)] := hl
  refine lv_iload_n hx hb d_Model_isLetter_0 rfl (lv_at hl 0 rfl) ?_
  have hPc := hP.sub (ws' := []) [] rfl
  have hKc := hK.sub (tys' := []) [] rfl
  refine vp_callSi (va_Run.run (va_runS (As := [.int p1]) (rest := []) ⟨hx, hb, hml, hown, hT⟩ (c_Model_isSmall l dC dI (p1 := p1) ) (va_cwS 1 hT (gS ml_Model_320 st_Model_isSmall ini_Model co_Model_isSmall) rfl rfl rfl (by decide +kernel) ⟨Nat.le_of_ble_eq_true rfl, Nat.le_of_ble_eq_true rfl⟩) ⟨fbS, fun U hU hW => ⟨rfl, by rw [hU]; exact hPc, va_K.moved hW.alike hKc⟩⟩ rfl rfl hl.1 rfl (lv_room (Nat.le_of_ble_eq_true rfl)) d_Model_isLetter_1 ⟨Nat.le_of_ble_eq_true rfl, Nat.le_of_ble_eq_true rfl⟩)) (fun r1 hr1 => ?_)
  refine lv_if_ne (tgt := 21) hx hb d_Model_isLetter_4 (by decide) (fun c2 => ?_) (fun c2 => ?_)
  · refine lv_iconst (v := 1) hx hb d_Model_isLetter_21 (by decide) ?_
    refine lv_goto (tgt := 26) hx hb d_Model_isLetter_22 (by decide) ?_
    refine W.zret (v := 1) hx hb hr (by first | rfl | decide | assumption) (fun t ht hW => ⟨1, rfl, ?_, ht⟩) (fun q h => by cases h) d_Model_isLetter_26
    (by_cases a1 : 48 ≤ p1 ∧ p1 ≤ 57) <;> (by_cases a2 : 97 ≤ p1 ∧ p1 ≤ 122) <;> (by_cases a3 : 65 ≤ p1 ∧ p1 ≤ 90) <;> first | (simp only [a1, a2, a3, or_self, or_true, true_or, or_false, false_or, if_true, if_false]; done) | (simp_all; done) | (exfalso; simp only [i_lt, i_le, Int32.reduceToInt] at *; omega)
  · refine lv_iload_n hx hb d_Model_isLetter_7 rfl (lv_at hl 0 rfl) ?_
    have hPc := hP.sub (ws' := []) [] rfl
    have hKc := hK.sub (tys' := []) [] rfl
    refine vp_callSi (va_Run.run (va_runS (As := [.int p1]) (rest := []) ⟨hx, hb, hml, hown, hT⟩ (c_Model_isGreat l dC dI (p1 := p1) ) (va_cwS 1 hT (gS ml_Model_324 st_Model_isGreat ini_Model co_Model_isGreat) rfl rfl rfl (by decide +kernel) ⟨Nat.le_of_ble_eq_true rfl, Nat.le_of_ble_eq_true rfl⟩) ⟨fbS, fun U hU hW => ⟨rfl, by rw [hU]; exact hPc, va_K.moved hW.alike hKc⟩⟩ rfl rfl hl.1 rfl (lv_room (Nat.le_of_ble_eq_true rfl)) d_Model_isLetter_8 ⟨Nat.le_of_ble_eq_true rfl, Nat.le_of_ble_eq_true rfl⟩)) (fun r3 hr3 => ?_)
    refine lv_if_ne (tgt := 21) hx hb d_Model_isLetter_11 (by decide) (fun c4 => ?_) (fun c4 => ?_)
    · refine lv_iconst (v := 1) hx hb d_Model_isLetter_21 (by decide) ?_
      refine lv_goto (tgt := 26) hx hb d_Model_isLetter_22 (by decide) ?_
      refine W.zret (v := 1) hx hb hr (by first | rfl | decide | assumption) (fun t ht hW => ⟨1, rfl, ?_, ht⟩) (fun q h => by cases h) d_Model_isLetter_26
      (by_cases a1 : 48 ≤ p1 ∧ p1 ≤ 57) <;> (by_cases a2 : 97 ≤ p1 ∧ p1 ≤ 122) <;> (by_cases a3 : 65 ≤ p1 ∧ p1 ≤ 90) <;> first | (simp only [a1, a2, a3, or_self, or_true, true_or, or_false, false_or, if_true, if_false]; done) | (simp_all; done) | (exfalso; simp only [i_lt, i_le, Int32.reduceToInt] at *; omega)
    · refine lv_iload_n hx hb d_Model_isLetter_14 rfl (lv_at hl 0 rfl) ?_
      have hPc := hP.sub (ws' := []) [] rfl
      have hKc := hK.sub (tys' := []) [] rfl
      refine vp_callSi (va_Run.run (va_runS (As := [.int p1]) (rest := []) ⟨hx, hb, hml, hown, hT⟩ (c_Model_isDigit l dC dI (p1 := p1) ) (va_cwS 1 hT (gS ml_Model_327 st_Model_isDigit ini_Model co_Model_isDigit) rfl rfl rfl (by decide +kernel) ⟨Nat.le_of_ble_eq_true rfl, Nat.le_of_ble_eq_true rfl⟩) ⟨fbS, fun U hU hW => ⟨rfl, by rw [hU]; exact hPc, va_K.moved hW.alike hKc⟩⟩ rfl rfl hl.1 rfl (lv_room (Nat.le_of_ble_eq_true rfl)) d_Model_isLetter_15 ⟨Nat.le_of_ble_eq_true rfl, Nat.le_of_ble_eq_true rfl⟩)) (fun r5 hr5 => ?_)
      refine lv_if_eq (tgt := 25) hx hb d_Model_isLetter_18 (by decide) (fun c6 => ?_) (fun c6 => ?_)
      · refine lv_iconst (v := 0) hx hb d_Model_isLetter_25 (by decide) ?_
        refine W.zret (v := 0) hx hb hr (by first | rfl | decide | assumption) (fun t ht hW => ⟨0, rfl, ?_, ht⟩) (fun q h => by cases h) d_Model_isLetter_26
        (by_cases a1 : 48 ≤ p1 ∧ p1 ≤ 57) <;> (by_cases a2 : 97 ≤ p1 ∧ p1 ≤ 122) <;> (by_cases a3 : 65 ≤ p1 ∧ p1 ≤ 90) <;> first | (simp only [a1, a2, a3, or_self, or_true, true_or, or_false, false_or, if_true, if_false]; done) | (simp_all; done) | (exfalso; simp only [i_lt, i_le, Int32.reduceToInt] at *; omega)
      · refine lv_iconst (v := 1) hx hb d_Model_isLetter_21 (by decide) ?_
        refine lv_goto (tgt := 26) hx hb d_Model_isLetter_22 (by decide) ?_
        refine W.zret (v := 1) hx hb hr (by first | rfl | decide | assumption) (fun t ht hW => ⟨1, rfl, ?_, ht⟩) (fun q h => by cases h) d_Model_isLetter_26
        (by_cases a1 : 48 ≤ p1 ∧ p1 ≤ 57) <;> (by_cases a2 : 97 ≤ p1 ∧ p1 ≤ 122) <;> (by_cases a3 : 65 ≤ p1 ∧ p1 ≤ 90) <;> first | (simp only [a1, a2, a3, or_self, or_true, true_or, or_false, false_or, if_true, if_false]; done) | (simp_all; done) | (exfalso; simp only [i_lt, i_le, Int32.reduceToInt] at *; omega)
set_option maxHeartbeats 1000000 in
set_option maxRecDepth 100000 in
theorem c_Model_see (l : Launch) (dC : Nat → ClassId) (dI : Nat → Nat → Nat)  (h_this : Nat) (h_text : Nat) (fs_this : List Value) (v_this_size : Int32) (k_text : ClassId) (f_text : Nat → Int32) (p1 : Int32) (len_this : fs_this.length = 153) (g_this_size : fs_this[1]? = some (.int v_this_size)) (g_this_text : fs_this[0]? = some (.ref h_text)) (h0 : 0 ≤ p1) (hs : v_this_size ≤ 4000) : Met l y_Model_see_I w_Model_see_I ({ frames := 0, cells := 0, slots := 0, locals := 0 } : Room) (va_Pc [.ref h_this, .int p1] (fun U => va_P (dC, dI) cls_all [oc h_this 12 fs_this, ic h_text k_text 4000 f_text] U.heap ∧ va_K (dC, dI) cls_all [(k_text, .int)] U)) (vp_Si (fun r : Int32 => (r = if p1 < v_this_size then f_text p1.toNatClampNeg else -1))) 0 0 (fun _ => False) := by
  refine Met.ofW (cc := b_Model_see_I) (maxL := 2) (ret := (some .int)) (by decide) rfl ?_
  intro p e s m args below meth c s₁ B hml hv
  obtain ⟨rfl, hP, hK⟩ := hv
  have hx := B.exec
  have hb := B.bytes
  have hr := B.returns
  have hT : ∀ w ∈ lw_good, w.before _ s = true := fun w h => atoms_spec (ws := w_Model_see_I) B.pre w (List.mem_cons_of_mem _ h)
  have hown : s.vm.findClass R_Model = some m.cls := findClass_of_methodNamed B.named
  have hlocks := B.notSynchronized
  have hl := lv_entry ([.ref h_this, .int p1]) (n := 2) (Nat.le_of_ble_eq_true rfl)
  rw [lg_entry_eq]
  generalize (lg_sl ([.ref h_this, .int p1]) ++ List.replicate (2 - (lg_sl ([.ref h_this, .int p1])).length) Slot.unset).toArray = ls at hl ⊢
  have hl : lv_has ls 2 [(0, .ref h_this), (1, .int p1)] := hl
  refine lv_iload_n hx hb d_Model_see_I_0 rfl (lv_at hl 1 rfl) ?_
  refine lv_aload_n hx hb d_Model_see_I_1 rfl (lv_at hl 0 rfl) ?_
  refine va_get (D := (dC, dI)) (ci := 12) (v := .int v_this_size) (C := R_Model) (T := F_Model) (N := 153) hx hb hT i_Model hown hK hP 0 rfl rfl 1 (by decide) (hT _ fl_Model_313) (fun _ h9 => h9) g_this_size d_Model_see_I_2 ?_
  refine lv_icmp_ge (tgt := 17) hx hb d_Model_see_I_5 (by decide) (fun c1 => ?_) (fun c1 => ?_)
  · refine lv_iconst (v := (-1)) hx hb d_Model_see_I_17 (by decide) ?_
    refine W.iret (v := (-1)) hx hb hr (fun t ht hW => ⟨(-1), rfl, ?_, ht⟩) (fun q h => by cases h) d_Model_see_I_18
    (repeat' split) <;> first | rfl | (simp_all; done) | (exfalso; simp only [i_lt, i_le, i_eq, Int32.reduceToInt] at *; omega)
  · refine lv_aload_n hx hb d_Model_see_I_8 rfl (lv_at hl 0 rfl) ?_
    refine va_get (D := (dC, dI)) (ci := 12) (v := .ref h_text) (C := R_Model) (T := F_Model) (N := 153) hx hb hT i_Model hown hK hP 0 rfl rfl 0 (by decide) (hT _ fl_Model_7) (fun _ h9 => h9) g_this_text d_Model_see_I_9 ?_
    refine lv_iload_n hx hb d_Model_see_I_12 rfl (lv_at hl 1 rfl) ?_
    refine va_iald hx hb hK hP 1 0 rfl rfl (by first | exact has_in (by assumption) (by assumption) (by assumption) | (refine vp_in_iff.mpr ?_; simp only [i_lt, i_le, i_eq, Int32.reduceToInt] at *; omega)) d_Model_see_I_13 ?_
    refine lv_topi (fun x2 e2 => ?_)
    refine lv_goto (tgt := 18) hx hb d_Model_see_I_14 (by decide) ?_
    refine W.iret (v := x2) hx hb hr (fun t ht hW => ⟨x2, rfl, ?_, ht⟩) (fun q h => by cases h) d_Model_see_I_18
    (repeat' split) <;> first | rfl | (simp_all; done) | (exfalso; simp only [i_lt, i_le, i_eq, Int32.reduceToInt] at *; omega)
