abbrev b_Math_min : ByteArray := prog_17_method_69_code
abbrev y_Math_min : MethodName := ⟨R_Math, "min", "(II)I"⟩
theorem co_Math_min : Cond.code y_Math_min b_Math_min 2 (some .int) ∈ lw_good := lg_in (tin_1 _ (List.mem_of_getElem? (i := 113) rfl)) rfl
abbrev w_Math_min : List Cond := Cond.code y_Math_min b_Math_min 2 (some .int) :: lw_good
theorem st_Math_min : Cond.static y_Math_min ∈ lw_good := lg_right (i := 112) (by decide +kernel) rfl
theorem d_Math_min_0 : decode b_Math_min 0 = .ok (.iload_n 0, 1) := by decide +kernel
theorem d_Math_min_1 : decode b_Math_min 1 = .ok (.iload_n 1, 1) := by decide +kernel
theorem d_Math_min_2 : decode b_Math_min 2 = .ok (.if_icmp .gt 7, 3) := by decide +kernel
theorem d_Math_min_5 : decode b_Math_min 5 = .ok (.iload_n 0, 1) := by decide +kernel
theorem d_Math_min_6 : decode b_Math_min 6 = .ok (.goto 4, 3) := by decide +kernel
theorem d_Math_min_9 : decode b_Math_min 9 = .ok (.iload_n 1, 1) := by decide +kernel
theorem d_Math_min_10 : decode b_Math_min 10 = .ok (.ireturn, 1) := by decide +kernel
abbrev b_Math_max : ByteArray := prog_17_method_65_code
abbrev y_Math_max : MethodName := ⟨R_Math, "max", "(II)I"⟩
theorem co_Math_max : Cond.code y_Math_max b_Math_max 2 (some .int) ∈ lw_good := lg_in (tin_4 _ (List.mem_of_getElem? (i := 99) rfl)) rfl
abbrev w_Math_max : List Cond := Cond.code y_Math_max b_Math_max 2 (some .int) :: lw_good
theorem st_Math_max : Cond.static y_Math_max ∈ lw_good := lg_right (i := 818) (by decide +kernel) rfl
theorem d_Math_max_0 : decode b_Math_max 0 = .ok (.iload_n 0, 1) := by decide +kernel
theorem d_Math_max_1 : decode b_Math_max 1 = .ok (.iload_n 1, 1) := by decide +kernel
theorem d_Math_max_2 : decode b_Math_max 2 = .ok (.if_icmp .lt 7, 3) := by decide +kernel
theorem d_Math_max_5 : decode b_Math_max 5 = .ok (.iload_n 0, 1) := by decide +kernel
theorem d_Math_max_6 : decode b_Math_max 6 = .ok (.goto 4, 3) := by decide +kernel
theorem d_Math_max_9 : decode b_Math_max 9 = .ok (.iload_n 1, 1) := by decide +kernel
theorem d_Math_max_10 : decode b_Math_max 10 = .ok (.ireturn, 1) := by decide +kernel
