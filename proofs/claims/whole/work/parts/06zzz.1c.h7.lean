abbrev b_Memory_regionCount : ByteArray := prog_7_method_5_code
abbrev y_Memory_regionCount : MethodName := ⟨R_Memory, "regionCount", "()I"⟩
theorem co_Memory_regionCount : Cond.code y_Memory_regionCount b_Memory_regionCount 1 (some .int) ∈ lw_good := lg_in (tin_7 _ (List.mem_of_getElem? (i := 179) rfl)) rfl
abbrev w_Memory_regionCount : List Cond := Cond.code y_Memory_regionCount b_Memory_regionCount 1 (some .int) :: lw_good
theorem im_Memory_regionCount : Cond.instanceMethod y_Memory_regionCount ∈ lw_good := lg_right (i := 1617) (by decide +kernel) rfl
theorem se_Memory_regionCount : Cond.selects R_Memory y_Memory_regionCount y_Memory_regionCount ∈ lw_good := lg_right (i := 1618) (by decide +kernel) rfl
theorem d_Memory_regionCount_0 : decode b_Memory_regionCount 0 = .ok (.aload_n 0, 1) := by decide +kernel
theorem d_Memory_regionCount_1 : decode b_Memory_regionCount 1 = .ok (.getfield 64, 3) := by decide +kernel
theorem d_Memory_regionCount_4 : decode b_Memory_regionCount 4 = .ok (.ireturn, 1) := by decide +kernel
abbrev b_Memory_pagesInUse : ByteArray := prog_7_method_4_code
abbrev y_Memory_pagesInUse : MethodName := ⟨R_Memory, "pagesInUse", "()I"⟩
theorem co_Memory_pagesInUse : Cond.code y_Memory_pagesInUse b_Memory_pagesInUse 1 (some .int) ∈ lw_good := lg_in (tin_8 _ (List.mem_of_getElem? (i := 108) rfl)) rfl
abbrev w_Memory_pagesInUse : List Cond := Cond.code y_Memory_pagesInUse b_Memory_pagesInUse 1 (some .int) :: lw_good
theorem im_Memory_pagesInUse : Cond.instanceMethod y_Memory_pagesInUse ∈ lw_good := lg_right (i := 1786) (by decide +kernel) rfl
theorem se_Memory_pagesInUse : Cond.selects R_Memory y_Memory_pagesInUse y_Memory_pagesInUse ∈ lw_good := lg_right (i := 1787) (by decide +kernel) rfl
theorem d_Memory_pagesInUse_0 : decode b_Memory_pagesInUse 0 = .ok (.aload_n 0, 1) := by decide +kernel
theorem d_Memory_pagesInUse_1 : decode b_Memory_pagesInUse 1 = .ok (.getfield 55, 3) := by decide +kernel
theorem d_Memory_pagesInUse_4 : decode b_Memory_pagesInUse 4 = .ok (.ireturn, 1) := by decide +kernel
abbrev b_Memory_objectsMade : ByteArray := prog_7_method_6_code
abbrev y_Memory_objectsMade : MethodName := ⟨R_Memory, "objectsMade", "()I"⟩
theorem co_Memory_objectsMade : Cond.code y_Memory_objectsMade b_Memory_objectsMade 1 (some .int) ∈ lw_good := lg_in (tin_8 _ (List.mem_of_getElem? (i := 112) rfl)) rfl
abbrev w_Memory_objectsMade : List Cond := Cond.code y_Memory_objectsMade b_Memory_objectsMade 1 (some .int) :: lw_good
theorem im_Memory_objectsMade : Cond.instanceMethod y_Memory_objectsMade ∈ lw_good := lg_right (i := 1790) (by decide +kernel) rfl
theorem se_Memory_objectsMade : Cond.selects R_Memory y_Memory_objectsMade y_Memory_objectsMade ∈ lw_good := lg_right (i := 1791) (by decide +kernel) rfl
theorem d_Memory_objectsMade_0 : decode b_Memory_objectsMade 0 = .ok (.aload_n 0, 1) := by decide +kernel
theorem d_Memory_objectsMade_1 : decode b_Memory_objectsMade 1 = .ok (.getfield 58, 3) := by decide +kernel
theorem d_Memory_objectsMade_4 : decode b_Memory_objectsMade 4 = .ok (.ireturn, 1) := by decide +kernel
abbrev b_Memory_strayTouches : ByteArray := prog_7_method_7_code
abbrev y_Memory_strayTouches : MethodName := ⟨R_Memory, "strayTouches", "()I"⟩
theorem co_Memory_strayTouches : Cond.code y_Memory_strayTouches b_Memory_strayTouches 1 (some .int) ∈ lw_good := lg_in (tin_8 _ (List.mem_of_getElem? (i := 116) rfl)) rfl
abbrev w_Memory_strayTouches : List Cond := Cond.code y_Memory_strayTouches b_Memory_strayTouches 1 (some .int) :: lw_good
theorem im_Memory_strayTouches : Cond.instanceMethod y_Memory_strayTouches ∈ lw_good := lg_right (i := 1794) (by decide +kernel) rfl
theorem se_Memory_strayTouches : Cond.selects R_Memory y_Memory_strayTouches y_Memory_strayTouches ∈ lw_good := lg_right (i := 1795) (by decide +kernel) rfl
theorem d_Memory_strayTouches_0 : decode b_Memory_strayTouches 0 = .ok (.aload_n 0, 1) := by decide +kernel
theorem d_Memory_strayTouches_1 : decode b_Memory_strayTouches 1 = .ok (.getfield 61, 3) := by decide +kernel
theorem d_Memory_strayTouches_4 : decode b_Memory_strayTouches 4 = .ok (.ireturn, 1) := by decide +kernel
abbrev b_Memory_freePage : ByteArray := prog_7_method_11_code
abbrev y_Memory_freePage : MethodName := ⟨R_Memory, "freePage", "()I"⟩
theorem co_Memory_freePage : Cond.code y_Memory_freePage b_Memory_freePage 2 (some .int) ∈ lw_good := lg_in (tin_8 _ (List.mem_of_getElem? (i := 51) rfl)) rfl
abbrev w_Memory_freePage : List Cond := Cond.code y_Memory_freePage b_Memory_freePage 2 (some .int) :: lw_good
theorem im_Memory_freePage : Cond.instanceMethod y_Memory_freePage ∈ lw_good := lg_right (i := 1730) (by decide +kernel) rfl
theorem se_Memory_freePage : Cond.selects R_Memory y_Memory_freePage y_Memory_freePage ∈ lw_good := lg_left (i := 108) (by decide +kernel) rfl
theorem d_Memory_freePage_0 : decode b_Memory_freePage 0 = .ok (.iconst 0, 1) := by decide +kernel
theorem d_Memory_freePage_1 : decode b_Memory_freePage 1 = .ok (.istore_n 1, 1) := by decide +kernel
theorem d_Memory_freePage_2 : decode b_Memory_freePage 2 = .ok (.iload_n 1, 1) := by decide +kernel
theorem d_Memory_freePage_3 : decode b_Memory_freePage 3 = .ok (.aload_n 0, 1) := by decide +kernel
theorem d_Memory_freePage_4 : decode b_Memory_freePage 4 = .ok (.getfield 48, 3) := by decide +kernel
theorem d_Memory_freePage_7 : decode b_Memory_freePage 7 = .ok (.if_icmp .ge 21, 3) := by decide +kernel
theorem d_Memory_freePage_10 : decode b_Memory_freePage 10 = .ok (.aload_n 0, 1) := by decide +kernel
theorem d_Memory_freePage_11 : decode b_Memory_freePage 11 = .ok (.getfield 21, 3) := by decide +kernel
theorem d_Memory_freePage_14 : decode b_Memory_freePage 14 = .ok (.iload_n 1, 1) := by decide +kernel
theorem d_Memory_freePage_15 : decode b_Memory_freePage 15 = .ok (.iaload, 1) := by decide +kernel
theorem d_Memory_freePage_16 : decode b_Memory_freePage 16 = .ok (.iconst (-1), 1) := by decide +kernel
theorem d_Memory_freePage_17 : decode b_Memory_freePage 17 = .ok (.if_icmp .ne 5, 3) := by decide +kernel
theorem d_Memory_freePage_20 : decode b_Memory_freePage 20 = .ok (.iload_n 1, 1) := by decide +kernel
theorem d_Memory_freePage_21 : decode b_Memory_freePage 21 = .ok (.ireturn, 1) := by decide +kernel
theorem d_Memory_freePage_22 : decode b_Memory_freePage 22 = .ok (.iinc 1 1, 3) := by decide +kernel
theorem d_Memory_freePage_25 : decode b_Memory_freePage 25 = .ok (.goto (-23), 3) := by decide +kernel
theorem d_Memory_freePage_28 : decode b_Memory_freePage 28 = .ok (.iconst (-1), 1) := by decide +kernel
theorem d_Memory_freePage_29 : decode b_Memory_freePage 29 = .ok (.ireturn, 1) := by decide +kernel
abbrev b_Memory_takePage : ByteArray := prog_7_method_12_code
abbrev y_Memory_takePage : MethodName := ⟨R_Memory, "takePage", "(II)V"⟩
theorem co_Memory_takePage : Cond.code y_Memory_takePage b_Memory_takePage 5 none ∈ lw_good := lg_in (tin_8 _ (List.mem_of_getElem? (i := 55) rfl)) rfl
abbrev w_Memory_takePage : List Cond := Cond.code y_Memory_takePage b_Memory_takePage 5 none :: lw_good
theorem im_Memory_takePage : Cond.instanceMethod y_Memory_takePage ∈ lw_good := lg_right (i := 1734) (by decide +kernel) rfl
theorem se_Memory_takePage : Cond.selects R_Memory y_Memory_takePage y_Memory_takePage ∈ lw_good := lg_left (i := 109) (by decide +kernel) rfl
theorem d_Memory_takePage_0 : decode b_Memory_takePage 0 = .ok (.iload_n 2, 1) := by decide +kernel
theorem d_Memory_takePage_1 : decode b_Memory_takePage 1 = .ok (.aload_n 0, 1) := by decide +kernel
theorem d_Memory_takePage_2 : decode b_Memory_takePage 2 = .ok (.getfield 52, 3) := by decide +kernel
theorem d_Memory_takePage_5 : decode b_Memory_takePage 5 = .ok (.imul, 1) := by decide +kernel
theorem d_Memory_takePage_6 : decode b_Memory_takePage 6 = .ok (.istore_n 3, 1) := by decide +kernel
theorem d_Memory_takePage_7 : decode b_Memory_takePage 7 = .ok (.aload_n 0, 1) := by decide +kernel
theorem d_Memory_takePage_8 : decode b_Memory_takePage 8 = .ok (.getfield 21, 3) := by decide +kernel
theorem d_Memory_takePage_11 : decode b_Memory_takePage 11 = .ok (.iload_n 2, 1) := by decide +kernel
theorem d_Memory_takePage_12 : decode b_Memory_takePage 12 = .ok (.iload_n 1, 1) := by decide +kernel
theorem d_Memory_takePage_13 : decode b_Memory_takePage 13 = .ok (.iastore, 1) := by decide +kernel
theorem d_Memory_takePage_14 : decode b_Memory_takePage 14 = .ok (.aload_n 0, 1) := by decide +kernel
theorem d_Memory_takePage_15 : decode b_Memory_takePage 15 = .ok (.dup, 1) := by decide +kernel
theorem d_Memory_takePage_16 : decode b_Memory_takePage 16 = .ok (.getfield 55, 3) := by decide +kernel
theorem d_Memory_takePage_19 : decode b_Memory_takePage 19 = .ok (.iconst 1, 1) := by decide +kernel
theorem d_Memory_takePage_20 : decode b_Memory_takePage 20 = .ok (.iadd, 1) := by decide +kernel
theorem d_Memory_takePage_21 : decode b_Memory_takePage 21 = .ok (.putfield 55, 3) := by decide +kernel
theorem d_Memory_takePage_24 : decode b_Memory_takePage 24 = .ok (.aload_n 0, 1) := by decide +kernel
theorem d_Memory_takePage_25 : decode b_Memory_takePage 25 = .ok (.getfield 24, 3) := by decide +kernel
theorem d_Memory_takePage_28 : decode b_Memory_takePage 28 = .ok (.iload_n 1, 1) := by decide +kernel
theorem d_Memory_takePage_29 : decode b_Memory_takePage 29 = .ok (.dup2, 1) := by decide +kernel
theorem d_Memory_takePage_30 : decode b_Memory_takePage 30 = .ok (.iaload, 1) := by decide +kernel
theorem d_Memory_takePage_31 : decode b_Memory_takePage 31 = .ok (.iconst 1, 1) := by decide +kernel
theorem d_Memory_takePage_32 : decode b_Memory_takePage 32 = .ok (.iadd, 1) := by decide +kernel
theorem d_Memory_takePage_33 : decode b_Memory_takePage 33 = .ok (.iastore, 1) := by decide +kernel
theorem d_Memory_takePage_34 : decode b_Memory_takePage 34 = .ok (.aload_n 0, 1) := by decide +kernel
theorem d_Memory_takePage_35 : decode b_Memory_takePage 35 = .ok (.getfield 33, 3) := by decide +kernel
theorem d_Memory_takePage_38 : decode b_Memory_takePage 38 = .ok (.iload_n 1, 1) := by decide +kernel
theorem d_Memory_takePage_39 : decode b_Memory_takePage 39 = .ok (.iload_n 3, 1) := by decide +kernel
theorem d_Memory_takePage_40 : decode b_Memory_takePage 40 = .ok (.iastore, 1) := by decide +kernel
theorem d_Memory_takePage_41 : decode b_Memory_takePage 41 = .ok (.aload_n 0, 1) := by decide +kernel
theorem d_Memory_takePage_42 : decode b_Memory_takePage 42 = .ok (.getfield 36, 3) := by decide +kernel
theorem d_Memory_takePage_45 : decode b_Memory_takePage 45 = .ok (.iload_n 1, 1) := by decide +kernel
theorem d_Memory_takePage_46 : decode b_Memory_takePage 46 = .ok (.aload_n 0, 1) := by decide +kernel
theorem d_Memory_takePage_47 : decode b_Memory_takePage 47 = .ok (.getfield 52, 3) := by decide +kernel
theorem d_Memory_takePage_50 : decode b_Memory_takePage 50 = .ok (.iastore, 1) := by decide +kernel
theorem d_Memory_takePage_51 : decode b_Memory_takePage 51 = .ok (.iload_n 3, 1) := by decide +kernel
theorem d_Memory_takePage_52 : decode b_Memory_takePage 52 = .ok (.istore 4, 2) := by decide +kernel
theorem d_Memory_takePage_54 : decode b_Memory_takePage 54 = .ok (.iload 4, 2) := by decide +kernel
theorem d_Memory_takePage_56 : decode b_Memory_takePage 56 = .ok (.iload_n 3, 1) := by decide +kernel
theorem d_Memory_takePage_57 : decode b_Memory_takePage 57 = .ok (.aload_n 0, 1) := by decide +kernel
theorem d_Memory_takePage_58 : decode b_Memory_takePage 58 = .ok (.getfield 52, 3) := by decide +kernel
theorem d_Memory_takePage_61 : decode b_Memory_takePage 61 = .ok (.iadd, 1) := by decide +kernel
theorem d_Memory_takePage_62 : decode b_Memory_takePage 62 = .ok (.if_icmp .ge 27, 3) := by decide +kernel
theorem d_Memory_takePage_65 : decode b_Memory_takePage 65 = .ok (.iload 4, 2) := by decide +kernel
theorem d_Memory_takePage_67 : decode b_Memory_takePage 67 = .ok (.aload_n 0, 1) := by decide +kernel
theorem d_Memory_takePage_68 : decode b_Memory_takePage 68 = .ok (.getfield 17, 3) := by decide +kernel
theorem d_Memory_takePage_71 : decode b_Memory_takePage 71 = .ok (.arraylength, 1) := by decide +kernel
theorem d_Memory_takePage_72 : decode b_Memory_takePage 72 = .ok (.if_icmp .ge 17, 3) := by decide +kernel
theorem d_Memory_takePage_75 : decode b_Memory_takePage 75 = .ok (.aload_n 0, 1) := by decide +kernel
theorem d_Memory_takePage_76 : decode b_Memory_takePage 76 = .ok (.getfield 17, 3) := by decide +kernel
theorem d_Memory_takePage_79 : decode b_Memory_takePage 79 = .ok (.iload 4, 2) := by decide +kernel
theorem d_Memory_takePage_81 : decode b_Memory_takePage 81 = .ok (.iconst 0, 1) := by decide +kernel
theorem d_Memory_takePage_82 : decode b_Memory_takePage 82 = .ok (.bastore, 1) := by decide +kernel
theorem d_Memory_takePage_83 : decode b_Memory_takePage 83 = .ok (.iinc 4 1, 3) := by decide +kernel
theorem d_Memory_takePage_86 : decode b_Memory_takePage 86 = .ok (.goto (-32), 3) := by decide +kernel
theorem d_Memory_takePage_89 : decode b_Memory_takePage 89 = .ok (.return_, 1) := by decide +kernel
abbrev b_Memory_isOwned : ByteArray := prog_7_method_15_code
abbrev y_Memory_isOwned : MethodName := ⟨R_Memory, "isOwned", "(I)Z"⟩
theorem co_Memory_isOwned : Cond.code y_Memory_isOwned b_Memory_isOwned 2 (some .boolean) ∈ lw_good := lg_in (tin_8 _ (List.mem_of_getElem? (i := 19) rfl)) rfl
abbrev w_Memory_isOwned : List Cond := Cond.code y_Memory_isOwned b_Memory_isOwned 2 (some .boolean) :: lw_good
theorem im_Memory_isOwned : Cond.instanceMethod y_Memory_isOwned ∈ lw_good := lg_right (i := 1698) (by decide +kernel) rfl
theorem se_Memory_isOwned : Cond.selects R_Memory y_Memory_isOwned y_Memory_isOwned ∈ lw_good := lg_left (i := 103) (by decide +kernel) rfl
theorem d_Memory_isOwned_0 : decode b_Memory_isOwned 0 = .ok (.iload_n 1, 1) := by decide +kernel
theorem d_Memory_isOwned_1 : decode b_Memory_isOwned 1 = .ok (.ifCond .lt 42, 3) := by decide +kernel
theorem d_Memory_isOwned_4 : decode b_Memory_isOwned 4 = .ok (.aload_n 0, 1) := by decide +kernel
theorem d_Memory_isOwned_5 : decode b_Memory_isOwned 5 = .ok (.getfield 52, 3) := by decide +kernel
theorem d_Memory_isOwned_8 : decode b_Memory_isOwned 8 = .ok (.ifCond .le 35, 3) := by decide +kernel
theorem d_Memory_isOwned_11 : decode b_Memory_isOwned 11 = .ok (.iload_n 1, 1) := by decide +kernel
theorem d_Memory_isOwned_12 : decode b_Memory_isOwned 12 = .ok (.aload_n 0, 1) := by decide +kernel
theorem d_Memory_isOwned_13 : decode b_Memory_isOwned 13 = .ok (.getfield 48, 3) := by decide +kernel
theorem d_Memory_isOwned_16 : decode b_Memory_isOwned 16 = .ok (.aload_n 0, 1) := by decide +kernel
theorem d_Memory_isOwned_17 : decode b_Memory_isOwned 17 = .ok (.getfield 52, 3) := by decide +kernel
theorem d_Memory_isOwned_20 : decode b_Memory_isOwned 20 = .ok (.imul, 1) := by decide +kernel
theorem d_Memory_isOwned_21 : decode b_Memory_isOwned 21 = .ok (.if_icmp .ge 22, 3) := by decide +kernel
theorem d_Memory_isOwned_24 : decode b_Memory_isOwned 24 = .ok (.aload_n 0, 1) := by decide +kernel
theorem d_Memory_isOwned_25 : decode b_Memory_isOwned 25 = .ok (.getfield 21, 3) := by decide +kernel
theorem d_Memory_isOwned_28 : decode b_Memory_isOwned 28 = .ok (.iload_n 1, 1) := by decide +kernel
theorem d_Memory_isOwned_29 : decode b_Memory_isOwned 29 = .ok (.aload_n 0, 1) := by decide +kernel
theorem d_Memory_isOwned_30 : decode b_Memory_isOwned 30 = .ok (.getfield 52, 3) := by decide +kernel
theorem d_Memory_isOwned_33 : decode b_Memory_isOwned 33 = .ok (.idiv, 1) := by decide +kernel
theorem d_Memory_isOwned_34 : decode b_Memory_isOwned 34 = .ok (.iaload, 1) := by decide +kernel
theorem d_Memory_isOwned_35 : decode b_Memory_isOwned 35 = .ok (.iconst (-1), 1) := by decide +kernel
theorem d_Memory_isOwned_36 : decode b_Memory_isOwned 36 = .ok (.if_icmp .eq 7, 3) := by decide +kernel
theorem d_Memory_isOwned_39 : decode b_Memory_isOwned 39 = .ok (.iconst 1, 1) := by decide +kernel
theorem d_Memory_isOwned_40 : decode b_Memory_isOwned 40 = .ok (.goto 4, 3) := by decide +kernel
theorem d_Memory_isOwned_43 : decode b_Memory_isOwned 43 = .ok (.iconst 0, 1) := by decide +kernel
theorem d_Memory_isOwned_44 : decode b_Memory_isOwned 44 = .ok (.ireturn, 1) := by decide +kernel
section GV
variable {p : Program} {l : Launch} {e : Env} {R : Room} {s : State} {m : MethodId} {args : Array Value} {below : List Frame} {meth : Method} {c : Code} {H : Heap} {locs : List Loc} {cells slots : Nat} {Q : State → Prop}
variable {cc : ByteArray} {pc : Nat} {ls : Array Slot} {rest st0 : List Value} {dC : Nat → ClassId} {dI : Nat → Nat → Nat} {A : Nat → Prop} {ad ea ev : Nat → Nat} {km : Nat → ClassId} {T T' : gSt} {H0 : Heap}
theorem rd_Machine_27 (hx : p.tables.exec = Jvm.exec) (hb : c.code = cc) (hT : ∀ w ∈ lw_good, w.before args s = true) (hown : s.vm.findClass R_Machine = some m.cls) (hK : va_K (dC, dI) cls_all (gT LH km) s) (hP : va_P (dC, dI) cls_all (gW LH ad km T) H) (hdg : decode cc pc = .ok (.getfield 27, 3)) (kk : W p l e R s m args below meth c H locs cells slots Q (F0 m (pc + 3) ls (.ref (ad 57) :: rest))) : W p l e R s m args below meth c H locs cells slots Q (F0 m pc ls (.ref (ad 10) :: rest)) := gw_get hx hb hT i_Machine hown hK hP 10 7 103 (Nat.le_of_ble_eq_true rfl) rfl rfl (Nat.le_of_ble_eq_true rfl) rfl (gv_a rfl) (hT _ fl_Machine_27) (fun _ h9 => h9) hdg kk
theorem laH_45 (hx : p.tables.exec = Jvm.exec) (hb : c.code = cc) (hK : va_K (dC, dI) cls_all (gT LH km) s) (hP : va_P (dC, dI) cls_all (gW LH ad km T) H) {x : Int32} (hin : inb x 3200) (hdg : decode cc pc = .ok (.iaload, 1)) (kk : W p l e R s m args below meth c H locs cells slots Q (F0 m (pc + 1) ls (.int (T.1 103 x.toNatClampNeg) :: rest))) : W p l e R s m args below meth c H locs cells slots Q (F0 m pc ls (.int x :: .ref (ad 57) :: rest)) := gw_iald hx hb hK hP 45 103 3200 57 (Nat.le_of_ble_eq_true rfl) rfl rfl rfl rfl rfl hin hdg kk
theorem saH_45 (hx : p.tables.exec = Jvm.exec) (hb : c.code = cc) (hK : va_K (dC, dI) cls_all (gT LH km) s) (hP : va_P (dC, dI) cls_all (gW LH ad km T) H) (hD : va_D A (gW LH ad km T)) (hS : va_S A H0 H locs) {x : Int32} {v : Int32} (hin : inb x 3200) (hdg : decode cc pc = .ok (.iastore, 1)) (kk : ∀ (T1 : gSt), T1 = sI T 103 x.toNatClampNeg v → ∀ (H1 : Heap) (locs1 : List Loc), va_P (dC, dI) cls_all (gW LH ad km T1) H1 → va_D A (gW LH ad km T1) → va_S A H0 H1 locs1 → W p l e R s m args below meth c H1 locs1 cells slots Q (F0 m (pc + 1) ls rest)) : W p l e R s m args below meth c H locs cells slots Q (F0 m pc ls (.int v :: .int x :: .ref (ad 57) :: rest)) := gw_iast okH hx hb hK hP hD hS 45 103 3200 57 (Nat.le_of_ble_eq_true rfl) rfl rfl rfl rfl rfl hin hdg kk
theorem rd_Machine_70 (hx : p.tables.exec = Jvm.exec) (hb : c.code = cc) (hT : ∀ w ∈ lw_good, w.before args s = true) (hown : s.vm.findClass R_Machine = some m.cls) (hK : va_K (dC, dI) cls_all (gT LH km) s) (hP : va_P (dC, dI) cls_all (gW LH ad km T) H) (hdg : decode cc pc = .ok (.getfield 70, 3)) (kk : W p l e R s m args below meth c H locs cells slots Q (F0 m (pc + 3) ls (.int (T.1 109 0) :: rest))) : W p l e R s m args below meth c H locs cells slots Q (F0 m pc ls (.ref (ad 10) :: rest)) := gw_get hx hb hT i_Machine hown hK hP 10 13 109 (Nat.le_of_ble_eq_true rfl) rfl rfl (Nat.le_of_ble_eq_true rfl) rfl (gv_i rfl) (hT _ fl_Machine_70) (fun _ h9 => h9) hdg kk
theorem rd_Machine_210 (hx : p.tables.exec = Jvm.exec) (hb : c.code = cc) (hT : ∀ w ∈ lw_good, w.before args s = true) (hown : s.vm.findClass R_Machine = some m.cls) (hK : va_K (dC, dI) cls_all (gT LH km) s) (hP : va_P (dC, dI) cls_all (gW LH ad km T) H) (hdg : decode cc pc = .ok (.getfield 210, 3)) (kk : W p l e R s m args below meth c H locs cells slots Q (F0 m (pc + 3) ls (.int (T.1 27 0) :: rest))) : W p l e R s m args below meth c H locs cells slots Q (F0 m pc ls (.ref (ad 2) :: rest)) := gw_get hx hb hT i_Items hown hK hP 2 0 27 (Nat.le_of_ble_eq_true rfl) rfl rfl (Nat.le_of_ble_eq_true rfl) rfl (gv_i rfl) (hT _ fl_Machine_210) (fun _ h9 => h9) hdg kk
theorem rd_Machine_213 (hx : p.tables.exec = Jvm.exec) (hb : c.code = cc) (hT : ∀ w ∈ lw_good, w.before args s = true) (hown : s.vm.findClass R_Machine = some m.cls) (hK : va_K (dC, dI) cls_all (gT LH km) s) (hP : va_P (dC, dI) cls_all (gW LH ad km T) H) (hdg : decode cc pc = .ok (.getfield 213, 3)) (kk : W p l e R s m args below meth c H locs cells slots Q (F0 m (pc + 3) ls (.ref (ad 38) :: rest))) : W p l e R s m args below meth c H locs cells slots Q (F0 m pc ls (.ref (ad 2) :: rest)) := gw_get hx hb hT i_Items hown hK hP 2 14 41 (Nat.le_of_ble_eq_true rfl) rfl rfl (Nat.le_of_ble_eq_true rfl) rfl (gv_a rfl) (hT _ fl_Machine_213) (fun _ h9 => h9) hdg kk
theorem rd_Machine_224 (hx : p.tables.exec = Jvm.exec) (hb : c.code = cc) (hT : ∀ w ∈ lw_good, w.before args s = true) (hown : s.vm.findClass R_Machine = some m.cls) (hK : va_K (dC, dI) cls_all (gT LH km) s) (hP : va_P (dC, dI) cls_all (gW LH ad km T) H) (hdg : decode cc pc = .ok (.getfield 224, 3)) (kk : W p l e R s m args below meth c H locs cells slots Q (F0 m (pc + 3) ls (.ref (ad 39) :: rest))) : W p l e R s m args below meth c H locs cells slots Q (F0 m pc ls (.ref (ad 2) :: rest)) := gw_get hx hb hT i_Items hown hK hP 2 15 42 (Nat.le_of_ble_eq_true rfl) rfl rfl (Nat.le_of_ble_eq_true rfl) rfl (gv_a rfl) (hT _ fl_Machine_224) (fun _ h9 => h9) hdg kk
theorem rd_Memory_52 (hx : p.tables.exec = Jvm.exec) (hb : c.code = cc) (hT : ∀ w ∈ lw_good, w.before args s = true) (hown : s.vm.findClass R_Memory = some m.cls) (hK : va_K (dC, dI) cls_all (gT LH km) s) (hP : va_P (dC, dI) cls_all (gW LH ad km T) H) (hdg : decode cc pc = .ok (.getfield 52, 3)) (kk : W p l e R s m args below meth c H locs cells slots Q (F0 m (pc + 3) ls (.int (T.1 118 0) :: rest))) : W p l e R s m args below meth c H locs cells slots Q (F0 m pc ls (.ref (ad 11) :: rest)) := gw_get hx hb hT i_Memory hown hK hP 11 4 118 (Nat.le_of_ble_eq_true rfl) rfl rfl (Nat.le_of_ble_eq_true rfl) rfl (gv_i rfl) (hT _ fl_Memory_52) (fun _ h9 => h9) hdg kk
theorem rd_Memory_55 (hx : p.tables.exec = Jvm.exec) (hb : c.code = cc) (hT : ∀ w ∈ lw_good, w.before args s = true) (hown : s.vm.findClass R_Memory = some m.cls) (hK : va_K (dC, dI) cls_all (gT LH km) s) (hP : va_P (dC, dI) cls_all (gW LH ad km T) H) (hdg : decode cc pc = .ok (.getfield 55, 3)) (kk : W p l e R s m args below meth c H locs cells slots Q (F0 m (pc + 3) ls (.int (T.1 119 0) :: rest))) : W p l e R s m args below meth c H locs cells slots Q (F0 m pc ls (.ref (ad 11) :: rest)) := gw_get hx hb hT i_Memory hown hK hP 11 5 119 (Nat.le_of_ble_eq_true rfl) rfl rfl (Nat.le_of_ble_eq_true rfl) rfl (gv_i rfl) (hT _ fl_Memory_55) (fun _ h9 => h9) hdg kk
theorem rd_Memory_64 (hx : p.tables.exec = Jvm.exec) (hb : c.code = cc) (hT : ∀ w ∈ lw_good, w.before args s = true) (hown : s.vm.findClass R_Memory = some m.cls) (hK : va_K (dC, dI) cls_all (gT LH km) s) (hP : va_P (dC, dI) cls_all (gW LH ad km T) H) (hdg : decode cc pc = .ok (.getfield 64, 3)) (kk : W p l e R s m args below meth c H locs cells slots Q (F0 m (pc + 3) ls (.int (T.1 122 0) :: rest))) : W p l e R s m args below meth c H locs cells slots Q (F0 m pc ls (.ref (ad 11) :: rest)) := gw_get hx hb hT i_Memory hown hK hP 11 8 122 (Nat.le_of_ble_eq_true rfl) rfl rfl (Nat.le_of_ble_eq_true rfl) rfl (gv_i rfl) (hT _ fl_Memory_64) (fun _ h9 => h9) hdg kk
theorem rd_Memory_58 (hx : p.tables.exec = Jvm.exec) (hb : c.code = cc) (hT : ∀ w ∈ lw_good, w.before args s = true) (hown : s.vm.findClass R_Memory = some m.cls) (hK : va_K (dC, dI) cls_all (gT LH km) s) (hP : va_P (dC, dI) cls_all (gW LH ad km T) H) (hdg : decode cc pc = .ok (.getfield 58, 3)) (kk : W p l e R s m args below meth c H locs cells slots Q (F0 m (pc + 3) ls (.int (T.1 120 0) :: rest))) : W p l e R s m args below meth c H locs cells slots Q (F0 m pc ls (.ref (ad 11) :: rest)) := gw_get hx hb hT i_Memory hown hK hP 11 6 120 (Nat.le_of_ble_eq_true rfl) rfl rfl (Nat.le_of_ble_eq_true rfl) rfl (gv_i rfl) (hT _ fl_Memory_58) (fun _ h9 => h9) hdg kk
theorem rd_Memory_61 (hx : p.tables.exec = Jvm.exec) (hb : c.code = cc) (hT : ∀ w ∈ lw_good, w.before args s = true) (hown : s.vm.findClass R_Memory = some m.cls) (hK : va_K (dC, dI) cls_all (gT LH km) s) (hP : va_P (dC, dI) cls_all (gW LH ad km T) H) (hdg : decode cc pc = .ok (.getfield 61, 3)) (kk : W p l e R s m args below meth c H locs cells slots Q (F0 m (pc + 3) ls (.int (T.1 121 0) :: rest))) : W p l e R s m args below meth c H locs cells slots Q (F0 m pc ls (.ref (ad 11) :: rest)) := gw_get hx hb hT i_Memory hown hK hP 11 7 121 (Nat.le_of_ble_eq_true rfl) rfl rfl (Nat.le_of_ble_eq_true rfl) rfl (gv_i rfl) (hT _ fl_Memory_61) (fun _ h9 => h9) hdg kk
theorem rd_Memory_24 (hx : p.tables.exec = Jvm.exec) (hb : c.code = cc) (hT : ∀ w ∈ lw_good, w.before args s = true) (hown : s.vm.findClass R_Memory = some m.cls) (hK : va_K (dC, dI) cls_all (gT LH km) s) (hP : va_P (dC, dI) cls_all (gW LH ad km T) H) (hdg : decode cc pc = .ok (.getfield 24, 3)) (kk : W p l e R s m args below meth c H locs cells slots Q (F0 m (pc + 3) ls (.ref (ad 63) :: rest))) : W p l e R s m args below meth c H locs cells slots Q (F0 m pc ls (.ref (ad 11) :: rest)) := gw_get hx hb hT i_Memory hown hK hP 11 9 123 (Nat.le_of_ble_eq_true rfl) rfl rfl (Nat.le_of_ble_eq_true rfl) rfl (gv_a rfl) (hT _ fl_Memory_24) (fun _ h9 => h9) hdg kk
theorem laH_51 (hx : p.tables.exec = Jvm.exec) (hb : c.code = cc) (hK : va_K (dC, dI) cls_all (gT LH km) s) (hP : va_P (dC, dI) cls_all (gW LH ad km T) H) {x : Int32} (hin : inb x 321) (hdg : decode cc pc = .ok (.iaload, 1)) (kk : W p l e R s m args below meth c H locs cells slots Q (F0 m (pc + 1) ls (.int (T.1 123 x.toNatClampNeg) :: rest))) : W p l e R s m args below meth c H locs cells slots Q (F0 m pc ls (.int x :: .ref (ad 63) :: rest)) := gw_iald hx hb hK hP 51 123 321 63 (Nat.le_of_ble_eq_true rfl) rfl rfl rfl rfl rfl hin hdg kk
theorem saH_51 (hx : p.tables.exec = Jvm.exec) (hb : c.code = cc) (hK : va_K (dC, dI) cls_all (gT LH km) s) (hP : va_P (dC, dI) cls_all (gW LH ad km T) H) (hD : va_D A (gW LH ad km T)) (hS : va_S A H0 H locs) {x : Int32} {v : Int32} (hin : inb x 321) (hdg : decode cc pc = .ok (.iastore, 1)) (kk : ∀ (T1 : gSt), T1 = sI T 123 x.toNatClampNeg v → ∀ (H1 : Heap) (locs1 : List Loc), va_P (dC, dI) cls_all (gW LH ad km T1) H1 → va_D A (gW LH ad km T1) → va_S A H0 H1 locs1 → W p l e R s m args below meth c H1 locs1 cells slots Q (F0 m (pc + 1) ls rest)) : W p l e R s m args below meth c H locs cells slots Q (F0 m pc ls (.int v :: .int x :: .ref (ad 63) :: rest)) := gw_iast okH hx hb hK hP hD hS 51 123 321 63 (Nat.le_of_ble_eq_true rfl) rfl rfl rfl rfl rfl hin hdg kk
theorem rd_Memory_27 (hx : p.tables.exec = Jvm.exec) (hb : c.code = cc) (hT : ∀ w ∈ lw_good, w.before args s = true) (hown : s.vm.findClass R_Memory = some m.cls) (hK : va_K (dC, dI) cls_all (gT LH km) s) (hP : va_P (dC, dI) cls_all (gW LH ad km T) H) (hdg : decode cc pc = .ok (.getfield 27, 3)) (kk : W p l e R s m args below meth c H locs cells slots Q (F0 m (pc + 3) ls (.ref (ad 64) :: rest))) : W p l e R s m args below meth c H locs cells slots Q (F0 m pc ls (.ref (ad 11) :: rest)) := gw_get hx hb hT i_Memory hown hK hP 11 10 124 (Nat.le_of_ble_eq_true rfl) rfl rfl (Nat.le_of_ble_eq_true rfl) rfl (gv_a rfl) (hT _ fl_Memory_27) (fun _ h9 => h9) hdg kk
theorem laH_52 (hx : p.tables.exec = Jvm.exec) (hb : c.code = cc) (hK : va_K (dC, dI) cls_all (gT LH km) s) (hP : va_P (dC, dI) cls_all (gW LH ad km T) H) {x : Int32} (hin : inb x 321) (hdg : decode cc pc = .ok (.iaload, 1)) (kk : W p l e R s m args below meth c H locs cells slots Q (F0 m (pc + 1) ls (.int (T.1 124 x.toNatClampNeg) :: rest))) : W p l e R s m args below meth c H locs cells slots Q (F0 m pc ls (.int x :: .ref (ad 64) :: rest)) := gw_iald hx hb hK hP 52 124 321 64 (Nat.le_of_ble_eq_true rfl) rfl rfl rfl rfl rfl hin hdg kk
theorem saH_52 (hx : p.tables.exec = Jvm.exec) (hb : c.code = cc) (hK : va_K (dC, dI) cls_all (gT LH km) s) (hP : va_P (dC, dI) cls_all (gW LH ad km T) H) (hD : va_D A (gW LH ad km T)) (hS : va_S A H0 H locs) {x : Int32} {v : Int32} (hin : inb x 321) (hdg : decode cc pc = .ok (.iastore, 1)) (kk : ∀ (T1 : gSt), T1 = sI T 124 x.toNatClampNeg v → ∀ (H1 : Heap) (locs1 : List Loc), va_P (dC, dI) cls_all (gW LH ad km T1) H1 → va_D A (gW LH ad km T1) → va_S A H0 H1 locs1 → W p l e R s m args below meth c H1 locs1 cells slots Q (F0 m (pc + 1) ls rest)) : W p l e R s m args below meth c H locs cells slots Q (F0 m pc ls (.int v :: .int x :: .ref (ad 64) :: rest)) := gw_iast okH hx hb hK hP hD hS 52 124 321 64 (Nat.le_of_ble_eq_true rfl) rfl rfl rfl rfl rfl hin hdg kk
theorem rd_Memory_30 (hx : p.tables.exec = Jvm.exec) (hb : c.code = cc) (hT : ∀ w ∈ lw_good, w.before args s = true) (hown : s.vm.findClass R_Memory = some m.cls) (hK : va_K (dC, dI) cls_all (gT LH km) s) (hP : va_P (dC, dI) cls_all (gW LH ad km T) H) (hdg : decode cc pc = .ok (.getfield 30, 3)) (kk : W p l e R s m args below meth c H locs cells slots Q (F0 m (pc + 3) ls (.ref (ad 65) :: rest))) : W p l e R s m args below meth c H locs cells slots Q (F0 m pc ls (.ref (ad 11) :: rest)) := gw_get hx hb hT i_Memory hown hK hP 11 11 125 (Nat.le_of_ble_eq_true rfl) rfl rfl (Nat.le_of_ble_eq_true rfl) rfl (gv_a rfl) (hT _ fl_Memory_30) (fun _ h9 => h9) hdg kk
theorem laH_53 (hx : p.tables.exec = Jvm.exec) (hb : c.code = cc) (hK : va_K (dC, dI) cls_all (gT LH km) s) (hP : va_P (dC, dI) cls_all (gW LH ad km T) H) {x : Int32} (hin : inb x 321) (hdg : decode cc pc = .ok (.iaload, 1)) (kk : W p l e R s m args below meth c H locs cells slots Q (F0 m (pc + 1) ls (.int (T.1 125 x.toNatClampNeg) :: rest))) : W p l e R s m args below meth c H locs cells slots Q (F0 m pc ls (.int x :: .ref (ad 65) :: rest)) := gw_iald hx hb hK hP 53 125 321 65 (Nat.le_of_ble_eq_true rfl) rfl rfl rfl rfl rfl hin hdg kk
theorem saH_53 (hx : p.tables.exec = Jvm.exec) (hb : c.code = cc) (hK : va_K (dC, dI) cls_all (gT LH km) s) (hP : va_P (dC, dI) cls_all (gW LH ad km T) H) (hD : va_D A (gW LH ad km T)) (hS : va_S A H0 H locs) {x : Int32} {v : Int32} (hin : inb x 321) (hdg : decode cc pc = .ok (.iastore, 1)) (kk : ∀ (T1 : gSt), T1 = sI T 125 x.toNatClampNeg v → ∀ (H1 : Heap) (locs1 : List Loc), va_P (dC, dI) cls_all (gW LH ad km T1) H1 → va_D A (gW LH ad km T1) → va_S A H0 H1 locs1 → W p l e R s m args below meth c H1 locs1 cells slots Q (F0 m (pc + 1) ls rest)) : W p l e R s m args below meth c H locs cells slots Q (F0 m pc ls (.int v :: .int x :: .ref (ad 65) :: rest)) := gw_iast okH hx hb hK hP hD hS 53 125 321 65 (Nat.le_of_ble_eq_true rfl) rfl rfl rfl rfl rfl hin hdg kk
theorem rd_Memory_33 (hx : p.tables.exec = Jvm.exec) (hb : c.code = cc) (hT : ∀ w ∈ lw_good, w.before args s = true) (hown : s.vm.findClass R_Memory = some m.cls) (hK : va_K (dC, dI) cls_all (gT LH km) s) (hP : va_P (dC, dI) cls_all (gW LH ad km T) H) (hdg : decode cc pc = .ok (.getfield 33, 3)) (kk : W p l e R s m args below meth c H locs cells slots Q (F0 m (pc + 3) ls (.ref (ad 66) :: rest))) : W p l e R s m args below meth c H locs cells slots Q (F0 m pc ls (.ref (ad 11) :: rest)) := gw_get hx hb hT i_Memory hown hK hP 11 12 126 (Nat.le_of_ble_eq_true rfl) rfl rfl (Nat.le_of_ble_eq_true rfl) rfl (gv_a rfl) (hT _ fl_Memory_33) (fun _ h9 => h9) hdg kk
theorem laH_54 (hx : p.tables.exec = Jvm.exec) (hb : c.code = cc) (hK : va_K (dC, dI) cls_all (gT LH km) s) (hP : va_P (dC, dI) cls_all (gW LH ad km T) H) {x : Int32} (hin : inb x 321) (hdg : decode cc pc = .ok (.iaload, 1)) (kk : W p l e R s m args below meth c H locs cells slots Q (F0 m (pc + 1) ls (.int (T.1 126 x.toNatClampNeg) :: rest))) : W p l e R s m args below meth c H locs cells slots Q (F0 m pc ls (.int x :: .ref (ad 66) :: rest)) := gw_iald hx hb hK hP 54 126 321 66 (Nat.le_of_ble_eq_true rfl) rfl rfl rfl rfl rfl hin hdg kk
theorem saH_54 (hx : p.tables.exec = Jvm.exec) (hb : c.code = cc) (hK : va_K (dC, dI) cls_all (gT LH km) s) (hP : va_P (dC, dI) cls_all (gW LH ad km T) H) (hD : va_D A (gW LH ad km T)) (hS : va_S A H0 H locs) {x : Int32} {v : Int32} (hin : inb x 321) (hdg : decode cc pc = .ok (.iastore, 1)) (kk : ∀ (T1 : gSt), T1 = sI T 126 x.toNatClampNeg v → ∀ (H1 : Heap) (locs1 : List Loc), va_P (dC, dI) cls_all (gW LH ad km T1) H1 → va_D A (gW LH ad km T1) → va_S A H0 H1 locs1 → W p l e R s m args below meth c H1 locs1 cells slots Q (F0 m (pc + 1) ls rest)) : W p l e R s m args below meth c H locs cells slots Q (F0 m pc ls (.int v :: .int x :: .ref (ad 66) :: rest)) := gw_iast okH hx hb hK hP hD hS 54 126 321 66 (Nat.le_of_ble_eq_true rfl) rfl rfl rfl rfl rfl hin hdg kk
theorem rd_Memory_36 (hx : p.tables.exec = Jvm.exec) (hb : c.code = cc) (hT : ∀ w ∈ lw_good, w.before args s = true) (hown : s.vm.findClass R_Memory = some m.cls) (hK : va_K (dC, dI) cls_all (gT LH km) s) (hP : va_P (dC, dI) cls_all (gW LH ad km T) H) (hdg : decode cc pc = .ok (.getfield 36, 3)) (kk : W p l e R s m args below meth c H locs cells slots Q (F0 m (pc + 3) ls (.ref (ad 67) :: rest))) : W p l e R s m args below meth c H locs cells slots Q (F0 m pc ls (.ref (ad 11) :: rest)) := gw_get hx hb hT i_Memory hown hK hP 11 13 127 (Nat.le_of_ble_eq_true rfl) rfl rfl (Nat.le_of_ble_eq_true rfl) rfl (gv_a rfl) (hT _ fl_Memory_36) (fun _ h9 => h9) hdg kk
theorem laH_55 (hx : p.tables.exec = Jvm.exec) (hb : c.code = cc) (hK : va_K (dC, dI) cls_all (gT LH km) s) (hP : va_P (dC, dI) cls_all (gW LH ad km T) H) {x : Int32} (hin : inb x 321) (hdg : decode cc pc = .ok (.iaload, 1)) (kk : W p l e R s m args below meth c H locs cells slots Q (F0 m (pc + 1) ls (.int (T.1 127 x.toNatClampNeg) :: rest))) : W p l e R s m args below meth c H locs cells slots Q (F0 m pc ls (.int x :: .ref (ad 67) :: rest)) := gw_iald hx hb hK hP 55 127 321 67 (Nat.le_of_ble_eq_true rfl) rfl rfl rfl rfl rfl hin hdg kk
theorem saH_55 (hx : p.tables.exec = Jvm.exec) (hb : c.code = cc) (hK : va_K (dC, dI) cls_all (gT LH km) s) (hP : va_P (dC, dI) cls_all (gW LH ad km T) H) (hD : va_D A (gW LH ad km T)) (hS : va_S A H0 H locs) {x : Int32} {v : Int32} (hin : inb x 321) (hdg : decode cc pc = .ok (.iastore, 1)) (kk : ∀ (T1 : gSt), T1 = sI T 127 x.toNatClampNeg v → ∀ (H1 : Heap) (locs1 : List Loc), va_P (dC, dI) cls_all (gW LH ad km T1) H1 → va_D A (gW LH ad km T1) → va_S A H0 H1 locs1 → W p l e R s m args below meth c H1 locs1 cells slots Q (F0 m (pc + 1) ls rest)) : W p l e R s m args below meth c H locs cells slots Q (F0 m pc ls (.int v :: .int x :: .ref (ad 67) :: rest)) := gw_iast okH hx hb hK hP hD hS 55 127 321 67 (Nat.le_of_ble_eq_true rfl) rfl rfl rfl rfl rfl hin hdg kk
theorem wr_Memory_64 (hx : p.tables.exec = Jvm.exec) (hb : c.code = cc) (hT : ∀ w ∈ lw_good, w.before args s = true) (hown : s.vm.findClass R_Memory = some m.cls) (hK : va_K (dC, dI) cls_all (gT LH km) s) (hP : va_P (dC, dI) cls_all (gW LH ad km T) H) (hD : va_D A (gW LH ad km T)) (hS : va_S A H0 H locs) {v : Int32} (hdg : decode cc pc = .ok (.putfield 64, 3)) (kk : ∀ (T1 : gSt), T1 = sI T 122 0 v → ∀ (H1 : Heap) (locs1 : List Loc), va_P (dC, dI) cls_all (gW LH ad km T1) H1 → va_D A (gW LH ad km T1) → va_S A H0 H1 locs1 → W p l e R s m args below meth c H1 locs1 cells slots Q (F0 m (pc + 3) ls rest)) : W p l e R s m args below meth c H locs cells slots Q (F0 m pc ls (.int v :: .ref (ad 11) :: rest)) := gw_puti okH hx hb hT i_Memory t_Memory t_Memory_ok n_Memory hown hK hP hD hS 11 8 122 (Nat.le_of_ble_eq_true rfl) rfl rfl (Nat.le_of_ble_eq_true rfl) rfl rfl (hT _ fl_Memory_64) (fun _ h9 => h9) rfl (ty := .int) (by decide +kernel) rfl rfl hdg kk
theorem rd_Memory_48 (hx : p.tables.exec = Jvm.exec) (hb : c.code = cc) (hT : ∀ w ∈ lw_good, w.before args s = true) (hown : s.vm.findClass R_Memory = some m.cls) (hK : va_K (dC, dI) cls_all (gT LH km) s) (hP : va_P (dC, dI) cls_all (gW LH ad km T) H) (hdg : decode cc pc = .ok (.getfield 48, 3)) (kk : W p l e R s m args below meth c H locs cells slots Q (F0 m (pc + 3) ls (.int (T.1 117 0) :: rest))) : W p l e R s m args below meth c H locs cells slots Q (F0 m pc ls (.ref (ad 11) :: rest)) := gw_get hx hb hT i_Memory hown hK hP 11 3 117 (Nat.le_of_ble_eq_true rfl) rfl rfl (Nat.le_of_ble_eq_true rfl) rfl (gv_i rfl) (hT _ fl_Memory_48) (fun _ h9 => h9) hdg kk
theorem rd_Memory_21 (hx : p.tables.exec = Jvm.exec) (hb : c.code = cc) (hT : ∀ w ∈ lw_good, w.before args s = true) (hown : s.vm.findClass R_Memory = some m.cls) (hK : va_K (dC, dI) cls_all (gT LH km) s) (hP : va_P (dC, dI) cls_all (gW LH ad km T) H) (hdg : decode cc pc = .ok (.getfield 21, 3)) (kk : W p l e R s m args below meth c H locs cells slots Q (F0 m (pc + 3) ls (.ref (ad 62) :: rest))) : W p l e R s m args below meth c H locs cells slots Q (F0 m pc ls (.ref (ad 11) :: rest)) := gw_get hx hb hT i_Memory hown hK hP 11 2 116 (Nat.le_of_ble_eq_true rfl) rfl rfl (Nat.le_of_ble_eq_true rfl) rfl (gv_a rfl) (hT _ fl_Memory_21) (fun _ h9 => h9) hdg kk
theorem laH_50 (hx : p.tables.exec = Jvm.exec) (hb : c.code = cc) (hK : va_K (dC, dI) cls_all (gT LH km) s) (hP : va_P (dC, dI) cls_all (gW LH ad km T) H) {x : Int32} (hin : inb x 64) (hdg : decode cc pc = .ok (.iaload, 1)) (kk : W p l e R s m args below meth c H locs cells slots Q (F0 m (pc + 1) ls (.int (T.1 116 x.toNatClampNeg) :: rest))) : W p l e R s m args below meth c H locs cells slots Q (F0 m pc ls (.int x :: .ref (ad 62) :: rest)) := gw_iald hx hb hK hP 50 116 64 62 (Nat.le_of_ble_eq_true rfl) rfl rfl rfl rfl rfl hin hdg kk
theorem saH_50 (hx : p.tables.exec = Jvm.exec) (hb : c.code = cc) (hK : va_K (dC, dI) cls_all (gT LH km) s) (hP : va_P (dC, dI) cls_all (gW LH ad km T) H) (hD : va_D A (gW LH ad km T)) (hS : va_S A H0 H locs) {x : Int32} {v : Int32} (hin : inb x 64) (hdg : decode cc pc = .ok (.iastore, 1)) (kk : ∀ (T1 : gSt), T1 = sI T 116 x.toNatClampNeg v → ∀ (H1 : Heap) (locs1 : List Loc), va_P (dC, dI) cls_all (gW LH ad km T1) H1 → va_D A (gW LH ad km T1) → va_S A H0 H1 locs1 → W p l e R s m args below meth c H1 locs1 cells slots Q (F0 m (pc + 1) ls rest)) : W p l e R s m args below meth c H locs cells slots Q (F0 m pc ls (.int v :: .int x :: .ref (ad 62) :: rest)) := gw_iast okH hx hb hK hP hD hS 50 116 64 62 (Nat.le_of_ble_eq_true rfl) rfl rfl rfl rfl rfl hin hdg kk
theorem wr_Memory_55 (hx : p.tables.exec = Jvm.exec) (hb : c.code = cc) (hT : ∀ w ∈ lw_good, w.before args s = true) (hown : s.vm.findClass R_Memory = some m.cls) (hK : va_K (dC, dI) cls_all (gT LH km) s) (hP : va_P (dC, dI) cls_all (gW LH ad km T) H) (hD : va_D A (gW LH ad km T)) (hS : va_S A H0 H locs) {v : Int32} (hdg : decode cc pc = .ok (.putfield 55, 3)) (kk : ∀ (T1 : gSt), T1 = sI T 119 0 v → ∀ (H1 : Heap) (locs1 : List Loc), va_P (dC, dI) cls_all (gW LH ad km T1) H1 → va_D A (gW LH ad km T1) → va_S A H0 H1 locs1 → W p l e R s m args below meth c H1 locs1 cells slots Q (F0 m (pc + 3) ls rest)) : W p l e R s m args below meth c H locs cells slots Q (F0 m pc ls (.int v :: .ref (ad 11) :: rest)) := gw_puti okH hx hb hT i_Memory t_Memory t_Memory_ok n_Memory hown hK hP hD hS 11 5 119 (Nat.le_of_ble_eq_true rfl) rfl rfl (Nat.le_of_ble_eq_true rfl) rfl rfl (hT _ fl_Memory_55) (fun _ h9 => h9) rfl (ty := .int) (by decide +kernel) rfl rfl hdg kk
theorem wr_Memory_58 (hx : p.tables.exec = Jvm.exec) (hb : c.code = cc) (hT : ∀ w ∈ lw_good, w.before args s = true) (hown : s.vm.findClass R_Memory = some m.cls) (hK : va_K (dC, dI) cls_all (gT LH km) s) (hP : va_P (dC, dI) cls_all (gW LH ad km T) H) (hD : va_D A (gW LH ad km T)) (hS : va_S A H0 H locs) {v : Int32} (hdg : decode cc pc = .ok (.putfield 58, 3)) (kk : ∀ (T1 : gSt), T1 = sI T 120 0 v → ∀ (H1 : Heap) (locs1 : List Loc), va_P (dC, dI) cls_all (gW LH ad km T1) H1 → va_D A (gW LH ad km T1) → va_S A H0 H1 locs1 → W p l e R s m args below meth c H1 locs1 cells slots Q (F0 m (pc + 3) ls rest)) : W p l e R s m args below meth c H locs cells slots Q (F0 m pc ls (.int v :: .ref (ad 11) :: rest)) := gw_puti okH hx hb hT i_Memory t_Memory t_Memory_ok n_Memory hown hK hP hD hS 11 6 120 (Nat.le_of_ble_eq_true rfl) rfl rfl (Nat.le_of_ble_eq_true rfl) rfl rfl (hT _ fl_Memory_58) (fun _ h9 => h9) rfl (ty := .int) (by decide +kernel) rfl rfl hdg kk
theorem rd_Memory_17 (hx : p.tables.exec = Jvm.exec) (hb : c.code = cc) (hT : ∀ w ∈ lw_good, w.before args s = true) (hown : s.vm.findClass R_Memory = some m.cls) (hK : va_K (dC, dI) cls_all (gT LH km) s) (hP : va_P (dC, dI) cls_all (gW LH ad km T) H) (hdg : decode cc pc = .ok (.getfield 17, 3)) (kk : W p l e R s m args below meth c H locs cells slots Q (F0 m (pc + 3) ls (.ref (ad 61) :: rest))) : W p l e R s m args below meth c H locs cells slots Q (F0 m pc ls (.ref (ad 11) :: rest)) := gw_get hx hb hT i_Memory hown hK hP 11 1 115 (Nat.le_of_ble_eq_true rfl) rfl rfl (Nat.le_of_ble_eq_true rfl) rfl (gv_a rfl) (hT _ fl_Memory_17) (fun _ h9 => h9) hdg kk
theorem laH_49 (hx : p.tables.exec = Jvm.exec) (hb : c.code = cc) (hK : va_K (dC, dI) cls_all (gT LH km) s) (hP : va_P (dC, dI) cls_all (gW LH ad km T) H) {x : Int32} (hin : inb x 4096) (hdg : decode cc pc = .ok (.baload, 1)) (kk : W p l e R s m args below meth c H locs cells slots Q (F0 m (pc + 1) ls (.int (T.1 115 x.toNatClampNeg) :: rest))) : W p l e R s m args below meth c H locs cells slots Q (F0 m pc ls (.int x :: .ref (ad 61) :: rest)) := gw_zald hx hb hK hP 49 115 4096 61 (Nat.le_of_ble_eq_true rfl) rfl rfl rfl rfl rfl hin hdg kk
theorem saH_49 (hx : p.tables.exec = Jvm.exec) (hb : c.code = cc) (hK : va_K (dC, dI) cls_all (gT LH km) s) (hP : va_P (dC, dI) cls_all (gW LH ad km T) H) (hD : va_D A (gW LH ad km T)) (hS : va_S A H0 H locs) {x : Int32} {v : Int32} (hz : vp_nar .boolean v = v) (hin : inb x 4096) (hdg : decode cc pc = .ok (.bastore, 1)) (kk : ∀ (T1 : gSt), T1 = sI T 115 x.toNatClampNeg v → ∀ (H1 : Heap) (locs1 : List Loc), va_P (dC, dI) cls_all (gW LH ad km T1) H1 → va_D A (gW LH ad km T1) → va_S A H0 H1 locs1 → W p l e R s m args below meth c H1 locs1 cells slots Q (F0 m (pc + 1) ls rest)) : W p l e R s m args below meth c H locs cells slots Q (F0 m pc ls (.int v :: .int x :: .ref (ad 61) :: rest)) := gw_zast okH hx hb hK hP hD hS 49 115 4096 61 (Nat.le_of_ble_eq_true rfl) rfl rfl rfl rfl rfl hz hin hdg kk
theorem wr_Memory_61 (hx : p.tables.exec = Jvm.exec) (hb : c.code = cc) (hT : ∀ w ∈ lw_good, w.before args s = true) (hown : s.vm.findClass R_Memory = some m.cls) (hK : va_K (dC, dI) cls_all (gT LH km) s) (hP : va_P (dC, dI) cls_all (gW LH ad km T) H) (hD : va_D A (gW LH ad km T)) (hS : va_S A H0 H locs) {v : Int32} (hdg : decode cc pc = .ok (.putfield 61, 3)) (kk : ∀ (T1 : gSt), T1 = sI T 121 0 v → ∀ (H1 : Heap) (locs1 : List Loc), va_P (dC, dI) cls_all (gW LH ad km T1) H1 → va_D A (gW LH ad km T1) → va_S A H0 H1 locs1 → W p l e R s m args below meth c H1 locs1 cells slots Q (F0 m (pc + 3) ls rest)) : W p l e R s m args below meth c H locs cells slots Q (F0 m pc ls (.int v :: .ref (ad 11) :: rest)) := gw_puti okH hx hb hT i_Memory t_Memory t_Memory_ok n_Memory hown hK hP hD hS 11 7 121 (Nat.le_of_ble_eq_true rfl) rfl rfl (Nat.le_of_ble_eq_true rfl) rfl rfl (hT _ fl_Memory_61) (fun _ h9 => h9) rfl (ty := .int) (by decide +kernel) rfl rfl hdg kk
theorem rd_Memory_13 (hx : p.tables.exec = Jvm.exec) (hb : c.code = cc) (hT : ∀ w ∈ lw_good, w.before args s = true) (hown : s.vm.findClass R_Memory = some m.cls) (hK : va_K (dC, dI) cls_all (gT LH km) s) (hP : va_P (dC, dI) cls_all (gW LH ad km T) H) (hdg : decode cc pc = .ok (.getfield 13, 3)) (kk : W p l e R s m args below meth c H locs cells slots Q (F0 m (pc + 3) ls (.ref (ad 60) :: rest))) : W p l e R s m args below meth c H locs cells slots Q (F0 m pc ls (.ref (ad 11) :: rest)) := gw_get hx hb hT i_Memory hown hK hP 11 0 114 (Nat.le_of_ble_eq_true rfl) rfl rfl (Nat.le_of_ble_eq_true rfl) rfl (gv_a rfl) (hT _ fl_Memory_13) (fun _ h9 => h9) hdg kk
theorem laH_48 (hx : p.tables.exec = Jvm.exec) (hb : c.code = cc) (hK : va_K (dC, dI) cls_all (gT LH km) s) (hP : va_P (dC, dI) cls_all (gW LH ad km T) H) {x : Int32} (hin : inb x 4096) (hdg : decode cc pc = .ok (.iaload, 1)) (kk : W p l e R s m args below meth c H locs cells slots Q (F0 m (pc + 1) ls (.int (T.1 114 x.toNatClampNeg) :: rest))) : W p l e R s m args below meth c H locs cells slots Q (F0 m pc ls (.int x :: .ref (ad 60) :: rest)) := gw_iald hx hb hK hP 48 114 4096 60 (Nat.le_of_ble_eq_true rfl) rfl rfl rfl rfl rfl hin hdg kk
theorem saH_48 (hx : p.tables.exec = Jvm.exec) (hb : c.code = cc) (hK : va_K (dC, dI) cls_all (gT LH km) s) (hP : va_P (dC, dI) cls_all (gW LH ad km T) H) (hD : va_D A (gW LH ad km T)) (hS : va_S A H0 H locs) {x : Int32} {v : Int32} (hin : inb x 4096) (hdg : decode cc pc = .ok (.iastore, 1)) (kk : ∀ (T1 : gSt), T1 = sI T 114 x.toNatClampNeg v → ∀ (H1 : Heap) (locs1 : List Loc), va_P (dC, dI) cls_all (gW LH ad km T1) H1 → va_D A (gW LH ad km T1) → va_S A H0 H1 locs1 → W p l e R s m args below meth c H1 locs1 cells slots Q (F0 m (pc + 1) ls rest)) : W p l e R s m args below meth c H locs cells slots Q (F0 m pc ls (.int v :: .int x :: .ref (ad 60) :: rest)) := gw_iast okH hx hb hK hP hD hS 48 114 4096 60 (Nat.le_of_ble_eq_true rfl) rfl rfl rfl rfl rfl hin hdg kk
end GV
def mt_Memory_regionCount (l : Launch) (dC : Nat → ClassId) (dI : Nat → Nat → Nat) (ea ev ad : Nat → Nat) (km : Nat → ClassId) (F : gF) (d : Nat) : Prop := ∀ (T : gSt)  (r : Int32) (rl : Int64) (T' : gSt), F 225 T [] [] = some (r, rl, T') → GMi l dC dI LH ad km ea ev y_Memory_regionCount w_Memory_regionCount (rmD d) [.ref (ad 11)] T r T'
theorem pd_Memory_regionCount : (y_Memory_regionCount).cls = R_Memory ∧ (y_Memory_regionCount).cls ≠ "java/lang/invoke/MethodHandle" ∧ (y_Memory_regionCount).cls ≠ "java/lang/invoke/VarHandle" ∧ (parseMethodDescriptor (y_Memory_regionCount).desc).map (fun d => d.parameters.length) = some 0 := by decide +kernel
def mt_Memory_pagesInUse (l : Launch) (dC : Nat → ClassId) (dI : Nat → Nat → Nat) (ea ev ad : Nat → Nat) (km : Nat → ClassId) (F : gF) (d : Nat) : Prop := ∀ (T : gSt)  (r : Int32) (rl : Int64) (T' : gSt), F 224 T [] [] = some (r, rl, T') → GMi l dC dI LH ad km ea ev y_Memory_pagesInUse w_Memory_pagesInUse (rmD d) [.ref (ad 11)] T r T'
theorem pd_Memory_pagesInUse : (y_Memory_pagesInUse).cls = R_Memory ∧ (y_Memory_pagesInUse).cls ≠ "java/lang/invoke/MethodHandle" ∧ (y_Memory_pagesInUse).cls ≠ "java/lang/invoke/VarHandle" ∧ (parseMethodDescriptor (y_Memory_pagesInUse).desc).map (fun d => d.parameters.length) = some 0 := by decide +kernel
def mt_Memory_objectsMade (l : Launch) (dC : Nat → ClassId) (dI : Nat → Nat → Nat) (ea ev ad : Nat → Nat) (km : Nat → ClassId) (F : gF) (d : Nat) : Prop := ∀ (T : gSt)  (r : Int32) (rl : Int64) (T' : gSt), F 226 T [] [] = some (r, rl, T') → GMi l dC dI LH ad km ea ev y_Memory_objectsMade w_Memory_objectsMade (rmD d) [.ref (ad 11)] T r T'
theorem pd_Memory_objectsMade : (y_Memory_objectsMade).cls = R_Memory ∧ (y_Memory_objectsMade).cls ≠ "java/lang/invoke/MethodHandle" ∧ (y_Memory_objectsMade).cls ≠ "java/lang/invoke/VarHandle" ∧ (parseMethodDescriptor (y_Memory_objectsMade).desc).map (fun d => d.parameters.length) = some 0 := by decide +kernel
def mt_Memory_strayTouches (l : Launch) (dC : Nat → ClassId) (dI : Nat → Nat → Nat) (ea ev ad : Nat → Nat) (km : Nat → ClassId) (F : gF) (d : Nat) : Prop := ∀ (T : gSt)  (r : Int32) (rl : Int64) (T' : gSt), F 227 T [] [] = some (r, rl, T') → GMi l dC dI LH ad km ea ev y_Memory_strayTouches w_Memory_strayTouches (rmD d) [.ref (ad 11)] T r T'
theorem pd_Memory_strayTouches : (y_Memory_strayTouches).cls = R_Memory ∧ (y_Memory_strayTouches).cls ≠ "java/lang/invoke/MethodHandle" ∧ (y_Memory_strayTouches).cls ≠ "java/lang/invoke/VarHandle" ∧ (parseMethodDescriptor (y_Memory_strayTouches).desc).map (fun d => d.parameters.length) = some 0 := by decide +kernel
def mt_Memory_freePage (l : Launch) (dC : Nat → ClassId) (dI : Nat → Nat → Nat) (ea ev ad : Nat → Nat) (km : Nat → ClassId) (F : gF) (d : Nat) : Prop := ∀ (T : gSt)  (r : Int32) (rl : Int64) (T' : gSt), F 231 T [] [] = some (r, rl, T') → GMi l dC dI LH ad km ea ev y_Memory_freePage w_Memory_freePage (rmD d) [.ref (ad 11)] T r T'
theorem pd_Memory_freePage : (y_Memory_freePage).cls = R_Memory ∧ (y_Memory_freePage).cls ≠ "java/lang/invoke/MethodHandle" ∧ (y_Memory_freePage).cls ≠ "java/lang/invoke/VarHandle" ∧ (parseMethodDescriptor (y_Memory_freePage).desc).map (fun d => d.parameters.length) = some 0 := by decide +kernel
def mt_Memory_takePage (l : Launch) (dC : Nat → ClassId) (dI : Nat → Nat → Nat) (ea ev ad : Nat → Nat) (km : Nat → ClassId) (F : gF) (d : Nat) : Prop := ∀ (T : gSt) (p1 : Int32) (p2 : Int32) (r : Int32) (rl : Int64) (T' : gSt), F 232 T [p1, p2] [] = some (r, rl, T') → GMv l dC dI LH ad km ea ev y_Memory_takePage w_Memory_takePage (rmD d) [.ref (ad 11), .int p1, .int p2] T T'
theorem pd_Memory_takePage : (y_Memory_takePage).cls = R_Memory ∧ (y_Memory_takePage).cls ≠ "java/lang/invoke/MethodHandle" ∧ (y_Memory_takePage).cls ≠ "java/lang/invoke/VarHandle" ∧ (parseMethodDescriptor (y_Memory_takePage).desc).map (fun d => d.parameters.length) = some 2 := by decide +kernel
def mt_Memory_isOwned (l : Launch) (dC : Nat → ClassId) (dI : Nat → Nat → Nat) (ea ev ad : Nat → Nat) (km : Nat → ClassId) (F : gF) (d : Nat) : Prop := ∀ (T : gSt) (p1 : Int32) (r : Int32) (rl : Int64) (T' : gSt), F 235 T [p1] [] = some (r, rl, T') → GMi l dC dI LH ad km ea ev y_Memory_isOwned w_Memory_isOwned (rmD d) [.ref (ad 11), .int p1] T r T'
theorem pd_Memory_isOwned : (y_Memory_isOwned).cls = R_Memory ∧ (y_Memory_isOwned).cls ≠ "java/lang/invoke/MethodHandle" ∧ (y_Memory_isOwned).cls ≠ "java/lang/invoke/VarHandle" ∧ (parseMethodDescriptor (y_Memory_isOwned).desc).map (fun d => d.parameters.length) = some 1 := by decide +kernel
set_option maxHeartbeats 4000000 in
set_option maxRecDepth 100000 in
theorem sp_Machine_pushTry (l : Launch) (dC : Nat → ClassId) (dI : Nat → Nat → Nat) (ea ev ad : Nat → Nat) (km : Nat → ClassId) (F : gF) (nf d : Nat) (h_Memory_regionCount : mt_Memory_regionCount l dC dI ea ev ad km F d) (T0 : gSt) (p1 : Int32) (r0 : Int32) (rl0 : Int64) (T9 : gSt) (hR : rb_Machine_pushTry F nf T0 p1 = some (r0, rl0, T9)) : GMv l dC dI LH ad km ea ev y_Machine_pushTry w_Machine_pushTry (rmD (d + 1)) [.ref (ad 10), .int p1] T0 T9 := by
  intro sz
  refine Met.ofW (cc := b_Machine_pushTry) (maxL := 3) (ret := none) (by decide) rfl ?_
  intro p e s m args below meth c s₁ B hml hv
  obtain ⟨rfl, hsz, hP, hK, hD0, hnw, henv⟩ := hv
  have hx := B.exec
  have hb := B.bytes
  have hr := B.returns
  have hT : ∀ w ∈ lw_good, w.before _ s = true := fun w h => atoms_spec (ws := w_Machine_pushTry) B.pre w (List.mem_cons_of_mem _ h)
  have hown : s.vm.findClass R_Machine = some m.cls := findClass_of_methodNamed B.named
  subst hsz
  have hD := hD0.self (sz := s.heap.size)
  clear hD0
  generalize hAe : va_A (gW LH ad km T0) s.heap.size = A at hD henv ⊢
  have hA : ∀ q : Nat, s.heap.size ≤ q → A q := fun q h => by rw [← hAe]; exact Or.inr h
  have hS : va_S A s.heap s.heap [] := va_S.rf
  have hl := lv_entry ([.ref (ad 10), .int p1]) (n := 3) (Nat.le_of_ble_eq_true rfl)
  rw [lg_entry_eq]
  generalize (lg_sl ([.ref (ad 10), .int p1]) ++ List.replicate (3 - (lg_sl ([.ref (ad 10), .int p1])).length) Slot.unset).toArray = ls at hl ⊢
  have hl : lv_has ls 3 [(0, .ref (ad 10)), (1, .int p1)] := hl
  unfold rb_Machine_pushTry at hR
  refine lv_aload_n hx hb d_Machine_pushTry_0 rfl (lv_at hl 0 rfl) ?_
  refine rd_Machine_58 hx hb hT hown hK hP d_Machine_pushTry_1 ?_
  refine lv_iconst (v := 4) hx hb d_Machine_pushTry_4 (by decide) ?_
  refine lv_imul hx hb d_Machine_pushTry_5 ?_
  refine lv_topi (fun z1 e1 => ?_)
  replace hR := vK_e e1 hR
  refine lv_istore_n (lv' := [(2, .int z1), (0, .ref (ad 10)), (1, .int p1)]) hx hb d_Machine_pushTry_6 rfl hl (by decide) rfl (fun ls hl => ?_)
  refine lv_iload_n hx hb d_Machine_pushTry_7 rfl (lv_at hl 0 rfl) ?_
  refine lv_if_lt (tgt := 78) hx hb d_Machine_pushTry_8 (by decide) (fun c2 => ?_) (fun c2 => ?_)
  · replace hR := if_p c2 hR
    obtain ⟨-, -, e3⟩ := re_e hR
    subst e3
    exact W.vret hx hb hr (fun t ht hW => ⟨⟨(), rfl, trivial, by rw [ht]; exact hP, va_K.moved hW.alike hK, hD⟩, hS.F ht⟩) hS.2.2 d_Machine_pushTry_78
  · replace hR := if_n c2 hR
    refine lv_iload_n hx hb d_Machine_pushTry_11 rfl (lv_at hl 0 rfl) ?_
    refine lv_iconst (v := 4) hx hb d_Machine_pushTry_12 (by decide) ?_
    refine lv_iadd hx hb d_Machine_pushTry_13 ?_
    refine lv_aload_n hx hb d_Machine_pushTry_14 rfl (lv_at hl 1 rfl) ?_
    refine rd_Machine_27 hx hb hT hown hK hP d_Machine_pushTry_15 ?_
    refine gw_alen hx hb hK hP 45 3200 57 (Nat.le_of_ble_eq_true rfl) rfl rfl d_Machine_pushTry_18 ?_
    refine W.eq (g2 := F0 m 19 ls [.int (3200 : Int32), .int (z1 + (4 : Int32))]) rfl ?_
    refine lv_icmp_gt (tgt := 78) hx hb d_Machine_pushTry_19 (by decide) (fun c3 => ?_) (fun c3 => ?_)
    · replace hR := if_p c3 hR
      obtain ⟨-, -, e3⟩ := re_e hR
      subst e3
      exact W.vret hx hb hr (fun t ht hW => ⟨⟨(), rfl, trivial, by rw [ht]; exact hP, va_K.moved hW.alike hK, hD⟩, hS.F ht⟩) hS.2.2 d_Machine_pushTry_78
    · replace hR := if_n c3 hR
      refine lv_aload_n hx hb d_Machine_pushTry_22 rfl (lv_at hl 1 rfl) ?_
      refine rd_Machine_27 hx hb hT hown hK hP d_Machine_pushTry_23 ?_
      refine lv_iload_n hx hb d_Machine_pushTry_26 rfl (lv_at hl 0 rfl) ?_
      refine lv_iload_n hx hb d_Machine_pushTry_27 rfl (lv_at hl 2 rfl) ?_
      replace hR := gd_e hR
      obtain ⟨b4, hR⟩ := hR
      refine saH_45 hx hb hK hP hD hS b4 d_Machine_pushTry_28 (fun T4 eT H locs hP hD hS => ?_)
      replace hR := stK_e eT hR
      clear eT
      refine lv_aload_n hx hb d_Machine_pushTry_29 rfl (lv_at hl 1 rfl) ?_
      refine rd_Machine_27 hx hb hT hown hK hP d_Machine_pushTry_30 ?_
      refine lv_iload_n hx hb d_Machine_pushTry_33 rfl (lv_at hl 0 rfl) ?_
      refine lv_iconst (v := 1) hx hb d_Machine_pushTry_34 (by decide) ?_
      refine lv_iadd hx hb d_Machine_pushTry_35 ?_
      refine lv_aload_n hx hb d_Machine_pushTry_36 rfl (lv_at hl 1 rfl) ?_
      refine rd_Machine_55 hx hb hT hown hK hP d_Machine_pushTry_37 ?_
      replace hR := gd_e hR
      obtain ⟨b5, hR⟩ := hR
      refine saH_45 hx hb hK hP hD hS b5 d_Machine_pushTry_40 (fun T5 eT H locs hP hD hS => ?_)
      replace hR := stK_e eT hR
      clear eT
      refine lv_aload_n hx hb d_Machine_pushTry_41 rfl (lv_at hl 1 rfl) ?_
      refine rd_Machine_27 hx hb hT hown hK hP d_Machine_pushTry_42 ?_
      refine lv_iload_n hx hb d_Machine_pushTry_45 rfl (lv_at hl 0 rfl) ?_
      refine lv_iconst (v := 2) hx hb d_Machine_pushTry_46 (by decide) ?_
      refine lv_iadd hx hb d_Machine_pushTry_47 ?_
      refine lv_aload_n hx hb d_Machine_pushTry_48 rfl (lv_at hl 1 rfl) ?_
      refine rd_Machine_52 hx hb hT hown hK hP d_Machine_pushTry_49 ?_
      replace hR := gd_e hR
      obtain ⟨b6, hR⟩ := hR
      refine saH_45 hx hb hK hP hD hS b6 d_Machine_pushTry_52 (fun T6 eT H locs hP hD hS => ?_)
      replace hR := stK_e eT hR
      clear eT
      refine lv_aload_n hx hb d_Machine_pushTry_53 rfl (lv_at hl 1 rfl) ?_
      refine rd_Machine_27 hx hb hT hown hK hP d_Machine_pushTry_54 ?_
      refine lv_iload_n hx hb d_Machine_pushTry_57 rfl (lv_at hl 0 rfl) ?_
      refine lv_iconst (v := 3) hx hb d_Machine_pushTry_58 (by decide) ?_
      refine lv_iadd hx hb d_Machine_pushTry_59 ?_
      refine lv_aload_n hx hb d_Machine_pushTry_60 rfl (lv_at hl 1 rfl) ?_
      refine rd_Machine_16 hx hb hT hown hK hP d_Machine_pushTry_61 ?_
      replace hR := bi_e hR
      obtain ⟨r7, l7, T7, hc7, hR⟩ := hR
      refine gcV_i (rest := [.int (z1 + (3 : Int32)), .ref (ad 57)]) ⟨hx, hb, hml, hown, hT⟩ (h_Memory_regionCount _ _ _ _ hc7) (cwV 0 hT (gV ml_Machine_207 im_Memory_regionCount se_Memory_regionCount ini_Memory co_Memory_regionCount) rfl rfl rfl pd_Memory_regionCount ⟨rm_hi, rm_lo (Nat.le_of_ble_eq_true rfl)⟩) hK hP hD hS hA hnw henv (Nat.le_of_ble_eq_true rfl) rfl rfl hl.1 rfl (Nat.le_of_ble_eq_true rfl) d_Machine_pushTry_64 ⟨Nat.le_refl _, Nat.le_refl _⟩ (fun H locs hP hD hS => ?_)
      clear hc7
      replace hR := gd_e hR
      obtain ⟨b8, hR⟩ := hR
      refine saH_45 hx hb hK hP hD hS b8 d_Machine_pushTry_67 (fun T8 eT H locs hP hD hS => ?_)
      replace hR := stK_e eT hR
      clear eT
      refine lv_aload_n hx hb d_Machine_pushTry_68 rfl (lv_at hl 1 rfl) ?_
      refine lv_dup hx hb d_Machine_pushTry_69 rfl ?_
      refine rd_Machine_58 hx hb hT hown hK hP d_Machine_pushTry_70 ?_
      refine lv_iconst (v := 1) hx hb d_Machine_pushTry_73 (by decide) ?_
      refine lv_iadd hx hb d_Machine_pushTry_74 ?_
      refine wr_Machine_58 hx hb hT hown hK hP hD hS d_Machine_pushTry_75 (fun T9 eT H locs hP hD hS => ?_)
      replace hR := stK_e eT hR
      clear eT
      obtain ⟨-, -, e3⟩ := re_e hR
      subst e3
      exact W.vret hx hb hr (fun t ht hW => ⟨⟨(), rfl, trivial, by rw [ht]; exact hP, va_K.moved hW.alike hK, hD⟩, hS.F ht⟩) hS.2.2 d_Machine_pushTry_78
set_option maxHeartbeats 4000000 in
set_option maxRecDepth 100000 in
theorem sp_Machine_raise (l : Launch) (dC : Nat → ClassId) (dI : Nat → Nat → Nat) (ea ev ad : Nat → Nat) (km : Nat → ClassId) (F : gF) (nf d : Nat) (h_Memory_closeFrom : mt_Memory_closeFrom l dC dI ea ev ad km F d) (h_Machine_push : mt_Machine_push l dC dI ea ev ad km F d) (T0 : gSt) (p1 : Int32) (r0 : Int32) (rl0 : Int64) (T9 : gSt) (hR : rb_Machine_raise F nf T0 p1 = some (r0, rl0, T9)) : GMv l dC dI LH ad km ea ev y_Machine_raise w_Machine_raise (rmD (d + 1)) [.ref (ad 10), .int p1] T0 T9 := by
  intro sz
  refine Met.ofW (cc := b_Machine_raise) (maxL := 3) (ret := none) (by decide) rfl ?_
  intro p e s m args below meth c s₁ B hml hv
  obtain ⟨rfl, hsz, hP, hK, hD0, hnw, henv⟩ := hv
  have hx := B.exec
  have hb := B.bytes
  have hr := B.returns
  have hT : ∀ w ∈ lw_good, w.before _ s = true := fun w h => atoms_spec (ws := w_Machine_raise) B.pre w (List.mem_cons_of_mem _ h)
  have hown : s.vm.findClass R_Machine = some m.cls := findClass_of_methodNamed B.named
  subst hsz
  have hD := hD0.self (sz := s.heap.size)
  clear hD0
  generalize hAe : va_A (gW LH ad km T0) s.heap.size = A at hD henv ⊢
  have hA : ∀ q : Nat, s.heap.size ≤ q → A q := fun q h => by rw [← hAe]; exact Or.inr h
  have hS : va_S A s.heap s.heap [] := va_S.rf
  have hl := lv_entry ([.ref (ad 10), .int p1]) (n := 3) (Nat.le_of_ble_eq_true rfl)
  rw [lg_entry_eq]
  generalize (lg_sl ([.ref (ad 10), .int p1]) ++ List.replicate (3 - (lg_sl ([.ref (ad 10), .int p1])).length) Slot.unset).toArray = ls at hl ⊢
  have hl : lv_has ls 3 [(0, .ref (ad 10)), (1, .int p1)] := hl
  unfold rb_Machine_raise at hR
  refine lv_aload_n hx hb d_Machine_raise_0 rfl (lv_at hl 0 rfl) ?_
  refine lv_dup hx hb d_Machine_raise_1 rfl ?_
  refine rd_Machine_70 hx hb hT hown hK hP d_Machine_raise_2 ?_
  refine lv_iconst (v := 1) hx hb d_Machine_raise_5 (by decide) ?_
  refine lv_iadd hx hb d_Machine_raise_6 ?_
  refine wr_Machine_70 hx hb hT hown hK hP hD hS d_Machine_raise_7 (fun T1 eT H locs hP hD hS => ?_)
  replace hR := stK_e eT hR
  clear eT
  refine lv_aload_n hx hb d_Machine_raise_10 rfl (lv_at hl 0 rfl) ?_
  refine rd_Machine_58 hx hb hT hown hK hP d_Machine_raise_11 ?_
  refine lv_iconst (v := 1) hx hb d_Machine_raise_14 (by decide) ?_
  refine lv_isub hx hb d_Machine_raise_15 ?_
  refine lv_iconst (v := 4) hx hb d_Machine_raise_16 (by decide) ?_
  refine lv_imul hx hb d_Machine_raise_17 ?_
  refine lv_topi (fun z2 e2 => ?_)
  replace hR := vK_e e2 hR
  refine lv_istore_n (lv' := [(2, .int z2), (0, .ref (ad 10)), (1, .int p1)]) hx hb d_Machine_raise_18 rfl hl (by decide) rfl (fun ls hl => ?_)
  refine lv_iload_n hx hb d_Machine_raise_19 rfl (lv_at hl 0 rfl) ?_
  refine lv_if_lt (tgt := 34) hx hb d_Machine_raise_20 (by decide) (fun c3 => ?_) (fun c3 => ?_)
  · replace hR := if_p c3 hR
    refine lv_aload_n hx hb d_Machine_raise_34 rfl (lv_at hl 1 rfl) ?_
    refine lv_iconst (v := 3) hx hb d_Machine_raise_35 (by decide) ?_
    refine wr_Machine_44 hx hb hT hown hK hP hD hS d_Machine_raise_36 (fun T4 eT H locs hP hD hS => ?_)
    replace hR := stK_e eT hR
    clear eT
    refine lv_aload_n hx hb d_Machine_raise_39 rfl (lv_at hl 1 rfl) ?_
    refine lv_iload_n hx hb d_Machine_raise_40 rfl (lv_at hl 2 rfl) ?_
    refine wr_Machine_64 hx hb hT hown hK hP hD hS d_Machine_raise_41 (fun T5 eT H locs hP hD hS => ?_)
    replace hR := stK_e eT hR
    clear eT
    obtain ⟨-, -, e3⟩ := re_e hR
    subst e3
    exact W.vret hx hb hr (fun t ht hW => ⟨⟨(), rfl, trivial, by rw [ht]; exact hP, va_K.moved hW.alike hK, hD⟩, hS.F ht⟩) hS.2.2 d_Machine_raise_44
  · replace hR := if_n c3 hR
    refine lv_iload_n hx hb d_Machine_raise_23 rfl (lv_at hl 0 rfl) ?_
    refine lv_iconst (v := 4) hx hb d_Machine_raise_24 (by decide) ?_
    refine lv_iadd hx hb d_Machine_raise_25 ?_
    refine lv_aload_n hx hb d_Machine_raise_26 rfl (lv_at hl 1 rfl) ?_
    refine rd_Machine_27 hx hb hT hown hK hP d_Machine_raise_27 ?_
    refine gw_alen hx hb hK hP 45 3200 57 (Nat.le_of_ble_eq_true rfl) rfl rfl d_Machine_raise_30 ?_
    refine W.eq (g2 := F0 m 31 ls [.int (3200 : Int32), .int (z2 + (4 : Int32))]) rfl ?_
    refine lv_icmp_le (tgt := 45) hx hb d_Machine_raise_31 (by decide) (fun c6 => ?_) (fun c6 => ?_)
    · replace hR := if_p c6 hR
      refine lv_aload_n hx hb d_Machine_raise_45 rfl (lv_at hl 1 rfl) ?_
      refine lv_dup hx hb d_Machine_raise_46 rfl ?_
      refine rd_Machine_58 hx hb hT hown hK hP d_Machine_raise_47 ?_
      refine lv_iconst (v := 1) hx hb d_Machine_raise_50 (by decide) ?_
      refine lv_isub hx hb d_Machine_raise_51 ?_
      refine wr_Machine_58 hx hb hT hown hK hP hD hS d_Machine_raise_52 (fun T7 eT H locs hP hD hS => ?_)
      replace hR := stK_e eT hR
      clear eT
      refine lv_aload_n hx hb d_Machine_raise_55 rfl (lv_at hl 1 rfl) ?_
      refine lv_aload_n hx hb d_Machine_raise_56 rfl (lv_at hl 1 rfl) ?_
      refine rd_Machine_27 hx hb hT hown hK hP d_Machine_raise_57 ?_
      refine lv_iload_n hx hb d_Machine_raise_60 rfl (lv_at hl 0 rfl) ?_
      replace hR := gd_e hR
      obtain ⟨b8, hR⟩ := hR
      refine laH_45 hx hb hK hP b8 d_Machine_raise_61 ?_
      refine wr_Machine_61 hx hb hT hown hK hP hD hS d_Machine_raise_62 (fun T9 eT H locs hP hD hS => ?_)
      replace hR := stK_e eT hR
      clear eT
      refine lv_aload_n hx hb d_Machine_raise_65 rfl (lv_at hl 1 rfl) ?_
      refine lv_aload_n hx hb d_Machine_raise_66 rfl (lv_at hl 1 rfl) ?_
      refine rd_Machine_27 hx hb hT hown hK hP d_Machine_raise_67 ?_
      refine lv_iload_n hx hb d_Machine_raise_70 rfl (lv_at hl 0 rfl) ?_
      refine lv_iconst (v := 1) hx hb d_Machine_raise_71 (by decide) ?_
      refine lv_iadd hx hb d_Machine_raise_72 ?_
      replace hR := gd_e hR
      obtain ⟨b10, hR⟩ := hR
      refine laH_45 hx hb hK hP b10 d_Machine_raise_73 ?_
      refine wr_Machine_55 hx hb hT hown hK hP hD hS d_Machine_raise_74 (fun T11 eT H locs hP hD hS => ?_)
      replace hR := stK_e eT hR
      clear eT
      refine lv_aload_n hx hb d_Machine_raise_77 rfl (lv_at hl 1 rfl) ?_
      refine lv_aload_n hx hb d_Machine_raise_78 rfl (lv_at hl 1 rfl) ?_
      refine rd_Machine_27 hx hb hT hown hK hP d_Machine_raise_79 ?_
      refine lv_iload_n hx hb d_Machine_raise_82 rfl (lv_at hl 0 rfl) ?_
      refine lv_iconst (v := 2) hx hb d_Machine_raise_83 (by decide) ?_
      refine lv_iadd hx hb d_Machine_raise_84 ?_
      replace hR := gd_e hR
      obtain ⟨b12, hR⟩ := hR
      refine laH_45 hx hb hK hP b12 d_Machine_raise_85 ?_
      refine wr_Machine_52 hx hb hT hown hK hP hD hS d_Machine_raise_86 (fun T13 eT H locs hP hD hS => ?_)
      replace hR := stK_e eT hR
      clear eT
      refine lv_aload_n hx hb d_Machine_raise_89 rfl (lv_at hl 1 rfl) ?_
      refine rd_Machine_16 hx hb hT hown hK hP d_Machine_raise_90 ?_
      refine lv_aload_n hx hb d_Machine_raise_93 rfl (lv_at hl 1 rfl) ?_
      refine rd_Machine_27 hx hb hT hown hK hP d_Machine_raise_94 ?_
      refine lv_iload_n hx hb d_Machine_raise_97 rfl (lv_at hl 0 rfl) ?_
      refine lv_iconst (v := 3) hx hb d_Machine_raise_98 (by decide) ?_
      refine lv_iadd hx hb d_Machine_raise_99 ?_
      replace hR := gd_e hR
      obtain ⟨b14, hR⟩ := hR
      refine laH_45 hx hb hK hP b14 d_Machine_raise_100 ?_
      replace hR := bi_e hR
      obtain ⟨r15, l15, T15, hc15, hR⟩ := hR
      refine gcV_v (rest := []) ⟨hx, hb, hml, hown, hT⟩ (h_Memory_closeFrom _ _ _ _ _ hc15) (cwV 1 hT (gV ml_Machine_198 im_Memory_closeFrom se_Memory_closeFrom ini_Memory co_Memory_closeFrom) rfl rfl rfl pd_Memory_closeFrom ⟨rm_hi, rm_lo (Nat.le_of_ble_eq_true rfl)⟩) hK hP hD hS hA hnw henv (Nat.le_of_ble_eq_true rfl) rfl rfl hl.1 rfl (Nat.le_of_ble_eq_true rfl) d_Machine_raise_101 ⟨Nat.le_refl _, Nat.le_refl _⟩ (fun H locs hP hD hS => ?_)
      clear hc15
      refine lv_aload_n hx hb d_Machine_raise_104 rfl (lv_at hl 1 rfl) ?_
      refine lv_iload_n hx hb d_Machine_raise_105 rfl (lv_at hl 2 rfl) ?_
      replace hR := bi_e hR
      obtain ⟨r16, l16, T16, hc16, hR⟩ := hR
      refine gcV_v (rest := []) ⟨hx, hb, hml, hown, hT⟩ (h_Machine_push _ _ _ _ _ hc16) (cwV 1 hT (gV ml_Machine_133 im_Machine_push se_Machine_push ini_Machine co_Machine_push) rfl rfl rfl pd_Machine_push ⟨rm_hi, rm_lo (Nat.le_of_ble_eq_true rfl)⟩) hK hP hD hS hA hnw henv (Nat.le_of_ble_eq_true rfl) rfl rfl hl.1 rfl (Nat.le_of_ble_eq_true rfl) d_Machine_raise_106 ⟨Nat.le_refl _, Nat.le_refl _⟩ (fun H locs hP hD hS => ?_)
      clear hc16
      obtain ⟨-, -, e3⟩ := re_e hR
      subst e3
      exact W.vret hx hb hr (fun t ht hW => ⟨⟨(), rfl, trivial, by rw [ht]; exact hP, va_K.moved hW.alike hK, hD⟩, hS.F ht⟩) hS.2.2 d_Machine_raise_109
    · replace hR := if_n c6 hR
      refine lv_aload_n hx hb d_Machine_raise_34 rfl (lv_at hl 1 rfl) ?_
      refine lv_iconst (v := 3) hx hb d_Machine_raise_35 (by decide) ?_
      refine wr_Machine_44 hx hb hT hown hK hP hD hS d_Machine_raise_36 (fun T17 eT H locs hP hD hS => ?_)
      replace hR := stK_e eT hR
      clear eT
      refine lv_aload_n hx hb d_Machine_raise_39 rfl (lv_at hl 1 rfl) ?_
      refine lv_iload_n hx hb d_Machine_raise_40 rfl (lv_at hl 2 rfl) ?_
      refine wr_Machine_64 hx hb hT hown hK hP hD hS d_Machine_raise_41 (fun T18 eT H locs hP hD hS => ?_)
      replace hR := stK_e eT hR
      clear eT
      obtain ⟨-, -, e3⟩ := re_e hR
      subst e3
      exact W.vret hx hb hr (fun t ht hW => ⟨⟨(), rfl, trivial, by rw [ht]; exact hP, va_K.moved hW.alike hK, hD⟩, hS.F ht⟩) hS.2.2 d_Machine_raise_44
set_option maxHeartbeats 4000000 in
set_option maxRecDepth 100000 in
theorem sp_Machine_enter (l : Launch) (dC : Nat → ClassId) (dI : Nat → Nat → Nat) (ea ev ad : Nat → Nat) (km : Nat → ClassId) (F : gF) (nf d : Nat) (h_Machine_setFrame : mt_Machine_setFrame l dC dI ea ev ad km F d) (h_Memory_regionCount : mt_Memory_regionCount l dC dI ea ev ad km F d) (h_Types_toldOne : mt_Types_toldOne l dC dI ea ev ad km F d) (T0 : gSt) (p1 : Int32) (p2 : Int32) (r0 : Int32) (rl0 : Int64) (T9 : gSt) (hR : rb_Machine_enter F nf T0 p1 p2 = some (r0, rl0, T9)) : GMv l dC dI LH ad km ea ev y_Machine_enter w_Machine_enter (rmD (d + 1)) [.ref (ad 10), .int p1, .int p2] T0 T9 := by
  intro sz
  refine Met.ofW (cc := b_Machine_enter) (maxL := 6) (ret := none) (by decide) rfl ?_
  intro p e s m args below meth c s₁ B hml hv
  obtain ⟨rfl, hsz, hP, hK, hD0, hnw, henv⟩ := hv
  have hx := B.exec
  have hb := B.bytes
  have hr := B.returns
  have hT : ∀ w ∈ lw_good, w.before _ s = true := fun w h => atoms_spec (ws := w_Machine_enter) B.pre w (List.mem_cons_of_mem _ h)
  have hown : s.vm.findClass R_Machine = some m.cls := findClass_of_methodNamed B.named
  subst hsz
  have hD := hD0.self (sz := s.heap.size)
  clear hD0
  generalize hAe : va_A (gW LH ad km T0) s.heap.size = A at hD henv ⊢
  have hA : ∀ q : Nat, s.heap.size ≤ q → A q := fun q h => by rw [← hAe]; exact Or.inr h
  have hS : va_S A s.heap s.heap [] := va_S.rf
  have hl := lv_entry ([.ref (ad 10), .int p1, .int p2]) (n := 6) (Nat.le_of_ble_eq_true rfl)
  rw [lg_entry_eq]
  generalize (lg_sl ([.ref (ad 10), .int p1, .int p2]) ++ List.replicate (6 - (lg_sl ([.ref (ad 10), .int p1, .int p2])).length) Slot.unset).toArray = ls at hl ⊢
  have hl : lv_has ls 6 [(0, .ref (ad 10)), (1, .int p1), (2, .int p2)] := hl
  obtain ⟨G, hG⟩ : ∃ G : Nat → List (Nat × Value) → List Value → gSt → Prop, G = (fun pc lv stk T => ∀ (H : Heap) (locs : List Loc), va_P (dC, dI) cls_all (gW LH ad km T) H → va_D A (gW LH ad km T) → va_S A s.heap H locs → ∀ (ls : Array Slot), lv_has ls 6 lv → W p l e (headSpec w_Machine_enter (rmD (d + 1))).room s m ([.ref (ad 10), .int p1, .int p2] : List Value).toArray below meth c H locs 0 0 (MQ below (va_Qv (fun (_ : Unit) => True) (fun _ t => gPost dC dI LH ad km T9 A t) A) ([.ref (ad 10), .int p1, .int p2] : List Value).toArray s 0 0 A) (F0 m pc ls stk)) := ⟨_, rfl⟩
  have lb_116 : ∀ (n : Nat) (T : gSt) (x1 : Int32) (x2 : Int32) (x3 : Int32) (x4 : Int32) (x5 : Int32), rl_Machine_enter_116 F nf n T x1 x2 x3 x4 x5 = some (r0, rl0, T9) → G 116 [(0, .ref (ad 10)), (1, .int x1), (2, .int x2), (3, .int x3), (4, .int x4), (5, .int x5)] [] T := by
    intro n
    induction n with
    | zero => intro T x1 x2 x3 x4 x5 hR; rw [rl_Machine_enter_116] at hR; cases hR
    | succ n ih =>
      intro T x1 x2 x3 x4 x5 hR; rw [rl_Machine_enter_116] at hR; rw [hG]; intro H locs hP hD hS ls hl
      refine lv_iload hx hb d_Machine_enter_116 (lv_at hl 5 rfl) ?_
      refine lv_iconst (v := 3) hx hb d_Machine_enter_118 (by decide) ?_
      refine lv_icmp_gt (tgt := 155) hx hb d_Machine_enter_119 (by decide) (fun c15 => ?_) (fun c15 => ?_)
      · replace hR := if_p c15 hR
        refine lv_aload_n hx hb d_Machine_enter_155 rfl (lv_at hl 0 rfl) ?_
        refine lv_iload_n hx hb d_Machine_enter_156 rfl (lv_at hl 3 rfl) ?_
        refine lv_bipush (v := 80) hx hb d_Machine_enter_157 (by decide) ?_
        refine lv_iadd hx hb d_Machine_enter_159 ?_
        refine lv_aload_n hx hb d_Machine_enter_160 rfl (lv_at hl 0 rfl) ?_
        refine rd_Machine_20 hx hb hT hown hK hP d_Machine_enter_161 ?_
        refine gw_alen hx hb hK hP 43 23200 55 (Nat.le_of_ble_eq_true rfl) rfl rfl d_Machine_enter_164 ?_
        refine W.eq (g2 := F0 m 165 ls [.int (23200 : Int32), .int (x3 + (80 : Int32)), .ref (ad 10)]) rfl ?_
        refine va_mmin hx hb (hml.trans hl.1.symm) hown (hT _ ml_Machine_221) (hT _ st_Math_min) (hT _ ini_Math) (hT _ co_Math_min) rm_f1 (rm_l1 (Nat.le_of_ble_eq_true rfl)) (Nat.le_refl _) (Nat.le_refl _) d_Machine_enter_165 ?_
        refine wr_Machine_52 hx hb hT hown hK hP hD hS d_Machine_enter_168 (fun T16 eT H locs hP hD hS => ?_)
        replace hR := stK_e eT hR
        clear eT
        refine lv_aload_n hx hb d_Machine_enter_171 rfl (lv_at hl 0 rfl) ?_
        refine lv_aload_n hx hb d_Machine_enter_172 rfl (lv_at hl 0 rfl) ?_
        refine rd_Machine_40 hx hb hT hown hK hP d_Machine_enter_173 ?_
        refine rd_Machine_224 hx hb hT hown hK hP d_Machine_enter_176 ?_
        refine lv_iload_n hx hb d_Machine_enter_179 rfl (lv_at hl 1 rfl) ?_
        replace hR := gd_e hR
        obtain ⟨b17, hR⟩ := hR
        refine laH_27 hx hb hK hP b17 d_Machine_enter_180 ?_
        refine wr_Machine_61 hx hb hT hown hK hP hD hS d_Machine_enter_181 (fun T18 eT H locs hP hD hS => ?_)
        replace hR := stK_e eT hR
        clear eT
        obtain ⟨-, -, e3⟩ := re_e hR
        subst e3
        exact W.vret hx hb hr (fun t ht hW => ⟨⟨(), rfl, trivial, by rw [ht]; exact hP, va_K.moved hW.alike hK, hD⟩, hS.F ht⟩) hS.2.2 d_Machine_enter_184
      · replace hR := if_n c15 hR
        refine lv_aload_n hx hb d_Machine_enter_122 rfl (lv_at hl 0 rfl) ?_
        refine lv_iconst (v := 5) hx hb d_Machine_enter_123 (by decide) ?_
        refine lv_iload hx hb d_Machine_enter_124 (lv_at hl 5 rfl) ?_
        refine lv_iadd hx hb d_Machine_enter_126 ?_
        refine lv_aload_n hx hb d_Machine_enter_127 rfl (lv_at hl 0 rfl) ?_
        refine rd_Machine_24 hx hb hT hown hK hP d_Machine_enter_128 ?_
        refine lv_iload hx hb d_Machine_enter_131 (lv_at hl 4 rfl) ?_
        refine lv_iload hx hb d_Machine_enter_133 (lv_at hl 5 rfl) ?_
        refine lv_iload_n hx hb d_Machine_enter_135 rfl (lv_at hl 2 rfl) ?_
        replace hR := bi_e hR
        obtain ⟨r19, l19, T19, hc19, hR⟩ := hR
        refine gcS_i (rest := [.int x4, .ref (ad 56), .int ((5 : Int32) + x5), .ref (ad 10)]) ⟨hx, hb, hml, hown, hT⟩ (h_Types_toldOne _ _ _ _ _ _ hc19) (va_cwS 2 hT (gS ml_Machine_216 st_Types_toldOne ini_Types co_Types_toldOne) rfl rfl rfl pd_Types_toldOne ⟨rm_hi, rm_lo (Nat.le_of_ble_eq_true rfl)⟩) hK hP hD hS hA hnw henv rfl hl.1 rfl (Nat.le_of_ble_eq_true rfl) d_Machine_enter_136 ⟨Nat.le_refl _, Nat.le_refl _⟩ (fun H locs hP hD hS => ?_)
        clear hc19
        refine lv_bipush (v := 11) hx hb d_Machine_enter_139 (by decide) ?_
        refine va_mmin hx hb (hml.trans hl.1.symm) hown (hT _ ml_Machine_221) (hT _ st_Math_min) (hT _ ini_Math) (hT _ co_Math_min) rm_f1 (rm_l1 (Nat.le_of_ble_eq_true rfl)) (Nat.le_refl _) (Nat.le_refl _) d_Machine_enter_141 ?_
        refine lv_iadd hx hb d_Machine_enter_144 ?_
        replace hR := gd_e hR
        obtain ⟨b20, hR⟩ := hR
        refine laH_44 hx hb hK hP b20 d_Machine_enter_145 ?_
        replace hR := bi_e hR
        obtain ⟨r21, l21, T21, hc21, hR⟩ := hR
        refine gcV_v (rest := []) ⟨hx, hb, hml, hown, hT⟩ (h_Machine_setFrame _ _ _ _ _ _ hc21) (cwV 2 hT (gV ml_Machine_103 im_Machine_setFrame se_Machine_setFrame ini_Machine co_Machine_setFrame) rfl rfl rfl pd_Machine_setFrame ⟨rm_hi, rm_lo (Nat.le_of_ble_eq_true rfl)⟩) hK hP hD hS hA hnw henv (Nat.le_of_ble_eq_true rfl) rfl rfl hl.1 rfl (Nat.le_of_ble_eq_true rfl) d_Machine_enter_146 ⟨Nat.le_refl _, Nat.le_refl _⟩ (fun H locs hP hD hS => ?_)
        clear hc21
        obtain ⟨z22, e22⟩ : ∃ y : Int32, y = x5 + (1 : Int32) := ⟨_, rfl⟩
        replace hR := vK_e e22 hR
        refine lv_iinc (v := z22) (lv' := [(5, .int z22), (0, .ref (ad 10)), (1, .int x1), (2, .int x2), (3, .int x3), (4, .int x4)]) hx hb d_Machine_enter_149 hl (k := 5) rfl (by rw [e22]; rfl) (by decide) rfl (fun ls hl => ?_)
        refine lv_goto (tgt := 116) hx hb d_Machine_enter_152 (by decide) ?_
        have g := ih T21 x1 x2 x3 x4 z22 hR
        rw [hG] at g
        exact g _ _ hP hD hS _ (lv_sub hl [1, 2, 3, 4, 5, 0] rfl)
  unfold rb_Machine_enter at hR
  refine lv_iload_n hx hb d_Machine_enter_0 rfl (lv_at hl 1 rfl) ?_
  refine lv_if_lt (tgt := 15) hx hb d_Machine_enter_1 (by decide) (fun c1 => ?_) (fun c1 => ?_)
  · replace hR := if_p c1 hR
    obtain ⟨-, -, e3⟩ := re_e hR
    subst e3
    exact W.vret hx hb hr (fun t ht hW => ⟨⟨(), rfl, trivial, by rw [ht]; exact hP, va_K.moved hW.alike hK, hD⟩, hS.F ht⟩) hS.2.2 d_Machine_enter_15
  · replace hR := if_n c1 hR
    refine lv_iload_n hx hb d_Machine_enter_4 rfl (lv_at hl 1 rfl) ?_
    refine lv_aload_n hx hb d_Machine_enter_5 rfl (lv_at hl 0 rfl) ?_
    refine rd_Machine_40 hx hb hT hown hK hP d_Machine_enter_6 ?_
    refine rd_Machine_210 hx hb hT hown hK hP d_Machine_enter_9 ?_
    refine lv_icmp_lt (tgt := 16) hx hb d_Machine_enter_12 (by decide) (fun c2 => ?_) (fun c2 => ?_)
    · replace hR := if_p c2 hR
      refine lv_aload_n hx hb d_Machine_enter_16 rfl (lv_at hl 0 rfl) ?_
      refine rd_Machine_55 hx hb hT hown hK hP d_Machine_enter_17 ?_
      refine lv_bipush (v := 40) hx hb d_Machine_enter_20 (by decide) ?_
      refine lv_icmp_lt (tgt := 31) hx hb d_Machine_enter_22 (by decide) (fun c3 => ?_) (fun c3 => ?_)
      · replace hR := if_p c3 hR
        refine lv_iconst (v := 0) hx hb d_Machine_enter_31 (by decide) ?_
        refine lv_aload_n hx hb d_Machine_enter_32 rfl (lv_at hl 0 rfl) ?_
        refine rd_Machine_52 hx hb hT hown hK hP d_Machine_enter_33 ?_
        refine lv_aload_n hx hb d_Machine_enter_36 rfl (lv_at hl 0 rfl) ?_
        refine rd_Machine_40 hx hb hT hown hK hP d_Machine_enter_37 ?_
        refine rd_Machine_213 hx hb hT hown hK hP d_Machine_enter_40 ?_
        refine lv_iload_n hx hb d_Machine_enter_43 rfl (lv_at hl 1 rfl) ?_
        replace hR := gd_e hR
        obtain ⟨b4, hR⟩ := hR
        refine laH_26 hx hb hK hP b4 d_Machine_enter_44 ?_
        refine lv_isub hx hb d_Machine_enter_45 ?_
        refine va_mmax hx hb (hml.trans hl.1.symm) hown (hT _ ml_Machine_149) (hT _ st_Math_max) (hT _ ini_Math) (hT _ co_Math_max) rm_f1 (rm_l1 (Nat.le_of_ble_eq_true rfl)) (Nat.le_refl _) (Nat.le_refl _) d_Machine_enter_46 ?_
        refine lv_topi (fun z5 e5 => ?_)
        replace hR := vK_e e5 hR
        refine lv_istore_n (lv' := [(3, .int z5), (0, .ref (ad 10)), (1, .int p1), (2, .int p2)]) hx hb d_Machine_enter_49 rfl hl (by decide) rfl (fun ls hl => ?_)
        refine lv_aload_n hx hb d_Machine_enter_50 rfl (lv_at hl 1 rfl) ?_
        refine rd_Machine_55 hx hb hT hown hK hP d_Machine_enter_51 ?_
        refine lv_bipush (v := 17) hx hb d_Machine_enter_54 (by decide) ?_
        refine lv_imul hx hb d_Machine_enter_56 ?_
        refine lv_iconst (v := 5) hx hb d_Machine_enter_57 (by decide) ?_
        refine lv_iadd hx hb d_Machine_enter_58 ?_
        refine lv_topi (fun z6 e6 => ?_)
        replace hR := vK_e e6 hR
        refine lv_istore (lv' := [(4, .int z6), (3, .int z5), (0, .ref (ad 10)), (1, .int p1), (2, .int p2)]) hx hb d_Machine_enter_59 hl (by decide) rfl (fun ls hl => ?_)
        refine lv_aload_n hx hb d_Machine_enter_61 rfl (lv_at hl 2 rfl) ?_
        refine lv_dup hx hb d_Machine_enter_62 rfl ?_
        refine rd_Machine_55 hx hb hT hown hK hP d_Machine_enter_63 ?_
        refine lv_iconst (v := 1) hx hb d_Machine_enter_66 (by decide) ?_
        refine lv_iadd hx hb d_Machine_enter_67 ?_
        refine wr_Machine_55 hx hb hT hown hK hP hD hS d_Machine_enter_68 (fun T7 eT H locs hP hD hS => ?_)
        replace hR := stK_e eT hR
        clear eT
        refine lv_aload_n hx hb d_Machine_enter_71 rfl (lv_at hl 2 rfl) ?_
        refine lv_iconst (v := 0) hx hb d_Machine_enter_72 (by decide) ?_
        refine lv_aload_n hx hb d_Machine_enter_73 rfl (lv_at hl 2 rfl) ?_
        refine rd_Machine_61 hx hb hT hown hK hP d_Machine_enter_74 ?_
        replace hR := bi_e hR
        obtain ⟨r8, l8, T8, hc8, hR⟩ := hR
        refine gcV_v (rest := []) ⟨hx, hb, hml, hown, hT⟩ (h_Machine_setFrame _ _ _ _ _ _ hc8) (cwV 2 hT (gV ml_Machine_103 im_Machine_setFrame se_Machine_setFrame ini_Machine co_Machine_setFrame) rfl rfl rfl pd_Machine_setFrame ⟨rm_hi, rm_lo (Nat.le_of_ble_eq_true rfl)⟩) hK hP hD hS hA hnw henv (Nat.le_of_ble_eq_true rfl) rfl rfl hl.1 rfl (Nat.le_of_ble_eq_true rfl) d_Machine_enter_77 ⟨Nat.le_refl _, Nat.le_refl _⟩ (fun H locs hP hD hS => ?_)
        clear hc8
        refine lv_aload_n hx hb d_Machine_enter_80 rfl (lv_at hl 2 rfl) ?_
        refine lv_iconst (v := 1) hx hb d_Machine_enter_81 (by decide) ?_
        refine lv_iload_n hx hb d_Machine_enter_82 rfl (lv_at hl 1 rfl) ?_
        replace hR := bi_e hR
        obtain ⟨r9, l9, T9, hc9, hR⟩ := hR
        refine gcV_v (rest := []) ⟨hx, hb, hml, hown, hT⟩ (h_Machine_setFrame _ _ _ _ _ _ hc9) (cwV 2 hT (gV ml_Machine_103 im_Machine_setFrame se_Machine_setFrame ini_Machine co_Machine_setFrame) rfl rfl rfl pd_Machine_setFrame ⟨rm_hi, rm_lo (Nat.le_of_ble_eq_true rfl)⟩) hK hP hD hS hA hnw henv (Nat.le_of_ble_eq_true rfl) rfl rfl hl.1 rfl (Nat.le_of_ble_eq_true rfl) d_Machine_enter_83 ⟨Nat.le_refl _, Nat.le_refl _⟩ (fun H locs hP hD hS => ?_)
        clear hc9
        refine lv_aload_n hx hb d_Machine_enter_86 rfl (lv_at hl 2 rfl) ?_
        refine lv_iconst (v := 3) hx hb d_Machine_enter_87 (by decide) ?_
        refine lv_aload_n hx hb d_Machine_enter_88 rfl (lv_at hl 2 rfl) ?_
        refine rd_Machine_16 hx hb hT hown hK hP d_Machine_enter_89 ?_
        replace hR := bi_e hR
        obtain ⟨r10, l10, T10, hc10, hR⟩ := hR
        refine gcV_i (rest := [.int (3 : Int32), .ref (ad 10)]) ⟨hx, hb, hml, hown, hT⟩ (h_Memory_regionCount _ _ _ _ hc10) (cwV 0 hT (gV ml_Machine_207 im_Memory_regionCount se_Memory_regionCount ini_Memory co_Memory_regionCount) rfl rfl rfl pd_Memory_regionCount ⟨rm_hi, rm_lo (Nat.le_of_ble_eq_true rfl)⟩) hK hP hD hS hA hnw henv (Nat.le_of_ble_eq_true rfl) rfl rfl hl.1 rfl (Nat.le_of_ble_eq_true rfl) d_Machine_enter_92 ⟨Nat.le_refl _, Nat.le_refl _⟩ (fun H locs hP hD hS => ?_)
        clear hc10
        replace hR := bi_e hR
        obtain ⟨r11, l11, T11, hc11, hR⟩ := hR
        refine gcV_v (rest := []) ⟨hx, hb, hml, hown, hT⟩ (h_Machine_setFrame _ _ _ _ _ _ hc11) (cwV 2 hT (gV ml_Machine_103 im_Machine_setFrame se_Machine_setFrame ini_Machine co_Machine_setFrame) rfl rfl rfl pd_Machine_setFrame ⟨rm_hi, rm_lo (Nat.le_of_ble_eq_true rfl)⟩) hK hP hD hS hA hnw henv (Nat.le_of_ble_eq_true rfl) rfl rfl hl.1 rfl (Nat.le_of_ble_eq_true rfl) d_Machine_enter_95 ⟨Nat.le_refl _, Nat.le_refl _⟩ (fun H locs hP hD hS => ?_)
        clear hc11
        refine lv_aload_n hx hb d_Machine_enter_98 rfl (lv_at hl 2 rfl) ?_
        refine lv_iconst (v := 4) hx hb d_Machine_enter_99 (by decide) ?_
        refine lv_aload_n hx hb d_Machine_enter_100 rfl (lv_at hl 2 rfl) ?_
        refine rd_Machine_58 hx hb hT hown hK hP d_Machine_enter_101 ?_
        replace hR := bi_e hR
        obtain ⟨r12, l12, T12, hc12, hR⟩ := hR
        refine gcV_v (rest := []) ⟨hx, hb, hml, hown, hT⟩ (h_Machine_setFrame _ _ _ _ _ _ hc12) (cwV 2 hT (gV ml_Machine_103 im_Machine_setFrame se_Machine_setFrame ini_Machine co_Machine_setFrame) rfl rfl rfl pd_Machine_setFrame ⟨rm_hi, rm_lo (Nat.le_of_ble_eq_true rfl)⟩) hK hP hD hS hA hnw henv (Nat.le_of_ble_eq_true rfl) rfl rfl hl.1 rfl (Nat.le_of_ble_eq_true rfl) d_Machine_enter_104 ⟨Nat.le_refl _, Nat.le_refl _⟩ (fun H locs hP hD hS => ?_)
        clear hc12
        refine lv_aload_n hx hb d_Machine_enter_107 rfl (lv_at hl 2 rfl) ?_
        refine lv_iconst (v := 5) hx hb d_Machine_enter_108 (by decide) ?_
        refine lv_iconst (v := 0) hx hb d_Machine_enter_109 (by decide) ?_
        replace hR := bi_e hR
        obtain ⟨r13, l13, T13, hc13, hR⟩ := hR
        refine gcV_v (rest := []) ⟨hx, hb, hml, hown, hT⟩ (h_Machine_setFrame _ _ _ _ _ _ hc13) (cwV 2 hT (gV ml_Machine_103 im_Machine_setFrame se_Machine_setFrame ini_Machine co_Machine_setFrame) rfl rfl rfl pd_Machine_setFrame ⟨rm_hi, rm_lo (Nat.le_of_ble_eq_true rfl)⟩) hK hP hD hS hA hnw henv (Nat.le_of_ble_eq_true rfl) rfl rfl hl.1 rfl (Nat.le_of_ble_eq_true rfl) d_Machine_enter_110 ⟨Nat.le_refl _, Nat.le_refl _⟩ (fun H locs hP hD hS => ?_)
        clear hc13
        refine lv_iconst (v := 1) hx hb d_Machine_enter_113 (by decide) ?_
        refine lv_istore (lv' := [(5, .int (1 : Int32)), (4, .int z6), (3, .int z5), (0, .ref (ad 10)), (1, .int p1), (2, .int p2)]) hx hb d_Machine_enter_114 hl (by decide) rfl (fun ls hl => ?_)
        have g := lb_116 nf T13 p1 p2 z5 z6 (1 : Int32) hR
        rw [hG] at g
        exact g _ _ hP hD hS _ (lv_sub hl [3, 4, 5, 2, 1, 0] rfl)
      · replace hR := if_n c3 hR
        refine lv_aload_n hx hb d_Machine_enter_25 rfl (lv_at hl 0 rfl) ?_
        refine lv_iconst (v := 5) hx hb d_Machine_enter_26 (by decide) ?_
        refine wr_Machine_44 hx hb hT hown hK hP hD hS d_Machine_enter_27 (fun T14 eT H locs hP hD hS => ?_)
        replace hR := stK_e eT hR
        clear eT
        obtain ⟨-, -, e3⟩ := re_e hR
        subst e3
        exact W.vret hx hb hr (fun t ht hW => ⟨⟨(), rfl, trivial, by rw [ht]; exact hP, va_K.moved hW.alike hK, hD⟩, hS.F ht⟩) hS.2.2 d_Machine_enter_30
    · replace hR := if_n c2 hR
      obtain ⟨-, -, e3⟩ := re_e hR
      subst e3
      exact W.vret hx hb hr (fun t ht hW => ⟨⟨(), rfl, trivial, by rw [ht]; exact hP, va_K.moved hW.alike hK, hD⟩, hS.F ht⟩) hS.2.2 d_Machine_enter_15
set_option maxHeartbeats 4000000 in
set_option maxRecDepth 100000 in
theorem sp_Machine_leave (l : Launch) (dC : Nat → ClassId) (dI : Nat → Nat → Nat) (ea ev ad : Nat → Nat) (km : Nat → ClassId) (F : gF) (nf d : Nat) (h_Machine_frame : mt_Machine_frame l dC dI ea ev ad km F d) (h_Memory_closeFrom : mt_Memory_closeFrom l dC dI ea ev ad km F d) (h_Machine_wordAt : mt_Machine_wordAt l dC dI ea ev ad km F d) (h_Machine_setWord : mt_Machine_setWord l dC dI ea ev ad km F d) (T0 : gSt) (p1 : Int32) (r0 : Int32) (rl0 : Int64) (T9 : gSt) (hR : rb_Machine_leave F nf T0 p1 = some (r0, rl0, T9)) : GMv l dC dI LH ad km ea ev y_Machine_leave w_Machine_leave (rmD (d + 1)) [.ref (ad 10), .int p1] T0 T9 := by
  intro sz
  refine Met.ofW (cc := b_Machine_leave) (maxL := 5) (ret := none) (by decide) rfl ?_
  intro p e s m args below meth c s₁ B hml hv
  obtain ⟨rfl, hsz, hP, hK, hD0, hnw, henv⟩ := hv
  have hx := B.exec
  have hb := B.bytes
  have hr := B.returns
  have hT : ∀ w ∈ lw_good, w.before _ s = true := fun w h => atoms_spec (ws := w_Machine_leave) B.pre w (List.mem_cons_of_mem _ h)
  have hown : s.vm.findClass R_Machine = some m.cls := findClass_of_methodNamed B.named
  subst hsz
  have hD := hD0.self (sz := s.heap.size)
  clear hD0
  generalize hAe : va_A (gW LH ad km T0) s.heap.size = A at hD henv ⊢
  have hA : ∀ q : Nat, s.heap.size ≤ q → A q := fun q h => by rw [← hAe]; exact Or.inr h
  have hS : va_S A s.heap s.heap [] := va_S.rf
  have hl := lv_entry ([.ref (ad 10), .int p1]) (n := 5) (Nat.le_of_ble_eq_true rfl)
  rw [lg_entry_eq]
  generalize (lg_sl ([.ref (ad 10), .int p1]) ++ List.replicate (5 - (lg_sl ([.ref (ad 10), .int p1])).length) Slot.unset).toArray = ls at hl ⊢
  have hl : lv_has ls 5 [(0, .ref (ad 10)), (1, .int p1)] := hl
  obtain ⟨G, hG⟩ : ∃ G : Nat → List (Nat × Value) → List Value → gSt → Prop, G = (fun pc lv stk T => ∀ (H : Heap) (locs : List Loc), va_P (dC, dI) cls_all (gW LH ad km T) H → va_D A (gW LH ad km T) → va_S A s.heap H locs → ∀ (ls : Array Slot), lv_has ls 5 lv → W p l e (headSpec w_Machine_leave (rmD (d + 1))).room s m ([.ref (ad 10), .int p1] : List Value).toArray below meth c H locs 0 0 (MQ below (va_Qv (fun (_ : Unit) => True) (fun _ t => gPost dC dI LH ad km T9 A t) A) ([.ref (ad 10), .int p1] : List Value).toArray s 0 0 A) (F0 m pc ls stk)) := ⟨_, rfl⟩
  have lb_16 : ∀ (n : Nat) (T : gSt) (x1 : Int32) (x2 : Int32) (x3 : Int32) (x4 : Int32), rl_Machine_leave_16 F nf n T x1 x2 x3 x4 = some (r0, rl0, T9) → G 16 [(0, .ref (ad 10)), (1, .int x1), (2, .int x2), (3, .int x3), (4, .int x4)] [] T := by
    intro n
    induction n with
    | zero => intro T x1 x2 x3 x4 hR; rw [rl_Machine_leave_16] at hR; cases hR
    | succ n ih =>
      intro T x1 x2 x3 x4 hR; rw [rl_Machine_leave_16] at hR; rw [hG]; intro H locs hP hD hS ls hl
      refine lv_iload hx hb d_Machine_leave_16 (lv_at hl 4 rfl) ?_
      refine lv_iload_n hx hb d_Machine_leave_18 rfl (lv_at hl 1 rfl) ?_
      refine lv_icmp_ge (tgt := 44) hx hb d_Machine_leave_19 (by decide) (fun c3 => ?_) (fun c3 => ?_)
      · replace hR := if_p c3 hR
        refine lv_aload_n hx hb d_Machine_leave_44 rfl (lv_at hl 0 rfl) ?_
        refine lv_iload_n hx hb d_Machine_leave_45 rfl (lv_at hl 2 rfl) ?_
        refine lv_iload_n hx hb d_Machine_leave_46 rfl (lv_at hl 1 rfl) ?_
        refine lv_iadd hx hb d_Machine_leave_47 ?_
        refine wr_Machine_52 hx hb hT hown hK hP hD hS d_Machine_leave_48 (fun T4 eT H locs hP hD hS => ?_)
        replace hR := stK_e eT hR
        clear eT
        refine lv_aload_n hx hb d_Machine_leave_51 rfl (lv_at hl 0 rfl) ?_
        refine rd_Machine_16 hx hb hT hown hK hP d_Machine_leave_52 ?_
        refine lv_aload_n hx hb d_Machine_leave_55 rfl (lv_at hl 0 rfl) ?_
        refine lv_iconst (v := 3) hx hb d_Machine_leave_56 (by decide) ?_
        replace hR := bi_e hR
        obtain ⟨r5, l5, T5, hc5, hR⟩ := hR
        refine gcV_i (rest := [.ref (ad 11)]) ⟨hx, hb, hml, hown, hT⟩ (h_Machine_frame _ _ _ _ _ hc5) (cwV 1 hT (gV ml_Machine_136 im_Machine_frame se_Machine_frame ini_Machine co_Machine_frame) rfl rfl rfl pd_Machine_frame ⟨rm_hi, rm_lo (Nat.le_of_ble_eq_true rfl)⟩) hK hP hD hS hA hnw henv (Nat.le_of_ble_eq_true rfl) rfl rfl hl.1 rfl (Nat.le_of_ble_eq_true rfl) d_Machine_leave_57 ⟨Nat.le_refl _, Nat.le_refl _⟩ (fun H locs hP hD hS => ?_)
        clear hc5
        replace hR := bi_e hR
        obtain ⟨r6, l6, T6, hc6, hR⟩ := hR
        refine gcV_v (rest := []) ⟨hx, hb, hml, hown, hT⟩ (h_Memory_closeFrom _ _ _ _ _ hc6) (cwV 1 hT (gV ml_Machine_198 im_Memory_closeFrom se_Memory_closeFrom ini_Memory co_Memory_closeFrom) rfl rfl rfl pd_Memory_closeFrom ⟨rm_hi, rm_lo (Nat.le_of_ble_eq_true rfl)⟩) hK hP hD hS hA hnw henv (Nat.le_of_ble_eq_true rfl) rfl rfl hl.1 rfl (Nat.le_of_ble_eq_true rfl) d_Machine_leave_60 ⟨Nat.le_refl _, Nat.le_refl _⟩ (fun H locs hP hD hS => ?_)
        clear hc6
        refine lv_aload_n hx hb d_Machine_leave_63 rfl (lv_at hl 0 rfl) ?_
        refine lv_aload_n hx hb d_Machine_leave_64 rfl (lv_at hl 0 rfl) ?_
        refine lv_iconst (v := 4) hx hb d_Machine_leave_65 (by decide) ?_
        replace hR := bi_e hR
        obtain ⟨r7, l7, T7, hc7, hR⟩ := hR
        refine gcV_i (rest := [.ref (ad 10)]) ⟨hx, hb, hml, hown, hT⟩ (h_Machine_frame _ _ _ _ _ hc7) (cwV 1 hT (gV ml_Machine_136 im_Machine_frame se_Machine_frame ini_Machine co_Machine_frame) rfl rfl rfl pd_Machine_frame ⟨rm_hi, rm_lo (Nat.le_of_ble_eq_true rfl)⟩) hK hP hD hS hA hnw henv (Nat.le_of_ble_eq_true rfl) rfl rfl hl.1 rfl (Nat.le_of_ble_eq_true rfl) d_Machine_leave_66 ⟨Nat.le_refl _, Nat.le_refl _⟩ (fun H locs hP hD hS => ?_)
        clear hc7
        refine wr_Machine_58 hx hb hT hown hK hP hD hS d_Machine_leave_69 (fun T8 eT H locs hP hD hS => ?_)
        replace hR := stK_e eT hR
        clear eT
        refine lv_aload_n hx hb d_Machine_leave_72 rfl (lv_at hl 0 rfl) ?_
        refine lv_aload_n hx hb d_Machine_leave_73 rfl (lv_at hl 0 rfl) ?_
        refine lv_iconst (v := 0) hx hb d_Machine_leave_74 (by decide) ?_
        replace hR := bi_e hR
        obtain ⟨r9, l9, T9, hc9, hR⟩ := hR
        refine gcV_i (rest := [.ref (ad 10)]) ⟨hx, hb, hml, hown, hT⟩ (h_Machine_frame _ _ _ _ _ hc9) (cwV 1 hT (gV ml_Machine_136 im_Machine_frame se_Machine_frame ini_Machine co_Machine_frame) rfl rfl rfl pd_Machine_frame ⟨rm_hi, rm_lo (Nat.le_of_ble_eq_true rfl)⟩) hK hP hD hS hA hnw henv (Nat.le_of_ble_eq_true rfl) rfl rfl hl.1 rfl (Nat.le_of_ble_eq_true rfl) d_Machine_leave_75 ⟨Nat.le_refl _, Nat.le_refl _⟩ (fun H locs hP hD hS => ?_)
        clear hc9
        refine wr_Machine_61 hx hb hT hown hK hP hD hS d_Machine_leave_78 (fun T10 eT H locs hP hD hS => ?_)
        replace hR := stK_e eT hR
        clear eT
        refine lv_aload_n hx hb d_Machine_leave_81 rfl (lv_at hl 0 rfl) ?_
        refine lv_iconst (v := 0) hx hb d_Machine_leave_82 (by decide) ?_
        refine lv_aload_n hx hb d_Machine_leave_83 rfl (lv_at hl 0 rfl) ?_
        refine rd_Machine_55 hx hb hT hown hK hP d_Machine_leave_84 ?_
        refine lv_iconst (v := 1) hx hb d_Machine_leave_87 (by decide) ?_
        refine lv_isub hx hb d_Machine_leave_88 ?_
        refine va_mmax hx hb (hml.trans hl.1.symm) hown (hT _ ml_Machine_149) (hT _ st_Math_max) (hT _ ini_Math) (hT _ co_Math_max) rm_f1 (rm_l1 (Nat.le_of_ble_eq_true rfl)) (Nat.le_refl _) (Nat.le_refl _) d_Machine_leave_89 ?_
        refine wr_Machine_55 hx hb hT hown hK hP hD hS d_Machine_leave_92 (fun T11 eT H locs hP hD hS => ?_)
        replace hR := stK_e eT hR
        clear eT
        refine lv_aload_n hx hb d_Machine_leave_95 rfl (lv_at hl 0 rfl) ?_
        refine rd_Machine_55 hx hb hT hown hK hP d_Machine_leave_96 ?_
        refine lv_if_ne (tgt := 107) hx hb d_Machine_leave_99 (by decide) (fun c12 => ?_) (fun c12 => ?_)
        · replace hR := if_n c12 hR
          obtain ⟨-, -, e3⟩ := re_e hR
          subst e3
          exact W.vret hx hb hr (fun t ht hW => ⟨⟨(), rfl, trivial, by rw [ht]; exact hP, va_K.moved hW.alike hK, hD⟩, hS.F ht⟩) hS.2.2 d_Machine_leave_107
        · replace hR := if_p c12 hR
          refine lv_aload_n hx hb d_Machine_leave_102 rfl (lv_at hl 0 rfl) ?_
          refine lv_iconst (v := 2) hx hb d_Machine_leave_103 (by decide) ?_
          refine wr_Machine_44 hx hb hT hown hK hP hD hS d_Machine_leave_104 (fun T13 eT H locs hP hD hS => ?_)
          replace hR := stK_e eT hR
          clear eT
          obtain ⟨-, -, e3⟩ := re_e hR
          subst e3
          exact W.vret hx hb hr (fun t ht hW => ⟨⟨(), rfl, trivial, by rw [ht]; exact hP, va_K.moved hW.alike hK, hD⟩, hS.F ht⟩) hS.2.2 d_Machine_leave_107
      · replace hR := if_n c3 hR
        refine lv_aload_n hx hb d_Machine_leave_22 rfl (lv_at hl 0 rfl) ?_
        refine lv_iload_n hx hb d_Machine_leave_23 rfl (lv_at hl 2 rfl) ?_
        refine lv_iload hx hb d_Machine_leave_24 (lv_at hl 4 rfl) ?_
        refine lv_iadd hx hb d_Machine_leave_26 ?_
        refine lv_aload_n hx hb d_Machine_leave_27 rfl (lv_at hl 0 rfl) ?_
        refine lv_iload_n hx hb d_Machine_leave_28 rfl (lv_at hl 3 rfl) ?_
        refine lv_iload hx hb d_Machine_leave_29 (lv_at hl 4 rfl) ?_
        refine lv_iadd hx hb d_Machine_leave_31 ?_
        replace hR := bi_e hR
        obtain ⟨r14, l14, T14, hc14, hR⟩ := hR
        refine gcV_i (rest := [.int (x2 + x4), .ref (ad 10)]) ⟨hx, hb, hml, hown, hT⟩ (h_Machine_wordAt _ _ _ _ _ hc14) (cwV 1 hT (gV ml_Machine_139 im_Machine_wordAt se_Machine_wordAt ini_Machine co_Machine_wordAt) rfl rfl rfl pd_Machine_wordAt ⟨rm_hi, rm_lo (Nat.le_of_ble_eq_true rfl)⟩) hK hP hD hS hA hnw henv (Nat.le_of_ble_eq_true rfl) rfl rfl hl.1 rfl (Nat.le_of_ble_eq_true rfl) d_Machine_leave_32 ⟨Nat.le_refl _, Nat.le_refl _⟩ (fun H locs hP hD hS => ?_)
        clear hc14
        replace hR := bi_e hR
        obtain ⟨r15, l15, T15, hc15, hR⟩ := hR
        refine gcV_v (rest := []) ⟨hx, hb, hml, hown, hT⟩ (h_Machine_setWord _ _ _ _ _ _ hc15) (cwV 2 hT (gV ml_Machine_146 im_Machine_setWord se_Machine_setWord ini_Machine co_Machine_setWord) rfl rfl rfl pd_Machine_setWord ⟨rm_hi, rm_lo (Nat.le_of_ble_eq_true rfl)⟩) hK hP hD hS hA hnw henv (Nat.le_of_ble_eq_true rfl) rfl rfl hl.1 rfl (Nat.le_of_ble_eq_true rfl) d_Machine_leave_35 ⟨Nat.le_refl _, Nat.le_refl _⟩ (fun H locs hP hD hS => ?_)
        clear hc15
        obtain ⟨z16, e16⟩ : ∃ y : Int32, y = x4 + (1 : Int32) := ⟨_, rfl⟩
        replace hR := vK_e e16 hR
        refine lv_iinc (v := z16) (lv' := [(4, .int z16), (0, .ref (ad 10)), (1, .int x1), (2, .int x2), (3, .int x3)]) hx hb d_Machine_leave_38 hl (k := 4) rfl (by rw [e16]; rfl) (by decide) rfl (fun ls hl => ?_)
        refine lv_goto (tgt := 16) hx hb d_Machine_leave_41 (by decide) ?_
        have g := ih T15 x1 x2 x3 z16 hR
        rw [hG] at g
        exact g _ _ hP hD hS _ (lv_sub hl [1, 2, 3, 4, 0] rfl)
  unfold rb_Machine_leave at hR
  refine lv_aload_n hx hb d_Machine_leave_0 rfl (lv_at hl 0 rfl) ?_
  refine lv_iconst (v := 1) hx hb d_Machine_leave_1 (by decide) ?_
  replace hR := bi_e hR
  obtain ⟨r1, l1, T1, hc1, hR⟩ := hR
  refine gcV_i (rest := []) ⟨hx, hb, hml, hown, hT⟩ (h_Machine_frame _ _ _ _ _ hc1) (cwV 1 hT (gV ml_Machine_136 im_Machine_frame se_Machine_frame ini_Machine co_Machine_frame) rfl rfl rfl pd_Machine_frame ⟨rm_hi, rm_lo (Nat.le_of_ble_eq_true rfl)⟩) hK hP hD hS hA hnw henv (Nat.le_of_ble_eq_true rfl) rfl rfl hl.1 rfl (Nat.le_of_ble_eq_true rfl) d_Machine_leave_2 ⟨Nat.le_refl _, Nat.le_refl _⟩ (fun H locs hP hD hS => ?_)
  clear hc1
  refine lv_istore_n (lv' := [(2, .int r1), (0, .ref (ad 10)), (1, .int p1)]) hx hb d_Machine_leave_5 rfl hl (by decide) rfl (fun ls hl => ?_)
  refine lv_aload_n hx hb d_Machine_leave_6 rfl (lv_at hl 1 rfl) ?_
  refine rd_Machine_52 hx hb hT hown hK hP d_Machine_leave_7 ?_
  refine lv_iload_n hx hb d_Machine_leave_10 rfl (lv_at hl 2 rfl) ?_
  refine lv_isub hx hb d_Machine_leave_11 ?_
  refine lv_topi (fun z2 e2 => ?_)
  replace hR := vK_e e2 hR
  refine lv_istore_n (lv' := [(3, .int z2), (2, .int r1), (0, .ref (ad 10)), (1, .int p1)]) hx hb d_Machine_leave_12 rfl hl (by decide) rfl (fun ls hl => ?_)
  refine lv_iconst (v := 0) hx hb d_Machine_leave_13 (by decide) ?_
  refine lv_istore (lv' := [(4, .int (0 : Int32)), (3, .int z2), (2, .int r1), (0, .ref (ad 10)), (1, .int p1)]) hx hb d_Machine_leave_14 hl (by decide) rfl (fun ls hl => ?_)
  have g := lb_16 nf T1 p1 r1 z2 (0 : Int32) hR
  rw [hG] at g
  exact g _ _ hP hD hS _ (lv_sub hl [3, 4, 2, 1, 0] rfl)
set_option maxHeartbeats 4000000 in
set_option maxRecDepth 100000 in
theorem sp_Machine_placeOfStep (l : Launch) (dC : Nat → ClassId) (dI : Nat → Nat → Nat) (ea ev ad : Nat → Nat) (km : Nat → ClassId) (F : gF) (nf d : Nat) (h_Machine_frame : mt_Machine_frame l dC dI ea ev ad km F d) (h_Code_firstAt : mt_Code_firstAt l dC dI ea ev ad km F d) (T0 : gSt) (r0 : Int32) (rl0 : Int64) (T9 : gSt) (hR : rb_Machine_placeOfStep F nf T0 = some (r0, rl0, T9)) : GMi l dC dI LH ad km ea ev y_Machine_placeOfStep w_Machine_placeOfStep (rmD (d + 1)) [.ref (ad 10)] T0 r0 T9 := by
  intro sz
  refine Met.ofW (cc := b_Machine_placeOfStep) (maxL := 1) (ret := (some .int)) (by decide) rfl ?_
  intro p e s m args below meth c s₁ B hml hv
  obtain ⟨rfl, hsz, hP, hK, hD0, hnw, henv⟩ := hv
  have hx := B.exec
  have hb := B.bytes
  have hr := B.returns
  have hT : ∀ w ∈ lw_good, w.before _ s = true := fun w h => atoms_spec (ws := w_Machine_placeOfStep) B.pre w (List.mem_cons_of_mem _ h)
  have hown : s.vm.findClass R_Machine = some m.cls := findClass_of_methodNamed B.named
  subst hsz
  have hD := hD0.self (sz := s.heap.size)
  clear hD0
  generalize hAe : va_A (gW LH ad km T0) s.heap.size = A at hD henv ⊢
  have hA : ∀ q : Nat, s.heap.size ≤ q → A q := fun q h => by rw [← hAe]; exact Or.inr h
  have hS : va_S A s.heap s.heap [] := va_S.rf
  have hl := lv_entry ([.ref (ad 10)]) (n := 1) (Nat.le_of_ble_eq_true rfl)
  rw [lg_entry_eq]
  generalize (lg_sl ([.ref (ad 10)]) ++ List.replicate (1 - (lg_sl ([.ref (ad 10)])).length) Slot.unset).toArray = ls at hl ⊢
  have hl : lv_has ls 1 [(0, .ref (ad 10))] := hl
  unfold rb_Machine_placeOfStep at hR
  refine lv_aload_n hx hb d_Machine_placeOfStep_0 rfl (lv_at hl 0 rfl) ?_
  refine rd_Machine_44 hx hb hT hown hK hP d_Machine_placeOfStep_1 ?_
  refine lv_iconst (v := 1) hx hb d_Machine_placeOfStep_4 (by decide) ?_
  refine lv_icmp_ne (tgt := 20) hx hb d_Machine_placeOfStep_5 (by decide) (fun c1 => ?_) (fun c1 => ?_)
  · replace hR := if_n c1 hR
    refine lv_aload_n hx hb d_Machine_placeOfStep_20 rfl (lv_at hl 0 rfl) ?_
    refine rd_Machine_44 hx hb hT hown hK hP d_Machine_placeOfStep_21 ?_
    refine lv_if_eq (tgt := 35) hx hb d_Machine_placeOfStep_24 (by decide) (fun c2 => ?_) (fun c2 => ?_)
    · replace hR := if_p c2 hR
      refine lv_iconst (v := (-1)) hx hb d_Machine_placeOfStep_35 (by decide) ?_
      refine lv_goto (tgt := 44) hx hb d_Machine_placeOfStep_36 (by decide) ?_
      obtain ⟨e1, -, e3⟩ := re_e hR
      subst e1; subst e3
      exact W.iret (v := (-1 : Int32)) hx hb hr (fun t ht hW => ⟨⟨(-1 : Int32), (), rfl, rfl, by rw [ht]; exact hP, va_K.moved hW.alike hK, hD⟩, hS.F ht⟩) hS.2.2 d_Machine_placeOfStep_44
    · replace hR := if_n c2 hR
      refine lv_aload_n hx hb d_Machine_placeOfStep_27 rfl (lv_at hl 0 rfl) ?_
      refine rd_Machine_44 hx hb hT hown hK hP d_Machine_placeOfStep_28 ?_
      refine lv_iconst (v := 2) hx hb d_Machine_placeOfStep_31 (by decide) ?_
      refine lv_icmp_ne (tgt := 39) hx hb d_Machine_placeOfStep_32 (by decide) (fun c4 => ?_) (fun c4 => ?_)
      · replace hR := if_n c4 hR
        refine lv_aload_n hx hb d_Machine_placeOfStep_39 rfl (lv_at hl 0 rfl) ?_
        refine lv_iconst (v := 2) hx hb d_Machine_placeOfStep_40 (by decide) ?_
        replace hR := bi_e hR
        obtain ⟨r5, l5, T5, hc5, hR⟩ := hR
        refine gcV_i (rest := []) ⟨hx, hb, hml, hown, hT⟩ (h_Machine_frame _ _ _ _ _ hc5) (cwV 1 hT (gV ml_Machine_136 im_Machine_frame se_Machine_frame ini_Machine co_Machine_frame) rfl rfl rfl pd_Machine_frame ⟨rm_hi, rm_lo (Nat.le_of_ble_eq_true rfl)⟩) hK hP hD hS hA hnw henv (Nat.le_of_ble_eq_true rfl) rfl rfl hl.1 rfl (Nat.le_of_ble_eq_true rfl) d_Machine_placeOfStep_41 ⟨Nat.le_refl _, Nat.le_refl _⟩ (fun H locs hP hD hS => ?_)
        clear hc5
        obtain ⟨e1, -, e3⟩ := re_e hR
        subst e1; subst e3
        exact W.iret (v := r5) hx hb hr (fun t ht hW => ⟨⟨r5, (), rfl, rfl, by rw [ht]; exact hP, va_K.moved hW.alike hK, hD⟩, hS.F ht⟩) hS.2.2 d_Machine_placeOfStep_44
      · replace hR := if_p c4 hR
        refine lv_iconst (v := (-1)) hx hb d_Machine_placeOfStep_35 (by decide) ?_
        refine lv_goto (tgt := 44) hx hb d_Machine_placeOfStep_36 (by decide) ?_
        obtain ⟨e1, -, e3⟩ := re_e hR
        subst e1; subst e3
        exact W.iret (v := (-1 : Int32)) hx hb hr (fun t ht hW => ⟨⟨(-1 : Int32), (), rfl, rfl, by rw [ht]; exact hP, va_K.moved hW.alike hK, hD⟩, hS.F ht⟩) hS.2.2 d_Machine_placeOfStep_44
  · replace hR := if_p c1 hR
    refine lv_aload_n hx hb d_Machine_placeOfStep_8 rfl (lv_at hl 0 rfl) ?_
    refine rd_Machine_36 hx hb hT hown hK hP d_Machine_placeOfStep_9 ?_
    refine lv_aload_n hx hb d_Machine_placeOfStep_12 rfl (lv_at hl 0 rfl) ?_
    refine rd_Machine_61 hx hb hT hown hK hP d_Machine_placeOfStep_13 ?_
    replace hR := bi_e hR
    obtain ⟨r8, l8, T8, hc8, hR⟩ := hR
    refine gcV_i (rest := []) ⟨hx, hb, hml, hown, hT⟩ (h_Code_firstAt _ _ _ _ _ hc8) (cwV 1 hT (gV ml_Machine_97 im_Code_firstAt se_Code_firstAt ini_Code co_Code_firstAt) rfl rfl rfl pd_Code_firstAt ⟨rm_hi, rm_lo (Nat.le_of_ble_eq_true rfl)⟩) hK hP hD hS hA hnw henv (Nat.le_of_ble_eq_true rfl) rfl rfl hl.1 rfl (Nat.le_of_ble_eq_true rfl) d_Machine_placeOfStep_16 ⟨Nat.le_refl _, Nat.le_refl _⟩ (fun H locs hP hD hS => ?_)
    clear hc8
    obtain ⟨e1, -, e3⟩ := re_e hR
    subst e1; subst e3
    exact W.iret (v := r8) hx hb hr (fun t ht hW => ⟨⟨r8, (), rfl, rfl, by rw [ht]; exact hP, va_K.moved hW.alike hK, hD⟩, hS.F ht⟩) hS.2.2 d_Machine_placeOfStep_19
set_option maxHeartbeats 4000000 in
set_option maxRecDepth 100000 in
theorem sp_Machine_tell (l : Launch) (dC : Nat → ClassId) (dI : Nat → Nat → Nat) (ea ev ad : Nat → Nat) (km : Nat → ClassId) (F : gF) (nf d : Nat) (h_Memory_pagesInUse : mt_Memory_pagesInUse l dC dI ea ev ad km F d) (h_Memory_regionCount : mt_Memory_regionCount l dC dI ea ev ad km F d) (h_Memory_objectsMade : mt_Memory_objectsMade l dC dI ea ev ad km F d) (h_Memory_strayTouches : mt_Memory_strayTouches l dC dI ea ev ad km F d) (T0 : gSt) (p1 : Int32) (r0 : Int32) (rl0 : Int64) (T9 : gSt) (hR : rb_Machine_tell F nf T0 p1 = some (r0, rl0, T9)) : GMi l dC dI LH ad km ea ev y_Machine_tell w_Machine_tell (rmD (d + 1)) [.ref (ad 10), .int p1] T0 r0 T9 := by
  intro sz
  refine Met.ofW (cc := b_Machine_tell) (maxL := 2) (ret := (some .int)) (by decide) rfl ?_
  intro p e s m args below meth c s₁ B hml hv
  obtain ⟨rfl, hsz, hP, hK, hD0, hnw, henv⟩ := hv
  have hx := B.exec
  have hb := B.bytes
  have hr := B.returns
  have hT : ∀ w ∈ lw_good, w.before _ s = true := fun w h => atoms_spec (ws := w_Machine_tell) B.pre w (List.mem_cons_of_mem _ h)
  have hown : s.vm.findClass R_Machine = some m.cls := findClass_of_methodNamed B.named
  subst hsz
  have hD := hD0.self (sz := s.heap.size)
  clear hD0
  generalize hAe : va_A (gW LH ad km T0) s.heap.size = A at hD henv ⊢
  have hA : ∀ q : Nat, s.heap.size ≤ q → A q := fun q h => by rw [← hAe]; exact Or.inr h
  have hS : va_S A s.heap s.heap [] := va_S.rf
  have hl := lv_entry ([.ref (ad 10), .int p1]) (n := 2) (Nat.le_of_ble_eq_true rfl)
  rw [lg_entry_eq]
  generalize (lg_sl ([.ref (ad 10), .int p1]) ++ List.replicate (2 - (lg_sl ([.ref (ad 10), .int p1])).length) Slot.unset).toArray = ls at hl ⊢
  have hl : lv_has ls 2 [(0, .ref (ad 10)), (1, .int p1)] := hl
  unfold rb_Machine_tell at hR
  refine lv_iload_n hx hb d_Machine_tell_0 rfl (lv_at hl 1 rfl) ?_
  by_cases c1 : p1 = (0 : Int32)
  · replace hR := if_p c1 hR
    refine lv_tableIn (off := 47) (tgt := 48) hx hb d_Machine_tell_1 (by rw [c1]; decide) (by rw [c1]; decide) (by rw [c1]; decide) (by decide) ?_
    refine lv_aload_n hx hb d_Machine_tell_48 rfl (lv_at hl 0 rfl) ?_
    refine rd_Machine_67 hx hb hT hown hK hP d_Machine_tell_49 ?_
    obtain ⟨e1, -, e3⟩ := re_e hR
    subst e1; subst e3
    exact W.iret (v := T0.1 108 0) hx hb hr (fun t ht hW => ⟨⟨T0.1 108 0, (), rfl, rfl, by rw [ht]; exact hP, va_K.moved hW.alike hK, hD⟩, hS.F ht⟩) hS.2.2 d_Machine_tell_52
  replace hR := if_n c1 hR
  by_cases c3 : p1 = (1 : Int32)
  · replace hR := if_p c3 hR
    refine lv_tableIn (off := 52) (tgt := 53) hx hb d_Machine_tell_1 (by rw [c3]; decide) (by rw [c3]; decide) (by rw [c3]; decide) (by decide) ?_
    refine lv_aload_n hx hb d_Machine_tell_53 rfl (lv_at hl 0 rfl) ?_
    refine rd_Machine_16 hx hb hT hown hK hP d_Machine_tell_54 ?_
    replace hR := bi_e hR
    obtain ⟨r4, l4, T4, hc4, hR⟩ := hR
    refine gcV_i (rest := []) ⟨hx, hb, hml, hown, hT⟩ (h_Memory_pagesInUse _ _ _ _ hc4) (cwV 0 hT (gV ml_Machine_227 im_Memory_pagesInUse se_Memory_pagesInUse ini_Memory co_Memory_pagesInUse) rfl rfl rfl pd_Memory_pagesInUse ⟨rm_hi, rm_lo (Nat.le_of_ble_eq_true rfl)⟩) hK hP hD hS hA hnw henv (Nat.le_of_ble_eq_true rfl) rfl rfl hl.1 rfl (Nat.le_of_ble_eq_true rfl) d_Machine_tell_57 ⟨Nat.le_refl _, Nat.le_refl _⟩ (fun H locs hP hD hS => ?_)
    clear hc4
    obtain ⟨e1, -, e3⟩ := re_e hR
    subst e1; subst e3
    exact W.iret (v := r4) hx hb hr (fun t ht hW => ⟨⟨r4, (), rfl, rfl, by rw [ht]; exact hP, va_K.moved hW.alike hK, hD⟩, hS.F ht⟩) hS.2.2 d_Machine_tell_60
  replace hR := if_n c3 hR
  by_cases c6 : p1 = (2 : Int32)
  · replace hR := if_p c6 hR
    refine lv_tableIn (off := 60) (tgt := 61) hx hb d_Machine_tell_1 (by rw [c6]; decide) (by rw [c6]; decide) (by rw [c6]; decide) (by decide) ?_
    refine lv_aload_n hx hb d_Machine_tell_61 rfl (lv_at hl 0 rfl) ?_
    refine rd_Machine_16 hx hb hT hown hK hP d_Machine_tell_62 ?_
    replace hR := bi_e hR
    obtain ⟨r7, l7, T7, hc7, hR⟩ := hR
    refine gcV_i (rest := []) ⟨hx, hb, hml, hown, hT⟩ (h_Memory_regionCount _ _ _ _ hc7) (cwV 0 hT (gV ml_Machine_207 im_Memory_regionCount se_Memory_regionCount ini_Memory co_Memory_regionCount) rfl rfl rfl pd_Memory_regionCount ⟨rm_hi, rm_lo (Nat.le_of_ble_eq_true rfl)⟩) hK hP hD hS hA hnw henv (Nat.le_of_ble_eq_true rfl) rfl rfl hl.1 rfl (Nat.le_of_ble_eq_true rfl) d_Machine_tell_65 ⟨Nat.le_refl _, Nat.le_refl _⟩ (fun H locs hP hD hS => ?_)
    clear hc7
    obtain ⟨e1, -, e3⟩ := re_e hR
    subst e1; subst e3
    exact W.iret (v := r7) hx hb hr (fun t ht hW => ⟨⟨r7, (), rfl, rfl, by rw [ht]; exact hP, va_K.moved hW.alike hK, hD⟩, hS.F ht⟩) hS.2.2 d_Machine_tell_68
  replace hR := if_n c6 hR
  by_cases c9 : p1 = (3 : Int32)
  · replace hR := if_p c9 hR
    refine lv_tableIn (off := 68) (tgt := 69) hx hb d_Machine_tell_1 (by rw [c9]; decide) (by rw [c9]; decide) (by rw [c9]; decide) (by decide) ?_
    refine lv_aload_n hx hb d_Machine_tell_69 rfl (lv_at hl 0 rfl) ?_
    refine rd_Machine_55 hx hb hT hown hK hP d_Machine_tell_70 ?_
    obtain ⟨e1, -, e3⟩ := re_e hR
    subst e1; subst e3
    exact W.iret (v := T0.1 102 0) hx hb hr (fun t ht hW => ⟨⟨T0.1 102 0, (), rfl, rfl, by rw [ht]; exact hP, va_K.moved hW.alike hK, hD⟩, hS.F ht⟩) hS.2.2 d_Machine_tell_73
  replace hR := if_n c9 hR
  by_cases c11 : p1 = (4 : Int32)
  · replace hR := if_p c11 hR
    refine lv_tableIn (off := 73) (tgt := 74) hx hb d_Machine_tell_1 (by rw [c11]; decide) (by rw [c11]; decide) (by rw [c11]; decide) (by decide) ?_
    refine lv_aload_n hx hb d_Machine_tell_74 rfl (lv_at hl 0 rfl) ?_
    refine rd_Machine_76 hx hb hT hown hK hP d_Machine_tell_75 ?_
    obtain ⟨e1, -, e3⟩ := re_e hR
    subst e1; subst e3
    exact W.iret (v := T0.1 113 0) hx hb hr (fun t ht hW => ⟨⟨T0.1 113 0, (), rfl, rfl, by rw [ht]; exact hP, va_K.moved hW.alike hK, hD⟩, hS.F ht⟩) hS.2.2 d_Machine_tell_78
  replace hR := if_n c11 hR
  by_cases c13 : p1 = (5 : Int32)
  · replace hR := if_p c13 hR
    refine lv_tableIn (off := 78) (tgt := 79) hx hb d_Machine_tell_1 (by rw [c13]; decide) (by rw [c13]; decide) (by rw [c13]; decide) (by decide) ?_
    refine lv_aload_n hx hb d_Machine_tell_79 rfl (lv_at hl 0 rfl) ?_
    refine rd_Machine_16 hx hb hT hown hK hP d_Machine_tell_80 ?_
    replace hR := bi_e hR
    obtain ⟨r14, l14, T14, hc14, hR⟩ := hR
    refine gcV_i (rest := []) ⟨hx, hb, hml, hown, hT⟩ (h_Memory_objectsMade _ _ _ _ hc14) (cwV 0 hT (gV ml_Machine_230 im_Memory_objectsMade se_Memory_objectsMade ini_Memory co_Memory_objectsMade) rfl rfl rfl pd_Memory_objectsMade ⟨rm_hi, rm_lo (Nat.le_of_ble_eq_true rfl)⟩) hK hP hD hS hA hnw henv (Nat.le_of_ble_eq_true rfl) rfl rfl hl.1 rfl (Nat.le_of_ble_eq_true rfl) d_Machine_tell_83 ⟨Nat.le_refl _, Nat.le_refl _⟩ (fun H locs hP hD hS => ?_)
    clear hc14
    obtain ⟨e1, -, e3⟩ := re_e hR
    subst e1; subst e3
    exact W.iret (v := r14) hx hb hr (fun t ht hW => ⟨⟨r14, (), rfl, rfl, by rw [ht]; exact hP, va_K.moved hW.alike hK, hD⟩, hS.F ht⟩) hS.2.2 d_Machine_tell_86
  replace hR := if_n c13 hR
  by_cases c16 : p1 = (6 : Int32)
  · replace hR := if_p c16 hR
    refine lv_tableIn (off := 86) (tgt := 87) hx hb d_Machine_tell_1 (by rw [c16]; decide) (by rw [c16]; decide) (by rw [c16]; decide) (by decide) ?_
    refine lv_aload_n hx hb d_Machine_tell_87 rfl (lv_at hl 0 rfl) ?_
    refine rd_Machine_73 hx hb hT hown hK hP d_Machine_tell_88 ?_
    obtain ⟨e1, -, e3⟩ := re_e hR
    subst e1; subst e3
    exact W.iret (v := T0.1 111 0) hx hb hr (fun t ht hW => ⟨⟨T0.1 111 0, (), rfl, rfl, by rw [ht]; exact hP, va_K.moved hW.alike hK, hD⟩, hS.F ht⟩) hS.2.2 d_Machine_tell_91
  replace hR := if_n c16 hR
  by_cases c18 : p1 = (7 : Int32)
  · replace hR := if_p c18 hR
    refine lv_tableIn (off := 91) (tgt := 92) hx hb d_Machine_tell_1 (by rw [c18]; decide) (by rw [c18]; decide) (by rw [c18]; decide) (by decide) ?_
    refine lv_aload_n hx hb d_Machine_tell_92 rfl (lv_at hl 0 rfl) ?_
    refine rd_Machine_70 hx hb hT hown hK hP d_Machine_tell_93 ?_
    obtain ⟨e1, -, e3⟩ := re_e hR
    subst e1; subst e3
    exact W.iret (v := T0.1 109 0) hx hb hr (fun t ht hW => ⟨⟨T0.1 109 0, (), rfl, rfl, by rw [ht]; exact hP, va_K.moved hW.alike hK, hD⟩, hS.F ht⟩) hS.2.2 d_Machine_tell_96
  replace hR := if_n c18 hR
  have h320 : (p1 : Int32).toInt < 0 ∨ 7 < (p1 : Int32).toInt := by
    simp only [i_eq, Int32.reduceToInt] at c1 c3 c6 c9 c11 c13 c16 c18; omega
  refine lv_tableOut (tgt := 97) hx hb d_Machine_tell_1 h320 (by decide) ?_
  refine lv_aload_n hx hb d_Machine_tell_97 rfl (lv_at hl 0 rfl) ?_
  refine rd_Machine_16 hx hb hT hown hK hP d_Machine_tell_98 ?_
  replace hR := bi_e hR
  obtain ⟨r21, l21, T21, hc21, hR⟩ := hR
  refine gcV_i (rest := []) ⟨hx, hb, hml, hown, hT⟩ (h_Memory_strayTouches _ _ _ _ hc21) (cwV 0 hT (gV ml_Machine_233 im_Memory_strayTouches se_Memory_strayTouches ini_Memory co_Memory_strayTouches) rfl rfl rfl pd_Memory_strayTouches ⟨rm_hi, rm_lo (Nat.le_of_ble_eq_true rfl)⟩) hK hP hD hS hA hnw henv (Nat.le_of_ble_eq_true rfl) rfl rfl hl.1 rfl (Nat.le_of_ble_eq_true rfl) d_Machine_tell_101 ⟨Nat.le_refl _, Nat.le_refl _⟩ (fun H locs hP hD hS => ?_)
  clear hc21
  obtain ⟨e1, -, e3⟩ := re_e hR
  subst e1; subst e3
  exact W.iret (v := r21) hx hb hr (fun t ht hW => ⟨⟨r21, (), rfl, rfl, by rw [ht]; exact hP, va_K.moved hW.alike hK, hD⟩, hS.F ht⟩) hS.2.2 d_Machine_tell_104
set_option maxHeartbeats 4000000 in
set_option maxRecDepth 100000 in
theorem sp_Machine_printedAt (l : Launch) (dC : Nat → ClassId) (dI : Nat → Nat → Nat) (ea ev ad : Nat → Nat) (km : Nat → ClassId) (F : gF) (nf d : Nat) (T0 : gSt) (p1 : Int32) (r0 : Int32) (rl0 : Int64) (T9 : gSt) (hR : rb_Machine_printedAt F nf T0 p1 = some (r0, rl0, T9)) : GMi l dC dI LH ad km ea ev y_Machine_printedAt w_Machine_printedAt (rmD (d + 1)) [.ref (ad 10), .int p1] T0 r0 T9 := by
  intro sz
  refine Met.ofW (cc := b_Machine_printedAt) (maxL := 2) (ret := (some .int)) (by decide) rfl ?_
  intro p e s m args below meth c s₁ B hml hv
  obtain ⟨rfl, hsz, hP, hK, hD0, hnw, henv⟩ := hv
  have hx := B.exec
  have hb := B.bytes
  have hr := B.returns
  have hT : ∀ w ∈ lw_good, w.before _ s = true := fun w h => atoms_spec (ws := w_Machine_printedAt) B.pre w (List.mem_cons_of_mem _ h)
  have hown : s.vm.findClass R_Machine = some m.cls := findClass_of_methodNamed B.named
  subst hsz
  have hD := hD0.self (sz := s.heap.size)
  clear hD0
  generalize hAe : va_A (gW LH ad km T0) s.heap.size = A at hD henv ⊢
  have hA : ∀ q : Nat, s.heap.size ≤ q → A q := fun q h => by rw [← hAe]; exact Or.inr h
  have hS : va_S A s.heap s.heap [] := va_S.rf
  have hl := lv_entry ([.ref (ad 10), .int p1]) (n := 2) (Nat.le_of_ble_eq_true rfl)
  rw [lg_entry_eq]
  generalize (lg_sl ([.ref (ad 10), .int p1]) ++ List.replicate (2 - (lg_sl ([.ref (ad 10), .int p1])).length) Slot.unset).toArray = ls at hl ⊢
  have hl : lv_has ls 2 [(0, .ref (ad 10)), (1, .int p1)] := hl
  unfold rb_Machine_printedAt at hR
  refine lv_iload_n hx hb d_Machine_printedAt_0 rfl (lv_at hl 1 rfl) ?_
  refine lv_if_lt (tgt := 21) hx hb d_Machine_printedAt_1 (by decide) (fun c1 => ?_) (fun c1 => ?_)
  · replace hR := if_p c1 hR
    refine lv_iconst (v := 0) hx hb d_Machine_printedAt_21 (by decide) ?_
    refine lv_goto (tgt := 31) hx hb d_Machine_printedAt_22 (by decide) ?_
    obtain ⟨e1, -, e3⟩ := re_e hR
    subst e1; subst e3
    exact W.iret (v := (0 : Int32)) hx hb hr (fun t ht hW => ⟨⟨(0 : Int32), (), rfl, rfl, by rw [ht]; exact hP, va_K.moved hW.alike hK, hD⟩, hS.F ht⟩) hS.2.2 d_Machine_printedAt_31
  · replace hR := if_n c1 hR
    refine lv_iload_n hx hb d_Machine_printedAt_4 rfl (lv_at hl 1 rfl) ?_
    refine lv_aload_n hx hb d_Machine_printedAt_5 rfl (lv_at hl 0 rfl) ?_
    refine rd_Machine_76 hx hb hT hown hK hP d_Machine_printedAt_6 ?_
    refine lv_icmp_ge (tgt := 21) hx hb d_Machine_printedAt_9 (by decide) (fun c3 => ?_) (fun c3 => ?_)
    · replace hR := if_p c3 hR
      refine lv_iconst (v := 0) hx hb d_Machine_printedAt_21 (by decide) ?_
      refine lv_goto (tgt := 31) hx hb d_Machine_printedAt_22 (by decide) ?_
      obtain ⟨e1, -, e3⟩ := re_e hR
      subst e1; subst e3
      exact W.iret (v := (0 : Int32)) hx hb hr (fun t ht hW => ⟨⟨(0 : Int32), (), rfl, rfl, by rw [ht]; exact hP, va_K.moved hW.alike hK, hD⟩, hS.F ht⟩) hS.2.2 d_Machine_printedAt_31
    · replace hR := if_n c3 hR
      refine lv_iload_n hx hb d_Machine_printedAt_12 rfl (lv_at hl 1 rfl) ?_
      refine lv_aload_n hx hb d_Machine_printedAt_13 rfl (lv_at hl 0 rfl) ?_
      refine rd_Machine_33 hx hb hT hown hK hP d_Machine_printedAt_14 ?_
      refine gw_alen hx hb hK hP 47 300 59 (Nat.le_of_ble_eq_true rfl) rfl rfl d_Machine_printedAt_17 ?_
      refine W.eq (g2 := F0 m 18 ls [.int (300 : Int32), .int p1]) rfl ?_
      refine lv_icmp_lt (tgt := 25) hx hb d_Machine_printedAt_18 (by decide) (fun c5 => ?_) (fun c5 => ?_)
      · replace hR := if_p c5 hR
        refine lv_aload_n hx hb d_Machine_printedAt_25 rfl (lv_at hl 0 rfl) ?_
        refine rd_Machine_33 hx hb hT hown hK hP d_Machine_printedAt_26 ?_
        refine lv_iload_n hx hb d_Machine_printedAt_29 rfl (lv_at hl 1 rfl) ?_
        replace hR := gd_e hR
        obtain ⟨b6, hR⟩ := hR
        refine laH_47 hx hb hK hP b6 d_Machine_printedAt_30 ?_
        obtain ⟨e1, -, e3⟩ := re_e hR
        subst e1; subst e3
        exact W.iret (v := T0.1 112 p1.toNatClampNeg) hx hb hr (fun t ht hW => ⟨⟨T0.1 112 p1.toNatClampNeg, (), rfl, rfl, by rw [ht]; exact hP, va_K.moved hW.alike hK, hD⟩, hS.F ht⟩) hS.2.2 d_Machine_printedAt_31
      · replace hR := if_n c5 hR
        refine lv_iconst (v := 0) hx hb d_Machine_printedAt_21 (by decide) ?_
        refine lv_goto (tgt := 31) hx hb d_Machine_printedAt_22 (by decide) ?_
        obtain ⟨e1, -, e3⟩ := re_e hR
        subst e1; subst e3
        exact W.iret (v := (0 : Int32)) hx hb hr (fun t ht hW => ⟨⟨(0 : Int32), (), rfl, rfl, by rw [ht]; exact hP, va_K.moved hW.alike hK, hD⟩, hS.F ht⟩) hS.2.2 d_Machine_printedAt_31
set_option maxHeartbeats 4000000 in
set_option maxRecDepth 100000 in
theorem sp_Memory_pageWords (l : Launch) (dC : Nat → ClassId) (dI : Nat → Nat → Nat) (ea ev ad : Nat → Nat) (km : Nat → ClassId) (F : gF) (nf d : Nat) (T0 : gSt) (r0 : Int32) (rl0 : Int64) (T9 : gSt) (hR : rb_Memory_pageWords F nf T0 = some (r0, rl0, T9)) : GMi l dC dI LH ad km ea ev y_Memory_pageWords w_Memory_pageWords (rmD (d + 1)) [.ref (ad 11)] T0 r0 T9 := by
  intro sz
  refine Met.ofW (cc := b_Memory_pageWords) (maxL := 1) (ret := (some .int)) (by decide) rfl ?_
  intro p e s m args below meth c s₁ B hml hv
  obtain ⟨rfl, hsz, hP, hK, hD0, hnw, henv⟩ := hv
  have hx := B.exec
  have hb := B.bytes
  have hr := B.returns
  have hT : ∀ w ∈ lw_good, w.before _ s = true := fun w h => atoms_spec (ws := w_Memory_pageWords) B.pre w (List.mem_cons_of_mem _ h)
  have hown : s.vm.findClass R_Memory = some m.cls := findClass_of_methodNamed B.named
  subst hsz
  have hD := hD0.self (sz := s.heap.size)
  clear hD0
  generalize hAe : va_A (gW LH ad km T0) s.heap.size = A at hD henv ⊢
  have hA : ∀ q : Nat, s.heap.size ≤ q → A q := fun q h => by rw [← hAe]; exact Or.inr h
  have hS : va_S A s.heap s.heap [] := va_S.rf
  have hl := lv_entry ([.ref (ad 11)]) (n := 1) (Nat.le_of_ble_eq_true rfl)
  rw [lg_entry_eq]
  generalize (lg_sl ([.ref (ad 11)]) ++ List.replicate (1 - (lg_sl ([.ref (ad 11)])).length) Slot.unset).toArray = ls at hl ⊢
  have hl : lv_has ls 1 [(0, .ref (ad 11))] := hl
  unfold rb_Memory_pageWords at hR
  refine lv_aload_n hx hb d_Memory_pageWords_0 rfl (lv_at hl 0 rfl) ?_
  refine rd_Memory_52 hx hb hT hown hK hP d_Memory_pageWords_1 ?_
  obtain ⟨e1, -, e3⟩ := re_e hR
  subst e1; subst e3
  exact W.iret (v := T0.1 118 0) hx hb hr (fun t ht hW => ⟨⟨T0.1 118 0, (), rfl, rfl, by rw [ht]; exact hP, va_K.moved hW.alike hK, hD⟩, hS.F ht⟩) hS.2.2 d_Memory_pageWords_4
set_option maxHeartbeats 4000000 in
set_option maxRecDepth 100000 in
theorem sp_Memory_pagesInUse (l : Launch) (dC : Nat → ClassId) (dI : Nat → Nat → Nat) (ea ev ad : Nat → Nat) (km : Nat → ClassId) (F : gF) (nf d : Nat) (T0 : gSt) (r0 : Int32) (rl0 : Int64) (T9 : gSt) (hR : rb_Memory_pagesInUse F nf T0 = some (r0, rl0, T9)) : GMi l dC dI LH ad km ea ev y_Memory_pagesInUse w_Memory_pagesInUse (rmD (d + 1)) [.ref (ad 11)] T0 r0 T9 := by
  intro sz
  refine Met.ofW (cc := b_Memory_pagesInUse) (maxL := 1) (ret := (some .int)) (by decide) rfl ?_
  intro p e s m args below meth c s₁ B hml hv
  obtain ⟨rfl, hsz, hP, hK, hD0, hnw, henv⟩ := hv
  have hx := B.exec
  have hb := B.bytes
  have hr := B.returns
  have hT : ∀ w ∈ lw_good, w.before _ s = true := fun w h => atoms_spec (ws := w_Memory_pagesInUse) B.pre w (List.mem_cons_of_mem _ h)
  have hown : s.vm.findClass R_Memory = some m.cls := findClass_of_methodNamed B.named
  subst hsz
  have hD := hD0.self (sz := s.heap.size)
  clear hD0
  generalize hAe : va_A (gW LH ad km T0) s.heap.size = A at hD henv ⊢
  have hA : ∀ q : Nat, s.heap.size ≤ q → A q := fun q h => by rw [← hAe]; exact Or.inr h
  have hS : va_S A s.heap s.heap [] := va_S.rf
  have hl := lv_entry ([.ref (ad 11)]) (n := 1) (Nat.le_of_ble_eq_true rfl)
  rw [lg_entry_eq]
  generalize (lg_sl ([.ref (ad 11)]) ++ List.replicate (1 - (lg_sl ([.ref (ad 11)])).length) Slot.unset).toArray = ls at hl ⊢
  have hl : lv_has ls 1 [(0, .ref (ad 11))] := hl
  unfold rb_Memory_pagesInUse at hR
  refine lv_aload_n hx hb d_Memory_pagesInUse_0 rfl (lv_at hl 0 rfl) ?_
  refine rd_Memory_55 hx hb hT hown hK hP d_Memory_pagesInUse_1 ?_
  obtain ⟨e1, -, e3⟩ := re_e hR
  subst e1; subst e3
  exact W.iret (v := T0.1 119 0) hx hb hr (fun t ht hW => ⟨⟨T0.1 119 0, (), rfl, rfl, by rw [ht]; exact hP, va_K.moved hW.alike hK, hD⟩, hS.F ht⟩) hS.2.2 d_Memory_pagesInUse_4
set_option maxHeartbeats 4000000 in
set_option maxRecDepth 100000 in
theorem sp_Memory_regionCount (l : Launch) (dC : Nat → ClassId) (dI : Nat → Nat → Nat) (ea ev ad : Nat → Nat) (km : Nat → ClassId) (F : gF) (nf d : Nat) (T0 : gSt) (r0 : Int32) (rl0 : Int64) (T9 : gSt) (hR : rb_Memory_regionCount F nf T0 = some (r0, rl0, T9)) : GMi l dC dI LH ad km ea ev y_Memory_regionCount w_Memory_regionCount (rmD (d + 1)) [.ref (ad 11)] T0 r0 T9 := by
  intro sz
  refine Met.ofW (cc := b_Memory_regionCount) (maxL := 1) (ret := (some .int)) (by decide) rfl ?_
  intro p e s m args below meth c s₁ B hml hv
  obtain ⟨rfl, hsz, hP, hK, hD0, hnw, henv⟩ := hv
  have hx := B.exec
  have hb := B.bytes
  have hr := B.returns
  have hT : ∀ w ∈ lw_good, w.before _ s = true := fun w h => atoms_spec (ws := w_Memory_regionCount) B.pre w (List.mem_cons_of_mem _ h)
  have hown : s.vm.findClass R_Memory = some m.cls := findClass_of_methodNamed B.named
  subst hsz
  have hD := hD0.self (sz := s.heap.size)
  clear hD0
  generalize hAe : va_A (gW LH ad km T0) s.heap.size = A at hD henv ⊢
  have hA : ∀ q : Nat, s.heap.size ≤ q → A q := fun q h => by rw [← hAe]; exact Or.inr h
  have hS : va_S A s.heap s.heap [] := va_S.rf
  have hl := lv_entry ([.ref (ad 11)]) (n := 1) (Nat.le_of_ble_eq_true rfl)
  rw [lg_entry_eq]
  generalize (lg_sl ([.ref (ad 11)]) ++ List.replicate (1 - (lg_sl ([.ref (ad 11)])).length) Slot.unset).toArray = ls at hl ⊢
  have hl : lv_has ls 1 [(0, .ref (ad 11))] := hl
  unfold rb_Memory_regionCount at hR
  refine lv_aload_n hx hb d_Memory_regionCount_0 rfl (lv_at hl 0 rfl) ?_
  refine rd_Memory_64 hx hb hT hown hK hP d_Memory_regionCount_1 ?_
  obtain ⟨e1, -, e3⟩ := re_e hR
  subst e1; subst e3
  exact W.iret (v := T0.1 122 0) hx hb hr (fun t ht hW => ⟨⟨T0.1 122 0, (), rfl, rfl, by rw [ht]; exact hP, va_K.moved hW.alike hK, hD⟩, hS.F ht⟩) hS.2.2 d_Memory_regionCount_4
set_option maxHeartbeats 4000000 in
set_option maxRecDepth 100000 in
theorem sp_Memory_objectsMade (l : Launch) (dC : Nat → ClassId) (dI : Nat → Nat → Nat) (ea ev ad : Nat → Nat) (km : Nat → ClassId) (F : gF) (nf d : Nat) (T0 : gSt) (r0 : Int32) (rl0 : Int64) (T9 : gSt) (hR : rb_Memory_objectsMade F nf T0 = some (r0, rl0, T9)) : GMi l dC dI LH ad km ea ev y_Memory_objectsMade w_Memory_objectsMade (rmD (d + 1)) [.ref (ad 11)] T0 r0 T9 := by
  intro sz
  refine Met.ofW (cc := b_Memory_objectsMade) (maxL := 1) (ret := (some .int)) (by decide) rfl ?_
  intro p e s m args below meth c s₁ B hml hv
  obtain ⟨rfl, hsz, hP, hK, hD0, hnw, henv⟩ := hv
  have hx := B.exec
  have hb := B.bytes
  have hr := B.returns
  have hT : ∀ w ∈ lw_good, w.before _ s = true := fun w h => atoms_spec (ws := w_Memory_objectsMade) B.pre w (List.mem_cons_of_mem _ h)
  have hown : s.vm.findClass R_Memory = some m.cls := findClass_of_methodNamed B.named
  subst hsz
  have hD := hD0.self (sz := s.heap.size)
  clear hD0
  generalize hAe : va_A (gW LH ad km T0) s.heap.size = A at hD henv ⊢
  have hA : ∀ q : Nat, s.heap.size ≤ q → A q := fun q h => by rw [← hAe]; exact Or.inr h
  have hS : va_S A s.heap s.heap [] := va_S.rf
  have hl := lv_entry ([.ref (ad 11)]) (n := 1) (Nat.le_of_ble_eq_true rfl)
  rw [lg_entry_eq]
  generalize (lg_sl ([.ref (ad 11)]) ++ List.replicate (1 - (lg_sl ([.ref (ad 11)])).length) Slot.unset).toArray = ls at hl ⊢
  have hl : lv_has ls 1 [(0, .ref (ad 11))] := hl
  unfold rb_Memory_objectsMade at hR
  refine lv_aload_n hx hb d_Memory_objectsMade_0 rfl (lv_at hl 0 rfl) ?_
  refine rd_Memory_58 hx hb hT hown hK hP d_Memory_objectsMade_1 ?_
  obtain ⟨e1, -, e3⟩ := re_e hR
  subst e1; subst e3
  exact W.iret (v := T0.1 120 0) hx hb hr (fun t ht hW => ⟨⟨T0.1 120 0, (), rfl, rfl, by rw [ht]; exact hP, va_K.moved hW.alike hK, hD⟩, hS.F ht⟩) hS.2.2 d_Memory_objectsMade_4
set_option maxHeartbeats 4000000 in
set_option maxRecDepth 100000 in
theorem sp_Memory_strayTouches (l : Launch) (dC : Nat → ClassId) (dI : Nat → Nat → Nat) (ea ev ad : Nat → Nat) (km : Nat → ClassId) (F : gF) (nf d : Nat) (T0 : gSt) (r0 : Int32) (rl0 : Int64) (T9 : gSt) (hR : rb_Memory_strayTouches F nf T0 = some (r0, rl0, T9)) : GMi l dC dI LH ad km ea ev y_Memory_strayTouches w_Memory_strayTouches (rmD (d + 1)) [.ref (ad 11)] T0 r0 T9 := by
  intro sz
  refine Met.ofW (cc := b_Memory_strayTouches) (maxL := 1) (ret := (some .int)) (by decide) rfl ?_
  intro p e s m args below meth c s₁ B hml hv
  obtain ⟨rfl, hsz, hP, hK, hD0, hnw, henv⟩ := hv
  have hx := B.exec
  have hb := B.bytes
  have hr := B.returns
  have hT : ∀ w ∈ lw_good, w.before _ s = true := fun w h => atoms_spec (ws := w_Memory_strayTouches) B.pre w (List.mem_cons_of_mem _ h)
  have hown : s.vm.findClass R_Memory = some m.cls := findClass_of_methodNamed B.named
  subst hsz
  have hD := hD0.self (sz := s.heap.size)
  clear hD0
  generalize hAe : va_A (gW LH ad km T0) s.heap.size = A at hD henv ⊢
  have hA : ∀ q : Nat, s.heap.size ≤ q → A q := fun q h => by rw [← hAe]; exact Or.inr h
  have hS : va_S A s.heap s.heap [] := va_S.rf
  have hl := lv_entry ([.ref (ad 11)]) (n := 1) (Nat.le_of_ble_eq_true rfl)
  rw [lg_entry_eq]
  generalize (lg_sl ([.ref (ad 11)]) ++ List.replicate (1 - (lg_sl ([.ref (ad 11)])).length) Slot.unset).toArray = ls at hl ⊢
  have hl : lv_has ls 1 [(0, .ref (ad 11))] := hl
  unfold rb_Memory_strayTouches at hR
  refine lv_aload_n hx hb d_Memory_strayTouches_0 rfl (lv_at hl 0 rfl) ?_
  refine rd_Memory_61 hx hb hT hown hK hP d_Memory_strayTouches_1 ?_
  obtain ⟨e1, -, e3⟩ := re_e hR
  subst e1; subst e3
  exact W.iret (v := T0.1 121 0) hx hb hr (fun t ht hW => ⟨⟨T0.1 121 0, (), rfl, rfl, by rw [ht]; exact hP, va_K.moved hW.alike hK, hD⟩, hS.F ht⟩) hS.2.2 d_Memory_strayTouches_4
set_option maxHeartbeats 4000000 in
set_option maxRecDepth 100000 in
theorem sp_Memory_open (l : Launch) (dC : Nat → ClassId) (dI : Nat → Nat → Nat) (ea ev ad : Nat → Nat) (km : Nat → ClassId) (F : gF) (nf d : Nat) (T0 : gSt) (r0 : Int32) (rl0 : Int64) (T9 : gSt) (hR : rb_Memory_open F nf T0 = some (r0, rl0, T9)) : GMi l dC dI LH ad km ea ev y_Memory_open w_Memory_open (rmD (d + 1)) [.ref (ad 11)] T0 r0 T9 := by
  intro sz
  refine Met.ofW (cc := b_Memory_open) (maxL := 1) (ret := (some .int)) (by decide) rfl ?_
  intro p e s m args below meth c s₁ B hml hv
  obtain ⟨rfl, hsz, hP, hK, hD0, hnw, henv⟩ := hv
  have hx := B.exec
  have hb := B.bytes
  have hr := B.returns
  have hT : ∀ w ∈ lw_good, w.before _ s = true := fun w h => atoms_spec (ws := w_Memory_open) B.pre w (List.mem_cons_of_mem _ h)
  have hown : s.vm.findClass R_Memory = some m.cls := findClass_of_methodNamed B.named
  subst hsz
  have hD := hD0.self (sz := s.heap.size)
  clear hD0
  generalize hAe : va_A (gW LH ad km T0) s.heap.size = A at hD henv ⊢
  have hA : ∀ q : Nat, s.heap.size ≤ q → A q := fun q h => by rw [← hAe]; exact Or.inr h
  have hS : va_S A s.heap s.heap [] := va_S.rf
  have hl := lv_entry ([.ref (ad 11)]) (n := 1) (Nat.le_of_ble_eq_true rfl)
  rw [lg_entry_eq]
  generalize (lg_sl ([.ref (ad 11)]) ++ List.replicate (1 - (lg_sl ([.ref (ad 11)])).length) Slot.unset).toArray = ls at hl ⊢
  have hl : lv_has ls 1 [(0, .ref (ad 11))] := hl
  unfold rb_Memory_open at hR
  refine lv_aload_n hx hb d_Memory_open_0 rfl (lv_at hl 0 rfl) ?_
  refine rd_Memory_64 hx hb hT hown hK hP d_Memory_open_1 ?_
  refine lv_sipush (v := 321) hx hb d_Memory_open_4 (by decide) ?_
  refine lv_icmp_lt (tgt := 12) hx hb d_Memory_open_7 (by decide) (fun c1 => ?_) (fun c1 => ?_)
  · replace hR := if_p c1 hR
    refine lv_aload_n hx hb d_Memory_open_12 rfl (lv_at hl 0 rfl) ?_
    refine rd_Memory_24 hx hb hT hown hK hP d_Memory_open_13 ?_
    refine lv_aload_n hx hb d_Memory_open_16 rfl (lv_at hl 0 rfl) ?_
    refine rd_Memory_64 hx hb hT hown hK hP d_Memory_open_17 ?_
    refine lv_iconst (v := 0) hx hb d_Memory_open_20 (by decide) ?_
    replace hR := gd_e hR
    obtain ⟨b2, hR⟩ := hR
    refine saH_51 hx hb hK hP hD hS b2 d_Memory_open_21 (fun T2 eT H locs hP hD hS => ?_)
    replace hR := stK_e eT hR
    clear eT
    refine lv_aload_n hx hb d_Memory_open_22 rfl (lv_at hl 0 rfl) ?_
    refine rd_Memory_27 hx hb hT hown hK hP d_Memory_open_23 ?_
    refine lv_aload_n hx hb d_Memory_open_26 rfl (lv_at hl 0 rfl) ?_
    refine rd_Memory_64 hx hb hT hown hK hP d_Memory_open_27 ?_
    refine lv_iconst (v := 0) hx hb d_Memory_open_30 (by decide) ?_
    replace hR := gd_e hR
    obtain ⟨b3, hR⟩ := hR
    refine saH_52 hx hb hK hP hD hS b3 d_Memory_open_31 (fun T3 eT H locs hP hD hS => ?_)
    replace hR := stK_e eT hR
    clear eT
    refine lv_aload_n hx hb d_Memory_open_32 rfl (lv_at hl 0 rfl) ?_
    refine rd_Memory_30 hx hb hT hown hK hP d_Memory_open_33 ?_
    refine lv_aload_n hx hb d_Memory_open_36 rfl (lv_at hl 0 rfl) ?_
    refine rd_Memory_64 hx hb hT hown hK hP d_Memory_open_37 ?_
    refine lv_iconst (v := 0) hx hb d_Memory_open_40 (by decide) ?_
    replace hR := gd_e hR
    obtain ⟨b4, hR⟩ := hR
    refine saH_53 hx hb hK hP hD hS b4 d_Memory_open_41 (fun T4 eT H locs hP hD hS => ?_)
    replace hR := stK_e eT hR
    clear eT
    refine lv_aload_n hx hb d_Memory_open_42 rfl (lv_at hl 0 rfl) ?_
    refine rd_Memory_33 hx hb hT hown hK hP d_Memory_open_43 ?_
    refine lv_aload_n hx hb d_Memory_open_46 rfl (lv_at hl 0 rfl) ?_
    refine rd_Memory_64 hx hb hT hown hK hP d_Memory_open_47 ?_
    refine lv_iconst (v := 0) hx hb d_Memory_open_50 (by decide) ?_
    replace hR := gd_e hR
    obtain ⟨b5, hR⟩ := hR
    refine saH_54 hx hb hK hP hD hS b5 d_Memory_open_51 (fun T5 eT H locs hP hD hS => ?_)
    replace hR := stK_e eT hR
    clear eT
    refine lv_aload_n hx hb d_Memory_open_52 rfl (lv_at hl 0 rfl) ?_
    refine rd_Memory_36 hx hb hT hown hK hP d_Memory_open_53 ?_
    refine lv_aload_n hx hb d_Memory_open_56 rfl (lv_at hl 0 rfl) ?_
    refine rd_Memory_64 hx hb hT hown hK hP d_Memory_open_57 ?_
    refine lv_iconst (v := 0) hx hb d_Memory_open_60 (by decide) ?_
    replace hR := gd_e hR
    obtain ⟨b6, hR⟩ := hR
    refine saH_55 hx hb hK hP hD hS b6 d_Memory_open_61 (fun T6 eT H locs hP hD hS => ?_)
    replace hR := stK_e eT hR
    clear eT
    refine lv_aload_n hx hb d_Memory_open_62 rfl (lv_at hl 0 rfl) ?_
    refine lv_dup hx hb d_Memory_open_63 rfl ?_
    refine rd_Memory_64 hx hb hT hown hK hP d_Memory_open_64 ?_
    refine lv_iconst (v := 1) hx hb d_Memory_open_67 (by decide) ?_
    refine lv_iadd hx hb d_Memory_open_68 ?_
    refine wr_Memory_64 hx hb hT hown hK hP hD hS d_Memory_open_69 (fun T7 eT H locs hP hD hS => ?_)
    replace hR := stK_e eT hR
    clear eT
    refine lv_aload_n hx hb d_Memory_open_72 rfl (lv_at hl 0 rfl) ?_
    refine rd_Memory_64 hx hb hT hown hK hP d_Memory_open_73 ?_
    refine lv_iconst (v := 1) hx hb d_Memory_open_76 (by decide) ?_
    refine lv_isub hx hb d_Memory_open_77 ?_
    obtain ⟨e1, -, e3⟩ := re_e hR
    subst e1; subst e3
    exact W.iret (v := (T7.1 122 0) - (1 : Int32)) hx hb hr (fun t ht hW => ⟨⟨(T7.1 122 0) - (1 : Int32), (), rfl, rfl, by rw [ht]; exact hP, va_K.moved hW.alike hK, hD⟩, hS.F ht⟩) hS.2.2 d_Memory_open_78
  · replace hR := if_n c1 hR
    refine lv_iconst (v := 0) hx hb d_Memory_open_10 (by decide) ?_
    obtain ⟨e1, -, e3⟩ := re_e hR
    subst e1; subst e3
    exact W.iret (v := (0 : Int32)) hx hb hr (fun t ht hW => ⟨⟨(0 : Int32), (), rfl, rfl, by rw [ht]; exact hP, va_K.moved hW.alike hK, hD⟩, hS.F ht⟩) hS.2.2 d_Memory_open_11
set_option maxHeartbeats 4000000 in
set_option maxRecDepth 100000 in
theorem sp_Memory_closeFrom (l : Launch) (dC : Nat → ClassId) (dI : Nat → Nat → Nat) (ea ev ad : Nat → Nat) (km : Nat → ClassId) (F : gF) (nf d : Nat) (T0 : gSt) (p1 : Int32) (r0 : Int32) (rl0 : Int64) (T9 : gSt) (hR : rb_Memory_closeFrom F nf T0 p1 = some (r0, rl0, T9)) : GMv l dC dI LH ad km ea ev y_Memory_closeFrom w_Memory_closeFrom (rmD (d + 1)) [.ref (ad 11), .int p1] T0 T9 := by
  intro sz
  refine Met.ofW (cc := b_Memory_closeFrom) (maxL := 3) (ret := none) (by decide) rfl ?_
  intro p e s m args below meth c s₁ B hml hv
  obtain ⟨rfl, hsz, hP, hK, hD0, hnw, henv⟩ := hv
  have hx := B.exec
  have hb := B.bytes
  have hr := B.returns
  have hT : ∀ w ∈ lw_good, w.before _ s = true := fun w h => atoms_spec (ws := w_Memory_closeFrom) B.pre w (List.mem_cons_of_mem _ h)
  have hown : s.vm.findClass R_Memory = some m.cls := findClass_of_methodNamed B.named
  subst hsz
  have hD := hD0.self (sz := s.heap.size)
  clear hD0
  generalize hAe : va_A (gW LH ad km T0) s.heap.size = A at hD henv ⊢
  have hA : ∀ q : Nat, s.heap.size ≤ q → A q := fun q h => by rw [← hAe]; exact Or.inr h
  have hS : va_S A s.heap s.heap [] := va_S.rf
  have hl := lv_entry ([.ref (ad 11), .int p1]) (n := 3) (Nat.le_of_ble_eq_true rfl)
  rw [lg_entry_eq]
  generalize (lg_sl ([.ref (ad 11), .int p1]) ++ List.replicate (3 - (lg_sl ([.ref (ad 11), .int p1])).length) Slot.unset).toArray = ls at hl ⊢
  have hl : lv_has ls 3 [(0, .ref (ad 11)), (1, .int p1)] := hl
  obtain ⟨G, hG⟩ : ∃ G : Nat → List (Nat × Value) → List Value → gSt → Prop, G = (fun pc lv stk T => ∀ (H : Heap) (locs : List Loc), va_P (dC, dI) cls_all (gW LH ad km T) H → va_D A (gW LH ad km T) → va_S A s.heap H locs → ∀ (ls : Array Slot), lv_has ls 3 lv → W p l e (headSpec w_Memory_closeFrom (rmD (d + 1))).room s m ([.ref (ad 11), .int p1] : List Value).toArray below meth c H locs 0 0 (MQ below (va_Qv (fun (_ : Unit) => True) (fun _ t => gPost dC dI LH ad km T9 A t) A) ([.ref (ad 11), .int p1] : List Value).toArray s 0 0 A) (F0 m pc ls stk)) := ⟨_, rfl⟩
  have lb_16 : ∀ (n : Nat) (T : gSt) (x1 : Int32) (x2 : Int32), rl_Memory_closeFrom_16 F nf n T x1 x2 = some (r0, rl0, T9) → G 16 [(0, .ref (ad 11)), (1, .int x1), (2, .int x2)] [] T := by
    intro n
    induction n with
    | zero => intro T x1 x2 hR; rw [rl_Memory_closeFrom_16] at hR; cases hR
    | succ n ih =>
      intro T x1 x2 hR; rw [rl_Memory_closeFrom_16] at hR; rw [hG]; intro H locs hP hD hS ls hl
      refine lv_iload_n hx hb d_Memory_closeFrom_16 rfl (lv_at hl 2 rfl) ?_
      refine lv_aload_n hx hb d_Memory_closeFrom_17 rfl (lv_at hl 0 rfl) ?_
      refine rd_Memory_48 hx hb hT hown hK hP d_Memory_closeFrom_18 ?_
      refine lv_icmp_ge (tgt := 57) hx hb d_Memory_closeFrom_21 (by decide) (fun c3 => ?_) (fun c3 => ?_)
      · replace hR := if_p c3 hR
        refine lv_aload_n hx hb d_Memory_closeFrom_57 rfl (lv_at hl 0 rfl) ?_
        refine lv_iload_n hx hb d_Memory_closeFrom_58 rfl (lv_at hl 1 rfl) ?_
        refine wr_Memory_64 hx hb hT hown hK hP hD hS d_Memory_closeFrom_59 (fun T4 eT H locs hP hD hS => ?_)
        replace hR := stK_e eT hR
        clear eT
        obtain ⟨-, -, e3⟩ := re_e hR
        subst e3
        exact W.vret hx hb hr (fun t ht hW => ⟨⟨(), rfl, trivial, by rw [ht]; exact hP, va_K.moved hW.alike hK, hD⟩, hS.F ht⟩) hS.2.2 d_Memory_closeFrom_62
      · replace hR := if_n c3 hR
        refine lv_aload_n hx hb d_Memory_closeFrom_24 rfl (lv_at hl 0 rfl) ?_
        refine rd_Memory_21 hx hb hT hown hK hP d_Memory_closeFrom_25 ?_
        refine lv_iload_n hx hb d_Memory_closeFrom_28 rfl (lv_at hl 2 rfl) ?_
        replace hR := gd_e hR
        obtain ⟨b5, hR⟩ := hR
        refine laH_50 hx hb hK hP b5 d_Memory_closeFrom_29 ?_
        refine lv_iload_n hx hb d_Memory_closeFrom_30 rfl (lv_at hl 1 rfl) ?_
        refine lv_icmp_lt (tgt := 51) hx hb d_Memory_closeFrom_31 (by decide) (fun c6 => ?_) (fun c6 => ?_)
        · replace hR := if_p c6 hR
          obtain ⟨z7, e7⟩ : ∃ y : Int32, y = x2 + (1 : Int32) := ⟨_, rfl⟩
          replace hR := vK_e e7 hR
          refine lv_iinc (v := z7) (lv' := [(2, .int z7), (0, .ref (ad 11)), (1, .int x1)]) hx hb d_Memory_closeFrom_51 hl (k := 2) rfl (by rw [e7]; rfl) (by decide) rfl (fun ls hl => ?_)
          refine lv_goto (tgt := 16) hx hb d_Memory_closeFrom_54 (by decide) ?_
          have g := ih T x1 z7 hR
          rw [hG] at g
          exact g _ _ hP hD hS _ (lv_sub hl [1, 2, 0] rfl)
        · replace hR := if_n c6 hR
          refine lv_aload_n hx hb d_Memory_closeFrom_34 rfl (lv_at hl 0 rfl) ?_
          refine rd_Memory_21 hx hb hT hown hK hP d_Memory_closeFrom_35 ?_
          refine lv_iload_n hx hb d_Memory_closeFrom_38 rfl (lv_at hl 2 rfl) ?_
          refine lv_iconst (v := (-1)) hx hb d_Memory_closeFrom_39 (by decide) ?_
          replace hR := gd_e hR
          obtain ⟨b8, hR⟩ := hR
          refine saH_50 hx hb hK hP hD hS b8 d_Memory_closeFrom_40 (fun T8 eT H locs hP hD hS => ?_)
          replace hR := stK_e eT hR
          clear eT
          refine lv_aload_n hx hb d_Memory_closeFrom_41 rfl (lv_at hl 0 rfl) ?_
          refine lv_dup hx hb d_Memory_closeFrom_42 rfl ?_
          refine rd_Memory_55 hx hb hT hown hK hP d_Memory_closeFrom_43 ?_
          refine lv_iconst (v := 1) hx hb d_Memory_closeFrom_46 (by decide) ?_
          refine lv_isub hx hb d_Memory_closeFrom_47 ?_
          refine wr_Memory_55 hx hb hT hown hK hP hD hS d_Memory_closeFrom_48 (fun T9 eT H locs hP hD hS => ?_)
          replace hR := stK_e eT hR
          clear eT
          obtain ⟨z10, e10⟩ : ∃ y : Int32, y = x2 + (1 : Int32) := ⟨_, rfl⟩
          replace hR := vK_e e10 hR
          refine lv_iinc (v := z10) (lv' := [(2, .int z10), (0, .ref (ad 11)), (1, .int x1)]) hx hb d_Memory_closeFrom_51 hl (k := 2) rfl (by rw [e10]; rfl) (by decide) rfl (fun ls hl => ?_)
          refine lv_goto (tgt := 16) hx hb d_Memory_closeFrom_54 (by decide) ?_
          have g := ih T9 x1 z10 hR
          rw [hG] at g
          exact g _ _ hP hD hS _ (lv_sub hl [1, 2, 0] rfl)
  unfold rb_Memory_closeFrom at hR
  refine lv_iload_n hx hb d_Memory_closeFrom_0 rfl (lv_at hl 1 rfl) ?_
  refine lv_iconst (v := 1) hx hb d_Memory_closeFrom_1 (by decide) ?_
  refine lv_icmp_lt (tgt := 13) hx hb d_Memory_closeFrom_2 (by decide) (fun c1 => ?_) (fun c1 => ?_)
  · replace hR := if_p c1 hR
    obtain ⟨-, -, e3⟩ := re_e hR
    subst e3
    exact W.vret hx hb hr (fun t ht hW => ⟨⟨(), rfl, trivial, by rw [ht]; exact hP, va_K.moved hW.alike hK, hD⟩, hS.F ht⟩) hS.2.2 d_Memory_closeFrom_13
  · replace hR := if_n c1 hR
    refine lv_iload_n hx hb d_Memory_closeFrom_5 rfl (lv_at hl 1 rfl) ?_
    refine lv_aload_n hx hb d_Memory_closeFrom_6 rfl (lv_at hl 0 rfl) ?_
    refine rd_Memory_64 hx hb hT hown hK hP d_Memory_closeFrom_7 ?_
    refine lv_icmp_lt (tgt := 14) hx hb d_Memory_closeFrom_10 (by decide) (fun c2 => ?_) (fun c2 => ?_)
    · replace hR := if_p c2 hR
      refine lv_iconst (v := 0) hx hb d_Memory_closeFrom_14 (by decide) ?_
      refine lv_istore_n (lv' := [(2, .int (0 : Int32)), (0, .ref (ad 11)), (1, .int p1)]) hx hb d_Memory_closeFrom_15 rfl hl (by decide) rfl (fun ls hl => ?_)
      have g := lb_16 nf T0 p1 (0 : Int32) hR
      rw [hG] at g
      exact g _ _ hP hD hS _ (lv_sub hl [1, 2, 0] rfl)
    · replace hR := if_n c2 hR
      obtain ⟨-, -, e3⟩ := re_e hR
      subst e3
      exact W.vret hx hb hr (fun t ht hW => ⟨⟨(), rfl, trivial, by rw [ht]; exact hP, va_K.moved hW.alike hK, hD⟩, hS.F ht⟩) hS.2.2 d_Memory_closeFrom_13
set_option maxHeartbeats 4000000 in
set_option maxRecDepth 100000 in
theorem sp_Memory_make (l : Launch) (dC : Nat → ClassId) (dI : Nat → Nat → Nat) (ea ev ad : Nat → Nat) (km : Nat → ClassId) (F : gF) (nf d : Nat) (h_Memory_freePage : mt_Memory_freePage l dC dI ea ev ad km F d) (h_Memory_takePage : mt_Memory_takePage l dC dI ea ev ad km F d) (T0 : gSt) (p1 : Int32) (p2 : Int32) (r0 : Int32) (rl0 : Int64) (T9 : gSt) (hR : rb_Memory_make F nf T0 p1 p2 = some (r0, rl0, T9)) : GMi l dC dI LH ad km ea ev y_Memory_make w_Memory_make (rmD (d + 1)) [.ref (ad 11), .int p1, .int p2] T0 r0 T9 := by
  intro sz
  refine Met.ofW (cc := b_Memory_make) (maxL := 4) (ret := (some .int)) (by decide) rfl ?_
  intro p e s m args below meth c s₁ B hml hv
  obtain ⟨rfl, hsz, hP, hK, hD0, hnw, henv⟩ := hv
  have hx := B.exec
  have hb := B.bytes
  have hr := B.returns
  have hT : ∀ w ∈ lw_good, w.before _ s = true := fun w h => atoms_spec (ws := w_Memory_make) B.pre w (List.mem_cons_of_mem _ h)
  have hown : s.vm.findClass R_Memory = some m.cls := findClass_of_methodNamed B.named
  subst hsz
  have hD := hD0.self (sz := s.heap.size)
  clear hD0
  generalize hAe : va_A (gW LH ad km T0) s.heap.size = A at hD henv ⊢
  have hA : ∀ q : Nat, s.heap.size ≤ q → A q := fun q h => by rw [← hAe]; exact Or.inr h
  have hS : va_S A s.heap s.heap [] := va_S.rf
  have hl := lv_entry ([.ref (ad 11), .int p1, .int p2]) (n := 4) (Nat.le_of_ble_eq_true rfl)
  rw [lg_entry_eq]
  generalize (lg_sl ([.ref (ad 11), .int p1, .int p2]) ++ List.replicate (4 - (lg_sl ([.ref (ad 11), .int p1, .int p2])).length) Slot.unset).toArray = ls at hl ⊢
  have hl : lv_has ls 4 [(0, .ref (ad 11)), (1, .int p1), (2, .int p2)] := hl
  obtain ⟨G, hG⟩ : ∃ G : Nat → List (Nat × Value) → List Value → gSt → Prop, G = (fun pc lv stk T => ∀ (H : Heap) (locs : List Loc), va_P (dC, dI) cls_all (gW LH ad km T) H → va_D A (gW LH ad km T) → va_S A s.heap H locs → ∀ (ls : Array Slot), lv_has ls 4 lv → W p l e (headSpec w_Memory_make (rmD (d + 1))).room s m ([.ref (ad 11), .int p1, .int p2] : List Value).toArray below meth c H locs 0 0 (MQ below (va_Qi (fun (z : Int32) (_ : Unit) => z = r0) (fun _ t => gPost dC dI LH ad km T9 A t) A) ([.ref (ad 11), .int p1, .int p2] : List Value).toArray s 0 0 A) (F0 m pc ls stk)) := ⟨_, rfl⟩
  have lb_42 : ∀ (T : gSt) (x1 : Int32) (x2 : Int32), rj_Memory_make_42 F nf T x1 x2 = some (r0, rl0, T9) → G 42 [(0, .ref (ad 11)), (1, .int x1), (2, .int x2)] [] T := by
    intro T x1 x2 hR; unfold rj_Memory_make_42 at hR; rw [hG]; intro H locs hP hD hS ls hl
    refine lv_aload_n hx hb d_Memory_make_42 rfl (lv_at hl 0 rfl) ?_
    refine rd_Memory_33 hx hb hT hown hK hP d_Memory_make_43 ?_
    refine lv_iload_n hx hb d_Memory_make_46 rfl (lv_at hl 1 rfl) ?_
    replace hR := gd_e hR
    obtain ⟨b11, hR⟩ := hR
    refine laH_54 hx hb hK hP b11 d_Memory_make_47 ?_
    refine lv_topi (fun z12 e12 => ?_)
    replace hR := vK_e e12 hR
    refine lv_istore_n (lv' := [(3, .int z12), (0, .ref (ad 11)), (1, .int x1), (2, .int x2)]) hx hb d_Memory_make_48 rfl hl (by decide) rfl (fun ls hl => ?_)
    refine lv_aload_n hx hb d_Memory_make_49 rfl (lv_at hl 1 rfl) ?_
    refine rd_Memory_33 hx hb hT hown hK hP d_Memory_make_50 ?_
    refine lv_iload_n hx hb d_Memory_make_53 rfl (lv_at hl 2 rfl) ?_
    refine lv_dup2_11 hx hb d_Memory_make_54 rfl rfl ?_
    replace hR := gd_e hR
    obtain ⟨b13, hR⟩ := hR
    refine laH_54 hx hb hK hP b13 d_Memory_make_55 ?_
    refine lv_iload_n hx hb d_Memory_make_56 rfl (lv_at hl 3 rfl) ?_
    refine lv_iadd hx hb d_Memory_make_57 ?_
    replace hR := gd_e hR
    obtain ⟨b14, hR⟩ := hR
    refine saH_54 hx hb hK hP hD hS b14 d_Memory_make_58 (fun T14 eT H locs hP hD hS => ?_)
    replace hR := stK_e eT hR
    clear eT
    refine lv_aload_n hx hb d_Memory_make_59 rfl (lv_at hl 1 rfl) ?_
    refine rd_Memory_36 hx hb hT hown hK hP d_Memory_make_60 ?_
    refine lv_iload_n hx hb d_Memory_make_63 rfl (lv_at hl 2 rfl) ?_
    refine lv_dup2_11 hx hb d_Memory_make_64 rfl rfl ?_
    replace hR := gd_e hR
    obtain ⟨b15, hR⟩ := hR
    refine laH_55 hx hb hK hP b15 d_Memory_make_65 ?_
    refine lv_iload_n hx hb d_Memory_make_66 rfl (lv_at hl 3 rfl) ?_
    refine lv_isub hx hb d_Memory_make_67 ?_
    replace hR := gd_e hR
    obtain ⟨b16, hR⟩ := hR
    refine saH_55 hx hb hK hP hD hS b16 d_Memory_make_68 (fun T16 eT H locs hP hD hS => ?_)
    replace hR := stK_e eT hR
    clear eT
    refine lv_aload_n hx hb d_Memory_make_69 rfl (lv_at hl 1 rfl) ?_
    refine rd_Memory_27 hx hb hT hown hK hP d_Memory_make_70 ?_
    refine lv_iload_n hx hb d_Memory_make_73 rfl (lv_at hl 2 rfl) ?_
    refine lv_dup2_11 hx hb d_Memory_make_74 rfl rfl ?_
    replace hR := gd_e hR
    obtain ⟨b17, hR⟩ := hR
    refine laH_52 hx hb hK hP b17 d_Memory_make_75 ?_
    refine lv_iload_n hx hb d_Memory_make_76 rfl (lv_at hl 3 rfl) ?_
    refine lv_iadd hx hb d_Memory_make_77 ?_
    replace hR := gd_e hR
    obtain ⟨b18, hR⟩ := hR
    refine saH_52 hx hb hK hP hD hS b18 d_Memory_make_78 (fun T18 eT H locs hP hD hS => ?_)
    replace hR := stK_e eT hR
    clear eT
    refine lv_aload_n hx hb d_Memory_make_79 rfl (lv_at hl 1 rfl) ?_
    refine rd_Memory_30 hx hb hT hown hK hP d_Memory_make_80 ?_
    refine lv_iload_n hx hb d_Memory_make_83 rfl (lv_at hl 2 rfl) ?_
    refine lv_dup2_11 hx hb d_Memory_make_84 rfl rfl ?_
    replace hR := gd_e hR
    obtain ⟨b19, hR⟩ := hR
    refine laH_53 hx hb hK hP b19 d_Memory_make_85 ?_
    refine lv_iconst (v := 1) hx hb d_Memory_make_86 (by decide) ?_
    refine lv_iadd hx hb d_Memory_make_87 ?_
    replace hR := gd_e hR
    obtain ⟨b20, hR⟩ := hR
    refine saH_53 hx hb hK hP hD hS b20 d_Memory_make_88 (fun T20 eT H locs hP hD hS => ?_)
    replace hR := stK_e eT hR
    clear eT
    refine lv_aload_n hx hb d_Memory_make_89 rfl (lv_at hl 1 rfl) ?_
    refine lv_dup hx hb d_Memory_make_90 rfl ?_
    refine rd_Memory_58 hx hb hT hown hK hP d_Memory_make_91 ?_
    refine lv_iconst (v := 1) hx hb d_Memory_make_94 (by decide) ?_
    refine lv_iadd hx hb d_Memory_make_95 ?_
    refine wr_Memory_58 hx hb hT hown hK hP hD hS d_Memory_make_96 (fun T21 eT H locs hP hD hS => ?_)
    replace hR := stK_e eT hR
    clear eT
    refine lv_iload_n hx hb d_Memory_make_99 rfl (lv_at hl 0 rfl) ?_
    obtain ⟨e1, -, e3⟩ := re_e hR
    subst e1; subst e3
    exact W.iret (v := z12) hx hb hr (fun t ht hW => ⟨⟨z12, (), rfl, rfl, by rw [ht]; exact hP, va_K.moved hW.alike hK, hD⟩, hS.F ht⟩) hS.2.2 d_Memory_make_100
  unfold rb_Memory_make at hR
  refine lv_iload_n hx hb d_Memory_make_0 rfl (lv_at hl 1 rfl) ?_
  refine lv_if_lt (tgt := 12) hx hb d_Memory_make_1 (by decide) (fun c1 => ?_) (fun c1 => ?_)
  · replace hR := if_p c1 hR
    refine lv_iconst (v := (-1)) hx hb d_Memory_make_12 (by decide) ?_
    obtain ⟨e1, -, e3⟩ := re_e hR
    subst e1; subst e3
    exact W.iret (v := (-1 : Int32)) hx hb hr (fun t ht hW => ⟨⟨(-1 : Int32), (), rfl, rfl, by rw [ht]; exact hP, va_K.moved hW.alike hK, hD⟩, hS.F ht⟩) hS.2.2 d_Memory_make_13
  · replace hR := if_n c1 hR
    refine lv_iload_n hx hb d_Memory_make_4 rfl (lv_at hl 1 rfl) ?_
    refine lv_aload_n hx hb d_Memory_make_5 rfl (lv_at hl 0 rfl) ?_
    refine rd_Memory_64 hx hb hT hown hK hP d_Memory_make_6 ?_
    refine lv_icmp_lt (tgt := 14) hx hb d_Memory_make_9 (by decide) (fun c3 => ?_) (fun c3 => ?_)
    · replace hR := if_p c3 hR
      refine lv_iload_n hx hb d_Memory_make_14 rfl (lv_at hl 2 rfl) ?_
      refine lv_aload_n hx hb d_Memory_make_15 rfl (lv_at hl 0 rfl) ?_
      refine rd_Memory_36 hx hb hT hown hK hP d_Memory_make_16 ?_
      refine lv_iload_n hx hb d_Memory_make_19 rfl (lv_at hl 1 rfl) ?_
      replace hR := gd_e hR
      obtain ⟨b4, hR⟩ := hR
      refine laH_55 hx hb hK hP b4 d_Memory_make_20 ?_
      refine lv_icmp_le (tgt := 42) hx hb d_Memory_make_21 (by decide) (fun c5 => ?_) (fun c5 => ?_)
      · replace hR := if_p c5 hR
        have g := lb_42 T0 p1 p2 hR
        rw [hG] at g
        exact g _ _ hP hD hS _ (lv_sub hl [0, 1, 2] rfl)
      · replace hR := if_n c5 hR
        refine lv_aload_n hx hb d_Memory_make_24 rfl (lv_at hl 0 rfl) ?_
        replace hR := bi_e hR
        obtain ⟨r6, l6, T6, hc6, hR⟩ := hR
        refine gcV_i (rest := []) ⟨hx, hb, hml, hown, hT⟩ (h_Memory_freePage _ _ _ _ hc6) (cwV 0 hT (gV ml_Memory_77 im_Memory_freePage se_Memory_freePage ini_Memory co_Memory_freePage) rfl rfl rfl pd_Memory_freePage ⟨rm_hi, rm_lo (Nat.le_of_ble_eq_true rfl)⟩) hK hP hD hS hA hnw henv (Nat.le_of_ble_eq_true rfl) rfl rfl hl.1 rfl (Nat.le_of_ble_eq_true rfl) d_Memory_make_25 ⟨Nat.le_refl _, Nat.le_refl _⟩ (fun H locs hP hD hS => ?_)
        clear hc6
        refine lv_istore_n (lv' := [(3, .int r6), (0, .ref (ad 11)), (1, .int p1), (2, .int p2)]) hx hb d_Memory_make_28 rfl hl (by decide) rfl (fun ls hl => ?_)
        refine lv_iload_n hx hb d_Memory_make_29 rfl (lv_at hl 0 rfl) ?_
        refine lv_iconst (v := (-1)) hx hb d_Memory_make_30 (by decide) ?_
        refine lv_icmp_ne (tgt := 36) hx hb d_Memory_make_31 (by decide) (fun c7 => ?_) (fun c7 => ?_)
        · replace hR := if_n c7 hR
          refine lv_aload_n hx hb d_Memory_make_36 rfl (lv_at hl 1 rfl) ?_
          refine lv_iload_n hx hb d_Memory_make_37 rfl (lv_at hl 2 rfl) ?_
          refine lv_iload_n hx hb d_Memory_make_38 rfl (lv_at hl 0 rfl) ?_
          replace hR := bi_e hR
          obtain ⟨r8, l8, T8, hc8, hR⟩ := hR
          refine gcV_v (rest := []) ⟨hx, hb, hml, hown, hT⟩ (h_Memory_takePage _ _ _ _ _ _ hc8) (cwV 2 hT (gV ml_Memory_80 im_Memory_takePage se_Memory_takePage ini_Memory co_Memory_takePage) rfl rfl rfl pd_Memory_takePage ⟨rm_hi, rm_lo (Nat.le_of_ble_eq_true rfl)⟩) hK hP hD hS hA hnw henv (Nat.le_of_ble_eq_true rfl) rfl rfl hl.1 rfl (Nat.le_of_ble_eq_true rfl) d_Memory_make_39 ⟨Nat.le_refl _, Nat.le_refl _⟩ (fun H locs hP hD hS => ?_)
          clear hc8
          have g := lb_42 T8 p1 p2 hR
          rw [hG] at g
          exact g _ _ hP hD hS _ (lv_sub hl [1, 2, 3] rfl)
        · replace hR := if_p c7 hR
          refine lv_iconst (v := (-1)) hx hb d_Memory_make_34 (by decide) ?_
          obtain ⟨e1, -, e3⟩ := re_e hR
          subst e1; subst e3
          exact W.iret (v := (-1 : Int32)) hx hb hr (fun t ht hW => ⟨⟨(-1 : Int32), (), rfl, rfl, by rw [ht]; exact hP, va_K.moved hW.alike hK, hD⟩, hS.F ht⟩) hS.2.2 d_Memory_make_35
    · replace hR := if_n c3 hR
      refine lv_iconst (v := (-1)) hx hb d_Memory_make_12 (by decide) ?_
      obtain ⟨e1, -, e3⟩ := re_e hR
      subst e1; subst e3
      exact W.iret (v := (-1 : Int32)) hx hb hr (fun t ht hW => ⟨⟨(-1 : Int32), (), rfl, rfl, by rw [ht]; exact hP, va_K.moved hW.alike hK, hD⟩, hS.F ht⟩) hS.2.2 d_Memory_make_13
set_option maxHeartbeats 4000000 in
set_option maxRecDepth 100000 in
theorem sp_Memory_freePage (l : Launch) (dC : Nat → ClassId) (dI : Nat → Nat → Nat) (ea ev ad : Nat → Nat) (km : Nat → ClassId) (F : gF) (nf d : Nat) (T0 : gSt) (r0 : Int32) (rl0 : Int64) (T9 : gSt) (hR : rb_Memory_freePage F nf T0 = some (r0, rl0, T9)) : GMi l dC dI LH ad km ea ev y_Memory_freePage w_Memory_freePage (rmD (d + 1)) [.ref (ad 11)] T0 r0 T9 := by
  intro sz
  refine Met.ofW (cc := b_Memory_freePage) (maxL := 2) (ret := (some .int)) (by decide) rfl ?_
  intro p e s m args below meth c s₁ B hml hv
  obtain ⟨rfl, hsz, hP, hK, hD0, hnw, henv⟩ := hv
  have hx := B.exec
  have hb := B.bytes
  have hr := B.returns
  have hT : ∀ w ∈ lw_good, w.before _ s = true := fun w h => atoms_spec (ws := w_Memory_freePage) B.pre w (List.mem_cons_of_mem _ h)
  have hown : s.vm.findClass R_Memory = some m.cls := findClass_of_methodNamed B.named
  subst hsz
  have hD := hD0.self (sz := s.heap.size)
  clear hD0
  generalize hAe : va_A (gW LH ad km T0) s.heap.size = A at hD henv ⊢
  have hA : ∀ q : Nat, s.heap.size ≤ q → A q := fun q h => by rw [← hAe]; exact Or.inr h
  have hS : va_S A s.heap s.heap [] := va_S.rf
  have hl := lv_entry ([.ref (ad 11)]) (n := 2) (Nat.le_of_ble_eq_true rfl)
  rw [lg_entry_eq]
  generalize (lg_sl ([.ref (ad 11)]) ++ List.replicate (2 - (lg_sl ([.ref (ad 11)])).length) Slot.unset).toArray = ls at hl ⊢
  have hl : lv_has ls 2 [(0, .ref (ad 11))] := hl
  obtain ⟨G, hG⟩ : ∃ G : Nat → List (Nat × Value) → List Value → gSt → Prop, G = (fun pc lv stk T => ∀ (H : Heap) (locs : List Loc), va_P (dC, dI) cls_all (gW LH ad km T) H → va_D A (gW LH ad km T) → va_S A s.heap H locs → ∀ (ls : Array Slot), lv_has ls 2 lv → W p l e (headSpec w_Memory_freePage (rmD (d + 1))).room s m ([.ref (ad 11)] : List Value).toArray below meth c H locs 0 0 (MQ below (va_Qi (fun (z : Int32) (_ : Unit) => z = r0) (fun _ t => gPost dC dI LH ad km T9 A t) A) ([.ref (ad 11)] : List Value).toArray s 0 0 A) (F0 m pc ls stk)) := ⟨_, rfl⟩
  have lb_2 : ∀ (n : Nat) (T : gSt) (x1 : Int32), rl_Memory_freePage_2 F nf n T x1 = some (r0, rl0, T9) → G 2 [(0, .ref (ad 11)), (1, .int x1)] [] T := by
    intro n
    induction n with
    | zero => intro T x1 hR; rw [rl_Memory_freePage_2] at hR; cases hR
    | succ n ih =>
      intro T x1 hR; rw [rl_Memory_freePage_2] at hR; rw [hG]; intro H locs hP hD hS ls hl
      refine lv_iload_n hx hb d_Memory_freePage_2 rfl (lv_at hl 1 rfl) ?_
      refine lv_aload_n hx hb d_Memory_freePage_3 rfl (lv_at hl 0 rfl) ?_
      refine rd_Memory_48 hx hb hT hown hK hP d_Memory_freePage_4 ?_
      refine lv_icmp_ge (tgt := 28) hx hb d_Memory_freePage_7 (by decide) (fun c1 => ?_) (fun c1 => ?_)
      · replace hR := if_p c1 hR
        refine lv_iconst (v := (-1)) hx hb d_Memory_freePage_28 (by decide) ?_
        obtain ⟨e1, -, e3⟩ := re_e hR
        subst e1; subst e3
        exact W.iret (v := (-1 : Int32)) hx hb hr (fun t ht hW => ⟨⟨(-1 : Int32), (), rfl, rfl, by rw [ht]; exact hP, va_K.moved hW.alike hK, hD⟩, hS.F ht⟩) hS.2.2 d_Memory_freePage_29
      · replace hR := if_n c1 hR
        refine lv_aload_n hx hb d_Memory_freePage_10 rfl (lv_at hl 0 rfl) ?_
        refine rd_Memory_21 hx hb hT hown hK hP d_Memory_freePage_11 ?_
        refine lv_iload_n hx hb d_Memory_freePage_14 rfl (lv_at hl 1 rfl) ?_
        replace hR := gd_e hR
        obtain ⟨b3, hR⟩ := hR
        refine laH_50 hx hb hK hP b3 d_Memory_freePage_15 ?_
        refine lv_iconst (v := (-1)) hx hb d_Memory_freePage_16 (by decide) ?_
        refine lv_icmp_ne (tgt := 22) hx hb d_Memory_freePage_17 (by decide) (fun c4 => ?_) (fun c4 => ?_)
        · replace hR := if_n c4 hR
          obtain ⟨z5, e5⟩ : ∃ y : Int32, y = x1 + (1 : Int32) := ⟨_, rfl⟩
          replace hR := vK_e e5 hR
          refine lv_iinc (v := z5) (lv' := [(1, .int z5), (0, .ref (ad 11))]) hx hb d_Memory_freePage_22 hl (k := 1) rfl (by rw [e5]; rfl) (by decide) rfl (fun ls hl => ?_)
          refine lv_goto (tgt := 2) hx hb d_Memory_freePage_25 (by decide) ?_
          have g := ih T z5 hR
          rw [hG] at g
          exact g _ _ hP hD hS _ (lv_sub hl [1, 0] rfl)
        · replace hR := if_p c4 hR
          refine lv_iload_n hx hb d_Memory_freePage_20 rfl (lv_at hl 1 rfl) ?_
          obtain ⟨e1, -, e3⟩ := re_e hR
          subst e1; subst e3
          exact W.iret (v := x1) hx hb hr (fun t ht hW => ⟨⟨x1, (), rfl, rfl, by rw [ht]; exact hP, va_K.moved hW.alike hK, hD⟩, hS.F ht⟩) hS.2.2 d_Memory_freePage_21
  unfold rb_Memory_freePage at hR
  refine lv_iconst (v := 0) hx hb d_Memory_freePage_0 (by decide) ?_
  refine lv_istore_n (lv' := [(1, .int (0 : Int32)), (0, .ref (ad 11))]) hx hb d_Memory_freePage_1 rfl hl (by decide) rfl (fun ls hl => ?_)
  have g := lb_2 nf T0 (0 : Int32) hR
  rw [hG] at g
  exact g _ _ hP hD hS _ (lv_sub hl [1, 0] rfl)
set_option maxHeartbeats 4000000 in
set_option maxRecDepth 100000 in
theorem sp_Memory_takePage (l : Launch) (dC : Nat → ClassId) (dI : Nat → Nat → Nat) (ea ev ad : Nat → Nat) (km : Nat → ClassId) (F : gF) (nf d : Nat) (T0 : gSt) (p1 : Int32) (p2 : Int32) (r0 : Int32) (rl0 : Int64) (T9 : gSt) (hR : rb_Memory_takePage F nf T0 p1 p2 = some (r0, rl0, T9)) : GMv l dC dI LH ad km ea ev y_Memory_takePage w_Memory_takePage (rmD (d + 1)) [.ref (ad 11), .int p1, .int p2] T0 T9 := by
  intro sz
  refine Met.ofW (cc := b_Memory_takePage) (maxL := 5) (ret := none) (by decide) rfl ?_
  intro p e s m args below meth c s₁ B hml hv
  obtain ⟨rfl, hsz, hP, hK, hD0, hnw, henv⟩ := hv
  have hx := B.exec
  have hb := B.bytes
  have hr := B.returns
  have hT : ∀ w ∈ lw_good, w.before _ s = true := fun w h => atoms_spec (ws := w_Memory_takePage) B.pre w (List.mem_cons_of_mem _ h)
  have hown : s.vm.findClass R_Memory = some m.cls := findClass_of_methodNamed B.named
  subst hsz
  have hD := hD0.self (sz := s.heap.size)
  clear hD0
  generalize hAe : va_A (gW LH ad km T0) s.heap.size = A at hD henv ⊢
  have hA : ∀ q : Nat, s.heap.size ≤ q → A q := fun q h => by rw [← hAe]; exact Or.inr h
  have hS : va_S A s.heap s.heap [] := va_S.rf
  have hl := lv_entry ([.ref (ad 11), .int p1, .int p2]) (n := 5) (Nat.le_of_ble_eq_true rfl)
  rw [lg_entry_eq]
  generalize (lg_sl ([.ref (ad 11), .int p1, .int p2]) ++ List.replicate (5 - (lg_sl ([.ref (ad 11), .int p1, .int p2])).length) Slot.unset).toArray = ls at hl ⊢
  have hl : lv_has ls 5 [(0, .ref (ad 11)), (1, .int p1), (2, .int p2)] := hl
  obtain ⟨G, hG⟩ : ∃ G : Nat → List (Nat × Value) → List Value → gSt → Prop, G = (fun pc lv stk T => ∀ (H : Heap) (locs : List Loc), va_P (dC, dI) cls_all (gW LH ad km T) H → va_D A (gW LH ad km T) → va_S A s.heap H locs → ∀ (ls : Array Slot), lv_has ls 5 lv → W p l e (headSpec w_Memory_takePage (rmD (d + 1))).room s m ([.ref (ad 11), .int p1, .int p2] : List Value).toArray below meth c H locs 0 0 (MQ below (va_Qv (fun (_ : Unit) => True) (fun _ t => gPost dC dI LH ad km T9 A t) A) ([.ref (ad 11), .int p1, .int p2] : List Value).toArray s 0 0 A) (F0 m pc ls stk)) := ⟨_, rfl⟩
  have lb_54 : ∀ (n : Nat) (T : gSt) (x3 : Int32) (x4 : Int32), rl_Memory_takePage_54 F nf n T x3 x4 = some (r0, rl0, T9) → G 54 [(0, .ref (ad 11)), (3, .int x3), (4, .int x4)] [] T := by
    intro n
    induction n with
    | zero => intro T x3 x4 hR; rw [rl_Memory_takePage_54] at hR; cases hR
    | succ n ih =>
      intro T x3 x4 hR; rw [rl_Memory_takePage_54] at hR; rw [hG]; intro H locs hP hD hS ls hl
      refine lv_iload hx hb d_Memory_takePage_54 (lv_at hl 2 rfl) ?_
      refine lv_iload_n hx hb d_Memory_takePage_56 rfl (lv_at hl 1 rfl) ?_
      refine lv_aload_n hx hb d_Memory_takePage_57 rfl (lv_at hl 0 rfl) ?_
      refine rd_Memory_52 hx hb hT hown hK hP d_Memory_takePage_58 ?_
      refine lv_iadd hx hb d_Memory_takePage_61 ?_
      refine lv_icmp_ge (tgt := 89) hx hb d_Memory_takePage_62 (by decide) (fun c8 => ?_) (fun c8 => ?_)
      · replace hR := if_p c8 hR
        obtain ⟨-, -, e3⟩ := re_e hR
        subst e3
        exact W.vret hx hb hr (fun t ht hW => ⟨⟨(), rfl, trivial, by rw [ht]; exact hP, va_K.moved hW.alike hK, hD⟩, hS.F ht⟩) hS.2.2 d_Memory_takePage_89
      · replace hR := if_n c8 hR
        refine lv_iload hx hb d_Memory_takePage_65 (lv_at hl 2 rfl) ?_
        refine lv_aload_n hx hb d_Memory_takePage_67 rfl (lv_at hl 0 rfl) ?_
        refine rd_Memory_17 hx hb hT hown hK hP d_Memory_takePage_68 ?_
        refine gw_alen hx hb hK hP 49 4096 61 (Nat.le_of_ble_eq_true rfl) rfl rfl d_Memory_takePage_71 ?_
        refine W.eq (g2 := F0 m 72 ls [.int (4096 : Int32), .int x4]) rfl ?_
        refine lv_icmp_ge (tgt := 89) hx hb d_Memory_takePage_72 (by decide) (fun c9 => ?_) (fun c9 => ?_)
        · replace hR := if_p c9 hR
          obtain ⟨-, -, e3⟩ := re_e hR
          subst e3
          exact W.vret hx hb hr (fun t ht hW => ⟨⟨(), rfl, trivial, by rw [ht]; exact hP, va_K.moved hW.alike hK, hD⟩, hS.F ht⟩) hS.2.2 d_Memory_takePage_89
        · replace hR := if_n c9 hR
          refine lv_aload_n hx hb d_Memory_takePage_75 rfl (lv_at hl 0 rfl) ?_
          refine rd_Memory_17 hx hb hT hown hK hP d_Memory_takePage_76 ?_
          refine lv_iload hx hb d_Memory_takePage_79 (lv_at hl 2 rfl) ?_
          refine lv_iconst (v := 0) hx hb d_Memory_takePage_81 (by decide) ?_
          replace hR := gd_e hR
          obtain ⟨b10, hR⟩ := hR
          refine saH_49 hx hb hK hP hD hS (by decide) b10 d_Memory_takePage_82 (fun T10 eT H locs hP hD hS => ?_)
          replace hR := stK_e eT hR
          clear eT
          obtain ⟨z11, e11⟩ : ∃ y : Int32, y = x4 + (1 : Int32) := ⟨_, rfl⟩
          replace hR := vK_e e11 hR
          refine lv_iinc (v := z11) (lv' := [(4, .int z11), (0, .ref (ad 11)), (3, .int x3)]) hx hb d_Memory_takePage_83 hl (k := 2) rfl (by rw [e11]; rfl) (by decide) rfl (fun ls hl => ?_)
          refine lv_goto (tgt := 54) hx hb d_Memory_takePage_86 (by decide) ?_
          have g := ih T10 x3 z11 hR
          rw [hG] at g
          exact g _ _ hP hD hS _ (lv_sub hl [1, 2, 0] rfl)
  unfold rb_Memory_takePage at hR
  refine lv_iload_n hx hb d_Memory_takePage_0 rfl (lv_at hl 2 rfl) ?_
  refine lv_aload_n hx hb d_Memory_takePage_1 rfl (lv_at hl 0 rfl) ?_
  refine rd_Memory_52 hx hb hT hown hK hP d_Memory_takePage_2 ?_
  refine lv_imul hx hb d_Memory_takePage_5 ?_
  refine lv_topi (fun z1 e1 => ?_)
  replace hR := vK_e e1 hR
  refine lv_istore_n (lv' := [(3, .int z1), (0, .ref (ad 11)), (1, .int p1), (2, .int p2)]) hx hb d_Memory_takePage_6 rfl hl (by decide) rfl (fun ls hl => ?_)
  refine lv_aload_n hx hb d_Memory_takePage_7 rfl (lv_at hl 1 rfl) ?_
  refine rd_Memory_21 hx hb hT hown hK hP d_Memory_takePage_8 ?_
  refine lv_iload_n hx hb d_Memory_takePage_11 rfl (lv_at hl 3 rfl) ?_
  refine lv_iload_n hx hb d_Memory_takePage_12 rfl (lv_at hl 2 rfl) ?_
  replace hR := gd_e hR
  obtain ⟨b2, hR⟩ := hR
  refine saH_50 hx hb hK hP hD hS b2 d_Memory_takePage_13 (fun T2 eT H locs hP hD hS => ?_)
  replace hR := stK_e eT hR
  clear eT
  refine lv_aload_n hx hb d_Memory_takePage_14 rfl (lv_at hl 1 rfl) ?_
  refine lv_dup hx hb d_Memory_takePage_15 rfl ?_
  refine rd_Memory_55 hx hb hT hown hK hP d_Memory_takePage_16 ?_
  refine lv_iconst (v := 1) hx hb d_Memory_takePage_19 (by decide) ?_
  refine lv_iadd hx hb d_Memory_takePage_20 ?_
  refine wr_Memory_55 hx hb hT hown hK hP hD hS d_Memory_takePage_21 (fun T3 eT H locs hP hD hS => ?_)
  replace hR := stK_e eT hR
  clear eT
  refine lv_aload_n hx hb d_Memory_takePage_24 rfl (lv_at hl 1 rfl) ?_
  refine rd_Memory_24 hx hb hT hown hK hP d_Memory_takePage_25 ?_
  refine lv_iload_n hx hb d_Memory_takePage_28 rfl (lv_at hl 2 rfl) ?_
  refine lv_dup2_11 hx hb d_Memory_takePage_29 rfl rfl ?_
  replace hR := gd_e hR
  obtain ⟨b4, hR⟩ := hR
  refine laH_51 hx hb hK hP b4 d_Memory_takePage_30 ?_
  refine lv_iconst (v := 1) hx hb d_Memory_takePage_31 (by decide) ?_
  refine lv_iadd hx hb d_Memory_takePage_32 ?_
  replace hR := gd_e hR
  obtain ⟨b5, hR⟩ := hR
  refine saH_51 hx hb hK hP hD hS b5 d_Memory_takePage_33 (fun T5 eT H locs hP hD hS => ?_)
  replace hR := stK_e eT hR
  clear eT
  refine lv_aload_n hx hb d_Memory_takePage_34 rfl (lv_at hl 1 rfl) ?_
  refine rd_Memory_33 hx hb hT hown hK hP d_Memory_takePage_35 ?_
  refine lv_iload_n hx hb d_Memory_takePage_38 rfl (lv_at hl 2 rfl) ?_
  refine lv_iload_n hx hb d_Memory_takePage_39 rfl (lv_at hl 0 rfl) ?_
  replace hR := gd_e hR
  obtain ⟨b6, hR⟩ := hR
  refine saH_54 hx hb hK hP hD hS b6 d_Memory_takePage_40 (fun T6 eT H locs hP hD hS => ?_)
  replace hR := stK_e eT hR
  clear eT
  refine lv_aload_n hx hb d_Memory_takePage_41 rfl (lv_at hl 1 rfl) ?_
  refine rd_Memory_36 hx hb hT hown hK hP d_Memory_takePage_42 ?_
  refine lv_iload_n hx hb d_Memory_takePage_45 rfl (lv_at hl 2 rfl) ?_
  refine lv_aload_n hx hb d_Memory_takePage_46 rfl (lv_at hl 1 rfl) ?_
  refine rd_Memory_52 hx hb hT hown hK hP d_Memory_takePage_47 ?_
  replace hR := gd_e hR
  obtain ⟨b7, hR⟩ := hR
  refine saH_55 hx hb hK hP hD hS b7 d_Memory_takePage_50 (fun T7 eT H locs hP hD hS => ?_)
  replace hR := stK_e eT hR
  clear eT
  refine lv_iload_n hx hb d_Memory_takePage_51 rfl (lv_at hl 0 rfl) ?_
  refine lv_istore (lv' := [(4, .int z1), (3, .int z1), (0, .ref (ad 11)), (1, .int p1), (2, .int p2)]) hx hb d_Memory_takePage_52 hl (by decide) rfl (fun ls hl => ?_)
  have g := lb_54 nf T7 z1 z1 hR
  rw [hG] at g
  exact g _ _ hP hD hS _ (lv_sub hl [2, 1, 0] rfl)
set_option maxHeartbeats 4000000 in
set_option maxRecDepth 100000 in
theorem sp_Memory_get (l : Launch) (dC : Nat → ClassId) (dI : Nat → Nat → Nat) (ea ev ad : Nat → Nat) (km : Nat → ClassId) (F : gF) (nf d : Nat) (h_Memory_isOwned : mt_Memory_isOwned l dC dI ea ev ad km F d) (T0 : gSt) (p1 : Int32) (r0 : Int32) (rl0 : Int64) (T9 : gSt) (hR : rb_Memory_get F nf T0 p1 = some (r0, rl0, T9)) : GMi l dC dI LH ad km ea ev y_Memory_get w_Memory_get (rmD (d + 1)) [.ref (ad 11), .int p1] T0 r0 T9 := by
  intro sz
  refine Met.ofW (cc := b_Memory_get) (maxL := 2) (ret := (some .int)) (by decide) rfl ?_
  intro p e s m args below meth c s₁ B hml hv
  obtain ⟨rfl, hsz, hP, hK, hD0, hnw, henv⟩ := hv
  have hx := B.exec
  have hb := B.bytes
  have hr := B.returns
  have hT : ∀ w ∈ lw_good, w.before _ s = true := fun w h => atoms_spec (ws := w_Memory_get) B.pre w (List.mem_cons_of_mem _ h)
  have hown : s.vm.findClass R_Memory = some m.cls := findClass_of_methodNamed B.named
  subst hsz
  have hD := hD0.self (sz := s.heap.size)
  clear hD0
  generalize hAe : va_A (gW LH ad km T0) s.heap.size = A at hD henv ⊢
  have hA : ∀ q : Nat, s.heap.size ≤ q → A q := fun q h => by rw [← hAe]; exact Or.inr h
  have hS : va_S A s.heap s.heap [] := va_S.rf
  have hl := lv_entry ([.ref (ad 11), .int p1]) (n := 2) (Nat.le_of_ble_eq_true rfl)
  rw [lg_entry_eq]
  generalize (lg_sl ([.ref (ad 11), .int p1]) ++ List.replicate (2 - (lg_sl ([.ref (ad 11), .int p1])).length) Slot.unset).toArray = ls at hl ⊢
  have hl : lv_has ls 2 [(0, .ref (ad 11)), (1, .int p1)] := hl
  unfold rb_Memory_get at hR
  refine lv_aload_n hx hb d_Memory_get_0 rfl (lv_at hl 0 rfl) ?_
  refine lv_iload_n hx hb d_Memory_get_1 rfl (lv_at hl 1 rfl) ?_
  replace hR := bi_e hR
  obtain ⟨r1, l1, T1, hc1, hR⟩ := hR
  refine gcV_i (rest := []) ⟨hx, hb, hml, hown, hT⟩ (h_Memory_isOwned _ _ _ _ _ hc1) (cwV 1 hT (gV ml_Memory_84 im_Memory_isOwned se_Memory_isOwned ini_Memory co_Memory_isOwned) rfl rfl rfl pd_Memory_isOwned ⟨rm_hi, rm_lo (Nat.le_of_ble_eq_true rfl)⟩) hK hP hD hS hA hnw henv (Nat.le_of_ble_eq_true rfl) rfl rfl hl.1 rfl (Nat.le_of_ble_eq_true rfl) d_Memory_get_2 ⟨Nat.le_refl _, Nat.le_refl _⟩ (fun H locs hP hD hS => ?_)
  clear hc1
  refine lv_if_eq (tgt := 17) hx hb d_Memory_get_5 (by decide) (fun c2 => ?_) (fun c2 => ?_)
  · replace hR := if_p c2 hR
    refine lv_aload_n hx hb d_Memory_get_17 rfl (lv_at hl 0 rfl) ?_
    refine lv_dup hx hb d_Memory_get_18 rfl ?_
    refine rd_Memory_61 hx hb hT hown hK hP d_Memory_get_19 ?_
    refine lv_iconst (v := 1) hx hb d_Memory_get_22 (by decide) ?_
    refine lv_iadd hx hb d_Memory_get_23 ?_
    refine wr_Memory_61 hx hb hT hown hK hP hD hS d_Memory_get_24 (fun T3 eT H locs hP hD hS => ?_)
    replace hR := stK_e eT hR
    clear eT
    refine lv_iconst (v := 0) hx hb d_Memory_get_27 (by decide) ?_
    obtain ⟨e1, -, e3⟩ := re_e hR
    subst e1; subst e3
    exact W.iret (v := (0 : Int32)) hx hb hr (fun t ht hW => ⟨⟨(0 : Int32), (), rfl, rfl, by rw [ht]; exact hP, va_K.moved hW.alike hK, hD⟩, hS.F ht⟩) hS.2.2 d_Memory_get_28
  · replace hR := if_n c2 hR
    refine lv_aload_n hx hb d_Memory_get_8 rfl (lv_at hl 0 rfl) ?_
    refine rd_Memory_17 hx hb hT hown hK hP d_Memory_get_9 ?_
    refine lv_iload_n hx hb d_Memory_get_12 rfl (lv_at hl 1 rfl) ?_
    replace hR := gd_e hR
    obtain ⟨b5, hR⟩ := hR
    refine laH_49 hx hb hK hP b5 d_Memory_get_13 ?_
    refine lv_if_ne (tgt := 29) hx hb d_Memory_get_14 (by decide) (fun c6 => ?_) (fun c6 => ?_)
    · replace hR := if_n c6 hR
      refine lv_aload_n hx hb d_Memory_get_29 rfl (lv_at hl 0 rfl) ?_
      refine rd_Memory_13 hx hb hT hown hK hP d_Memory_get_30 ?_
      refine lv_iload_n hx hb d_Memory_get_33 rfl (lv_at hl 1 rfl) ?_
      replace hR := gd_e hR
      obtain ⟨b7, hR⟩ := hR
      refine laH_48 hx hb hK hP b7 d_Memory_get_34 ?_
      obtain ⟨e1, -, e3⟩ := re_e hR
      subst e1; subst e3
      exact W.iret (v := T1.1 114 p1.toNatClampNeg) hx hb hr (fun t ht hW => ⟨⟨T1.1 114 p1.toNatClampNeg, (), rfl, rfl, by rw [ht]; exact hP, va_K.moved hW.alike hK, hD⟩, hS.F ht⟩) hS.2.2 d_Memory_get_35
    · replace hR := if_p c6 hR
      refine lv_aload_n hx hb d_Memory_get_17 rfl (lv_at hl 0 rfl) ?_
      refine lv_dup hx hb d_Memory_get_18 rfl ?_
      refine rd_Memory_61 hx hb hT hown hK hP d_Memory_get_19 ?_
      refine lv_iconst (v := 1) hx hb d_Memory_get_22 (by decide) ?_
      refine lv_iadd hx hb d_Memory_get_23 ?_
      refine wr_Memory_61 hx hb hT hown hK hP hD hS d_Memory_get_24 (fun T9 eT H locs hP hD hS => ?_)
      replace hR := stK_e eT hR
      clear eT
      refine lv_iconst (v := 0) hx hb d_Memory_get_27 (by decide) ?_
      obtain ⟨e1, -, e3⟩ := re_e hR
      subst e1; subst e3
      exact W.iret (v := (0 : Int32)) hx hb hr (fun t ht hW => ⟨⟨(0 : Int32), (), rfl, rfl, by rw [ht]; exact hP, va_K.moved hW.alike hK, hD⟩, hS.F ht⟩) hS.2.2 d_Memory_get_28
set_option maxHeartbeats 4000000 in
set_option maxRecDepth 100000 in
theorem sp_Memory_put (l : Launch) (dC : Nat → ClassId) (dI : Nat → Nat → Nat) (ea ev ad : Nat → Nat) (km : Nat → ClassId) (F : gF) (nf d : Nat) (h_Memory_isOwned : mt_Memory_isOwned l dC dI ea ev ad km F d) (T0 : gSt) (p1 : Int32) (p2 : Int32) (r0 : Int32) (rl0 : Int64) (T9 : gSt) (hR : rb_Memory_put F nf T0 p1 p2 = some (r0, rl0, T9)) : GMv l dC dI LH ad km ea ev y_Memory_put w_Memory_put (rmD (d + 1)) [.ref (ad 11), .int p1, .int p2] T0 T9 := by
  intro sz
  refine Met.ofW (cc := b_Memory_put) (maxL := 3) (ret := none) (by decide) rfl ?_
  intro p e s m args below meth c s₁ B hml hv
  obtain ⟨rfl, hsz, hP, hK, hD0, hnw, henv⟩ := hv
  have hx := B.exec
  have hb := B.bytes
  have hr := B.returns
  have hT : ∀ w ∈ lw_good, w.before _ s = true := fun w h => atoms_spec (ws := w_Memory_put) B.pre w (List.mem_cons_of_mem _ h)
  have hown : s.vm.findClass R_Memory = some m.cls := findClass_of_methodNamed B.named
  subst hsz
  have hD := hD0.self (sz := s.heap.size)
  clear hD0
  generalize hAe : va_A (gW LH ad km T0) s.heap.size = A at hD henv ⊢
  have hA : ∀ q : Nat, s.heap.size ≤ q → A q := fun q h => by rw [← hAe]; exact Or.inr h
  have hS : va_S A s.heap s.heap [] := va_S.rf
  have hl := lv_entry ([.ref (ad 11), .int p1, .int p2]) (n := 3) (Nat.le_of_ble_eq_true rfl)
  rw [lg_entry_eq]
  generalize (lg_sl ([.ref (ad 11), .int p1, .int p2]) ++ List.replicate (3 - (lg_sl ([.ref (ad 11), .int p1, .int p2])).length) Slot.unset).toArray = ls at hl ⊢
  have hl : lv_has ls 3 [(0, .ref (ad 11)), (1, .int p1), (2, .int p2)] := hl
  unfold rb_Memory_put at hR
  refine lv_aload_n hx hb d_Memory_put_0 rfl (lv_at hl 0 rfl) ?_
  refine lv_iload_n hx hb d_Memory_put_1 rfl (lv_at hl 1 rfl) ?_
  replace hR := bi_e hR
  obtain ⟨r1, l1, T1, hc1, hR⟩ := hR
  refine gcV_i (rest := []) ⟨hx, hb, hml, hown, hT⟩ (h_Memory_isOwned _ _ _ _ _ hc1) (cwV 1 hT (gV ml_Memory_84 im_Memory_isOwned se_Memory_isOwned ini_Memory co_Memory_isOwned) rfl rfl rfl pd_Memory_isOwned ⟨rm_hi, rm_lo (Nat.le_of_ble_eq_true rfl)⟩) hK hP hD hS hA hnw henv (Nat.le_of_ble_eq_true rfl) rfl rfl hl.1 rfl (Nat.le_of_ble_eq_true rfl) d_Memory_put_2 ⟨Nat.le_refl _, Nat.le_refl _⟩ (fun H locs hP hD hS => ?_)
  clear hc1
  refine lv_if_ne (tgt := 19) hx hb d_Memory_put_5 (by decide) (fun c2 => ?_) (fun c2 => ?_)
  · replace hR := if_n c2 hR
    refine lv_aload_n hx hb d_Memory_put_19 rfl (lv_at hl 0 rfl) ?_
    refine rd_Memory_13 hx hb hT hown hK hP d_Memory_put_20 ?_
    refine lv_iload_n hx hb d_Memory_put_23 rfl (lv_at hl 1 rfl) ?_
    refine lv_iload_n hx hb d_Memory_put_24 rfl (lv_at hl 2 rfl) ?_
    replace hR := gd_e hR
    obtain ⟨b3, hR⟩ := hR
    refine saH_48 hx hb hK hP hD hS b3 d_Memory_put_25 (fun T3 eT H locs hP hD hS => ?_)
    replace hR := stK_e eT hR
    clear eT
    refine lv_aload_n hx hb d_Memory_put_26 rfl (lv_at hl 0 rfl) ?_
    refine rd_Memory_17 hx hb hT hown hK hP d_Memory_put_27 ?_
    refine lv_iload_n hx hb d_Memory_put_30 rfl (lv_at hl 1 rfl) ?_
    refine lv_iconst (v := 1) hx hb d_Memory_put_31 (by decide) ?_
    replace hR := gd_e hR
    obtain ⟨b4, hR⟩ := hR
    refine saH_49 hx hb hK hP hD hS (by decide) b4 d_Memory_put_32 (fun T4 eT H locs hP hD hS => ?_)
    replace hR := stK_e eT hR
    clear eT
    obtain ⟨-, -, e3⟩ := re_e hR
    subst e3
    exact W.vret hx hb hr (fun t ht hW => ⟨⟨(), rfl, trivial, by rw [ht]; exact hP, va_K.moved hW.alike hK, hD⟩, hS.F ht⟩) hS.2.2 d_Memory_put_33
  · replace hR := if_p c2 hR
    refine lv_aload_n hx hb d_Memory_put_8 rfl (lv_at hl 0 rfl) ?_
    refine lv_dup hx hb d_Memory_put_9 rfl ?_
    refine rd_Memory_61 hx hb hT hown hK hP d_Memory_put_10 ?_
    refine lv_iconst (v := 1) hx hb d_Memory_put_13 (by decide) ?_
    refine lv_iadd hx hb d_Memory_put_14 ?_
    refine wr_Memory_61 hx hb hT hown hK hP hD hS d_Memory_put_15 (fun T5 eT H locs hP hD hS => ?_)
    replace hR := stK_e eT hR
    clear eT
    obtain ⟨-, -, e3⟩ := re_e hR
    subst e3
    exact W.vret hx hb hr (fun t ht hW => ⟨⟨(), rfl, trivial, by rw [ht]; exact hP, va_K.moved hW.alike hK, hD⟩, hS.F ht⟩) hS.2.2 d_Memory_put_18
set_option maxHeartbeats 4000000 in
set_option maxRecDepth 100000 in
theorem sp_Memory_isOwned (l : Launch) (dC : Nat → ClassId) (dI : Nat → Nat → Nat) (ea ev ad : Nat → Nat) (km : Nat → ClassId) (F : gF) (nf d : Nat) (T0 : gSt) (p1 : Int32) (r0 : Int32) (rl0 : Int64) (T9 : gSt) (hR : rb_Memory_isOwned F nf T0 p1 = some (r0, rl0, T9)) : GMi l dC dI LH ad km ea ev y_Memory_isOwned w_Memory_isOwned (rmD (d + 1)) [.ref (ad 11), .int p1] T0 r0 T9 := by
  intro sz
  refine Met.ofW (cc := b_Memory_isOwned) (maxL := 2) (ret := (some .boolean)) (by decide) rfl ?_
  intro p e s m args below meth c s₁ B hml hv
  obtain ⟨rfl, hsz, hP, hK, hD0, hnw, henv⟩ := hv
  have hx := B.exec
  have hb := B.bytes
  have hr := B.returns
  have hT : ∀ w ∈ lw_good, w.before _ s = true := fun w h => atoms_spec (ws := w_Memory_isOwned) B.pre w (List.mem_cons_of_mem _ h)
  have hown : s.vm.findClass R_Memory = some m.cls := findClass_of_methodNamed B.named
  subst hsz
  have hD := hD0.self (sz := s.heap.size)
  clear hD0
  generalize hAe : va_A (gW LH ad km T0) s.heap.size = A at hD henv ⊢
  have hA : ∀ q : Nat, s.heap.size ≤ q → A q := fun q h => by rw [← hAe]; exact Or.inr h
  have hS : va_S A s.heap s.heap [] := va_S.rf
  have hl := lv_entry ([.ref (ad 11), .int p1]) (n := 2) (Nat.le_of_ble_eq_true rfl)
  rw [lg_entry_eq]
  generalize (lg_sl ([.ref (ad 11), .int p1]) ++ List.replicate (2 - (lg_sl ([.ref (ad 11), .int p1])).length) Slot.unset).toArray = ls at hl ⊢
  have hl : lv_has ls 2 [(0, .ref (ad 11)), (1, .int p1)] := hl
  unfold rb_Memory_isOwned at hR
  refine lv_iload_n hx hb d_Memory_isOwned_0 rfl (lv_at hl 1 rfl) ?_
  refine lv_if_lt (tgt := 43) hx hb d_Memory_isOwned_1 (by decide) (fun c1 => ?_) (fun c1 => ?_)
  · replace hR := if_p c1 hR
    refine lv_iconst (v := 0) hx hb d_Memory_isOwned_43 (by decide) ?_
    obtain ⟨e1, -, e3⟩ := re_e hR
    subst e1; subst e3
    exact W.zret (v := (0 : Int32)) hx hb hr (by first | rfl | decide) (fun t ht hW => ⟨⟨(0 : Int32), (), rfl, rfl, by rw [ht]; exact hP, va_K.moved hW.alike hK, hD⟩, hS.F ht⟩) hS.2.2 d_Memory_isOwned_44
  · replace hR := if_n c1 hR
    refine lv_aload_n hx hb d_Memory_isOwned_4 rfl (lv_at hl 0 rfl) ?_
    refine rd_Memory_52 hx hb hT hown hK hP d_Memory_isOwned_5 ?_
    refine lv_if_le (tgt := 43) hx hb d_Memory_isOwned_8 (by decide) (fun c3 => ?_) (fun c3 => ?_)
    · replace hR := if_p c3 hR
      refine lv_iconst (v := 0) hx hb d_Memory_isOwned_43 (by decide) ?_
      obtain ⟨e1, -, e3⟩ := re_e hR
      subst e1; subst e3
      exact W.zret (v := (0 : Int32)) hx hb hr (by first | rfl | decide) (fun t ht hW => ⟨⟨(0 : Int32), (), rfl, rfl, by rw [ht]; exact hP, va_K.moved hW.alike hK, hD⟩, hS.F ht⟩) hS.2.2 d_Memory_isOwned_44
    · replace hR := if_n c3 hR
      refine lv_iload_n hx hb d_Memory_isOwned_11 rfl (lv_at hl 1 rfl) ?_
      refine lv_aload_n hx hb d_Memory_isOwned_12 rfl (lv_at hl 0 rfl) ?_
      refine rd_Memory_48 hx hb hT hown hK hP d_Memory_isOwned_13 ?_
      refine lv_aload_n hx hb d_Memory_isOwned_16 rfl (lv_at hl 0 rfl) ?_
      refine rd_Memory_52 hx hb hT hown hK hP d_Memory_isOwned_17 ?_
      refine lv_imul hx hb d_Memory_isOwned_20 ?_
      refine lv_icmp_ge (tgt := 43) hx hb d_Memory_isOwned_21 (by decide) (fun c5 => ?_) (fun c5 => ?_)
      · replace hR := if_p c5 hR
        refine lv_iconst (v := 0) hx hb d_Memory_isOwned_43 (by decide) ?_
        obtain ⟨e1, -, e3⟩ := re_e hR
        subst e1; subst e3
        exact W.zret (v := (0 : Int32)) hx hb hr (by first | rfl | decide) (fun t ht hW => ⟨⟨(0 : Int32), (), rfl, rfl, by rw [ht]; exact hP, va_K.moved hW.alike hK, hD⟩, hS.F ht⟩) hS.2.2 d_Memory_isOwned_44
      · replace hR := if_n c5 hR
        refine lv_aload_n hx hb d_Memory_isOwned_24 rfl (lv_at hl 0 rfl) ?_
        refine rd_Memory_21 hx hb hT hown hK hP d_Memory_isOwned_25 ?_
        refine lv_iload_n hx hb d_Memory_isOwned_28 rfl (lv_at hl 1 rfl) ?_
        refine lv_aload_n hx hb d_Memory_isOwned_29 rfl (lv_at hl 0 rfl) ?_
        refine rd_Memory_52 hx hb hT hown hK hP d_Memory_isOwned_30 ?_
        replace hR := gd_e hR
        obtain ⟨b7, hR⟩ := hR
        refine lv_idiv hx hb d_Memory_isOwned_33 b7 ?_
        replace hR := gd_e hR
        obtain ⟨b8, hR⟩ := hR
        refine laH_50 hx hb hK hP b8 d_Memory_isOwned_34 ?_
        refine lv_iconst (v := (-1)) hx hb d_Memory_isOwned_35 (by decide) ?_
        refine lv_icmp_eq (tgt := 43) hx hb d_Memory_isOwned_36 (by decide) (fun c9 => ?_) (fun c9 => ?_)
        · replace hR := if_p c9 hR
          refine lv_iconst (v := 0) hx hb d_Memory_isOwned_43 (by decide) ?_
          obtain ⟨e1, -, e3⟩ := re_e hR
          subst e1; subst e3
          exact W.zret (v := (0 : Int32)) hx hb hr (by first | rfl | decide) (fun t ht hW => ⟨⟨(0 : Int32), (), rfl, rfl, by rw [ht]; exact hP, va_K.moved hW.alike hK, hD⟩, hS.F ht⟩) hS.2.2 d_Memory_isOwned_44
        · replace hR := if_n c9 hR
          refine lv_iconst (v := 1) hx hb d_Memory_isOwned_39 (by decide) ?_
          refine lv_goto (tgt := 44) hx hb d_Memory_isOwned_40 (by decide) ?_
          obtain ⟨e1, -, e3⟩ := re_e hR
          subst e1; subst e3
          exact W.zret (v := (1 : Int32)) hx hb hr (by first | rfl | decide) (fun t ht hW => ⟨⟨(1 : Int32), (), rfl, rfl, by rw [ht]; exact hP, va_K.moved hW.alike hK, hD⟩, hS.F ht⟩) hS.2.2 d_Memory_isOwned_44
set_option maxHeartbeats 4000000 in
set_option maxRecDepth 100000 in
theorem sp_Memory_tellRegion (l : Launch) (dC : Nat → ClassId) (dI : Nat → Nat → Nat) (ea ev ad : Nat → Nat) (km : Nat → ClassId) (F : gF) (nf d : Nat) (T0 : gSt) (p1 : Int32) (p2 : Int32) (r0 : Int32) (rl0 : Int64) (T9 : gSt) (hR : rb_Memory_tellRegion F nf T0 p1 p2 = some (r0, rl0, T9)) : GMi l dC dI LH ad km ea ev y_Memory_tellRegion w_Memory_tellRegion (rmD (d + 1)) [.ref (ad 11), .int p1, .int p2] T0 r0 T9 := by
  intro sz
  refine Met.ofW (cc := b_Memory_tellRegion) (maxL := 3) (ret := (some .int)) (by decide) rfl ?_
  intro p e s m args below meth c s₁ B hml hv
  obtain ⟨rfl, hsz, hP, hK, hD0, hnw, henv⟩ := hv
  have hx := B.exec
  have hb := B.bytes
  have hr := B.returns
  have hT : ∀ w ∈ lw_good, w.before _ s = true := fun w h => atoms_spec (ws := w_Memory_tellRegion) B.pre w (List.mem_cons_of_mem _ h)
  have hown : s.vm.findClass R_Memory = some m.cls := findClass_of_methodNamed B.named
  subst hsz
  have hD := hD0.self (sz := s.heap.size)
  clear hD0
  generalize hAe : va_A (gW LH ad km T0) s.heap.size = A at hD henv ⊢
  have hA : ∀ q : Nat, s.heap.size ≤ q → A q := fun q h => by rw [← hAe]; exact Or.inr h
  have hS : va_S A s.heap s.heap [] := va_S.rf
  have hl := lv_entry ([.ref (ad 11), .int p1, .int p2]) (n := 3) (Nat.le_of_ble_eq_true rfl)
  rw [lg_entry_eq]
  generalize (lg_sl ([.ref (ad 11), .int p1, .int p2]) ++ List.replicate (3 - (lg_sl ([.ref (ad 11), .int p1, .int p2])).length) Slot.unset).toArray = ls at hl ⊢
  have hl : lv_has ls 3 [(0, .ref (ad 11)), (1, .int p1), (2, .int p2)] := hl
  unfold rb_Memory_tellRegion at hR
  refine lv_iload_n hx hb d_Memory_tellRegion_0 rfl (lv_at hl 1 rfl) ?_
  refine lv_if_lt (tgt := 12) hx hb d_Memory_tellRegion_1 (by decide) (fun c1 => ?_) (fun c1 => ?_)
  · replace hR := if_p c1 hR
    refine lv_iconst (v := (-1)) hx hb d_Memory_tellRegion_12 (by decide) ?_
    obtain ⟨e1, -, e3⟩ := re_e hR
    subst e1; subst e3
    exact W.iret (v := (-1 : Int32)) hx hb hr (fun t ht hW => ⟨⟨(-1 : Int32), (), rfl, rfl, by rw [ht]; exact hP, va_K.moved hW.alike hK, hD⟩, hS.F ht⟩) hS.2.2 d_Memory_tellRegion_13
  · replace hR := if_n c1 hR
    refine lv_iload_n hx hb d_Memory_tellRegion_4 rfl (lv_at hl 1 rfl) ?_
    refine lv_aload_n hx hb d_Memory_tellRegion_5 rfl (lv_at hl 0 rfl) ?_
    refine rd_Memory_64 hx hb hT hown hK hP d_Memory_tellRegion_6 ?_
    refine lv_icmp_lt (tgt := 14) hx hb d_Memory_tellRegion_9 (by decide) (fun c3 => ?_) (fun c3 => ?_)
    · replace hR := if_p c3 hR
      refine lv_iload_n hx hb d_Memory_tellRegion_14 rfl (lv_at hl 2 rfl) ?_
      by_cases c4 : p2 = (0 : Int32)
      · replace hR := if_p c4 hR
        refine lv_tableIn (off := 25) (tgt := 40) hx hb d_Memory_tellRegion_15 (by rw [c4]; decide) (by rw [c4]; decide) (by rw [c4]; decide) (by decide) ?_
        refine lv_aload_n hx hb d_Memory_tellRegion_40 rfl (lv_at hl 0 rfl) ?_
        refine rd_Memory_24 hx hb hT hown hK hP d_Memory_tellRegion_41 ?_
        refine lv_iload_n hx hb d_Memory_tellRegion_44 rfl (lv_at hl 1 rfl) ?_
        replace hR := gd_e hR
        obtain ⟨b5, hR⟩ := hR
        refine laH_51 hx hb hK hP b5 d_Memory_tellRegion_45 ?_
        obtain ⟨e1, -, e3⟩ := re_e hR
        subst e1; subst e3
        exact W.iret (v := T0.1 123 p1.toNatClampNeg) hx hb hr (fun t ht hW => ⟨⟨T0.1 123 p1.toNatClampNeg, (), rfl, rfl, by rw [ht]; exact hP, va_K.moved hW.alike hK, hD⟩, hS.F ht⟩) hS.2.2 d_Memory_tellRegion_46
      replace hR := if_n c4 hR
      by_cases c7 : p2 = (1 : Int32)
      · replace hR := if_p c7 hR
        refine lv_tableIn (off := 32) (tgt := 47) hx hb d_Memory_tellRegion_15 (by rw [c7]; decide) (by rw [c7]; decide) (by rw [c7]; decide) (by decide) ?_
        refine lv_aload_n hx hb d_Memory_tellRegion_47 rfl (lv_at hl 0 rfl) ?_
        refine rd_Memory_27 hx hb hT hown hK hP d_Memory_tellRegion_48 ?_
        refine lv_iload_n hx hb d_Memory_tellRegion_51 rfl (lv_at hl 1 rfl) ?_
        replace hR := gd_e hR
        obtain ⟨b8, hR⟩ := hR
        refine laH_52 hx hb hK hP b8 d_Memory_tellRegion_52 ?_
        obtain ⟨e1, -, e3⟩ := re_e hR
        subst e1; subst e3
        exact W.iret (v := T0.1 124 p1.toNatClampNeg) hx hb hr (fun t ht hW => ⟨⟨T0.1 124 p1.toNatClampNeg, (), rfl, rfl, by rw [ht]; exact hP, va_K.moved hW.alike hK, hD⟩, hS.F ht⟩) hS.2.2 d_Memory_tellRegion_53
      replace hR := if_n c7 hR
      by_cases c10 : p2 = (2 : Int32)
      · replace hR := if_p c10 hR
        refine lv_tableIn (off := 39) (tgt := 54) hx hb d_Memory_tellRegion_15 (by rw [c10]; decide) (by rw [c10]; decide) (by rw [c10]; decide) (by decide) ?_
        refine lv_aload_n hx hb d_Memory_tellRegion_54 rfl (lv_at hl 0 rfl) ?_
        refine rd_Memory_30 hx hb hT hown hK hP d_Memory_tellRegion_55 ?_
        refine lv_iload_n hx hb d_Memory_tellRegion_58 rfl (lv_at hl 1 rfl) ?_
        replace hR := gd_e hR
        obtain ⟨b11, hR⟩ := hR
        refine laH_53 hx hb hK hP b11 d_Memory_tellRegion_59 ?_
        obtain ⟨e1, -, e3⟩ := re_e hR
        subst e1; subst e3
        exact W.iret (v := T0.1 125 p1.toNatClampNeg) hx hb hr (fun t ht hW => ⟨⟨T0.1 125 p1.toNatClampNeg, (), rfl, rfl, by rw [ht]; exact hP, va_K.moved hW.alike hK, hD⟩, hS.F ht⟩) hS.2.2 d_Memory_tellRegion_60
      replace hR := if_n c10 hR
      have h313 : (p2 : Int32).toInt < 0 ∨ 2 < (p2 : Int32).toInt := by
        simp only [i_eq, Int32.reduceToInt] at c4 c7 c10; omega
      refine lv_tableOut (tgt := 61) hx hb d_Memory_tellRegion_15 h313 (by decide) ?_
      refine lv_iconst (v := (-1)) hx hb d_Memory_tellRegion_61 (by decide) ?_
      obtain ⟨e1, -, e3⟩ := re_e hR
      subst e1; subst e3
      exact W.iret (v := (-1 : Int32)) hx hb hr (fun t ht hW => ⟨⟨(-1 : Int32), (), rfl, rfl, by rw [ht]; exact hP, va_K.moved hW.alike hK, hD⟩, hS.F ht⟩) hS.2.2 d_Memory_tellRegion_62
    · replace hR := if_n c3 hR
      refine lv_iconst (v := (-1)) hx hb d_Memory_tellRegion_12 (by decide) ?_
      obtain ⟨e1, -, e3⟩ := re_e hR
      subst e1; subst e3
      exact W.iret (v := (-1 : Int32)) hx hb hr (fun t ht hW => ⟨⟨(-1 : Int32), (), rfl, rfl, by rw [ht]; exact hP, va_K.moved hW.alike hK, hD⟩, hS.F ht⟩) hS.2.2 d_Memory_tellRegion_13
set_option maxHeartbeats 4000000 in
set_option maxRecDepth 100000 in
theorem sp_Exprs_nameAlone (l : Launch) (dC : Nat → ClassId) (dI : Nat → Nat → Nat) (ea ev ad : Nat → Nat) (km : Nat → ClassId) (F : gF) (nf d : Nat) (h_Source_bare : mt_Source_bare l dC dI ea ev ad km F d) (T0 : gSt) (p1 : Int32) (r0 : Int32) (rl0 : Int64) (T9 : gSt) (hR : rb_Exprs_nameAlone F nf T0 p1 = some (r0, rl0, T9)) : GMi l dC dI LH ad km ea ev y_Exprs_nameAlone w_Exprs_nameAlone (rmD (d + 1)) [.ref (ad 8), .int p1] T0 r0 T9 := by
  intro sz
  refine Met.ofW (cc := b_Exprs_nameAlone) (maxL := 4) (ret := (some .int)) (by decide) rfl ?_
  intro p e s m args below meth c s₁ B hml hv
  obtain ⟨rfl, hsz, hP, hK, hD0, hnw, henv⟩ := hv
  have hx := B.exec
  have hb := B.bytes
  have hr := B.returns
  have hT : ∀ w ∈ lw_good, w.before _ s = true := fun w h => atoms_spec (ws := w_Exprs_nameAlone) B.pre w (List.mem_cons_of_mem _ h)
  have hown : s.vm.findClass R_Exprs = some m.cls := findClass_of_methodNamed B.named
  subst hsz
  have hD := hD0.self (sz := s.heap.size)
  clear hD0
  generalize hAe : va_A (gW LH ad km T0) s.heap.size = A at hD henv ⊢
  have hA : ∀ q : Nat, s.heap.size ≤ q → A q := fun q h => by rw [← hAe]; exact Or.inr h
  have hS : va_S A s.heap s.heap [] := va_S.rf
  have hl := lv_entry ([.ref (ad 8), .int p1]) (n := 4) (Nat.le_of_ble_eq_true rfl)
  rw [lg_entry_eq]
  generalize (lg_sl ([.ref (ad 8), .int p1]) ++ List.replicate (4 - (lg_sl ([.ref (ad 8), .int p1])).length) Slot.unset).toArray = ls at hl ⊢
  have hl : lv_has ls 4 [(0, .ref (ad 8)), (1, .int p1)] := hl
  obtain ⟨G, hG⟩ : ∃ G : Nat → List (Nat × Value) → List Value → gSt → Prop, G = (fun pc lv stk T => ∀ (H : Heap) (locs : List Loc), va_P (dC, dI) cls_all (gW LH ad km T) H → va_D A (gW LH ad km T) → va_S A s.heap H locs → ∀ (ls : Array Slot), lv_has ls 4 lv → W p l e (headSpec w_Exprs_nameAlone (rmD (d + 1))).room s m ([.ref (ad 8), .int p1] : List Value).toArray below meth c H locs 0 0 (MQ below (va_Qi (fun (z : Int32) (_ : Unit) => z = r0) (fun _ t => gPost dC dI LH ad km T9 A t) A) ([.ref (ad 8), .int p1] : List Value).toArray s 0 0 A) (F0 m pc ls stk)) := ⟨_, rfl⟩
  have lb_50 : ∀ (T : gSt) (x2 : Int32), rj_Exprs_nameAlone_50 F nf T x2 = some (r0, rl0, T9) → G 50 [(0, .ref (ad 8)), (2, .int x2)] [] T := by
    intro T x2 hR; unfold rj_Exprs_nameAlone_50 at hR; rw [hG]; intro H locs hP hD hS ls hl
    refine lv_iconst (v := 0) hx hb d_Exprs_nameAlone_50 (by decide) ?_
    refine lv_istore_n (lv' := [(3, .int (0 : Int32)), (0, .ref (ad 8)), (2, .int x2)]) hx hb d_Exprs_nameAlone_51 rfl hl (by decide) rfl (fun ls hl => ?_)
    refine lv_iload_n hx hb d_Exprs_nameAlone_52 rfl (lv_at hl 0 rfl) ?_
    refine lv_if_eq (tgt := 68) hx hb d_Exprs_nameAlone_53 (by decide) (fun _ => ?_) (fun c11 => absurd (by decide) c11)
    refine lv_iconst (v := (-1)) hx hb d_Exprs_nameAlone_68 (by decide) ?_
    obtain ⟨e1, -, e3⟩ := re_e hR
    subst e1; subst e3
    exact W.iret (v := (-1 : Int32)) hx hb hr (fun t ht hW => ⟨⟨(-1 : Int32), (), rfl, rfl, by rw [ht]; exact hP, va_K.moved hW.alike hK, hD⟩, hS.F ht⟩) hS.2.2 d_Exprs_nameAlone_69
  unfold rb_Exprs_nameAlone at hR
  refine lv_aload_n hx hb d_Exprs_nameAlone_0 rfl (lv_at hl 0 rfl) ?_
  refine rd_Exprs_9 hx hb hT hown hK hP d_Exprs_nameAlone_1 ?_
  refine lv_iload_n hx hb d_Exprs_nameAlone_4 rfl (lv_at hl 1 rfl) ?_
  replace hR := bi_e hR
  obtain ⟨r1, l1, T1, hc1, hR⟩ := hR
  refine gcV_i (rest := []) ⟨hx, hb, hml, hown, hT⟩ (h_Source_bare _ _ _ _ _ hc1) (cwV 1 hT (gV ml_Exprs_311 im_Source_bare se_Source_bare ini_Source co_Source_bare) rfl rfl rfl pd_Source_bare ⟨rm_hi, rm_lo (Nat.le_of_ble_eq_true rfl)⟩) hK hP hD hS hA hnw henv (Nat.le_of_ble_eq_true rfl) rfl rfl hl.1 rfl (Nat.le_of_ble_eq_true rfl) d_Exprs_nameAlone_5 ⟨Nat.le_refl _, Nat.le_refl _⟩ (fun H locs hP hD hS => ?_)
  clear hc1
  refine lv_istore_n (lv' := [(2, .int r1), (0, .ref (ad 8)), (1, .int p1)]) hx hb d_Exprs_nameAlone_8 rfl hl (by decide) rfl (fun ls hl => ?_)
  refine lv_aload_n hx hb d_Exprs_nameAlone_9 rfl (lv_at hl 1 rfl) ?_
  refine rd_Exprs_9 hx hb hT hown hK hP d_Exprs_nameAlone_10 ?_
  refine rd_Exprs_124 hx hb hT hown hK hP d_Exprs_nameAlone_13 ?_
  refine lv_iload_n hx hb d_Exprs_nameAlone_16 rfl (lv_at hl 0 rfl) ?_
  replace hR := gd_e hR
  obtain ⟨b2, hR⟩ := hR
  refine laH_1 hx hb hK hP b2 d_Exprs_nameAlone_17 ?_
  refine lv_iconst (v := 2) hx hb d_Exprs_nameAlone_18 (by decide) ?_
  refine lv_icmp_ne (tgt := 50) hx hb d_Exprs_nameAlone_19 (by decide) (fun c3 => ?_) (fun c3 => ?_)
  · replace hR := if_n c3 hR
    have g := lb_50 T1 r1 hR
    rw [hG] at g
    exact g _ _ hP hD hS _ (lv_sub hl [1, 0] rfl)
  · replace hR := if_p c3 hR
    refine lv_aload_n hx hb d_Exprs_nameAlone_22 rfl (lv_at hl 1 rfl) ?_
    refine rd_Exprs_9 hx hb hT hown hK hP d_Exprs_nameAlone_23 ?_
    refine rd_Exprs_121 hx hb hT hown hK hP d_Exprs_nameAlone_26 ?_
    refine lv_iload_n hx hb d_Exprs_nameAlone_29 rfl (lv_at hl 0 rfl) ?_
    replace hR := gd_e hR
    obtain ⟨b4, hR⟩ := hR
    refine laH_8 hx hb hK hP b4 d_Exprs_nameAlone_30 ?_
    refine lv_if_ne (tgt := 50) hx hb d_Exprs_nameAlone_31 (by decide) (fun c5 => ?_) (fun c5 => ?_)
    · replace hR := if_n c5 hR
      have g := lb_50 T1 r1 hR
      rw [hG] at g
      exact g _ _ hP hD hS _ (lv_sub hl [1, 0] rfl)
    · replace hR := if_p c5 hR
      refine lv_aload_n hx hb d_Exprs_nameAlone_34 rfl (lv_at hl 1 rfl) ?_
      refine rd_Exprs_9 hx hb hT hown hK hP d_Exprs_nameAlone_35 ?_
      refine rd_Exprs_43 hx hb hT hown hK hP d_Exprs_nameAlone_38 ?_
      refine lv_iload_n hx hb d_Exprs_nameAlone_41 rfl (lv_at hl 0 rfl) ?_
      replace hR := gd_e hR
      obtain ⟨b6, hR⟩ := hR
      refine laH_3 hx hb hK hP b6 d_Exprs_nameAlone_42 ?_
      refine lv_if_ne (tgt := 50) hx hb d_Exprs_nameAlone_43 (by decide) (fun c7 => ?_) (fun c7 => ?_)
      · replace hR := if_n c7 hR
        have g := lb_50 T1 r1 hR
        rw [hG] at g
        exact g _ _ hP hD hS _ (lv_sub hl [1, 0] rfl)
      · replace hR := if_p c7 hR
        refine lv_iconst (v := 1) hx hb d_Exprs_nameAlone_46 (by decide) ?_
        refine lv_goto (tgt := 51) hx hb d_Exprs_nameAlone_47 (by decide) ?_
        refine lv_istore_n (lv' := [(3, .int (1 : Int32)), (2, .int r1), (0, .ref (ad 8)), (1, .int p1)]) hx hb d_Exprs_nameAlone_51 rfl hl (by decide) rfl (fun ls hl => ?_)
        refine lv_iload_n hx hb d_Exprs_nameAlone_52 rfl (lv_at hl 0 rfl) ?_
        refine lv_if_eq (tgt := 68) hx hb d_Exprs_nameAlone_53 (by decide) (fun c8 => absurd c8 (by decide)) (fun _ => ?_)
        refine lv_aload_n hx hb d_Exprs_nameAlone_56 rfl (lv_at hl 2 rfl) ?_
        refine rd_Exprs_9 hx hb hT hown hK hP d_Exprs_nameAlone_57 ?_
        refine rd_Exprs_146 hx hb hT hown hK hP d_Exprs_nameAlone_60 ?_
        refine lv_iload_n hx hb d_Exprs_nameAlone_63 rfl (lv_at hl 1 rfl) ?_
        replace hR := gd_e hR
        obtain ⟨b9, hR⟩ := hR
        refine laH_2 hx hb hK hP b9 d_Exprs_nameAlone_64 ?_
        refine lv_goto (tgt := 69) hx hb d_Exprs_nameAlone_65 (by decide) ?_
        obtain ⟨e1, -, e3⟩ := re_e hR
        subst e1; subst e3
        exact W.iret (v := T1.1 12 r1.toNatClampNeg) hx hb hr (fun t ht hW => ⟨⟨T1.1 12 r1.toNatClampNeg, (), rfl, rfl, by rw [ht]; exact hP, va_K.moved hW.alike hK, hD⟩, hS.F ht⟩) hS.2.2 d_Exprs_nameAlone_69
