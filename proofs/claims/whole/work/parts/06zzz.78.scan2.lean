abbrev b_Source_kindOfName : ByteArray := prog_10_method_7_code
abbrev y_Source_kindOfName : MethodName := ⟨R_Source, "kindOfName", "(IIJ)I"⟩
theorem co_Source_kindOfName : Cond.code y_Source_kindOfName b_Source_kindOfName 6 (some .int) ∈ lw_good := lg_in (tin_4 _ (List.mem_of_getElem? (i := 84) rfl)) rfl
abbrev w_Source_kindOfName : List Cond := Cond.code y_Source_kindOfName b_Source_kindOfName 6 (some .int) :: lw_good
theorem im_Source_kindOfName : Cond.instanceMethod y_Source_kindOfName ∈ lw_good := lg_right (i := 803) (by decide +kernel) rfl
theorem se_Source_kindOfName : Cond.selects R_Source y_Source_kindOfName y_Source_kindOfName ∈ lw_good := lg_left (i := 7) (by decide +kernel) rfl
theorem d_Source_kindOfName_0 : decode b_Source_kindOfName 0 = .ok (.iload_n 2, 1) := by decide +kernel
theorem d_Source_kindOfName_1 : decode b_Source_kindOfName 1 = .ok (.iload_n 1, 1) := by decide +kernel
theorem d_Source_kindOfName_2 : decode b_Source_kindOfName 2 = .ok (.isub, 1) := by decide +kernel
theorem d_Source_kindOfName_3 : decode b_Source_kindOfName 3 = .ok (.bipush 8, 2) := by decide +kernel
theorem d_Source_kindOfName_5 : decode b_Source_kindOfName 5 = .ok (.if_icmp .le 5, 3) := by decide +kernel
theorem d_Source_kindOfName_8 : decode b_Source_kindOfName 8 = .ok (.iconst 1, 1) := by decide +kernel
theorem d_Source_kindOfName_9 : decode b_Source_kindOfName 9 = .ok (.ireturn, 1) := by decide +kernel
theorem d_Source_kindOfName_10 : decode b_Source_kindOfName 10 = .ok (.aload_n 0, 1) := by decide +kernel
theorem d_Source_kindOfName_11 : decode b_Source_kindOfName 11 = .ok (.getfield 73, 3) := by decide +kernel
theorem d_Source_kindOfName_14 : decode b_Source_kindOfName 14 = .ok (.iload_n 1, 1) := by decide +kernel
theorem d_Source_kindOfName_15 : decode b_Source_kindOfName 15 = .ok (.caload, 1) := by decide +kernel
theorem d_Source_kindOfName_16 : decode b_Source_kindOfName 16 = .ok (.invokestatic 136, 3) := by decide +kernel
theorem d_Source_kindOfName_19 : decode b_Source_kindOfName 19 = .ok (.ifCond .ne 5, 3) := by decide +kernel
theorem d_Source_kindOfName_22 : decode b_Source_kindOfName 22 = .ok (.iconst 3, 1) := by decide +kernel
theorem d_Source_kindOfName_23 : decode b_Source_kindOfName 23 = .ok (.ireturn, 1) := by decide +kernel
theorem d_Source_kindOfName_24 : decode b_Source_kindOfName 24 = .ok (.iconst 0, 1) := by decide +kernel
theorem d_Source_kindOfName_25 : decode b_Source_kindOfName 25 = .ok (.istore 5, 2) := by decide +kernel
theorem d_Source_kindOfName_27 : decode b_Source_kindOfName 27 = .ok (.iload 5, 2) := by decide +kernel
theorem d_Source_kindOfName_29 : decode b_Source_kindOfName 29 = .ok (.aload_n 0, 1) := by decide +kernel
theorem d_Source_kindOfName_30 : decode b_Source_kindOfName 30 = .ok (.getfield 46, 3) := by decide +kernel
theorem d_Source_kindOfName_33 : decode b_Source_kindOfName 33 = .ok (.arraylength, 1) := by decide +kernel
theorem d_Source_kindOfName_34 : decode b_Source_kindOfName 34 = .ok (.if_icmp .ge 27, 3) := by decide +kernel
theorem d_Source_kindOfName_37 : decode b_Source_kindOfName 37 = .ok (.aload_n 0, 1) := by decide +kernel
theorem d_Source_kindOfName_38 : decode b_Source_kindOfName 38 = .ok (.getfield 46, 3) := by decide +kernel
theorem d_Source_kindOfName_41 : decode b_Source_kindOfName 41 = .ok (.iload 5, 2) := by decide +kernel
theorem d_Source_kindOfName_43 : decode b_Source_kindOfName 43 = .ok (.laload, 1) := by decide +kernel
theorem d_Source_kindOfName_44 : decode b_Source_kindOfName 44 = .ok (.lload_n 3, 1) := by decide +kernel
theorem d_Source_kindOfName_45 : decode b_Source_kindOfName 45 = .ok (.lcmp, 1) := by decide +kernel
theorem d_Source_kindOfName_46 : decode b_Source_kindOfName 46 = .ok (.ifCond .ne 9, 3) := by decide +kernel
theorem d_Source_kindOfName_49 : decode b_Source_kindOfName 49 = .ok (.bipush 10, 2) := by decide +kernel
theorem d_Source_kindOfName_51 : decode b_Source_kindOfName 51 = .ok (.iload 5, 2) := by decide +kernel
theorem d_Source_kindOfName_53 : decode b_Source_kindOfName 53 = .ok (.iadd, 1) := by decide +kernel
theorem d_Source_kindOfName_54 : decode b_Source_kindOfName 54 = .ok (.ireturn, 1) := by decide +kernel
theorem d_Source_kindOfName_55 : decode b_Source_kindOfName 55 = .ok (.iinc 5 1, 3) := by decide +kernel
theorem d_Source_kindOfName_58 : decode b_Source_kindOfName 58 = .ok (.goto (-31), 3) := by decide +kernel
theorem d_Source_kindOfName_61 : decode b_Source_kindOfName 61 = .ok (.aload_n 0, 1) := by decide +kernel
theorem d_Source_kindOfName_62 : decode b_Source_kindOfName 62 = .ok (.iload_n 1, 1) := by decide +kernel
theorem d_Source_kindOfName_63 : decode b_Source_kindOfName 63 = .ok (.iload_n 2, 1) := by decide +kernel
theorem d_Source_kindOfName_64 : decode b_Source_kindOfName 64 = .ok (.iconst 1, 1) := by decide +kernel
theorem d_Source_kindOfName_65 : decode b_Source_kindOfName 65 = .ok (.invokevirtual 124, 3) := by decide +kernel
theorem d_Source_kindOfName_68 : decode b_Source_kindOfName 68 = .ok (.ifCond .eq 7, 3) := by decide +kernel
theorem d_Source_kindOfName_71 : decode b_Source_kindOfName 71 = .ok (.iconst 2, 1) := by decide +kernel
theorem d_Source_kindOfName_72 : decode b_Source_kindOfName 72 = .ok (.goto 4, 3) := by decide +kernel
theorem d_Source_kindOfName_75 : decode b_Source_kindOfName 75 = .ok (.iconst 1, 1) := by decide +kernel
theorem d_Source_kindOfName_76 : decode b_Source_kindOfName 76 = .ok (.ireturn, 1) := by decide +kernel
abbrev b_Source_scanRow : ByteArray := prog_10_method_5_code
abbrev y_Source_scanRow : MethodName := ⟨R_Source, "scanRow", "(I)I"⟩
theorem co_Source_scanRow : Cond.code y_Source_scanRow b_Source_scanRow 5 (some .int) ∈ lw_good := lg_in (tin_4 _ (List.mem_of_getElem? (i := 63) rfl)) rfl
abbrev w_Source_scanRow : List Cond := Cond.code y_Source_scanRow b_Source_scanRow 5 (some .int) :: lw_good
theorem im_Source_scanRow : Cond.instanceMethod y_Source_scanRow ∈ lw_good := lg_right (i := 782) (by decide +kernel) rfl
theorem se_Source_scanRow : Cond.selects R_Source y_Source_scanRow y_Source_scanRow ∈ lw_good := lg_left (i := 2) (by decide +kernel) rfl
theorem d_Source_scanRow_0 : decode b_Source_scanRow 0 = .ok (.iload_n 1, 1) := by decide +kernel
theorem d_Source_scanRow_1 : decode b_Source_scanRow 1 = .ok (.iconst 1, 1) := by decide +kernel
theorem d_Source_scanRow_2 : decode b_Source_scanRow 2 = .ok (.iadd, 1) := by decide +kernel
theorem d_Source_scanRow_3 : decode b_Source_scanRow 3 = .ok (.istore_n 2, 1) := by decide +kernel
theorem d_Source_scanRow_4 : decode b_Source_scanRow 4 = .ok (.iload_n 2, 1) := by decide +kernel
theorem d_Source_scanRow_5 : decode b_Source_scanRow 5 = .ok (.aload_n 0, 1) := by decide +kernel
theorem d_Source_scanRow_6 : decode b_Source_scanRow 6 = .ok (.getfield 83, 3) := by decide +kernel
theorem d_Source_scanRow_9 : decode b_Source_scanRow 9 = .ok (.if_icmp .ge 21, 3) := by decide +kernel
theorem d_Source_scanRow_12 : decode b_Source_scanRow 12 = .ok (.aload_n 0, 1) := by decide +kernel
theorem d_Source_scanRow_13 : decode b_Source_scanRow 13 = .ok (.getfield 73, 3) := by decide +kernel
theorem d_Source_scanRow_16 : decode b_Source_scanRow 16 = .ok (.iload_n 2, 1) := by decide +kernel
theorem d_Source_scanRow_17 : decode b_Source_scanRow 17 = .ok (.caload, 1) := by decide +kernel
theorem d_Source_scanRow_18 : decode b_Source_scanRow 18 = .ok (.invokestatic 102, 3) := by decide +kernel
theorem ml_Source_102 : Cond.methodLink R_Source 102 ⟨"PointerHouse$Source", "isLetterOrDigit", "(C)Z"⟩ ∈ lw_good := lg_right (i := 771) (by decide +kernel) rfl
theorem d_Source_scanRow_21 : decode b_Source_scanRow 21 = .ok (.ifCond .eq 9, 3) := by decide +kernel
theorem d_Source_scanRow_24 : decode b_Source_scanRow 24 = .ok (.iinc 2 1, 3) := by decide +kernel
theorem d_Source_scanRow_27 : decode b_Source_scanRow 27 = .ok (.goto (-23), 3) := by decide +kernel
theorem d_Source_scanRow_30 : decode b_Source_scanRow 30 = .ok (.aload_n 0, 1) := by decide +kernel
theorem d_Source_scanRow_31 : decode b_Source_scanRow 31 = .ok (.getfield 73, 3) := by decide +kernel
theorem d_Source_scanRow_34 : decode b_Source_scanRow 34 = .ok (.iload_n 1, 1) := by decide +kernel
theorem d_Source_scanRow_35 : decode b_Source_scanRow 35 = .ok (.caload, 1) := by decide +kernel
theorem d_Source_scanRow_36 : decode b_Source_scanRow 36 = .ok (.bipush 39, 2) := by decide +kernel
theorem d_Source_scanRow_38 : decode b_Source_scanRow 38 = .ok (.if_icmp .ne 30, 3) := by decide +kernel
theorem d_Source_scanRow_41 : decode b_Source_scanRow 41 = .ok (.aload_n 0, 1) := by decide +kernel
theorem d_Source_scanRow_42 : decode b_Source_scanRow 42 = .ok (.aload_n 0, 1) := by decide +kernel
theorem d_Source_scanRow_43 : decode b_Source_scanRow 43 = .ok (.iload_n 1, 1) := by decide +kernel
theorem d_Source_scanRow_44 : decode b_Source_scanRow 44 = .ok (.iconst 1, 1) := by decide +kernel
theorem d_Source_scanRow_45 : decode b_Source_scanRow 45 = .ok (.iadd, 1) := by decide +kernel
theorem d_Source_scanRow_46 : decode b_Source_scanRow 46 = .ok (.iload_n 2, 1) := by decide +kernel
theorem d_Source_scanRow_47 : decode b_Source_scanRow 47 = .ok (.invokevirtual 118, 3) := by decide +kernel
theorem ml_Source_118 : Cond.methodLink R_Source 118 ⟨"PointerHouse$Source", "kindOfRegion", "(II)I"⟩ ∈ lw_good := lg_right (i := 784) (by decide +kernel) rfl
theorem d_Source_scanRow_50 : decode b_Source_scanRow 50 = .ok (.iload_n 1, 1) := by decide +kernel
theorem d_Source_scanRow_51 : decode b_Source_scanRow 51 = .ok (.aload_n 0, 1) := by decide +kernel
theorem d_Source_scanRow_52 : decode b_Source_scanRow 52 = .ok (.getfield 73, 3) := by decide +kernel
theorem d_Source_scanRow_55 : decode b_Source_scanRow 55 = .ok (.iload_n 1, 1) := by decide +kernel
theorem d_Source_scanRow_56 : decode b_Source_scanRow 56 = .ok (.iconst 1, 1) := by decide +kernel
theorem d_Source_scanRow_57 : decode b_Source_scanRow 57 = .ok (.iadd, 1) := by decide +kernel
theorem d_Source_scanRow_58 : decode b_Source_scanRow 58 = .ok (.iload_n 2, 1) := by decide +kernel
theorem d_Source_scanRow_59 : decode b_Source_scanRow 59 = .ok (.invokestatic 69, 3) := by decide +kernel
theorem d_Source_scanRow_62 : decode b_Source_scanRow 62 = .ok (.invokevirtual 109, 3) := by decide +kernel
theorem ml_Source_109 : Cond.methodLink R_Source 109 ⟨"PointerHouse$Source", "addToken", "(IIJ)V"⟩ ∈ lw_good := lg_right (i := 792) (by decide +kernel) rfl
theorem d_Source_scanRow_65 : decode b_Source_scanRow 65 = .ok (.goto 93, 3) := by decide +kernel
theorem d_Source_scanRow_68 : decode b_Source_scanRow 68 = .ok (.aload_n 0, 1) := by decide +kernel
theorem d_Source_scanRow_69 : decode b_Source_scanRow 69 = .ok (.getfield 73, 3) := by decide +kernel
theorem d_Source_scanRow_72 : decode b_Source_scanRow 72 = .ok (.iload_n 1, 1) := by decide +kernel
theorem d_Source_scanRow_73 : decode b_Source_scanRow 73 = .ok (.caload, 1) := by decide +kernel
theorem d_Source_scanRow_74 : decode b_Source_scanRow 74 = .ok (.invokestatic 121, 3) := by decide +kernel
theorem d_Source_scanRow_77 : decode b_Source_scanRow 77 = .ok (.ifCond .eq 58, 3) := by decide +kernel
theorem d_Source_scanRow_80 : decode b_Source_scanRow 80 = .ok (.iload_n 2, 1) := by decide +kernel
theorem d_Source_scanRow_81 : decode b_Source_scanRow 81 = .ok (.iload_n 1, 1) := by decide +kernel
theorem d_Source_scanRow_82 : decode b_Source_scanRow 82 = .ok (.isub, 1) := by decide +kernel
theorem d_Source_scanRow_83 : decode b_Source_scanRow 83 = .ok (.bipush 9, 2) := by decide +kernel
theorem d_Source_scanRow_85 : decode b_Source_scanRow 85 = .ok (.if_icmp .gt 17, 3) := by decide +kernel
theorem d_Source_scanRow_88 : decode b_Source_scanRow 88 = .ok (.aload_n 0, 1) := by decide +kernel
theorem d_Source_scanRow_89 : decode b_Source_scanRow 89 = .ok (.iload_n 1, 1) := by decide +kernel
theorem d_Source_scanRow_90 : decode b_Source_scanRow 90 = .ok (.iload_n 2, 1) := by decide +kernel
theorem d_Source_scanRow_91 : decode b_Source_scanRow 91 = .ok (.iconst 0, 1) := by decide +kernel
theorem d_Source_scanRow_92 : decode b_Source_scanRow 92 = .ok (.invokevirtual 124, 3) := by decide +kernel
theorem d_Source_scanRow_95 : decode b_Source_scanRow 95 = .ok (.ifCond .eq 7, 3) := by decide +kernel
theorem d_Source_scanRow_98 : decode b_Source_scanRow 98 = .ok (.iconst 1, 1) := by decide +kernel
theorem d_Source_scanRow_99 : decode b_Source_scanRow 99 = .ok (.goto 4, 3) := by decide +kernel
theorem d_Source_scanRow_102 : decode b_Source_scanRow 102 = .ok (.iconst 0, 1) := by decide +kernel
theorem d_Source_scanRow_103 : decode b_Source_scanRow 103 = .ok (.istore_n 3, 1) := by decide +kernel
theorem d_Source_scanRow_104 : decode b_Source_scanRow 104 = .ok (.aload_n 0, 1) := by decide +kernel
theorem d_Source_scanRow_105 : decode b_Source_scanRow 105 = .ok (.iload_n 3, 1) := by decide +kernel
theorem d_Source_scanRow_106 : decode b_Source_scanRow 106 = .ok (.ifCond .eq 7, 3) := by decide +kernel
theorem d_Source_scanRow_109 : decode b_Source_scanRow 109 = .ok (.iconst 5, 1) := by decide +kernel
theorem d_Source_scanRow_110 : decode b_Source_scanRow 110 = .ok (.goto 4, 3) := by decide +kernel
theorem d_Source_scanRow_113 : decode b_Source_scanRow 113 = .ok (.iconst 1, 1) := by decide +kernel
theorem d_Source_scanRow_114 : decode b_Source_scanRow 114 = .ok (.iload_n 1, 1) := by decide +kernel
theorem d_Source_scanRow_115 : decode b_Source_scanRow 115 = .ok (.iload_n 3, 1) := by decide +kernel
theorem d_Source_scanRow_116 : decode b_Source_scanRow 116 = .ok (.ifCond .eq 12, 3) := by decide +kernel
theorem d_Source_scanRow_119 : decode b_Source_scanRow 119 = .ok (.aload_n 0, 1) := by decide +kernel
theorem d_Source_scanRow_120 : decode b_Source_scanRow 120 = .ok (.iload_n 1, 1) := by decide +kernel
theorem d_Source_scanRow_121 : decode b_Source_scanRow 121 = .ok (.iload_n 2, 1) := by decide +kernel
theorem d_Source_scanRow_122 : decode b_Source_scanRow 122 = .ok (.invokevirtual 128, 3) := by decide +kernel
theorem ml_Source_128 : Cond.methodLink R_Source 128 ⟨"PointerHouse$Source", "valueOf", "(II)J"⟩ ∈ lw_good := lg_right (i := 796) (by decide +kernel) rfl
theorem d_Source_scanRow_125 : decode b_Source_scanRow 125 = .ok (.goto 4, 3) := by decide +kernel
theorem d_Source_scanRow_128 : decode b_Source_scanRow 128 = .ok (.lconst 0, 1) := by decide +kernel
theorem d_Source_scanRow_129 : decode b_Source_scanRow 129 = .ok (.invokevirtual 109, 3) := by decide +kernel
theorem d_Source_scanRow_132 : decode b_Source_scanRow 132 = .ok (.goto 26, 3) := by decide +kernel
theorem d_Source_scanRow_135 : decode b_Source_scanRow 135 = .ok (.aload_n 0, 1) := by decide +kernel
theorem d_Source_scanRow_136 : decode b_Source_scanRow 136 = .ok (.getfield 73, 3) := by decide +kernel
theorem d_Source_scanRow_139 : decode b_Source_scanRow 139 = .ok (.iload_n 1, 1) := by decide +kernel
theorem d_Source_scanRow_140 : decode b_Source_scanRow 140 = .ok (.iload_n 2, 1) := by decide +kernel
theorem d_Source_scanRow_141 : decode b_Source_scanRow 141 = .ok (.invokestatic 69, 3) := by decide +kernel
theorem d_Source_scanRow_144 : decode b_Source_scanRow 144 = .ok (.lstore_n 3, 1) := by decide +kernel
theorem d_Source_scanRow_145 : decode b_Source_scanRow 145 = .ok (.aload_n 0, 1) := by decide +kernel
theorem d_Source_scanRow_146 : decode b_Source_scanRow 146 = .ok (.aload_n 0, 1) := by decide +kernel
theorem d_Source_scanRow_147 : decode b_Source_scanRow 147 = .ok (.iload_n 1, 1) := by decide +kernel
theorem d_Source_scanRow_148 : decode b_Source_scanRow 148 = .ok (.iload_n 2, 1) := by decide +kernel
theorem d_Source_scanRow_149 : decode b_Source_scanRow 149 = .ok (.lload_n 3, 1) := by decide +kernel
theorem d_Source_scanRow_150 : decode b_Source_scanRow 150 = .ok (.invokevirtual 132, 3) := by decide +kernel
theorem ml_Source_132 : Cond.methodLink R_Source 132 ⟨"PointerHouse$Source", "kindOfName", "(IIJ)I"⟩ ∈ lw_good := lg_right (i := 801) (by decide +kernel) rfl
theorem d_Source_scanRow_153 : decode b_Source_scanRow 153 = .ok (.iload_n 1, 1) := by decide +kernel
theorem d_Source_scanRow_154 : decode b_Source_scanRow 154 = .ok (.lload_n 3, 1) := by decide +kernel
theorem d_Source_scanRow_155 : decode b_Source_scanRow 155 = .ok (.invokevirtual 109, 3) := by decide +kernel
theorem d_Source_scanRow_158 : decode b_Source_scanRow 158 = .ok (.iload_n 2, 1) := by decide +kernel
theorem d_Source_scanRow_159 : decode b_Source_scanRow 159 = .ok (.ireturn, 1) := by decide +kernel
theorem cL_of {x : Int32} (h : (48 ≤ x ∧ x ≤ 57) ∨ (97 ≤ x ∧ x ≤ 122) ∨ (65 ≤ x ∧ x ≤ 90)) : cL x := h.elim (fun q => Or.inr (Or.inr q)) (fun q => q.elim Or.inl (fun q => Or.inr (Or.inl q)))
theorem cL_not {x : Int32} (h : ¬ ((48 ≤ x ∧ x ≤ 57) ∨ (97 ≤ x ∧ x ≤ 122) ∨ (65 ≤ x ∧ x ≤ 90))) : ¬ cL x := fun q => h (q.elim (fun z => Or.inr (Or.inl z)) (fun z => z.elim (fun y => Or.inr (Or.inr y)) Or.inl))
set_option maxHeartbeats 1000000 in
set_option maxRecDepth 100000 in
theorem c_Source_kindOfName (l : Launch) (dC : Nat → ClassId) (dI : Nat → Nat → Nat)  (h_this : Nat) (h_text : Nat) (h_words : Nat) (fs_this : List Value) (k_text : ClassId) (f_text : Nat → Int32) (k_words : ClassId) (f_words : Nat → Int64) (p3 : Int64) (a : Nat) (n : Nat) (len_this : fs_this.length = 16) (g_this_text : fs_this[9]? = some (.ref h_text)) (g_this_words : fs_this[15]? = some (.ref h_words)) (h0n : 0 < n) (hz : a + n ≤ 4000) : Met l y_Source_kindOfName w_Source_kindOfName ({ frames := 2, cells := 0, slots := 0, locals := 44 } : Room) (va_Pc [.ref h_this, .int (nI a), .int (nI (a + n)), .long p3] (fun U => va_P (dC, dI) cls_all [oc h_this 8 fs_this, ic h_text k_text 4000 f_text, jc h_words k_words 26 f_words] U.heap ∧ va_K (dC, dI) cls_all [(k_text, .char), (k_words, .long)] U)) (vp_Si (fun r : Int32 => (r = kName f_text f_words a n p3))) 0 0 (fun _ => False) := by
  refine Met.ofW (cc := b_Source_kindOfName) (maxL := 6) (ret := (some .int)) (by decide) rfl ?_
  intro p e s m args below meth c s₁ B hml hv
  obtain ⟨rfl, hP, hK⟩ := hv
  have hx := B.exec
  have hb := B.bytes
  have hr := B.returns
  have hT : ∀ w ∈ lw_good, w.before _ s = true := fun w h => atoms_spec (ws := w_Source_kindOfName) B.pre w (List.mem_cons_of_mem _ h)
  have hown : s.vm.findClass R_Source = some m.cls := findClass_of_methodNamed B.named
  have hlocks := B.notSynchronized
  have hl := lv_entry ([.ref h_this, .int (nI a), .int (nI (a + n)), .long p3]) (n := 6) (Nat.le_of_ble_eq_true rfl)
  rw [lg_entry_eq]
  generalize (lg_sl ([.ref h_this, .int (nI a), .int (nI (a + n)), .long p3]) ++ List.replicate (6 - (lg_sl ([.ref h_this, .int (nI a), .int (nI (a + n)), .long p3])).length) Slot.unset).toArray = ls at hl ⊢
  have hl : lv_has ls 6 [(0, .ref h_this), (1, .int (nI a)), (2, .int (nI (a + n))), (3, .long p3)] := hl
  refine lv_iload_n hx hb d_Source_kindOfName_0 rfl (lv_at hl 2 rfl) ?_
  refine lv_iload_n hx hb d_Source_kindOfName_1 rfl (lv_at hl 1 rfl) ?_
  refine lv_isub hx hb d_Source_kindOfName_2 ?_
  refine lv_topi (fun x1 e1 => ?_)
  obtain rfl : x1 = nI ((a + n) - a) := e1.trans (pk_sub (a := (a + n)) (b := a) (by omega))
  rw [Nat.add_sub_cancel_left]
  refine lv_bipush (v := 8) hx hb d_Source_kindOfName_3 (by decide) ?_
  refine lv_icmp_le (tgt := 10) hx hb d_Source_kindOfName_5 (by decide) (fun c2 => ?_) (fun c2 => ?_)
  · have b2 : ((n)) ≤ (8) := (ni_le (by omega) (by omega)).1 c2
    refine lv_aload_n hx hb d_Source_kindOfName_10 rfl (lv_at hl 0 rfl) ?_
    refine va_get (D := (dC, dI)) (ci := 8) (v := .ref h_text) (C := R_Source) (T := F_Source) (N := 16) hx hb hT i_Source hown hK hP 0 rfl rfl 9 (by decide) (hT _ fl_Source_73) (fun _ h9 => h9) g_this_text d_Source_kindOfName_11 ?_
    refine lv_iload_n hx hb d_Source_kindOfName_14 rfl (lv_at hl 1 rfl) ?_
    refine va_cald hx hb hK hP 1 0 rfl rfl (vp_in_nI (by omega) (by decide)) d_Source_kindOfName_15 ?_
    refine lv_topi (fun x3 e3 => ?_)
    obtain rfl : x3 = f_text a := e3.trans (congrArg f_text (nI_clamp (by omega)))
    have hPc := hP.sub (ws' := []) [] rfl
    have hKc := hK.sub (tys' := []) [] rfl
    refine vp_callSi (va_Run.run (va_runS (As := [.int (f_text a)]) (rest := []) ⟨hx, hb, hml, hown, hT⟩ (c_Source_isSmall l dC dI (p1 := (f_text a)) ) (va_cwS 1 hT (gS ml_Source_136 st_Source_isSmall ini_Source co_Source_isSmall) rfl rfl rfl (by decide +kernel) ⟨Nat.le_of_ble_eq_true rfl, Nat.le_of_ble_eq_true rfl⟩) ⟨fbS, fun U hU hW => ⟨rfl, by rw [hU]; exact hPc, va_K.moved hW.alike hKc⟩⟩ rfl rfl hl.1 rfl (lv_room (Nat.le_of_ble_eq_true rfl)) d_Source_kindOfName_16 ⟨Nat.le_of_ble_eq_true rfl, Nat.le_of_ble_eq_true rfl⟩)) (fun r4 hr4 => ?_)
    refine lv_if_ne (tgt := 24) hx hb d_Source_kindOfName_19 (by decide) (fun c5 => ?_) (fun c5 => ?_)
    · have hs1 : cS (f_text a) := yz hr4 c5
      refine lv_iconst (v := 0) hx hb d_Source_kindOfName_24 (by decide) ?_
      refine lv_istore (lv' := [(5, .int 0), (0, .ref h_this), (1, .int (nI a)), (2, .int (nI (a + n))), (3, .long p3)]) hx hb d_Source_kindOfName_25 hl (by decide) rfl (fun ls hl => ?_)
      have loop : ∀ (nn : Nat) (i : Nat), i ≤ 26 → ff (isW f_words p3) 0 26 = ff (isW f_words p3) i (26 - i) → 26 - i < nn → ∀ (ls : Array Slot), lv_has ls 6 [(5, .int (nI (i))), (0, .ref h_this), (1, .int (nI a)), (2, .int (nI (a + n))), (3, .long p3)] → W p l e (headSpec w_Source_kindOfName ({ frames := 2, cells := 0, slots := 0, locals := 44 } : Room)).room s m ([.ref h_this, .int (nI a), .int (nI (a + n)), .long p3] : List Value).toArray below meth c s.heap [] 0 0 (MQ below (vp_Si (fun r : Int32 => (r = kName f_text f_words a n p3))) ([.ref h_this, .int (nI a), .int (nI (a + n)), .long p3] : List Value).toArray s 0 0 (fun _ => False)) (F0 m 27 ls []) := by
        clear hl
        intro nn
        induction nn with
        | zero => intro i hi he hn ls hl; exfalso; omega
        | succ nn ih =>
          intro i hi he hn ls hl
          refine lv_iload hx hb d_Source_kindOfName_27 (lv_at hl 0 rfl) ?_
          refine lv_aload_n hx hb d_Source_kindOfName_29 rfl (lv_at hl 1 rfl) ?_
          refine va_get (D := (dC, dI)) (ci := 8) (v := .ref h_words) (C := R_Source) (T := F_Source) (N := 16) hx hb hT i_Source hown hK hP 0 rfl rfl 15 (by decide) (hT _ fl_Source_46) (fun _ h9 => h9) g_this_words d_Source_kindOfName_30 ?_
          refine va_alen (v := 26) hx hb hK hP 2 1 rfl rfl rfl d_Source_kindOfName_33 ?_
          refine lv_icmp_ge (tgt := 61) hx hb d_Source_kindOfName_34 (by decide) (fun c6 => ?_) (fun c6 => ?_)
          · have b6 : (26) ≤ ((i)) := (ni_le (by omega) (by omega)).1 c6
            refine lv_aload_n hx hb d_Source_kindOfName_61 rfl (lv_at hl 1 rfl) ?_
            refine lv_iload_n hx hb d_Source_kindOfName_62 rfl (lv_at hl 2 rfl) ?_
            refine lv_iload_n hx hb d_Source_kindOfName_63 rfl (lv_at hl 3 rfl) ?_
            refine lv_iconst (v := 1) hx hb d_Source_kindOfName_64 (by decide) ?_
            have hPc := hP.sub (ws' := [oc h_this 8 fs_this, ic h_text k_text 4000 f_text]) [0, 1] rfl
            have hKc := hK.sub (tys' := [(k_text, .char)]) [0] rfl
            refine vp_callSi (va_Run.run (va_runV (As := [.int (nI a), .int (nI (a + n)), .int 1]) (rest := []) ⟨hx, hb, hml, hown, hT⟩ (c_Source_isAllOf l dC dI (h_this := h_this) (h_text := h_text) (fs_this := fs_this) (k_text := k_text) (f_text := f_text) (p3 := 1) (a := a) (n := n) (len_this := (by first | exact len_this | (simp only [List.length_set]; exact len_this))) (g_this_text := g_this_text) (hz := (by first | assumption | (subst_vars; decide) | omega))) (cwV 3 hT (gV ml_Source_124 im_Source_isAllOf se_Source_isAllOf ini_Source co_Source_isAllOf) rfl rfl rfl (by decide +kernel) ⟨Nat.le_of_ble_eq_true rfl, Nat.le_of_ble_eq_true rfl⟩) ⟨fbS, va_recv hKc hPc (ci := 8) (q0 := 0) rfl rfl, fun U hU hW => ⟨rfl, by rw [hU]; exact hPc, va_K.moved hW.alike hKc⟩⟩ rfl rfl hl.1 rfl (lv_room (Nat.le_of_ble_eq_true rfl)) d_Source_kindOfName_65 ⟨Nat.le_of_ble_eq_true rfl, Nat.le_of_ble_eq_true rfl⟩)) (fun r7 hr7 => ?_)
            refine lv_if_eq (tgt := 75) hx hb d_Source_kindOfName_68 (by decide) (fun c8 => ?_) (fun c8 => ?_)
            · refine lv_iconst (v := 1) hx hb d_Source_kindOfName_75 (by decide) ?_
              refine W.iret (v := 1) hx hb hr (fun t ht hW => ⟨1, rfl, ?_, ht⟩) (fun q h => by cases h) d_Source_kindOfName_76
              unfold kName; rw [if_neg (show ¬ 8 < n by omega), if_neg (fun z => z hs1), he, show 26 - i = 0 by omega, show ff (isW f_words p3) i 0 = -1 from rfl, if_pos rfl]; exact (if_neg (fun q => absurd (c8.symm.trans (hr7.trans (if_pos q))) (by decide))).symm
            · refine lv_iconst (v := 2) hx hb d_Source_kindOfName_71 (by decide) ?_
              refine lv_goto (tgt := 76) hx hb d_Source_kindOfName_72 (by decide) ?_
              refine W.iret (v := 2) hx hb hr (fun t ht hW => ⟨2, rfl, ?_, ht⟩) (fun q h => by cases h) d_Source_kindOfName_76
              unfold kName; rw [if_neg (show ¬ 8 < n by omega), if_neg (fun z => z hs1), he, show 26 - i = 0 by omega, show ff (isW f_words p3) i 0 = -1 from rfl, if_pos rfl]; exact (if_pos (Decidable.byContradiction (fun q => c8 (hr7.trans (if_neg q))))).symm
          · have b6 : ((i)) < (26) := (ni_le (by omega) (by omega)).2 c6
            refine lv_aload_n hx hb d_Source_kindOfName_37 rfl (lv_at hl 1 rfl) ?_
            refine va_get (D := (dC, dI)) (ci := 8) (v := .ref h_words) (C := R_Source) (T := F_Source) (N := 16) hx hb hT i_Source hown hK hP 0 rfl rfl 15 (by decide) (hT _ fl_Source_46) (fun _ h9 => h9) g_this_words d_Source_kindOfName_38 ?_
            refine lv_iload hx hb d_Source_kindOfName_41 (lv_at hl 0 rfl) ?_
            refine va_lald hx hb hK hP 2 1 rfl rfl (vp_in_nI (by omega) (by decide)) d_Source_kindOfName_43 ?_
            refine lv_topl (fun x9 e9 => ?_)
            obtain rfl : x9 = f_words (i) := e9.trans (congrArg f_words (nI_clamp (by omega)))
            refine lv_lload_n hx hb d_Source_kindOfName_44 rfl (lv_at hl 4 rfl) ?_
            refine W.lcmp hx hb d_Source_kindOfName_45 ?_
            refine lv_if_ne (tgt := 55) hx hb d_Source_kindOfName_46 (by decide) (fun c10 => ?_) (fun c10 => ?_)
            · refine lv_iinc (v := (nI (i + 1))) (lv' := [(5, .int (nI (i + 1))), (0, .ref h_this), (1, .int (nI a)), (2, .int (nI (a + n))), (3, .long p3)]) hx hb d_Source_kindOfName_55 hl (k := 0) rfl (nI_add (i) 1) (by decide) rfl (fun ls hl => ?_)
              refine lv_goto (tgt := 27) hx hb d_Source_kindOfName_58 (by decide) ?_
              have hno : ¬ (isW f_words p3) i = true := fun q => c10 ((lg_cmp_eq _ _).mpr (of_decide_eq_true q))
              exact ih (i + 1) (by omega) (he.trans ((ff_no hno (by omega)).trans (congrArg _ (by omega)))) (by omega) ls (lv_sub hl [0, 1, 2, 3, 4] rfl)
            · refine lv_bipush (v := 10) hx hb d_Source_kindOfName_49 (by decide) ?_
              refine lv_iload hx hb d_Source_kindOfName_51 (lv_at hl 0 rfl) ?_
              refine lv_iadd hx hb d_Source_kindOfName_53 ?_
              refine lv_topi (fun x11 e11 => ?_)
              obtain rfl : x11 = nI (10 + (i)) := e11.trans (nI_add 10 (i))
              refine W.iret (v := (nI (10 + (i)))) hx hb hr (fun t ht hW => ⟨(nI (10 + (i))), rfl, ?_, ht⟩) (fun q h => by cases h) d_Source_kindOfName_54
              unfold kName; rw [if_neg (show ¬ 8 < n by omega), if_neg (fun z => z hs1), he, ff_yes (decide_eq_true ((lg_cmp_eq _ _).mp c10)) (by omega), if_neg (nI_m1 (by omega))]; exact (nI_add 10 i).symm
      exact loop 27 0 (by omega) rfl (by omega) ls (lv_sub hl [0, 1, 2, 3, 4] rfl)
    · refine lv_iconst (v := 3) hx hb d_Source_kindOfName_22 (by decide) ?_
      refine W.iret (v := 3) hx hb hr (fun t ht hW => ⟨3, rfl, ?_, ht⟩) (fun q h => by cases h) d_Source_kindOfName_23
      unfold kName; rw [if_neg (show ¬ 8 < n by omega)]; exact (if_pos (nz hr4 c5)).symm
  · have b2 : (8) < ((n)) := (ni_le (by omega) (by omega)).2 c2
    refine lv_iconst (v := 1) hx hb d_Source_kindOfName_8 (by decide) ?_
    refine W.iret (v := 1) hx hb hr (fun t ht hW => ⟨1, rfl, ?_, ht⟩) (fun q h => by cases h) d_Source_kindOfName_9
    exact (if_pos (show 8 < n by omega)).symm
set_option maxHeartbeats 4000000 in
set_option maxRecDepth 100000 in
theorem c_Source_scanRow (l : Launch) (dC : Nat → ClassId) (dI : Nat → Nat → Nat) (sz : Nat) (h_this : Nat) (h_text : Nat) (h_words : Nat) (h_tokenKind : Nat) (h_tokenStart : Nat) (h_tokenName : Nat) (fs_this : List Value) (k_text : ClassId) (f_text : Nat → Int32) (k_words : ClassId) (f_words : Nat → Int64) (k_tokenKind : ClassId) (f_tokenKind : Nat → Int32) (k_tokenStart : ClassId) (f_tokenStart : Nat → Int32) (k_tokenName : ClassId) (f_tokenName : Nat → Int64) (a : Nat) (tz : Nat) (tn : Nat) (len_this : fs_this.length = 16) (g_this_text : fs_this[9]? = some (.ref h_text)) (g_this_words : fs_this[15]? = some (.ref h_words)) (g_this_length : fs_this[10]? = some (.int (nI tz))) (g_this_tokens : fs_this[14]? = some (.int (nI tn))) (g_this_tokenKind : fs_this[11]? = some (.ref h_tokenKind)) (g_this_tokenStart : fs_this[12]? = some (.ref h_tokenStart)) (g_this_tokenName : fs_this[13]? = some (.ref h_tokenName)) (ha : a < tz) (hz : tz ≤ 4000) (ht0 : tn < 4000) : Met l y_Source_scanRow w_Source_scanRow ({ frames := 3, cells := 0, slots := 0, locals := 69 } : Room) (va_Pc [.ref h_this, .int (nI a)] (fun U => U.heap.size = sz ∧ va_P (dC, dI) cls_all [oc h_this 8 fs_this, ic h_text k_text 4000 f_text, jc h_words k_words 26 f_words, ic h_tokenKind k_tokenKind 4001 f_tokenKind, ic h_tokenStart k_tokenStart 4001 f_tokenStart, jc h_tokenName k_tokenName 4001 f_tokenName] U.heap ∧ va_K (dC, dI) cls_all [(k_text, .char), (k_words, .long), (k_tokenKind, .int), (k_tokenStart, .int), (k_tokenName, .long)] U ∧ va_D (fun _ => True) [oc h_this 8 fs_this, ic h_text k_text 4000 f_text, jc h_words k_words 26 f_words, ic h_tokenKind k_tokenKind 4001 f_tokenKind, ic h_tokenStart k_tokenStart 4001 f_tokenStart, jc h_tokenName k_tokenName 4001 f_tokenName])) (va_Qi (fun (z r : Int32) => z = r) (fun r t => ∃ (fs_this' : List Value) (f_tokenKind' : Nat → Int32) (f_tokenStart' : Nat → Int32) (f_tokenName' : Nat → Int64), (fs_this'.length = 16 ∧ (∀ j : Nat, j ≠ 14 → fs_this'[j]? = fs_this[j]?) ∧ fs_this'[14]? = some (.int (nI (tn + 1))) ∧ (f_tokenKind' = upd f_tokenKind tn (sK f_text f_words tz a)) ∧ (f_tokenStart' = upd f_tokenStart tn (nI a)) ∧ (f_tokenName' = vp_updL f_tokenName tn (sV f_text tz a)) ∧ (r = nI (a + 1 + (sN f_text tz a)))) ∧ va_P (dC, dI) cls_all [oc h_this 8 fs_this', ic h_text k_text 4000 f_text, jc h_words k_words 26 f_words, ic h_tokenKind k_tokenKind 4001 f_tokenKind', ic h_tokenStart k_tokenStart 4001 f_tokenStart', jc h_tokenName k_tokenName 4001 f_tokenName'] t.heap ∧ va_K (dC, dI) cls_all [(k_text, .char), (k_words, .long), (k_tokenKind, .int), (k_tokenStart, .int), (k_tokenName, .long)] t ∧ va_D (va_A [oc h_this 8 fs_this, ic h_text k_text 4000 f_text, jc h_words k_words 26 f_words, ic h_tokenKind k_tokenKind 4001 f_tokenKind, ic h_tokenStart k_tokenStart 4001 f_tokenStart, jc h_tokenName k_tokenName 4001 f_tokenName] sz) [oc h_this 8 fs_this', ic h_text k_text 4000 f_text, jc h_words k_words 26 f_words, ic h_tokenKind k_tokenKind 4001 f_tokenKind', ic h_tokenStart k_tokenStart 4001 f_tokenStart', jc h_tokenName k_tokenName 4001 f_tokenName']) (va_A [oc h_this 8 fs_this, ic h_text k_text 4000 f_text, jc h_words k_words 26 f_words, ic h_tokenKind k_tokenKind 4001 f_tokenKind, ic h_tokenStart k_tokenStart 4001 f_tokenStart, jc h_tokenName k_tokenName 4001 f_tokenName] sz)) 0 0 (va_A [oc h_this 8 fs_this, ic h_text k_text 4000 f_text, jc h_words k_words 26 f_words, ic h_tokenKind k_tokenKind 4001 f_tokenKind, ic h_tokenStart k_tokenStart 4001 f_tokenStart, jc h_tokenName k_tokenName 4001 f_tokenName] sz) := by
  refine Met.ofW (cc := b_Source_scanRow) (maxL := 5) (ret := (some .int)) (by decide) rfl ?_
  intro p e s m args below meth c s₁ B hml hv
  obtain ⟨rfl, hsz, hP, hK, hD0⟩ := hv
  have hx := B.exec
  have hb := B.bytes
  have hr := B.returns
  have hT : ∀ w ∈ lw_good, w.before _ s = true := fun w h => atoms_spec (ws := w_Source_scanRow) B.pre w (List.mem_cons_of_mem _ h)
  have hown : s.vm.findClass R_Source = some m.cls := findClass_of_methodNamed B.named
  have hlocks := B.notSynchronized
  subst hsz
  have hD := hD0.self (sz := s.heap.size)
  generalize hAe : va_A [oc h_this 8 fs_this, ic h_text k_text 4000 f_text, jc h_words k_words 26 f_words, ic h_tokenKind k_tokenKind 4001 f_tokenKind, ic h_tokenStart k_tokenStart 4001 f_tokenStart, jc h_tokenName k_tokenName 4001 f_tokenName] s.heap.size = A at hD ⊢
  have hA : ∀ q : Nat, s.heap.size ≤ q → A q := fun q h => by rw [← hAe]; exact Or.inr h
  have hS : va_S A s.heap s.heap [] := va_S.rf
  have hP : va_P (dC, dI) cls_all [oc h_this 8 fs_this, ic h_text k_text 4000 f_text, jc h_words k_words 26 f_words, ic h_tokenKind k_tokenKind 4001 f_tokenKind, ic h_tokenStart k_tokenStart 4001 f_tokenStart, jc h_tokenName k_tokenName 4001 f_tokenName] s.heap := hP
  have hl := lv_entry ([.ref h_this, .int (nI a)]) (n := 5) (Nat.le_of_ble_eq_true rfl)
  rw [lg_entry_eq]
  generalize (lg_sl ([.ref h_this, .int (nI a)]) ++ List.replicate (5 - (lg_sl ([.ref h_this, .int (nI a)])).length) Slot.unset).toArray = ls at hl ⊢
  have hl : lv_has ls 5 [(0, .ref h_this), (1, .int (nI a))] := hl
  refine lv_iload_n hx hb d_Source_scanRow_0 rfl (lv_at hl 1 rfl) ?_
  refine lv_iconst (v := 1) hx hb d_Source_scanRow_1 (by decide) ?_
  refine lv_iadd hx hb d_Source_scanRow_2 ?_
  refine lv_topi (fun x1 e1 => ?_)
  obtain rfl : x1 = nI (a + 1) := e1.trans (nI_add a 1)
  refine lv_istore_n (lv' := [(2, .int (nI (a + 1))), (0, .ref h_this), (1, .int (nI a))]) hx hb d_Source_scanRow_3 rfl hl (by decide) rfl (fun ls hl => ?_)
  have loop : ∀ (nn : Nat) (k : Nat), a + 1 + k ≤ tz → (sN f_text tz a) = k + rl f_text (a + 1 + k) (tz - (a + 1) - k) → tz - (a + 1) - k < nn → ∀ (H : Heap) (locs : List Loc), va_P (dC, dI) cls_all [oc h_this 8 fs_this, ic h_text k_text 4000 f_text, jc h_words k_words 26 f_words, ic h_tokenKind k_tokenKind 4001 f_tokenKind, ic h_tokenStart k_tokenStart 4001 f_tokenStart, jc h_tokenName k_tokenName 4001 f_tokenName] H → va_D A [oc h_this 8 fs_this, ic h_text k_text 4000 f_text, jc h_words k_words 26 f_words, ic h_tokenKind k_tokenKind 4001 f_tokenKind, ic h_tokenStart k_tokenStart 4001 f_tokenStart, jc h_tokenName k_tokenName 4001 f_tokenName] → va_S A s.heap H locs → ∀ (ls : Array Slot), lv_has ls 5 [(2, .int (nI (a + 1 + k))), (0, .ref h_this), (1, .int (nI a))] → W p l e (headSpec w_Source_scanRow ({ frames := 3, cells := 0, slots := 0, locals := 69 } : Room)).room s m ([.ref h_this, .int (nI a)] : List Value).toArray below meth c H locs 0 0 (MQ below (va_Qi (fun (z r : Int32) => z = r) (fun r t => ∃ (fs_this' : List Value) (f_tokenKind' : Nat → Int32) (f_tokenStart' : Nat → Int32) (f_tokenName' : Nat → Int64), (fs_this'.length = 16 ∧ (∀ j : Nat, j ≠ 14 → fs_this'[j]? = fs_this[j]?) ∧ fs_this'[14]? = some (.int (nI (tn + 1))) ∧ (f_tokenKind' = upd f_tokenKind tn (sK f_text f_words tz a)) ∧ (f_tokenStart' = upd f_tokenStart tn (nI a)) ∧ (f_tokenName' = vp_updL f_tokenName tn (sV f_text tz a)) ∧ (r = nI (a + 1 + (sN f_text tz a)))) ∧ va_P (dC, dI) cls_all [oc h_this 8 fs_this', ic h_text k_text 4000 f_text, jc h_words k_words 26 f_words, ic h_tokenKind k_tokenKind 4001 f_tokenKind', ic h_tokenStart k_tokenStart 4001 f_tokenStart', jc h_tokenName k_tokenName 4001 f_tokenName'] t.heap ∧ va_K (dC, dI) cls_all [(k_text, .char), (k_words, .long), (k_tokenKind, .int), (k_tokenStart, .int), (k_tokenName, .long)] t ∧ va_D A [oc h_this 8 fs_this', ic h_text k_text 4000 f_text, jc h_words k_words 26 f_words, ic h_tokenKind k_tokenKind 4001 f_tokenKind', ic h_tokenStart k_tokenStart 4001 f_tokenStart', jc h_tokenName k_tokenName 4001 f_tokenName']) A) ([.ref h_this, .int (nI a)] : List Value).toArray s 0 0 A) (F0 m 4 ls []) := by
    clear hP hD hS
    clear hl
    intro nn
    induction nn with
    | zero => intro k hk he hn H locs hP hD hS ls hl; exfalso; omega
    | succ nn ih =>
      intro k hk he hn H locs hP hD hS ls hl
      refine lv_iload_n hx hb d_Source_scanRow_4 rfl (lv_at hl 0 rfl) ?_
      refine lv_aload_n hx hb d_Source_scanRow_5 rfl (lv_at hl 1 rfl) ?_
      refine va_get (D := (dC, dI)) (ci := 8) (v := .int (nI tz)) (C := R_Source) (T := F_Source) (N := 16) hx hb hT i_Source hown hK hP 0 rfl rfl 10 (by decide) (hT _ fl_Source_83) (fun _ h9 => h9) g_this_length d_Source_scanRow_6 ?_
      refine lv_icmp_ge (tgt := 30) hx hb d_Source_scanRow_9 (by decide) (fun c2 => ?_) (fun c2 => ?_)
      · have b2 : (tz) ≤ ((a + 1 + k)) := (ni_le (by omega) (by omega)).1 c2
        have hN : (sN f_text tz a) = k := he.trans (by rw [show tz - (a + 1) - k = 0 by omega]; rfl)
        refine lv_aload_n hx hb d_Source_scanRow_30 rfl (lv_at hl 1 rfl) ?_
        refine va_get (D := (dC, dI)) (ci := 8) (v := .ref h_text) (C := R_Source) (T := F_Source) (N := 16) hx hb hT i_Source hown hK hP 0 rfl rfl 9 (by decide) (hT _ fl_Source_73) (fun _ h9 => h9) g_this_text d_Source_scanRow_31 ?_
        refine lv_iload_n hx hb d_Source_scanRow_34 rfl (lv_at hl 2 rfl) ?_
        refine va_cald hx hb hK hP 1 0 rfl rfl (vp_in_nI (by omega) (by decide)) d_Source_scanRow_35 ?_
        refine lv_topi (fun x3 e3 => ?_)
        obtain rfl : x3 = f_text a := e3.trans (congrArg f_text (nI_clamp (by omega)))
        refine lv_bipush (v := 39) hx hb d_Source_scanRow_36 (by decide) ?_
        refine lv_icmp_ne (tgt := 68) hx hb d_Source_scanRow_38 (by decide) (fun c4 => ?_) (fun c4 => ?_)
        · have h39 : ¬ f_text a = 39 := c4
          refine lv_aload_n hx hb d_Source_scanRow_68 rfl (lv_at hl 1 rfl) ?_
          refine va_get (D := (dC, dI)) (ci := 8) (v := .ref h_text) (C := R_Source) (T := F_Source) (N := 16) hx hb hT i_Source hown hK hP 0 rfl rfl 9 (by decide) (hT _ fl_Source_73) (fun _ h9 => h9) g_this_text d_Source_scanRow_69 ?_
          refine lv_iload_n hx hb d_Source_scanRow_72 rfl (lv_at hl 2 rfl) ?_
          refine va_cald hx hb hK hP 1 0 rfl rfl (vp_in_nI (by omega) (by decide)) d_Source_scanRow_73 ?_
          refine lv_topi (fun x5 e5 => ?_)
          obtain rfl : x5 = f_text a := e5.trans (congrArg f_text (nI_clamp (by omega)))
          have hPc := hP.sub (ws' := []) [] rfl
          have hKc := hK.sub (tys' := []) [] rfl
          refine vp_callSi (va_Run.run (va_runS (As := [.int (f_text a)]) (rest := []) ⟨hx, hb, hml, hown, hT⟩ (c_Source_isDigit l dC dI (p1 := (f_text a)) ) (va_cwS 1 hT (gS ml_Source_121 st_Source_isDigit ini_Source co_Source_isDigit) rfl rfl rfl (by decide +kernel) ⟨Nat.le_of_ble_eq_true rfl, Nat.le_of_ble_eq_true rfl⟩) ⟨fbS, fun U hU hW => ⟨rfl, by rw [hU]; exact hPc, va_K.moved hW.alike hKc⟩⟩ rfl rfl hl.1 rfl (lv_room (Nat.le_of_ble_eq_true rfl)) d_Source_scanRow_74 ⟨Nat.le_of_ble_eq_true rfl, Nat.le_of_ble_eq_true rfl⟩)) (fun r6 hr6 => ?_)
          refine lv_if_eq (tgt := 135) hx hb d_Source_scanRow_77 (by decide) (fun c7 => ?_) (fun c7 => ?_)
          · have hdg : ¬ cD (f_text a) := nz hr6 c7
            refine lv_aload_n hx hb d_Source_scanRow_135 rfl (lv_at hl 1 rfl) ?_
            refine va_get (D := (dC, dI)) (ci := 8) (v := .ref h_text) (C := R_Source) (T := F_Source) (N := 16) hx hb hT i_Source hown hK hP 0 rfl rfl 9 (by decide) (hT _ fl_Source_73) (fun _ h9 => h9) g_this_text d_Source_scanRow_136 ?_
            refine lv_iload_n hx hb d_Source_scanRow_139 rfl (lv_at hl 2 rfl) ?_
            refine lv_iload_n hx hb d_Source_scanRow_140 rfl (lv_at hl 0 rfl) ?_
            have hPc := hP.sub (ws' := [ic h_text k_text 4000 f_text]) [1] rfl
            have hKc := hK.sub (tys' := [(k_text, .char)]) [0] rfl
            refine vp_callSl (va_Run.run (va_runS (As := [.ref h_text, .int (nI a), .int (nI (a + 1 + k))]) (rest := []) ⟨hx, hb, hml, hown, hT⟩ (c_Source_packed l dC dI (h_a1 := h_text) (k_a1 := k_text) (f_a1 := f_text) (L := 4000) (a := a) (b := (a + 1 + k)) (hL := (by decide)) (hab := (by first | assumption | (subst_vars; decide) | omega)) (hbL := (by omega))) (va_cwS 3 hT (gS ml_Source_69 st_Source_packed ini_Source co_Source_packed) rfl rfl rfl (by decide +kernel) ⟨Nat.le_of_ble_eq_true rfl, Nat.le_of_ble_eq_true rfl⟩) ⟨fbS, fun U hU hW => ⟨rfl, by rw [hU]; exact hPc, va_K.moved hW.alike hKc⟩⟩ rfl rfl hl.1 rfl (lv_room (Nat.le_of_ble_eq_true rfl)) d_Source_scanRow_141 ⟨Nat.le_of_ble_eq_true rfl, Nat.le_of_ble_eq_true rfl⟩)) (fun r8 hr8 => ?_)
            obtain rfl : r8 = pkd f_text a (k + 1) := hr8.trans (congrArg _ (by omega))
            refine lv_lstore_n (lv' := [(3, .long (pkd f_text a (k + 1))), (2, .int (nI (a + 1 + k))), (0, .ref h_this), (1, .int (nI a))]) hx hb d_Source_scanRow_144 rfl hl (by decide) rfl (fun ls hl => ?_)
            refine lv_aload_n hx hb d_Source_scanRow_145 rfl (lv_at hl 2 rfl) ?_
            refine lv_aload_n hx hb d_Source_scanRow_146 rfl (lv_at hl 2 rfl) ?_
            refine lv_iload_n hx hb d_Source_scanRow_147 rfl (lv_at hl 3 rfl) ?_
            refine lv_iload_n hx hb d_Source_scanRow_148 rfl (lv_at hl 1 rfl) ?_
            refine lv_lload_n hx hb d_Source_scanRow_149 rfl (lv_at hl 0 rfl) ?_
            rw [show a + 1 + k = a + (k + 1) by omega]
            have hPc := hP.sub (ws' := [oc h_this 8 fs_this, ic h_text k_text 4000 f_text, jc h_words k_words 26 f_words]) [0, 1, 2] rfl
            have hKc := hK.sub (tys' := [(k_text, .char), (k_words, .long)]) [0, 1] rfl
            refine vp_callSi (va_Run.run (va_runV (As := [.int (nI a), .int (nI (a + (k + 1))), .long (pkd f_text a (k + 1))]) (rest := [.ref h_this]) ⟨hx, hb, hml, hown, hT⟩ (c_Source_kindOfName l dC dI (h_this := h_this) (h_text := h_text) (h_words := h_words) (fs_this := fs_this) (k_text := k_text) (f_text := f_text) (k_words := k_words) (f_words := f_words) (p3 := (pkd f_text a (k + 1))) (a := a) (n := (k + 1)) (len_this := (by first | exact len_this | (simp only [List.length_set]; exact len_this))) (g_this_text := g_this_text) (g_this_words := g_this_words) (h0n := (by omega)) (hz := (by omega))) (cwV 3 hT (gV ml_Source_132 im_Source_kindOfName se_Source_kindOfName ini_Source co_Source_kindOfName) rfl rfl rfl (by decide +kernel) ⟨Nat.le_of_ble_eq_true rfl, Nat.le_of_ble_eq_true rfl⟩) ⟨fbS, va_recv hKc hPc (ci := 8) (q0 := 0) rfl rfl, fun U hU hW => ⟨rfl, by rw [hU]; exact hPc, va_K.moved hW.alike hKc⟩⟩ rfl rfl hl.1 rfl (lv_room (Nat.le_of_ble_eq_true rfl)) d_Source_scanRow_150 ⟨Nat.le_of_ble_eq_true rfl, Nat.le_of_ble_eq_true rfl⟩)) (fun r9 hr9 => ?_)
            obtain rfl : r9 = kName f_text f_words a (k + 1) (pkd f_text a (k + 1)) := hr9
            refine lv_iload_n hx hb d_Source_scanRow_153 rfl (lv_at hl 3 rfl) ?_
            refine lv_lload_n hx hb d_Source_scanRow_154 rfl (lv_at hl 0 rfl) ?_
            have hPc := hP.sub (ws' := [oc h_this 8 fs_this, ic h_tokenKind k_tokenKind 4001 f_tokenKind, ic h_tokenStart k_tokenStart 4001 f_tokenStart, jc h_tokenName k_tokenName 4001 f_tokenName]) [0, 3, 4, 5] rfl
            have hKc := hK.sub (tys' := [(k_tokenKind, .int), (k_tokenStart, .int), (k_tokenName, .long)]) [2, 3, 4] rfl
            have hDc := hD.sub (ws' := [oc h_this 8 fs_this, ic h_tokenKind k_tokenKind 4001 f_tokenKind, ic h_tokenStart k_tokenStart 4001 f_tokenStart, jc h_tokenName k_tokenName 4001 f_tokenName]) [0, 3, 4, 5] (by decide) rfl
            have hFc := va_free (wc := [oc h_this 8 fs_this, ic h_tokenKind k_tokenKind 4001 f_tokenKind, ic h_tokenStart k_tokenStart 4001 f_tokenStart, jc h_tokenName k_tokenName 4001 f_tokenName]) hD hS hA [0, 3, 4, 5] rfl
            refine va_callv (va_runV (As := [.int (kName f_text f_words a (k + 1) (pkd f_text a (k + 1))), .int (nI a), .long (pkd f_text a (k + 1))]) (rest := []) ⟨hx, hb, hml, hown, hT⟩ (c_Source_addToken l dC dI (sz := H.size) (h_this := h_this) (h_tokenKind := h_tokenKind) (h_tokenStart := h_tokenStart) (h_tokenName := h_tokenName) (fs_this := fs_this) (k_tokenKind := k_tokenKind) (f_tokenKind := f_tokenKind) (k_tokenStart := k_tokenStart) (f_tokenStart := f_tokenStart) (k_tokenName := k_tokenName) (f_tokenName := f_tokenName) (p1 := (kName f_text f_words a (k + 1) (pkd f_text a (k + 1)))) (p2 := (nI a)) (p3 := (pkd f_text a (k + 1))) (tn := tn) (len_this := (by first | exact len_this | (simp only [List.length_set]; exact len_this))) (g_this_tokens := g_this_tokens) (g_this_tokenKind := g_this_tokenKind) (g_this_tokenStart := g_this_tokenStart) (g_this_tokenName := g_this_tokenName) (ht0 := ht0)) (cwV 3 hT (gV ml_Source_109 im_Source_addToken se_Source_addToken ini_Source co_Source_addToken) rfl rfl rfl (by decide +kernel) ⟨Nat.le_of_ble_eq_true rfl, Nat.le_of_ble_eq_true rfl⟩) ⟨fbQ, va_recv hKc hPc (ci := 8) (q0 := 0) rfl rfl, fun U hU hW => ⟨rfl, by rw [hU], by rw [hU]; exact hPc, va_K.moved hW.alike hKc, hDc.weaken (fun _ _ _ _ => trivial)⟩⟩ rfl rfl hl.1 rfl (lv_room (Nat.le_of_ble_eq_true rfl)) d_Source_scanRow_155 ⟨Nat.le_of_ble_eq_true rfl, Nat.le_of_ble_eq_true rfl⟩) hS (fun q _ h => hFc q h) hFc (fun u t H1 locs ht hvm hw hB hz1 hk1 hS => ?_)
            obtain ⟨fs_this_10, f_tokenKind_10, f_tokenStart_10, f_tokenName_10, ⟨hw10_0, hw10_1, hw10_2, hw10_3, hw10_4, hw10_5⟩, hP1, hK1, hD1⟩ := hB
            rw [ht] at hP1
            have hK1 := va_K.moved hvm.symm hK1
            obtain ⟨hP, hD⟩ := va_join (wr := [ic h_text k_text 4000 f_text, jc h_words k_words 26 f_words]) (w1 := [oc h_this 8 fs_this_10, ic h_tokenKind k_tokenKind 4001 f_tokenKind_10, ic h_tokenStart k_tokenStart 4001 f_tokenStart_10, jc h_tokenName k_tokenName 4001 f_tokenName_10]) hP hD [0, 3, 4, 5] [1, 2] rfl rfl (by decide) (by decide) hk1 hFc hP1 hD1
            generalize H1 = H at hP hS ⊢
            have hP : va_P (dC, dI) cls_all [ic h_text k_text 4000 f_text, jc h_words k_words 26 f_words, oc h_this 8 fs_this_10, ic h_tokenKind k_tokenKind 4001 f_tokenKind_10, ic h_tokenStart k_tokenStart 4001 f_tokenStart_10, jc h_tokenName k_tokenName 4001 f_tokenName_10] H := hP
            have hD : va_D A [ic h_text k_text 4000 f_text, jc h_words k_words 26 f_words, oc h_this 8 fs_this_10, ic h_tokenKind k_tokenKind 4001 f_tokenKind_10, ic h_tokenStart k_tokenStart 4001 f_tokenStart_10, jc h_tokenName k_tokenName 4001 f_tokenName_10] := hD
            have eK : sK f_text f_words tz a = kName f_text f_words a (k + 1) (pkd f_text a (k + 1)) := by unfold sK; rw [hN]; rw [if_neg h39, if_neg hdg]
            have eV : sV f_text tz a = pkd f_text a (k + 1) := by unfold sV; rw [hN]; rw [if_neg h39, if_neg hdg]
            refine lv_iload_n hx hb d_Source_scanRow_158 rfl (lv_at hl 1 rfl) ?_
            have hP9 := hP.sub (ws' := [oc h_this 8 fs_this_10, ic h_text k_text 4000 f_text, jc h_words k_words 26 f_words, ic h_tokenKind k_tokenKind 4001 f_tokenKind_10, ic h_tokenStart k_tokenStart 4001 f_tokenStart_10, jc h_tokenName k_tokenName 4001 f_tokenName_10]) [2, 0, 1, 3, 4, 5] rfl
            have hD9 := hD.sub (ws' := [oc h_this 8 fs_this_10, ic h_text k_text 4000 f_text, jc h_words k_words 26 f_words, ic h_tokenKind k_tokenKind 4001 f_tokenKind_10, ic h_tokenStart k_tokenStart 4001 f_tokenStart_10, jc h_tokenName k_tokenName 4001 f_tokenName_10]) [2, 0, 1, 3, 4, 5] (by decide) rfl
            have hK9 := hK.sub (tys' := [(k_text, .char), (k_words, .long), (k_tokenKind, .int), (k_tokenStart, .int), (k_tokenName, .long)]) [0, 1, 2, 3, 4] rfl
            have hv11 : fs_this_10[14]? = some (.int (nI (tn + 1))) := hw10_2
            exact W.iret (v := (nI (a + 1 + k))) hx hb hr (fun t ht hW => ⟨⟨(nI (a + 1 + k)), (nI (a + 1 + k)), rfl, rfl, fs_this_10, f_tokenKind_10, f_tokenStart_10, f_tokenName_10, ⟨(by first | exact hw10_0 | (simp only [List.length_set]; exact hw10_0)), (fun j n14 => ((hw10_1 j n14).trans rfl)), (by first | exact hv11 | (rw [hv11]; refine congrArg some (congrArg _ ?_); first | (rw [hN]; done) | rfl)), (by first | (rw [eK]; assumption) | (rw [eV]; assumption) | assumption), (by first | (rw [eK]; assumption) | (rw [eV]; assumption) | assumption), (by first | (rw [eK]; assumption) | (rw [eV]; assumption) | assumption), (by first | (rw [hN]; done) | rfl)⟩, by rw [ht]; exact hP9, va_K.moved hW.alike hK9, hD9⟩, hS.F ht⟩) hS.2.2 d_Source_scanRow_159
          · have hdg : cD (f_text a) := yz hr6 c7
            refine lv_iload_n hx hb d_Source_scanRow_80 rfl (lv_at hl 0 rfl) ?_
            refine lv_iload_n hx hb d_Source_scanRow_81 rfl (lv_at hl 2 rfl) ?_
            refine lv_isub hx hb d_Source_scanRow_82 ?_
            refine lv_topi (fun x12 e12 => ?_)
            obtain rfl : x12 = nI ((a + 1 + k) - a) := e12.trans (pk_sub (a := (a + 1 + k)) (b := a) (by omega))
            rw [show a + 1 + k - a = k + 1 by omega]
            refine lv_bipush (v := 9) hx hb d_Source_scanRow_83 (by decide) ?_
            refine lv_icmp_gt (tgt := 102) hx hb d_Source_scanRow_85 (by decide) (fun c13 => ?_) (fun c13 => ?_)
            · have b13 : (9) < ((k + 1)) := (ni_lt (by omega) (by omega) ).1 c13
              have hfi : m9 f_text a k = 0 := if_pos (by omega)
              refine lv_iconst (v := 0) hx hb d_Source_scanRow_102 (by decide) ?_
              refine lv_istore_n (lv' := [(3, .int 0), (2, .int (nI (a + 1 + k))), (0, .ref h_this), (1, .int (nI a))]) hx hb d_Source_scanRow_103 rfl hl (by decide) rfl (fun ls hl => ?_)
              refine lv_aload_n hx hb d_Source_scanRow_104 rfl (lv_at hl 2 rfl) ?_
              refine lv_iload_n hx hb d_Source_scanRow_105 rfl (lv_at hl 0 rfl) ?_
              refine lv_if_eq (tgt := 113) hx hb d_Source_scanRow_106 (by decide) (fun _ => ?_) (fun c14 => absurd (by decide) c14)
              refine lv_iconst (v := 1) hx hb d_Source_scanRow_113 (by decide) ?_
              refine lv_iload_n hx hb d_Source_scanRow_114 rfl (lv_at hl 3 rfl) ?_
              refine lv_iload_n hx hb d_Source_scanRow_115 rfl (lv_at hl 0 rfl) ?_
              refine lv_if_eq (tgt := 128) hx hb d_Source_scanRow_116 (by decide) (fun _ => ?_) (fun c15 => absurd (by decide) c15)
              refine lv_lconst (v := 0) hx hb d_Source_scanRow_128 (by decide) ?_
              have hPc := hP.sub (ws' := [oc h_this 8 fs_this, ic h_tokenKind k_tokenKind 4001 f_tokenKind, ic h_tokenStart k_tokenStart 4001 f_tokenStart, jc h_tokenName k_tokenName 4001 f_tokenName]) [0, 3, 4, 5] rfl
              have hKc := hK.sub (tys' := [(k_tokenKind, .int), (k_tokenStart, .int), (k_tokenName, .long)]) [2, 3, 4] rfl
              have hDc := hD.sub (ws' := [oc h_this 8 fs_this, ic h_tokenKind k_tokenKind 4001 f_tokenKind, ic h_tokenStart k_tokenStart 4001 f_tokenStart, jc h_tokenName k_tokenName 4001 f_tokenName]) [0, 3, 4, 5] (by decide) rfl
              have hFc := va_free (wc := [oc h_this 8 fs_this, ic h_tokenKind k_tokenKind 4001 f_tokenKind, ic h_tokenStart k_tokenStart 4001 f_tokenStart, jc h_tokenName k_tokenName 4001 f_tokenName]) hD hS hA [0, 3, 4, 5] rfl
              refine va_callv (va_runV (As := [.int 1, .int (nI a), .long 0]) (rest := []) ⟨hx, hb, hml, hown, hT⟩ (c_Source_addToken l dC dI (sz := H.size) (h_this := h_this) (h_tokenKind := h_tokenKind) (h_tokenStart := h_tokenStart) (h_tokenName := h_tokenName) (fs_this := fs_this) (k_tokenKind := k_tokenKind) (f_tokenKind := f_tokenKind) (k_tokenStart := k_tokenStart) (f_tokenStart := f_tokenStart) (k_tokenName := k_tokenName) (f_tokenName := f_tokenName) (p1 := 1) (p2 := (nI a)) (p3 := 0) (tn := tn) (len_this := (by first | exact len_this | (simp only [List.length_set]; exact len_this))) (g_this_tokens := g_this_tokens) (g_this_tokenKind := g_this_tokenKind) (g_this_tokenStart := g_this_tokenStart) (g_this_tokenName := g_this_tokenName) (ht0 := ht0)) (cwV 3 hT (gV ml_Source_109 im_Source_addToken se_Source_addToken ini_Source co_Source_addToken) rfl rfl rfl (by decide +kernel) ⟨Nat.le_of_ble_eq_true rfl, Nat.le_of_ble_eq_true rfl⟩) ⟨fbQ, va_recv hKc hPc (ci := 8) (q0 := 0) rfl rfl, fun U hU hW => ⟨rfl, by rw [hU], by rw [hU]; exact hPc, va_K.moved hW.alike hKc, hDc.weaken (fun _ _ _ _ => trivial)⟩⟩ rfl rfl hl.1 rfl (lv_room (Nat.le_of_ble_eq_true rfl)) d_Source_scanRow_129 ⟨Nat.le_of_ble_eq_true rfl, Nat.le_of_ble_eq_true rfl⟩) hS (fun q _ h => hFc q h) hFc (fun u t H1 locs ht hvm hw hB hz1 hk1 hS => ?_)
              obtain ⟨fs_this_16, f_tokenKind_16, f_tokenStart_16, f_tokenName_16, ⟨hw16_0, hw16_1, hw16_2, hw16_3, hw16_4, hw16_5⟩, hP1, hK1, hD1⟩ := hB
              rw [ht] at hP1
              have hK1 := va_K.moved hvm.symm hK1
              obtain ⟨hP, hD⟩ := va_join (wr := [ic h_text k_text 4000 f_text, jc h_words k_words 26 f_words]) (w1 := [oc h_this 8 fs_this_16, ic h_tokenKind k_tokenKind 4001 f_tokenKind_16, ic h_tokenStart k_tokenStart 4001 f_tokenStart_16, jc h_tokenName k_tokenName 4001 f_tokenName_16]) hP hD [0, 3, 4, 5] [1, 2] rfl rfl (by decide) (by decide) hk1 hFc hP1 hD1
              generalize H1 = H at hP hS ⊢
              have hP : va_P (dC, dI) cls_all [ic h_text k_text 4000 f_text, jc h_words k_words 26 f_words, oc h_this 8 fs_this_16, ic h_tokenKind k_tokenKind 4001 f_tokenKind_16, ic h_tokenStart k_tokenStart 4001 f_tokenStart_16, jc h_tokenName k_tokenName 4001 f_tokenName_16] H := hP
              have hD : va_D A [ic h_text k_text 4000 f_text, jc h_words k_words 26 f_words, oc h_this 8 fs_this_16, ic h_tokenKind k_tokenKind 4001 f_tokenKind_16, ic h_tokenStart k_tokenStart 4001 f_tokenStart_16, jc h_tokenName k_tokenName 4001 f_tokenName_16] := hD
              refine lv_goto (tgt := 158) hx hb d_Source_scanRow_132 (by decide) ?_
              have eK : sK f_text f_words tz a = 1 := by unfold sK; rw [hN]; rw [if_neg h39, if_pos hdg, hfi]; rfl
              have eV : sV f_text tz a = 0 := by unfold sV; rw [hN]; rw [if_neg h39, if_pos hdg, hfi]; rfl
              refine lv_iload_n hx hb d_Source_scanRow_158 rfl (lv_at hl 1 rfl) ?_
              have hP9 := hP.sub (ws' := [oc h_this 8 fs_this_16, ic h_text k_text 4000 f_text, jc h_words k_words 26 f_words, ic h_tokenKind k_tokenKind 4001 f_tokenKind_16, ic h_tokenStart k_tokenStart 4001 f_tokenStart_16, jc h_tokenName k_tokenName 4001 f_tokenName_16]) [2, 0, 1, 3, 4, 5] rfl
              have hD9 := hD.sub (ws' := [oc h_this 8 fs_this_16, ic h_text k_text 4000 f_text, jc h_words k_words 26 f_words, ic h_tokenKind k_tokenKind 4001 f_tokenKind_16, ic h_tokenStart k_tokenStart 4001 f_tokenStart_16, jc h_tokenName k_tokenName 4001 f_tokenName_16]) [2, 0, 1, 3, 4, 5] (by decide) rfl
              have hK9 := hK.sub (tys' := [(k_text, .char), (k_words, .long), (k_tokenKind, .int), (k_tokenStart, .int), (k_tokenName, .long)]) [0, 1, 2, 3, 4] rfl
              have hv17 : fs_this_16[14]? = some (.int (nI (tn + 1))) := hw16_2
              exact W.iret (v := (nI (a + 1 + k))) hx hb hr (fun t ht hW => ⟨⟨(nI (a + 1 + k)), (nI (a + 1 + k)), rfl, rfl, fs_this_16, f_tokenKind_16, f_tokenStart_16, f_tokenName_16, ⟨(by first | exact hw16_0 | (simp only [List.length_set]; exact hw16_0)), (fun j n14 => ((hw16_1 j n14).trans rfl)), (by first | exact hv17 | (rw [hv17]; refine congrArg some (congrArg _ ?_); first | (rw [hN]; done) | rfl)), (by first | (rw [eK]; assumption) | (rw [eV]; assumption) | assumption), (by first | (rw [eK]; assumption) | (rw [eV]; assumption) | assumption), (by first | (rw [eK]; assumption) | (rw [eV]; assumption) | assumption), (by first | (rw [hN]; done) | rfl)⟩, by rw [ht]; exact hP9, va_K.moved hW.alike hK9, hD9⟩, hS.F ht⟩) hS.2.2 d_Source_scanRow_159
            · have b13 : ((k + 1)) ≤ (9) := (ni_lt (by omega) (by omega) ).2 c13
              refine lv_aload_n hx hb d_Source_scanRow_88 rfl (lv_at hl 1 rfl) ?_
              refine lv_iload_n hx hb d_Source_scanRow_89 rfl (lv_at hl 2 rfl) ?_
              refine lv_iload_n hx hb d_Source_scanRow_90 rfl (lv_at hl 0 rfl) ?_
              refine lv_iconst (v := 0) hx hb d_Source_scanRow_91 (by decide) ?_
              rw [show a + 1 + k = a + (k + 1) by omega]
              have hPc := hP.sub (ws' := [oc h_this 8 fs_this, ic h_text k_text 4000 f_text]) [0, 1] rfl
              have hKc := hK.sub (tys' := [(k_text, .char)]) [0] rfl
              refine vp_callSi (va_Run.run (va_runV (As := [.int (nI a), .int (nI (a + (k + 1))), .int 0]) (rest := []) ⟨hx, hb, hml, hown, hT⟩ (c_Source_isAllOf l dC dI (h_this := h_this) (h_text := h_text) (fs_this := fs_this) (k_text := k_text) (f_text := f_text) (p3 := 0) (a := a) (n := (k + 1)) (len_this := (by first | exact len_this | (simp only [List.length_set]; exact len_this))) (g_this_text := g_this_text) (hz := (by omega))) (cwV 3 hT (gV ml_Source_124 im_Source_isAllOf se_Source_isAllOf ini_Source co_Source_isAllOf) rfl rfl rfl (by decide +kernel) ⟨Nat.le_of_ble_eq_true rfl, Nat.le_of_ble_eq_true rfl⟩) ⟨fbS, va_recv hKc hPc (ci := 8) (q0 := 0) rfl rfl, fun U hU hW => ⟨rfl, by rw [hU]; exact hPc, va_K.moved hW.alike hKc⟩⟩ rfl rfl hl.1 rfl (lv_room (Nat.le_of_ble_eq_true rfl)) d_Source_scanRow_92 ⟨Nat.le_of_ble_eq_true rfl, Nat.le_of_ble_eq_true rfl⟩)) (fun r18 hr18 => ?_)
              refine lv_if_eq (tgt := 102) hx hb d_Source_scanRow_95 (by decide) (fun c19 => ?_) (fun c19 => ?_)
              · have hfi : m9 f_text a k = 0 := (if_neg (by omega)).trans (if_neg (fun q => absurd (c19.symm.trans (hr18.trans (if_pos q))) (by decide)))
                refine lv_iconst (v := 0) hx hb d_Source_scanRow_102 (by decide) ?_
                refine lv_istore_n (lv' := [(3, .int 0), (2, .int (nI (a + 1 + k))), (0, .ref h_this), (1, .int (nI a))]) hx hb d_Source_scanRow_103 rfl hl (by decide) rfl (fun ls hl => ?_)
                refine lv_aload_n hx hb d_Source_scanRow_104 rfl (lv_at hl 2 rfl) ?_
                refine lv_iload_n hx hb d_Source_scanRow_105 rfl (lv_at hl 0 rfl) ?_
                refine lv_if_eq (tgt := 113) hx hb d_Source_scanRow_106 (by decide) (fun _ => ?_) (fun c20 => absurd (by decide) c20)
                refine lv_iconst (v := 1) hx hb d_Source_scanRow_113 (by decide) ?_
                refine lv_iload_n hx hb d_Source_scanRow_114 rfl (lv_at hl 3 rfl) ?_
                refine lv_iload_n hx hb d_Source_scanRow_115 rfl (lv_at hl 0 rfl) ?_
                refine lv_if_eq (tgt := 128) hx hb d_Source_scanRow_116 (by decide) (fun _ => ?_) (fun c21 => absurd (by decide) c21)
                refine lv_lconst (v := 0) hx hb d_Source_scanRow_128 (by decide) ?_
                have hPc := hP.sub (ws' := [oc h_this 8 fs_this, ic h_tokenKind k_tokenKind 4001 f_tokenKind, ic h_tokenStart k_tokenStart 4001 f_tokenStart, jc h_tokenName k_tokenName 4001 f_tokenName]) [0, 3, 4, 5] rfl
                have hKc := hK.sub (tys' := [(k_tokenKind, .int), (k_tokenStart, .int), (k_tokenName, .long)]) [2, 3, 4] rfl
                have hDc := hD.sub (ws' := [oc h_this 8 fs_this, ic h_tokenKind k_tokenKind 4001 f_tokenKind, ic h_tokenStart k_tokenStart 4001 f_tokenStart, jc h_tokenName k_tokenName 4001 f_tokenName]) [0, 3, 4, 5] (by decide) rfl
                have hFc := va_free (wc := [oc h_this 8 fs_this, ic h_tokenKind k_tokenKind 4001 f_tokenKind, ic h_tokenStart k_tokenStart 4001 f_tokenStart, jc h_tokenName k_tokenName 4001 f_tokenName]) hD hS hA [0, 3, 4, 5] rfl
                refine va_callv (va_runV (As := [.int 1, .int (nI a), .long 0]) (rest := []) ⟨hx, hb, hml, hown, hT⟩ (c_Source_addToken l dC dI (sz := H.size) (h_this := h_this) (h_tokenKind := h_tokenKind) (h_tokenStart := h_tokenStart) (h_tokenName := h_tokenName) (fs_this := fs_this) (k_tokenKind := k_tokenKind) (f_tokenKind := f_tokenKind) (k_tokenStart := k_tokenStart) (f_tokenStart := f_tokenStart) (k_tokenName := k_tokenName) (f_tokenName := f_tokenName) (p1 := 1) (p2 := (nI a)) (p3 := 0) (tn := tn) (len_this := (by first | exact len_this | (simp only [List.length_set]; exact len_this))) (g_this_tokens := g_this_tokens) (g_this_tokenKind := g_this_tokenKind) (g_this_tokenStart := g_this_tokenStart) (g_this_tokenName := g_this_tokenName) (ht0 := ht0)) (cwV 3 hT (gV ml_Source_109 im_Source_addToken se_Source_addToken ini_Source co_Source_addToken) rfl rfl rfl (by decide +kernel) ⟨Nat.le_of_ble_eq_true rfl, Nat.le_of_ble_eq_true rfl⟩) ⟨fbQ, va_recv hKc hPc (ci := 8) (q0 := 0) rfl rfl, fun U hU hW => ⟨rfl, by rw [hU], by rw [hU]; exact hPc, va_K.moved hW.alike hKc, hDc.weaken (fun _ _ _ _ => trivial)⟩⟩ rfl rfl hl.1 rfl (lv_room (Nat.le_of_ble_eq_true rfl)) d_Source_scanRow_129 ⟨Nat.le_of_ble_eq_true rfl, Nat.le_of_ble_eq_true rfl⟩) hS (fun q _ h => hFc q h) hFc (fun u t H1 locs ht hvm hw hB hz1 hk1 hS => ?_)
                obtain ⟨fs_this_22, f_tokenKind_22, f_tokenStart_22, f_tokenName_22, ⟨hw22_0, hw22_1, hw22_2, hw22_3, hw22_4, hw22_5⟩, hP1, hK1, hD1⟩ := hB
                rw [ht] at hP1
                have hK1 := va_K.moved hvm.symm hK1
                obtain ⟨hP, hD⟩ := va_join (wr := [ic h_text k_text 4000 f_text, jc h_words k_words 26 f_words]) (w1 := [oc h_this 8 fs_this_22, ic h_tokenKind k_tokenKind 4001 f_tokenKind_22, ic h_tokenStart k_tokenStart 4001 f_tokenStart_22, jc h_tokenName k_tokenName 4001 f_tokenName_22]) hP hD [0, 3, 4, 5] [1, 2] rfl rfl (by decide) (by decide) hk1 hFc hP1 hD1
                generalize H1 = H at hP hS ⊢
                have hP : va_P (dC, dI) cls_all [ic h_text k_text 4000 f_text, jc h_words k_words 26 f_words, oc h_this 8 fs_this_22, ic h_tokenKind k_tokenKind 4001 f_tokenKind_22, ic h_tokenStart k_tokenStart 4001 f_tokenStart_22, jc h_tokenName k_tokenName 4001 f_tokenName_22] H := hP
                have hD : va_D A [ic h_text k_text 4000 f_text, jc h_words k_words 26 f_words, oc h_this 8 fs_this_22, ic h_tokenKind k_tokenKind 4001 f_tokenKind_22, ic h_tokenStart k_tokenStart 4001 f_tokenStart_22, jc h_tokenName k_tokenName 4001 f_tokenName_22] := hD
                refine lv_goto (tgt := 158) hx hb d_Source_scanRow_132 (by decide) ?_
                have eK : sK f_text f_words tz a = 1 := by unfold sK; rw [hN]; rw [if_neg h39, if_pos hdg, hfi]; rfl
                have eV : sV f_text tz a = 0 := by unfold sV; rw [hN]; rw [if_neg h39, if_pos hdg, hfi]; rfl
                refine lv_iload_n hx hb d_Source_scanRow_158 rfl (lv_at hl 1 rfl) ?_
                have hP9 := hP.sub (ws' := [oc h_this 8 fs_this_22, ic h_text k_text 4000 f_text, jc h_words k_words 26 f_words, ic h_tokenKind k_tokenKind 4001 f_tokenKind_22, ic h_tokenStart k_tokenStart 4001 f_tokenStart_22, jc h_tokenName k_tokenName 4001 f_tokenName_22]) [2, 0, 1, 3, 4, 5] rfl
                have hD9 := hD.sub (ws' := [oc h_this 8 fs_this_22, ic h_text k_text 4000 f_text, jc h_words k_words 26 f_words, ic h_tokenKind k_tokenKind 4001 f_tokenKind_22, ic h_tokenStart k_tokenStart 4001 f_tokenStart_22, jc h_tokenName k_tokenName 4001 f_tokenName_22]) [2, 0, 1, 3, 4, 5] (by decide) rfl
                have hK9 := hK.sub (tys' := [(k_text, .char), (k_words, .long), (k_tokenKind, .int), (k_tokenStart, .int), (k_tokenName, .long)]) [0, 1, 2, 3, 4] rfl
                have hv23 : fs_this_22[14]? = some (.int (nI (tn + 1))) := hw22_2
                exact W.iret (v := (nI (a + 1 + k))) hx hb hr (fun t ht hW => ⟨⟨(nI (a + 1 + k)), (nI (a + 1 + k)), rfl, rfl, fs_this_22, f_tokenKind_22, f_tokenStart_22, f_tokenName_22, ⟨(by first | exact hw22_0 | (simp only [List.length_set]; exact hw22_0)), (fun j n14 => ((hw22_1 j n14).trans rfl)), (by first | exact hv23 | (rw [hv23]; refine congrArg some (congrArg _ ?_); first | (rw [hN]; done) | rfl)), (by first | (rw [eK]; assumption) | (rw [eV]; assumption) | assumption), (by first | (rw [eK]; assumption) | (rw [eV]; assumption) | assumption), (by first | (rw [eK]; assumption) | (rw [eV]; assumption) | assumption), (by first | (rw [hN]; done) | rfl)⟩, by rw [ht]; exact hP9, va_K.moved hW.alike hK9, hD9⟩, hS.F ht⟩) hS.2.2 d_Source_scanRow_159
              · have hfi : m9 f_text a k = 1 := (if_neg (by omega)).trans (if_pos (Decidable.byContradiction (fun q => c19 (hr18.trans (if_neg q)))))
                refine lv_iconst (v := 1) hx hb d_Source_scanRow_98 (by decide) ?_
                refine lv_goto (tgt := 103) hx hb d_Source_scanRow_99 (by decide) ?_
                refine lv_istore_n (lv' := [(3, .int 1), (2, .int (nI (a + 1 + k))), (0, .ref h_this), (1, .int (nI a))]) hx hb d_Source_scanRow_103 rfl hl (by decide) rfl (fun ls hl => ?_)
                refine lv_aload_n hx hb d_Source_scanRow_104 rfl (lv_at hl 2 rfl) ?_
                refine lv_iload_n hx hb d_Source_scanRow_105 rfl (lv_at hl 0 rfl) ?_
                refine lv_if_eq (tgt := 113) hx hb d_Source_scanRow_106 (by decide) (fun c24 => absurd c24 (by decide)) (fun _ => ?_)
                refine lv_iconst (v := 5) hx hb d_Source_scanRow_109 (by decide) ?_
                refine lv_goto (tgt := 114) hx hb d_Source_scanRow_110 (by decide) ?_
                refine lv_iload_n hx hb d_Source_scanRow_114 rfl (lv_at hl 3 rfl) ?_
                refine lv_iload_n hx hb d_Source_scanRow_115 rfl (lv_at hl 0 rfl) ?_
                refine lv_if_eq (tgt := 128) hx hb d_Source_scanRow_116 (by decide) (fun c25 => absurd c25 (by decide)) (fun _ => ?_)
                refine lv_aload_n hx hb d_Source_scanRow_119 rfl (lv_at hl 2 rfl) ?_
                refine lv_iload_n hx hb d_Source_scanRow_120 rfl (lv_at hl 3 rfl) ?_
                refine lv_iload_n hx hb d_Source_scanRow_121 rfl (lv_at hl 1 rfl) ?_
                rw [show a + 1 + k = a + (k + 1) by omega]
                have hPc := hP.sub (ws' := [oc h_this 8 fs_this, ic h_text k_text 4000 f_text]) [0, 1] rfl
                have hKc := hK.sub (tys' := [(k_text, .char)]) [0] rfl
                refine vp_callSl (va_Run.run (va_runV (As := [.int (nI a), .int (nI (a + (k + 1)))]) (rest := [.int (nI a), .int 5, .ref h_this]) ⟨hx, hb, hml, hown, hT⟩ (c_Source_valueOf l dC dI (h_this := h_this) (h_text := h_text) (fs_this := fs_this) (k_text := k_text) (f_text := f_text) (a := a) (n := (k + 1)) (len_this := (by first | exact len_this | (simp only [List.length_set]; exact len_this))) (g_this_text := g_this_text) (hz := (by omega))) (cwV 2 hT (gV ml_Source_128 im_Source_valueOf se_Source_valueOf ini_Source co_Source_valueOf) rfl rfl rfl (by decide +kernel) ⟨Nat.le_of_ble_eq_true rfl, Nat.le_of_ble_eq_true rfl⟩) ⟨fbS, va_recv hKc hPc (ci := 8) (q0 := 0) rfl rfl, fun U hU hW => ⟨rfl, by rw [hU]; exact hPc, va_K.moved hW.alike hKc⟩⟩ rfl rfl hl.1 rfl (lv_room (Nat.le_of_ble_eq_true rfl)) d_Source_scanRow_122 ⟨Nat.le_of_ble_eq_true rfl, Nat.le_of_ble_eq_true rfl⟩)) (fun r26 hr26 => ?_)
                obtain rfl : r26 = vlo f_text a (k + 1) := hr26
                refine lv_goto (tgt := 129) hx hb d_Source_scanRow_125 (by decide) ?_
                have hPc := hP.sub (ws' := [oc h_this 8 fs_this, ic h_tokenKind k_tokenKind 4001 f_tokenKind, ic h_tokenStart k_tokenStart 4001 f_tokenStart, jc h_tokenName k_tokenName 4001 f_tokenName]) [0, 3, 4, 5] rfl
                have hKc := hK.sub (tys' := [(k_tokenKind, .int), (k_tokenStart, .int), (k_tokenName, .long)]) [2, 3, 4] rfl
                have hDc := hD.sub (ws' := [oc h_this 8 fs_this, ic h_tokenKind k_tokenKind 4001 f_tokenKind, ic h_tokenStart k_tokenStart 4001 f_tokenStart, jc h_tokenName k_tokenName 4001 f_tokenName]) [0, 3, 4, 5] (by decide) rfl
                have hFc := va_free (wc := [oc h_this 8 fs_this, ic h_tokenKind k_tokenKind 4001 f_tokenKind, ic h_tokenStart k_tokenStart 4001 f_tokenStart, jc h_tokenName k_tokenName 4001 f_tokenName]) hD hS hA [0, 3, 4, 5] rfl
                refine va_callv (va_runV (As := [.int 5, .int (nI a), .long (vlo f_text a (k + 1))]) (rest := []) ⟨hx, hb, hml, hown, hT⟩ (c_Source_addToken l dC dI (sz := H.size) (h_this := h_this) (h_tokenKind := h_tokenKind) (h_tokenStart := h_tokenStart) (h_tokenName := h_tokenName) (fs_this := fs_this) (k_tokenKind := k_tokenKind) (f_tokenKind := f_tokenKind) (k_tokenStart := k_tokenStart) (f_tokenStart := f_tokenStart) (k_tokenName := k_tokenName) (f_tokenName := f_tokenName) (p1 := 5) (p2 := (nI a)) (p3 := (vlo f_text a (k + 1))) (tn := tn) (len_this := (by first | exact len_this | (simp only [List.length_set]; exact len_this))) (g_this_tokens := g_this_tokens) (g_this_tokenKind := g_this_tokenKind) (g_this_tokenStart := g_this_tokenStart) (g_this_tokenName := g_this_tokenName) (ht0 := ht0)) (cwV 3 hT (gV ml_Source_109 im_Source_addToken se_Source_addToken ini_Source co_Source_addToken) rfl rfl rfl (by decide +kernel) ⟨Nat.le_of_ble_eq_true rfl, Nat.le_of_ble_eq_true rfl⟩) ⟨fbQ, va_recv hKc hPc (ci := 8) (q0 := 0) rfl rfl, fun U hU hW => ⟨rfl, by rw [hU], by rw [hU]; exact hPc, va_K.moved hW.alike hKc, hDc.weaken (fun _ _ _ _ => trivial)⟩⟩ rfl rfl hl.1 rfl (lv_room (Nat.le_of_ble_eq_true rfl)) d_Source_scanRow_129 ⟨Nat.le_of_ble_eq_true rfl, Nat.le_of_ble_eq_true rfl⟩) hS (fun q _ h => hFc q h) hFc (fun u t H1 locs ht hvm hw hB hz1 hk1 hS => ?_)
                obtain ⟨fs_this_27, f_tokenKind_27, f_tokenStart_27, f_tokenName_27, ⟨hw27_0, hw27_1, hw27_2, hw27_3, hw27_4, hw27_5⟩, hP1, hK1, hD1⟩ := hB
                rw [ht] at hP1
                have hK1 := va_K.moved hvm.symm hK1
                obtain ⟨hP, hD⟩ := va_join (wr := [ic h_text k_text 4000 f_text, jc h_words k_words 26 f_words]) (w1 := [oc h_this 8 fs_this_27, ic h_tokenKind k_tokenKind 4001 f_tokenKind_27, ic h_tokenStart k_tokenStart 4001 f_tokenStart_27, jc h_tokenName k_tokenName 4001 f_tokenName_27]) hP hD [0, 3, 4, 5] [1, 2] rfl rfl (by decide) (by decide) hk1 hFc hP1 hD1
                generalize H1 = H at hP hS ⊢
                have hP : va_P (dC, dI) cls_all [ic h_text k_text 4000 f_text, jc h_words k_words 26 f_words, oc h_this 8 fs_this_27, ic h_tokenKind k_tokenKind 4001 f_tokenKind_27, ic h_tokenStart k_tokenStart 4001 f_tokenStart_27, jc h_tokenName k_tokenName 4001 f_tokenName_27] H := hP
                have hD : va_D A [ic h_text k_text 4000 f_text, jc h_words k_words 26 f_words, oc h_this 8 fs_this_27, ic h_tokenKind k_tokenKind 4001 f_tokenKind_27, ic h_tokenStart k_tokenStart 4001 f_tokenStart_27, jc h_tokenName k_tokenName 4001 f_tokenName_27] := hD
                refine lv_goto (tgt := 158) hx hb d_Source_scanRow_132 (by decide) ?_
                have eK : sK f_text f_words tz a = 5 := by unfold sK; rw [hN]; rw [if_neg h39, if_pos hdg, hfi]; rfl
                have eV : sV f_text tz a = vlo f_text a (k + 1) := by unfold sV; rw [hN]; rw [if_neg h39, if_pos hdg, hfi]; rfl
                refine lv_iload_n hx hb d_Source_scanRow_158 rfl (lv_at hl 1 rfl) ?_
                have hP9 := hP.sub (ws' := [oc h_this 8 fs_this_27, ic h_text k_text 4000 f_text, jc h_words k_words 26 f_words, ic h_tokenKind k_tokenKind 4001 f_tokenKind_27, ic h_tokenStart k_tokenStart 4001 f_tokenStart_27, jc h_tokenName k_tokenName 4001 f_tokenName_27]) [2, 0, 1, 3, 4, 5] rfl
                have hD9 := hD.sub (ws' := [oc h_this 8 fs_this_27, ic h_text k_text 4000 f_text, jc h_words k_words 26 f_words, ic h_tokenKind k_tokenKind 4001 f_tokenKind_27, ic h_tokenStart k_tokenStart 4001 f_tokenStart_27, jc h_tokenName k_tokenName 4001 f_tokenName_27]) [2, 0, 1, 3, 4, 5] (by decide) rfl
                have hK9 := hK.sub (tys' := [(k_text, .char), (k_words, .long), (k_tokenKind, .int), (k_tokenStart, .int), (k_tokenName, .long)]) [0, 1, 2, 3, 4] rfl
                have hv28 : fs_this_27[14]? = some (.int (nI (tn + 1))) := hw27_2
                exact W.iret (v := (nI (a + 1 + k))) hx hb hr (fun t ht hW => ⟨⟨(nI (a + 1 + k)), (nI (a + 1 + k)), rfl, rfl, fs_this_27, f_tokenKind_27, f_tokenStart_27, f_tokenName_27, ⟨(by first | exact hw27_0 | (simp only [List.length_set]; exact hw27_0)), (fun j n14 => ((hw27_1 j n14).trans rfl)), (by first | exact hv28 | (rw [hv28]; refine congrArg some (congrArg _ ?_); first | (rw [hN]; done) | rfl)), (by first | (rw [eK]; assumption) | (rw [eV]; assumption) | assumption), (by first | (rw [eK]; assumption) | (rw [eV]; assumption) | assumption), (by first | (rw [eK]; assumption) | (rw [eV]; assumption) | assumption), (by first | (rw [hN]; done) | rfl)⟩, by rw [ht]; exact hP9, va_K.moved hW.alike hK9, hD9⟩, hS.F ht⟩) hS.2.2 d_Source_scanRow_159
        · have h39 : f_text a = 39 := c4
          refine lv_aload_n hx hb d_Source_scanRow_41 rfl (lv_at hl 1 rfl) ?_
          refine lv_aload_n hx hb d_Source_scanRow_42 rfl (lv_at hl 1 rfl) ?_
          refine lv_iload_n hx hb d_Source_scanRow_43 rfl (lv_at hl 2 rfl) ?_
          refine lv_iconst (v := 1) hx hb d_Source_scanRow_44 (by decide) ?_
          refine lv_iadd hx hb d_Source_scanRow_45 ?_
          refine lv_topi (fun x29 e29 => ?_)
          obtain rfl : x29 = nI (a + 1) := e29.trans (nI_add a 1)
          refine lv_iload_n hx hb d_Source_scanRow_46 rfl (lv_at hl 0 rfl) ?_
          have hPc := hP.sub (ws' := [oc h_this 8 fs_this, ic h_text k_text 4000 f_text]) [0, 1] rfl
          have hKc := hK.sub (tys' := [(k_text, .char)]) [0] rfl
          refine vp_callSi (va_Run.run (va_runV (As := [.int (nI (a + 1)), .int (nI (a + 1 + k))]) (rest := [.ref h_this]) ⟨hx, hb, hml, hown, hT⟩ (c_Source_kindOfRegion l dC dI (h_this := h_this) (h_text := h_text) (fs_this := fs_this) (k_text := k_text) (f_text := f_text) (a := (a + 1)) (n := k) (len_this := (by first | exact len_this | (simp only [List.length_set]; exact len_this))) (g_this_text := g_this_text) (hz := (by omega))) (cwV 2 hT (gV ml_Source_118 im_Source_kindOfRegion se_Source_kindOfRegion ini_Source co_Source_kindOfRegion) rfl rfl rfl (by decide +kernel) ⟨Nat.le_of_ble_eq_true rfl, Nat.le_of_ble_eq_true rfl⟩) ⟨fbS, va_recv hKc hPc (ci := 8) (q0 := 0) rfl rfl, fun U hU hW => ⟨rfl, by rw [hU]; exact hPc, va_K.moved hW.alike hKc⟩⟩ rfl rfl hl.1 rfl (lv_room (Nat.le_of_ble_eq_true rfl)) d_Source_scanRow_47 ⟨Nat.le_of_ble_eq_true rfl, Nat.le_of_ble_eq_true rfl⟩)) (fun r30 hr30 => ?_)
          obtain rfl : r30 = kReg f_text (a + 1) k := hr30
          refine lv_iload_n hx hb d_Source_scanRow_50 rfl (lv_at hl 2 rfl) ?_
          refine lv_aload_n hx hb d_Source_scanRow_51 rfl (lv_at hl 1 rfl) ?_
          refine va_get (D := (dC, dI)) (ci := 8) (v := .ref h_text) (C := R_Source) (T := F_Source) (N := 16) hx hb hT i_Source hown hK hP 0 rfl rfl 9 (by decide) (hT _ fl_Source_73) (fun _ h9 => h9) g_this_text d_Source_scanRow_52 ?_
          refine lv_iload_n hx hb d_Source_scanRow_55 rfl (lv_at hl 2 rfl) ?_
          refine lv_iconst (v := 1) hx hb d_Source_scanRow_56 (by decide) ?_
          refine lv_iadd hx hb d_Source_scanRow_57 ?_
          refine lv_topi (fun x31 e31 => ?_)
          obtain rfl : x31 = nI (a + 1) := e31.trans (nI_add a 1)
          refine lv_iload_n hx hb d_Source_scanRow_58 rfl (lv_at hl 0 rfl) ?_
          have hPc := hP.sub (ws' := [ic h_text k_text 4000 f_text]) [1] rfl
          have hKc := hK.sub (tys' := [(k_text, .char)]) [0] rfl
          refine vp_callSl (va_Run.run (va_runS (As := [.ref h_text, .int (nI (a + 1)), .int (nI (a + 1 + k))]) (rest := [.int (nI a), .int (kReg f_text (a + 1) k), .ref h_this]) ⟨hx, hb, hml, hown, hT⟩ (c_Source_packed l dC dI (h_a1 := h_text) (k_a1 := k_text) (f_a1 := f_text) (L := 4000) (a := (a + 1)) (b := (a + 1 + k)) (hL := (by decide)) (hab := (by first | assumption | (subst_vars; decide) | omega)) (hbL := (by omega))) (va_cwS 3 hT (gS ml_Source_69 st_Source_packed ini_Source co_Source_packed) rfl rfl rfl (by decide +kernel) ⟨Nat.le_of_ble_eq_true rfl, Nat.le_of_ble_eq_true rfl⟩) ⟨fbS, fun U hU hW => ⟨rfl, by rw [hU]; exact hPc, va_K.moved hW.alike hKc⟩⟩ rfl rfl hl.1 rfl (lv_room (Nat.le_of_ble_eq_true rfl)) d_Source_scanRow_59 ⟨Nat.le_of_ble_eq_true rfl, Nat.le_of_ble_eq_true rfl⟩)) (fun r32 hr32 => ?_)
          obtain rfl : r32 = pkd f_text (a + 1) k := hr32.trans (congrArg _ (by omega))
          have hPc := hP.sub (ws' := [oc h_this 8 fs_this, ic h_tokenKind k_tokenKind 4001 f_tokenKind, ic h_tokenStart k_tokenStart 4001 f_tokenStart, jc h_tokenName k_tokenName 4001 f_tokenName]) [0, 3, 4, 5] rfl
          have hKc := hK.sub (tys' := [(k_tokenKind, .int), (k_tokenStart, .int), (k_tokenName, .long)]) [2, 3, 4] rfl
          have hDc := hD.sub (ws' := [oc h_this 8 fs_this, ic h_tokenKind k_tokenKind 4001 f_tokenKind, ic h_tokenStart k_tokenStart 4001 f_tokenStart, jc h_tokenName k_tokenName 4001 f_tokenName]) [0, 3, 4, 5] (by decide) rfl
          have hFc := va_free (wc := [oc h_this 8 fs_this, ic h_tokenKind k_tokenKind 4001 f_tokenKind, ic h_tokenStart k_tokenStart 4001 f_tokenStart, jc h_tokenName k_tokenName 4001 f_tokenName]) hD hS hA [0, 3, 4, 5] rfl
          refine va_callv (va_runV (As := [.int (kReg f_text (a + 1) k), .int (nI a), .long (pkd f_text (a + 1) k)]) (rest := []) ⟨hx, hb, hml, hown, hT⟩ (c_Source_addToken l dC dI (sz := H.size) (h_this := h_this) (h_tokenKind := h_tokenKind) (h_tokenStart := h_tokenStart) (h_tokenName := h_tokenName) (fs_this := fs_this) (k_tokenKind := k_tokenKind) (f_tokenKind := f_tokenKind) (k_tokenStart := k_tokenStart) (f_tokenStart := f_tokenStart) (k_tokenName := k_tokenName) (f_tokenName := f_tokenName) (p1 := (kReg f_text (a + 1) k)) (p2 := (nI a)) (p3 := (pkd f_text (a + 1) k)) (tn := tn) (len_this := (by first | exact len_this | (simp only [List.length_set]; exact len_this))) (g_this_tokens := g_this_tokens) (g_this_tokenKind := g_this_tokenKind) (g_this_tokenStart := g_this_tokenStart) (g_this_tokenName := g_this_tokenName) (ht0 := ht0)) (cwV 3 hT (gV ml_Source_109 im_Source_addToken se_Source_addToken ini_Source co_Source_addToken) rfl rfl rfl (by decide +kernel) ⟨Nat.le_of_ble_eq_true rfl, Nat.le_of_ble_eq_true rfl⟩) ⟨fbQ, va_recv hKc hPc (ci := 8) (q0 := 0) rfl rfl, fun U hU hW => ⟨rfl, by rw [hU], by rw [hU]; exact hPc, va_K.moved hW.alike hKc, hDc.weaken (fun _ _ _ _ => trivial)⟩⟩ rfl rfl hl.1 rfl (lv_room (Nat.le_of_ble_eq_true rfl)) d_Source_scanRow_62 ⟨Nat.le_of_ble_eq_true rfl, Nat.le_of_ble_eq_true rfl⟩) hS (fun q _ h => hFc q h) hFc (fun u t H1 locs ht hvm hw hB hz1 hk1 hS => ?_)
          obtain ⟨fs_this_33, f_tokenKind_33, f_tokenStart_33, f_tokenName_33, ⟨hw33_0, hw33_1, hw33_2, hw33_3, hw33_4, hw33_5⟩, hP1, hK1, hD1⟩ := hB
          rw [ht] at hP1
          have hK1 := va_K.moved hvm.symm hK1
          obtain ⟨hP, hD⟩ := va_join (wr := [ic h_text k_text 4000 f_text, jc h_words k_words 26 f_words]) (w1 := [oc h_this 8 fs_this_33, ic h_tokenKind k_tokenKind 4001 f_tokenKind_33, ic h_tokenStart k_tokenStart 4001 f_tokenStart_33, jc h_tokenName k_tokenName 4001 f_tokenName_33]) hP hD [0, 3, 4, 5] [1, 2] rfl rfl (by decide) (by decide) hk1 hFc hP1 hD1
          generalize H1 = H at hP hS ⊢
          have hP : va_P (dC, dI) cls_all [ic h_text k_text 4000 f_text, jc h_words k_words 26 f_words, oc h_this 8 fs_this_33, ic h_tokenKind k_tokenKind 4001 f_tokenKind_33, ic h_tokenStart k_tokenStart 4001 f_tokenStart_33, jc h_tokenName k_tokenName 4001 f_tokenName_33] H := hP
          have hD : va_D A [ic h_text k_text 4000 f_text, jc h_words k_words 26 f_words, oc h_this 8 fs_this_33, ic h_tokenKind k_tokenKind 4001 f_tokenKind_33, ic h_tokenStart k_tokenStart 4001 f_tokenStart_33, jc h_tokenName k_tokenName 4001 f_tokenName_33] := hD
          refine lv_goto (tgt := 158) hx hb d_Source_scanRow_65 (by decide) ?_
          have eK : sK f_text f_words tz a = kReg f_text (a + 1) k := by unfold sK; rw [hN]; exact if_pos h39
          have eV : sV f_text tz a = pkd f_text (a + 1) k := by unfold sV; rw [hN]; exact if_pos h39
          refine lv_iload_n hx hb d_Source_scanRow_158 rfl (lv_at hl 0 rfl) ?_
          have hP9 := hP.sub (ws' := [oc h_this 8 fs_this_33, ic h_text k_text 4000 f_text, jc h_words k_words 26 f_words, ic h_tokenKind k_tokenKind 4001 f_tokenKind_33, ic h_tokenStart k_tokenStart 4001 f_tokenStart_33, jc h_tokenName k_tokenName 4001 f_tokenName_33]) [2, 0, 1, 3, 4, 5] rfl
          have hD9 := hD.sub (ws' := [oc h_this 8 fs_this_33, ic h_text k_text 4000 f_text, jc h_words k_words 26 f_words, ic h_tokenKind k_tokenKind 4001 f_tokenKind_33, ic h_tokenStart k_tokenStart 4001 f_tokenStart_33, jc h_tokenName k_tokenName 4001 f_tokenName_33]) [2, 0, 1, 3, 4, 5] (by decide) rfl
          have hK9 := hK.sub (tys' := [(k_text, .char), (k_words, .long), (k_tokenKind, .int), (k_tokenStart, .int), (k_tokenName, .long)]) [0, 1, 2, 3, 4] rfl
          have hv34 : fs_this_33[14]? = some (.int (nI (tn + 1))) := hw33_2
          exact W.iret (v := (nI (a + 1 + k))) hx hb hr (fun t ht hW => ⟨⟨(nI (a + 1 + k)), (nI (a + 1 + k)), rfl, rfl, fs_this_33, f_tokenKind_33, f_tokenStart_33, f_tokenName_33, ⟨(by first | exact hw33_0 | (simp only [List.length_set]; exact hw33_0)), (fun j n14 => ((hw33_1 j n14).trans rfl)), (by first | exact hv34 | (rw [hv34]; refine congrArg some (congrArg _ ?_); first | (rw [hN]; done) | rfl)), (by first | (rw [eK]; assumption) | (rw [eV]; assumption) | assumption), (by first | (rw [eK]; assumption) | (rw [eV]; assumption) | assumption), (by first | (rw [eK]; assumption) | (rw [eV]; assumption) | assumption), (by first | (rw [hN]; done) | rfl)⟩, by rw [ht]; exact hP9, va_K.moved hW.alike hK9, hD9⟩, hS.F ht⟩) hS.2.2 d_Source_scanRow_159
      · have b2 : ((a + 1 + k)) < (tz) := (ni_le (by omega) (by omega)).2 c2
        refine lv_aload_n hx hb d_Source_scanRow_12 rfl (lv_at hl 1 rfl) ?_
        refine va_get (D := (dC, dI)) (ci := 8) (v := .ref h_text) (C := R_Source) (T := F_Source) (N := 16) hx hb hT i_Source hown hK hP 0 rfl rfl 9 (by decide) (hT _ fl_Source_73) (fun _ h9 => h9) g_this_text d_Source_scanRow_13 ?_
        refine lv_iload_n hx hb d_Source_scanRow_16 rfl (lv_at hl 0 rfl) ?_
        refine va_cald hx hb hK hP 1 0 rfl rfl (vp_in_nI (by omega) (by decide)) d_Source_scanRow_17 ?_
        refine lv_topi (fun x35 e35 => ?_)
        obtain rfl : x35 = f_text (a + 1 + k) := e35.trans (congrArg f_text (nI_clamp (by omega)))
        have hPc := hP.sub (ws' := []) [] rfl
        have hKc := hK.sub (tys' := []) [] rfl
        refine vp_callSi (va_Run.run (va_runS (As := [.int (f_text (a + 1 + k))]) (rest := []) ⟨hx, hb, hml, hown, hT⟩ (c_Source_isLetterOrDigit l dC dI (p1 := (f_text (a + 1 + k))) ) (va_cwS 1 hT (gS ml_Source_102 st_Source_isLetterOrDigit ini_Source co_Source_isLetterOrDigit) rfl rfl rfl (by decide +kernel) ⟨Nat.le_of_ble_eq_true rfl, Nat.le_of_ble_eq_true rfl⟩) ⟨fbS, fun U hU hW => ⟨rfl, by rw [hU]; exact hPc, va_K.moved hW.alike hKc⟩⟩ rfl rfl hl.1 rfl (lv_room (Nat.le_of_ble_eq_true rfl)) d_Source_scanRow_18 ⟨Nat.le_of_ble_eq_true rfl, Nat.le_of_ble_eq_true rfl⟩)) (fun r36 hr36 => ?_)
        refine lv_if_eq (tgt := 30) hx hb d_Source_scanRow_21 (by decide) (fun c37 => ?_) (fun c37 => ?_)
        · have hN : (sN f_text tz a) = k := he.trans (by rw [rl_n (cL_not (nz hr36 c37))]; rfl)
          refine lv_aload_n hx hb d_Source_scanRow_30 rfl (lv_at hl 1 rfl) ?_
          refine va_get (D := (dC, dI)) (ci := 8) (v := .ref h_text) (C := R_Source) (T := F_Source) (N := 16) hx hb hT i_Source hown hK hP 0 rfl rfl 9 (by decide) (hT _ fl_Source_73) (fun _ h9 => h9) g_this_text d_Source_scanRow_31 ?_
          refine lv_iload_n hx hb d_Source_scanRow_34 rfl (lv_at hl 2 rfl) ?_
          refine va_cald hx hb hK hP 1 0 rfl rfl (vp_in_nI (by omega) (by decide)) d_Source_scanRow_35 ?_
          refine lv_topi (fun x38 e38 => ?_)
          obtain rfl : x38 = f_text a := e38.trans (congrArg f_text (nI_clamp (by omega)))
          refine lv_bipush (v := 39) hx hb d_Source_scanRow_36 (by decide) ?_
          refine lv_icmp_ne (tgt := 68) hx hb d_Source_scanRow_38 (by decide) (fun c39 => ?_) (fun c39 => ?_)
          · have h39 : ¬ f_text a = 39 := c39
            refine lv_aload_n hx hb d_Source_scanRow_68 rfl (lv_at hl 1 rfl) ?_
            refine va_get (D := (dC, dI)) (ci := 8) (v := .ref h_text) (C := R_Source) (T := F_Source) (N := 16) hx hb hT i_Source hown hK hP 0 rfl rfl 9 (by decide) (hT _ fl_Source_73) (fun _ h9 => h9) g_this_text d_Source_scanRow_69 ?_
            refine lv_iload_n hx hb d_Source_scanRow_72 rfl (lv_at hl 2 rfl) ?_
            refine va_cald hx hb hK hP 1 0 rfl rfl (vp_in_nI (by omega) (by decide)) d_Source_scanRow_73 ?_
            refine lv_topi (fun x40 e40 => ?_)
            obtain rfl : x40 = f_text a := e40.trans (congrArg f_text (nI_clamp (by omega)))
            have hPc := hP.sub (ws' := []) [] rfl
            have hKc := hK.sub (tys' := []) [] rfl
            refine vp_callSi (va_Run.run (va_runS (As := [.int (f_text a)]) (rest := []) ⟨hx, hb, hml, hown, hT⟩ (c_Source_isDigit l dC dI (p1 := (f_text a)) ) (va_cwS 1 hT (gS ml_Source_121 st_Source_isDigit ini_Source co_Source_isDigit) rfl rfl rfl (by decide +kernel) ⟨Nat.le_of_ble_eq_true rfl, Nat.le_of_ble_eq_true rfl⟩) ⟨fbS, fun U hU hW => ⟨rfl, by rw [hU]; exact hPc, va_K.moved hW.alike hKc⟩⟩ rfl rfl hl.1 rfl (lv_room (Nat.le_of_ble_eq_true rfl)) d_Source_scanRow_74 ⟨Nat.le_of_ble_eq_true rfl, Nat.le_of_ble_eq_true rfl⟩)) (fun r41 hr41 => ?_)
            refine lv_if_eq (tgt := 135) hx hb d_Source_scanRow_77 (by decide) (fun c42 => ?_) (fun c42 => ?_)
            · have hdg : ¬ cD (f_text a) := nz hr41 c42
              refine lv_aload_n hx hb d_Source_scanRow_135 rfl (lv_at hl 1 rfl) ?_
              refine va_get (D := (dC, dI)) (ci := 8) (v := .ref h_text) (C := R_Source) (T := F_Source) (N := 16) hx hb hT i_Source hown hK hP 0 rfl rfl 9 (by decide) (hT _ fl_Source_73) (fun _ h9 => h9) g_this_text d_Source_scanRow_136 ?_
              refine lv_iload_n hx hb d_Source_scanRow_139 rfl (lv_at hl 2 rfl) ?_
              refine lv_iload_n hx hb d_Source_scanRow_140 rfl (lv_at hl 0 rfl) ?_
              have hPc := hP.sub (ws' := [ic h_text k_text 4000 f_text]) [1] rfl
              have hKc := hK.sub (tys' := [(k_text, .char)]) [0] rfl
              refine vp_callSl (va_Run.run (va_runS (As := [.ref h_text, .int (nI a), .int (nI (a + 1 + k))]) (rest := []) ⟨hx, hb, hml, hown, hT⟩ (c_Source_packed l dC dI (h_a1 := h_text) (k_a1 := k_text) (f_a1 := f_text) (L := 4000) (a := a) (b := (a + 1 + k)) (hL := (by decide)) (hab := (by first | assumption | (subst_vars; decide) | omega)) (hbL := (by omega))) (va_cwS 3 hT (gS ml_Source_69 st_Source_packed ini_Source co_Source_packed) rfl rfl rfl (by decide +kernel) ⟨Nat.le_of_ble_eq_true rfl, Nat.le_of_ble_eq_true rfl⟩) ⟨fbS, fun U hU hW => ⟨rfl, by rw [hU]; exact hPc, va_K.moved hW.alike hKc⟩⟩ rfl rfl hl.1 rfl (lv_room (Nat.le_of_ble_eq_true rfl)) d_Source_scanRow_141 ⟨Nat.le_of_ble_eq_true rfl, Nat.le_of_ble_eq_true rfl⟩)) (fun r43 hr43 => ?_)
              obtain rfl : r43 = pkd f_text a (k + 1) := hr43.trans (congrArg _ (by omega))
              refine lv_lstore_n (lv' := [(3, .long (pkd f_text a (k + 1))), (2, .int (nI (a + 1 + k))), (0, .ref h_this), (1, .int (nI a))]) hx hb d_Source_scanRow_144 rfl hl (by decide) rfl (fun ls hl => ?_)
              refine lv_aload_n hx hb d_Source_scanRow_145 rfl (lv_at hl 2 rfl) ?_
              refine lv_aload_n hx hb d_Source_scanRow_146 rfl (lv_at hl 2 rfl) ?_
              refine lv_iload_n hx hb d_Source_scanRow_147 rfl (lv_at hl 3 rfl) ?_
              refine lv_iload_n hx hb d_Source_scanRow_148 rfl (lv_at hl 1 rfl) ?_
              refine lv_lload_n hx hb d_Source_scanRow_149 rfl (lv_at hl 0 rfl) ?_
              rw [show a + 1 + k = a + (k + 1) by omega]
              have hPc := hP.sub (ws' := [oc h_this 8 fs_this, ic h_text k_text 4000 f_text, jc h_words k_words 26 f_words]) [0, 1, 2] rfl
              have hKc := hK.sub (tys' := [(k_text, .char), (k_words, .long)]) [0, 1] rfl
              refine vp_callSi (va_Run.run (va_runV (As := [.int (nI a), .int (nI (a + (k + 1))), .long (pkd f_text a (k + 1))]) (rest := [.ref h_this]) ⟨hx, hb, hml, hown, hT⟩ (c_Source_kindOfName l dC dI (h_this := h_this) (h_text := h_text) (h_words := h_words) (fs_this := fs_this) (k_text := k_text) (f_text := f_text) (k_words := k_words) (f_words := f_words) (p3 := (pkd f_text a (k + 1))) (a := a) (n := (k + 1)) (len_this := (by first | exact len_this | (simp only [List.length_set]; exact len_this))) (g_this_text := g_this_text) (g_this_words := g_this_words) (h0n := (by omega)) (hz := (by omega))) (cwV 3 hT (gV ml_Source_132 im_Source_kindOfName se_Source_kindOfName ini_Source co_Source_kindOfName) rfl rfl rfl (by decide +kernel) ⟨Nat.le_of_ble_eq_true rfl, Nat.le_of_ble_eq_true rfl⟩) ⟨fbS, va_recv hKc hPc (ci := 8) (q0 := 0) rfl rfl, fun U hU hW => ⟨rfl, by rw [hU]; exact hPc, va_K.moved hW.alike hKc⟩⟩ rfl rfl hl.1 rfl (lv_room (Nat.le_of_ble_eq_true rfl)) d_Source_scanRow_150 ⟨Nat.le_of_ble_eq_true rfl, Nat.le_of_ble_eq_true rfl⟩)) (fun r44 hr44 => ?_)
              obtain rfl : r44 = kName f_text f_words a (k + 1) (pkd f_text a (k + 1)) := hr44
              refine lv_iload_n hx hb d_Source_scanRow_153 rfl (lv_at hl 3 rfl) ?_
              refine lv_lload_n hx hb d_Source_scanRow_154 rfl (lv_at hl 0 rfl) ?_
              have hPc := hP.sub (ws' := [oc h_this 8 fs_this, ic h_tokenKind k_tokenKind 4001 f_tokenKind, ic h_tokenStart k_tokenStart 4001 f_tokenStart, jc h_tokenName k_tokenName 4001 f_tokenName]) [0, 3, 4, 5] rfl
              have hKc := hK.sub (tys' := [(k_tokenKind, .int), (k_tokenStart, .int), (k_tokenName, .long)]) [2, 3, 4] rfl
              have hDc := hD.sub (ws' := [oc h_this 8 fs_this, ic h_tokenKind k_tokenKind 4001 f_tokenKind, ic h_tokenStart k_tokenStart 4001 f_tokenStart, jc h_tokenName k_tokenName 4001 f_tokenName]) [0, 3, 4, 5] (by decide) rfl
              have hFc := va_free (wc := [oc h_this 8 fs_this, ic h_tokenKind k_tokenKind 4001 f_tokenKind, ic h_tokenStart k_tokenStart 4001 f_tokenStart, jc h_tokenName k_tokenName 4001 f_tokenName]) hD hS hA [0, 3, 4, 5] rfl
              refine va_callv (va_runV (As := [.int (kName f_text f_words a (k + 1) (pkd f_text a (k + 1))), .int (nI a), .long (pkd f_text a (k + 1))]) (rest := []) ⟨hx, hb, hml, hown, hT⟩ (c_Source_addToken l dC dI (sz := H.size) (h_this := h_this) (h_tokenKind := h_tokenKind) (h_tokenStart := h_tokenStart) (h_tokenName := h_tokenName) (fs_this := fs_this) (k_tokenKind := k_tokenKind) (f_tokenKind := f_tokenKind) (k_tokenStart := k_tokenStart) (f_tokenStart := f_tokenStart) (k_tokenName := k_tokenName) (f_tokenName := f_tokenName) (p1 := (kName f_text f_words a (k + 1) (pkd f_text a (k + 1)))) (p2 := (nI a)) (p3 := (pkd f_text a (k + 1))) (tn := tn) (len_this := (by first | exact len_this | (simp only [List.length_set]; exact len_this))) (g_this_tokens := g_this_tokens) (g_this_tokenKind := g_this_tokenKind) (g_this_tokenStart := g_this_tokenStart) (g_this_tokenName := g_this_tokenName) (ht0 := ht0)) (cwV 3 hT (gV ml_Source_109 im_Source_addToken se_Source_addToken ini_Source co_Source_addToken) rfl rfl rfl (by decide +kernel) ⟨Nat.le_of_ble_eq_true rfl, Nat.le_of_ble_eq_true rfl⟩) ⟨fbQ, va_recv hKc hPc (ci := 8) (q0 := 0) rfl rfl, fun U hU hW => ⟨rfl, by rw [hU], by rw [hU]; exact hPc, va_K.moved hW.alike hKc, hDc.weaken (fun _ _ _ _ => trivial)⟩⟩ rfl rfl hl.1 rfl (lv_room (Nat.le_of_ble_eq_true rfl)) d_Source_scanRow_155 ⟨Nat.le_of_ble_eq_true rfl, Nat.le_of_ble_eq_true rfl⟩) hS (fun q _ h => hFc q h) hFc (fun u t H1 locs ht hvm hw hB hz1 hk1 hS => ?_)
              obtain ⟨fs_this_45, f_tokenKind_45, f_tokenStart_45, f_tokenName_45, ⟨hw45_0, hw45_1, hw45_2, hw45_3, hw45_4, hw45_5⟩, hP1, hK1, hD1⟩ := hB
              rw [ht] at hP1
              have hK1 := va_K.moved hvm.symm hK1
              obtain ⟨hP, hD⟩ := va_join (wr := [ic h_text k_text 4000 f_text, jc h_words k_words 26 f_words]) (w1 := [oc h_this 8 fs_this_45, ic h_tokenKind k_tokenKind 4001 f_tokenKind_45, ic h_tokenStart k_tokenStart 4001 f_tokenStart_45, jc h_tokenName k_tokenName 4001 f_tokenName_45]) hP hD [0, 3, 4, 5] [1, 2] rfl rfl (by decide) (by decide) hk1 hFc hP1 hD1
              generalize H1 = H at hP hS ⊢
              have hP : va_P (dC, dI) cls_all [ic h_text k_text 4000 f_text, jc h_words k_words 26 f_words, oc h_this 8 fs_this_45, ic h_tokenKind k_tokenKind 4001 f_tokenKind_45, ic h_tokenStart k_tokenStart 4001 f_tokenStart_45, jc h_tokenName k_tokenName 4001 f_tokenName_45] H := hP
              have hD : va_D A [ic h_text k_text 4000 f_text, jc h_words k_words 26 f_words, oc h_this 8 fs_this_45, ic h_tokenKind k_tokenKind 4001 f_tokenKind_45, ic h_tokenStart k_tokenStart 4001 f_tokenStart_45, jc h_tokenName k_tokenName 4001 f_tokenName_45] := hD
              have eK : sK f_text f_words tz a = kName f_text f_words a (k + 1) (pkd f_text a (k + 1)) := by unfold sK; rw [hN]; rw [if_neg h39, if_neg hdg]
              have eV : sV f_text tz a = pkd f_text a (k + 1) := by unfold sV; rw [hN]; rw [if_neg h39, if_neg hdg]
              refine lv_iload_n hx hb d_Source_scanRow_158 rfl (lv_at hl 1 rfl) ?_
              have hP9 := hP.sub (ws' := [oc h_this 8 fs_this_45, ic h_text k_text 4000 f_text, jc h_words k_words 26 f_words, ic h_tokenKind k_tokenKind 4001 f_tokenKind_45, ic h_tokenStart k_tokenStart 4001 f_tokenStart_45, jc h_tokenName k_tokenName 4001 f_tokenName_45]) [2, 0, 1, 3, 4, 5] rfl
              have hD9 := hD.sub (ws' := [oc h_this 8 fs_this_45, ic h_text k_text 4000 f_text, jc h_words k_words 26 f_words, ic h_tokenKind k_tokenKind 4001 f_tokenKind_45, ic h_tokenStart k_tokenStart 4001 f_tokenStart_45, jc h_tokenName k_tokenName 4001 f_tokenName_45]) [2, 0, 1, 3, 4, 5] (by decide) rfl
              have hK9 := hK.sub (tys' := [(k_text, .char), (k_words, .long), (k_tokenKind, .int), (k_tokenStart, .int), (k_tokenName, .long)]) [0, 1, 2, 3, 4] rfl
              have hv46 : fs_this_45[14]? = some (.int (nI (tn + 1))) := hw45_2
              exact W.iret (v := (nI (a + 1 + k))) hx hb hr (fun t ht hW => ⟨⟨(nI (a + 1 + k)), (nI (a + 1 + k)), rfl, rfl, fs_this_45, f_tokenKind_45, f_tokenStart_45, f_tokenName_45, ⟨(by first | exact hw45_0 | (simp only [List.length_set]; exact hw45_0)), (fun j n14 => ((hw45_1 j n14).trans rfl)), (by first | exact hv46 | (rw [hv46]; refine congrArg some (congrArg _ ?_); first | (rw [hN]; done) | rfl)), (by first | (rw [eK]; assumption) | (rw [eV]; assumption) | assumption), (by first | (rw [eK]; assumption) | (rw [eV]; assumption) | assumption), (by first | (rw [eK]; assumption) | (rw [eV]; assumption) | assumption), (by first | (rw [hN]; done) | rfl)⟩, by rw [ht]; exact hP9, va_K.moved hW.alike hK9, hD9⟩, hS.F ht⟩) hS.2.2 d_Source_scanRow_159
            · have hdg : cD (f_text a) := yz hr41 c42
              refine lv_iload_n hx hb d_Source_scanRow_80 rfl (lv_at hl 0 rfl) ?_
              refine lv_iload_n hx hb d_Source_scanRow_81 rfl (lv_at hl 2 rfl) ?_
              refine lv_isub hx hb d_Source_scanRow_82 ?_
              refine lv_topi (fun x47 e47 => ?_)
              obtain rfl : x47 = nI ((a + 1 + k) - a) := e47.trans (pk_sub (a := (a + 1 + k)) (b := a) (by omega))
              rw [show a + 1 + k - a = k + 1 by omega]
              refine lv_bipush (v := 9) hx hb d_Source_scanRow_83 (by decide) ?_
              refine lv_icmp_gt (tgt := 102) hx hb d_Source_scanRow_85 (by decide) (fun c48 => ?_) (fun c48 => ?_)
              · have b48 : (9) < ((k + 1)) := (ni_lt (by omega) (by omega) ).1 c48
                have hfi : m9 f_text a k = 0 := if_pos (by omega)
                refine lv_iconst (v := 0) hx hb d_Source_scanRow_102 (by decide) ?_
                refine lv_istore_n (lv' := [(3, .int 0), (2, .int (nI (a + 1 + k))), (0, .ref h_this), (1, .int (nI a))]) hx hb d_Source_scanRow_103 rfl hl (by decide) rfl (fun ls hl => ?_)
                refine lv_aload_n hx hb d_Source_scanRow_104 rfl (lv_at hl 2 rfl) ?_
                refine lv_iload_n hx hb d_Source_scanRow_105 rfl (lv_at hl 0 rfl) ?_
                refine lv_if_eq (tgt := 113) hx hb d_Source_scanRow_106 (by decide) (fun _ => ?_) (fun c49 => absurd (by decide) c49)
                refine lv_iconst (v := 1) hx hb d_Source_scanRow_113 (by decide) ?_
                refine lv_iload_n hx hb d_Source_scanRow_114 rfl (lv_at hl 3 rfl) ?_
                refine lv_iload_n hx hb d_Source_scanRow_115 rfl (lv_at hl 0 rfl) ?_
                refine lv_if_eq (tgt := 128) hx hb d_Source_scanRow_116 (by decide) (fun _ => ?_) (fun c50 => absurd (by decide) c50)
                refine lv_lconst (v := 0) hx hb d_Source_scanRow_128 (by decide) ?_
                have hPc := hP.sub (ws' := [oc h_this 8 fs_this, ic h_tokenKind k_tokenKind 4001 f_tokenKind, ic h_tokenStart k_tokenStart 4001 f_tokenStart, jc h_tokenName k_tokenName 4001 f_tokenName]) [0, 3, 4, 5] rfl
                have hKc := hK.sub (tys' := [(k_tokenKind, .int), (k_tokenStart, .int), (k_tokenName, .long)]) [2, 3, 4] rfl
                have hDc := hD.sub (ws' := [oc h_this 8 fs_this, ic h_tokenKind k_tokenKind 4001 f_tokenKind, ic h_tokenStart k_tokenStart 4001 f_tokenStart, jc h_tokenName k_tokenName 4001 f_tokenName]) [0, 3, 4, 5] (by decide) rfl
                have hFc := va_free (wc := [oc h_this 8 fs_this, ic h_tokenKind k_tokenKind 4001 f_tokenKind, ic h_tokenStart k_tokenStart 4001 f_tokenStart, jc h_tokenName k_tokenName 4001 f_tokenName]) hD hS hA [0, 3, 4, 5] rfl
                refine va_callv (va_runV (As := [.int 1, .int (nI a), .long 0]) (rest := []) ⟨hx, hb, hml, hown, hT⟩ (c_Source_addToken l dC dI (sz := H.size) (h_this := h_this) (h_tokenKind := h_tokenKind) (h_tokenStart := h_tokenStart) (h_tokenName := h_tokenName) (fs_this := fs_this) (k_tokenKind := k_tokenKind) (f_tokenKind := f_tokenKind) (k_tokenStart := k_tokenStart) (f_tokenStart := f_tokenStart) (k_tokenName := k_tokenName) (f_tokenName := f_tokenName) (p1 := 1) (p2 := (nI a)) (p3 := 0) (tn := tn) (len_this := (by first | exact len_this | (simp only [List.length_set]; exact len_this))) (g_this_tokens := g_this_tokens) (g_this_tokenKind := g_this_tokenKind) (g_this_tokenStart := g_this_tokenStart) (g_this_tokenName := g_this_tokenName) (ht0 := ht0)) (cwV 3 hT (gV ml_Source_109 im_Source_addToken se_Source_addToken ini_Source co_Source_addToken) rfl rfl rfl (by decide +kernel) ⟨Nat.le_of_ble_eq_true rfl, Nat.le_of_ble_eq_true rfl⟩) ⟨fbQ, va_recv hKc hPc (ci := 8) (q0 := 0) rfl rfl, fun U hU hW => ⟨rfl, by rw [hU], by rw [hU]; exact hPc, va_K.moved hW.alike hKc, hDc.weaken (fun _ _ _ _ => trivial)⟩⟩ rfl rfl hl.1 rfl (lv_room (Nat.le_of_ble_eq_true rfl)) d_Source_scanRow_129 ⟨Nat.le_of_ble_eq_true rfl, Nat.le_of_ble_eq_true rfl⟩) hS (fun q _ h => hFc q h) hFc (fun u t H1 locs ht hvm hw hB hz1 hk1 hS => ?_)
                obtain ⟨fs_this_51, f_tokenKind_51, f_tokenStart_51, f_tokenName_51, ⟨hw51_0, hw51_1, hw51_2, hw51_3, hw51_4, hw51_5⟩, hP1, hK1, hD1⟩ := hB
                rw [ht] at hP1
                have hK1 := va_K.moved hvm.symm hK1
                obtain ⟨hP, hD⟩ := va_join (wr := [ic h_text k_text 4000 f_text, jc h_words k_words 26 f_words]) (w1 := [oc h_this 8 fs_this_51, ic h_tokenKind k_tokenKind 4001 f_tokenKind_51, ic h_tokenStart k_tokenStart 4001 f_tokenStart_51, jc h_tokenName k_tokenName 4001 f_tokenName_51]) hP hD [0, 3, 4, 5] [1, 2] rfl rfl (by decide) (by decide) hk1 hFc hP1 hD1
                generalize H1 = H at hP hS ⊢
                have hP : va_P (dC, dI) cls_all [ic h_text k_text 4000 f_text, jc h_words k_words 26 f_words, oc h_this 8 fs_this_51, ic h_tokenKind k_tokenKind 4001 f_tokenKind_51, ic h_tokenStart k_tokenStart 4001 f_tokenStart_51, jc h_tokenName k_tokenName 4001 f_tokenName_51] H := hP
                have hD : va_D A [ic h_text k_text 4000 f_text, jc h_words k_words 26 f_words, oc h_this 8 fs_this_51, ic h_tokenKind k_tokenKind 4001 f_tokenKind_51, ic h_tokenStart k_tokenStart 4001 f_tokenStart_51, jc h_tokenName k_tokenName 4001 f_tokenName_51] := hD
                refine lv_goto (tgt := 158) hx hb d_Source_scanRow_132 (by decide) ?_
                have eK : sK f_text f_words tz a = 1 := by unfold sK; rw [hN]; rw [if_neg h39, if_pos hdg, hfi]; rfl
                have eV : sV f_text tz a = 0 := by unfold sV; rw [hN]; rw [if_neg h39, if_pos hdg, hfi]; rfl
                refine lv_iload_n hx hb d_Source_scanRow_158 rfl (lv_at hl 1 rfl) ?_
                have hP9 := hP.sub (ws' := [oc h_this 8 fs_this_51, ic h_text k_text 4000 f_text, jc h_words k_words 26 f_words, ic h_tokenKind k_tokenKind 4001 f_tokenKind_51, ic h_tokenStart k_tokenStart 4001 f_tokenStart_51, jc h_tokenName k_tokenName 4001 f_tokenName_51]) [2, 0, 1, 3, 4, 5] rfl
                have hD9 := hD.sub (ws' := [oc h_this 8 fs_this_51, ic h_text k_text 4000 f_text, jc h_words k_words 26 f_words, ic h_tokenKind k_tokenKind 4001 f_tokenKind_51, ic h_tokenStart k_tokenStart 4001 f_tokenStart_51, jc h_tokenName k_tokenName 4001 f_tokenName_51]) [2, 0, 1, 3, 4, 5] (by decide) rfl
                have hK9 := hK.sub (tys' := [(k_text, .char), (k_words, .long), (k_tokenKind, .int), (k_tokenStart, .int), (k_tokenName, .long)]) [0, 1, 2, 3, 4] rfl
                have hv52 : fs_this_51[14]? = some (.int (nI (tn + 1))) := hw51_2
                exact W.iret (v := (nI (a + 1 + k))) hx hb hr (fun t ht hW => ⟨⟨(nI (a + 1 + k)), (nI (a + 1 + k)), rfl, rfl, fs_this_51, f_tokenKind_51, f_tokenStart_51, f_tokenName_51, ⟨(by first | exact hw51_0 | (simp only [List.length_set]; exact hw51_0)), (fun j n14 => ((hw51_1 j n14).trans rfl)), (by first | exact hv52 | (rw [hv52]; refine congrArg some (congrArg _ ?_); first | (rw [hN]; done) | rfl)), (by first | (rw [eK]; assumption) | (rw [eV]; assumption) | assumption), (by first | (rw [eK]; assumption) | (rw [eV]; assumption) | assumption), (by first | (rw [eK]; assumption) | (rw [eV]; assumption) | assumption), (by first | (rw [hN]; done) | rfl)⟩, by rw [ht]; exact hP9, va_K.moved hW.alike hK9, hD9⟩, hS.F ht⟩) hS.2.2 d_Source_scanRow_159
              · have b48 : ((k + 1)) ≤ (9) := (ni_lt (by omega) (by omega) ).2 c48
                refine lv_aload_n hx hb d_Source_scanRow_88 rfl (lv_at hl 1 rfl) ?_
                refine lv_iload_n hx hb d_Source_scanRow_89 rfl (lv_at hl 2 rfl) ?_
                refine lv_iload_n hx hb d_Source_scanRow_90 rfl (lv_at hl 0 rfl) ?_
                refine lv_iconst (v := 0) hx hb d_Source_scanRow_91 (by decide) ?_
                rw [show a + 1 + k = a + (k + 1) by omega]
                have hPc := hP.sub (ws' := [oc h_this 8 fs_this, ic h_text k_text 4000 f_text]) [0, 1] rfl
                have hKc := hK.sub (tys' := [(k_text, .char)]) [0] rfl
                refine vp_callSi (va_Run.run (va_runV (As := [.int (nI a), .int (nI (a + (k + 1))), .int 0]) (rest := []) ⟨hx, hb, hml, hown, hT⟩ (c_Source_isAllOf l dC dI (h_this := h_this) (h_text := h_text) (fs_this := fs_this) (k_text := k_text) (f_text := f_text) (p3 := 0) (a := a) (n := (k + 1)) (len_this := (by first | exact len_this | (simp only [List.length_set]; exact len_this))) (g_this_text := g_this_text) (hz := (by omega))) (cwV 3 hT (gV ml_Source_124 im_Source_isAllOf se_Source_isAllOf ini_Source co_Source_isAllOf) rfl rfl rfl (by decide +kernel) ⟨Nat.le_of_ble_eq_true rfl, Nat.le_of_ble_eq_true rfl⟩) ⟨fbS, va_recv hKc hPc (ci := 8) (q0 := 0) rfl rfl, fun U hU hW => ⟨rfl, by rw [hU]; exact hPc, va_K.moved hW.alike hKc⟩⟩ rfl rfl hl.1 rfl (lv_room (Nat.le_of_ble_eq_true rfl)) d_Source_scanRow_92 ⟨Nat.le_of_ble_eq_true rfl, Nat.le_of_ble_eq_true rfl⟩)) (fun r53 hr53 => ?_)
                refine lv_if_eq (tgt := 102) hx hb d_Source_scanRow_95 (by decide) (fun c54 => ?_) (fun c54 => ?_)
                · have hfi : m9 f_text a k = 0 := (if_neg (by omega)).trans (if_neg (fun q => absurd (c54.symm.trans (hr53.trans (if_pos q))) (by decide)))
                  refine lv_iconst (v := 0) hx hb d_Source_scanRow_102 (by decide) ?_
                  refine lv_istore_n (lv' := [(3, .int 0), (2, .int (nI (a + 1 + k))), (0, .ref h_this), (1, .int (nI a))]) hx hb d_Source_scanRow_103 rfl hl (by decide) rfl (fun ls hl => ?_)
                  refine lv_aload_n hx hb d_Source_scanRow_104 rfl (lv_at hl 2 rfl) ?_
                  refine lv_iload_n hx hb d_Source_scanRow_105 rfl (lv_at hl 0 rfl) ?_
                  refine lv_if_eq (tgt := 113) hx hb d_Source_scanRow_106 (by decide) (fun _ => ?_) (fun c55 => absurd (by decide) c55)
                  refine lv_iconst (v := 1) hx hb d_Source_scanRow_113 (by decide) ?_
                  refine lv_iload_n hx hb d_Source_scanRow_114 rfl (lv_at hl 3 rfl) ?_
                  refine lv_iload_n hx hb d_Source_scanRow_115 rfl (lv_at hl 0 rfl) ?_
                  refine lv_if_eq (tgt := 128) hx hb d_Source_scanRow_116 (by decide) (fun _ => ?_) (fun c56 => absurd (by decide) c56)
                  refine lv_lconst (v := 0) hx hb d_Source_scanRow_128 (by decide) ?_
                  have hPc := hP.sub (ws' := [oc h_this 8 fs_this, ic h_tokenKind k_tokenKind 4001 f_tokenKind, ic h_tokenStart k_tokenStart 4001 f_tokenStart, jc h_tokenName k_tokenName 4001 f_tokenName]) [0, 3, 4, 5] rfl
                  have hKc := hK.sub (tys' := [(k_tokenKind, .int), (k_tokenStart, .int), (k_tokenName, .long)]) [2, 3, 4] rfl
                  have hDc := hD.sub (ws' := [oc h_this 8 fs_this, ic h_tokenKind k_tokenKind 4001 f_tokenKind, ic h_tokenStart k_tokenStart 4001 f_tokenStart, jc h_tokenName k_tokenName 4001 f_tokenName]) [0, 3, 4, 5] (by decide) rfl
                  have hFc := va_free (wc := [oc h_this 8 fs_this, ic h_tokenKind k_tokenKind 4001 f_tokenKind, ic h_tokenStart k_tokenStart 4001 f_tokenStart, jc h_tokenName k_tokenName 4001 f_tokenName]) hD hS hA [0, 3, 4, 5] rfl
                  refine va_callv (va_runV (As := [.int 1, .int (nI a), .long 0]) (rest := []) ⟨hx, hb, hml, hown, hT⟩ (c_Source_addToken l dC dI (sz := H.size) (h_this := h_this) (h_tokenKind := h_tokenKind) (h_tokenStart := h_tokenStart) (h_tokenName := h_tokenName) (fs_this := fs_this) (k_tokenKind := k_tokenKind) (f_tokenKind := f_tokenKind) (k_tokenStart := k_tokenStart) (f_tokenStart := f_tokenStart) (k_tokenName := k_tokenName) (f_tokenName := f_tokenName) (p1 := 1) (p2 := (nI a)) (p3 := 0) (tn := tn) (len_this := (by first | exact len_this | (simp only [List.length_set]; exact len_this))) (g_this_tokens := g_this_tokens) (g_this_tokenKind := g_this_tokenKind) (g_this_tokenStart := g_this_tokenStart) (g_this_tokenName := g_this_tokenName) (ht0 := ht0)) (cwV 3 hT (gV ml_Source_109 im_Source_addToken se_Source_addToken ini_Source co_Source_addToken) rfl rfl rfl (by decide +kernel) ⟨Nat.le_of_ble_eq_true rfl, Nat.le_of_ble_eq_true rfl⟩) ⟨fbQ, va_recv hKc hPc (ci := 8) (q0 := 0) rfl rfl, fun U hU hW => ⟨rfl, by rw [hU], by rw [hU]; exact hPc, va_K.moved hW.alike hKc, hDc.weaken (fun _ _ _ _ => trivial)⟩⟩ rfl rfl hl.1 rfl (lv_room (Nat.le_of_ble_eq_true rfl)) d_Source_scanRow_129 ⟨Nat.le_of_ble_eq_true rfl, Nat.le_of_ble_eq_true rfl⟩) hS (fun q _ h => hFc q h) hFc (fun u t H1 locs ht hvm hw hB hz1 hk1 hS => ?_)
                  obtain ⟨fs_this_57, f_tokenKind_57, f_tokenStart_57, f_tokenName_57, ⟨hw57_0, hw57_1, hw57_2, hw57_3, hw57_4, hw57_5⟩, hP1, hK1, hD1⟩ := hB
                  rw [ht] at hP1
                  have hK1 := va_K.moved hvm.symm hK1
                  obtain ⟨hP, hD⟩ := va_join (wr := [ic h_text k_text 4000 f_text, jc h_words k_words 26 f_words]) (w1 := [oc h_this 8 fs_this_57, ic h_tokenKind k_tokenKind 4001 f_tokenKind_57, ic h_tokenStart k_tokenStart 4001 f_tokenStart_57, jc h_tokenName k_tokenName 4001 f_tokenName_57]) hP hD [0, 3, 4, 5] [1, 2] rfl rfl (by decide) (by decide) hk1 hFc hP1 hD1
                  generalize H1 = H at hP hS ⊢
                  have hP : va_P (dC, dI) cls_all [ic h_text k_text 4000 f_text, jc h_words k_words 26 f_words, oc h_this 8 fs_this_57, ic h_tokenKind k_tokenKind 4001 f_tokenKind_57, ic h_tokenStart k_tokenStart 4001 f_tokenStart_57, jc h_tokenName k_tokenName 4001 f_tokenName_57] H := hP
                  have hD : va_D A [ic h_text k_text 4000 f_text, jc h_words k_words 26 f_words, oc h_this 8 fs_this_57, ic h_tokenKind k_tokenKind 4001 f_tokenKind_57, ic h_tokenStart k_tokenStart 4001 f_tokenStart_57, jc h_tokenName k_tokenName 4001 f_tokenName_57] := hD
                  refine lv_goto (tgt := 158) hx hb d_Source_scanRow_132 (by decide) ?_
                  have eK : sK f_text f_words tz a = 1 := by unfold sK; rw [hN]; rw [if_neg h39, if_pos hdg, hfi]; rfl
                  have eV : sV f_text tz a = 0 := by unfold sV; rw [hN]; rw [if_neg h39, if_pos hdg, hfi]; rfl
                  refine lv_iload_n hx hb d_Source_scanRow_158 rfl (lv_at hl 1 rfl) ?_
                  have hP9 := hP.sub (ws' := [oc h_this 8 fs_this_57, ic h_text k_text 4000 f_text, jc h_words k_words 26 f_words, ic h_tokenKind k_tokenKind 4001 f_tokenKind_57, ic h_tokenStart k_tokenStart 4001 f_tokenStart_57, jc h_tokenName k_tokenName 4001 f_tokenName_57]) [2, 0, 1, 3, 4, 5] rfl
                  have hD9 := hD.sub (ws' := [oc h_this 8 fs_this_57, ic h_text k_text 4000 f_text, jc h_words k_words 26 f_words, ic h_tokenKind k_tokenKind 4001 f_tokenKind_57, ic h_tokenStart k_tokenStart 4001 f_tokenStart_57, jc h_tokenName k_tokenName 4001 f_tokenName_57]) [2, 0, 1, 3, 4, 5] (by decide) rfl
                  have hK9 := hK.sub (tys' := [(k_text, .char), (k_words, .long), (k_tokenKind, .int), (k_tokenStart, .int), (k_tokenName, .long)]) [0, 1, 2, 3, 4] rfl
                  have hv58 : fs_this_57[14]? = some (.int (nI (tn + 1))) := hw57_2
                  exact W.iret (v := (nI (a + 1 + k))) hx hb hr (fun t ht hW => ⟨⟨(nI (a + 1 + k)), (nI (a + 1 + k)), rfl, rfl, fs_this_57, f_tokenKind_57, f_tokenStart_57, f_tokenName_57, ⟨(by first | exact hw57_0 | (simp only [List.length_set]; exact hw57_0)), (fun j n14 => ((hw57_1 j n14).trans rfl)), (by first | exact hv58 | (rw [hv58]; refine congrArg some (congrArg _ ?_); first | (rw [hN]; done) | rfl)), (by first | (rw [eK]; assumption) | (rw [eV]; assumption) | assumption), (by first | (rw [eK]; assumption) | (rw [eV]; assumption) | assumption), (by first | (rw [eK]; assumption) | (rw [eV]; assumption) | assumption), (by first | (rw [hN]; done) | rfl)⟩, by rw [ht]; exact hP9, va_K.moved hW.alike hK9, hD9⟩, hS.F ht⟩) hS.2.2 d_Source_scanRow_159
                · have hfi : m9 f_text a k = 1 := (if_neg (by omega)).trans (if_pos (Decidable.byContradiction (fun q => c54 (hr53.trans (if_neg q)))))
                  refine lv_iconst (v := 1) hx hb d_Source_scanRow_98 (by decide) ?_
                  refine lv_goto (tgt := 103) hx hb d_Source_scanRow_99 (by decide) ?_
                  refine lv_istore_n (lv' := [(3, .int 1), (2, .int (nI (a + 1 + k))), (0, .ref h_this), (1, .int (nI a))]) hx hb d_Source_scanRow_103 rfl hl (by decide) rfl (fun ls hl => ?_)
                  refine lv_aload_n hx hb d_Source_scanRow_104 rfl (lv_at hl 2 rfl) ?_
                  refine lv_iload_n hx hb d_Source_scanRow_105 rfl (lv_at hl 0 rfl) ?_
                  refine lv_if_eq (tgt := 113) hx hb d_Source_scanRow_106 (by decide) (fun c59 => absurd c59 (by decide)) (fun _ => ?_)
                  refine lv_iconst (v := 5) hx hb d_Source_scanRow_109 (by decide) ?_
                  refine lv_goto (tgt := 114) hx hb d_Source_scanRow_110 (by decide) ?_
                  refine lv_iload_n hx hb d_Source_scanRow_114 rfl (lv_at hl 3 rfl) ?_
                  refine lv_iload_n hx hb d_Source_scanRow_115 rfl (lv_at hl 0 rfl) ?_
                  refine lv_if_eq (tgt := 128) hx hb d_Source_scanRow_116 (by decide) (fun c60 => absurd c60 (by decide)) (fun _ => ?_)
                  refine lv_aload_n hx hb d_Source_scanRow_119 rfl (lv_at hl 2 rfl) ?_
                  refine lv_iload_n hx hb d_Source_scanRow_120 rfl (lv_at hl 3 rfl) ?_
                  refine lv_iload_n hx hb d_Source_scanRow_121 rfl (lv_at hl 1 rfl) ?_
                  rw [show a + 1 + k = a + (k + 1) by omega]
                  have hPc := hP.sub (ws' := [oc h_this 8 fs_this, ic h_text k_text 4000 f_text]) [0, 1] rfl
                  have hKc := hK.sub (tys' := [(k_text, .char)]) [0] rfl
                  refine vp_callSl (va_Run.run (va_runV (As := [.int (nI a), .int (nI (a + (k + 1)))]) (rest := [.int (nI a), .int 5, .ref h_this]) ⟨hx, hb, hml, hown, hT⟩ (c_Source_valueOf l dC dI (h_this := h_this) (h_text := h_text) (fs_this := fs_this) (k_text := k_text) (f_text := f_text) (a := a) (n := (k + 1)) (len_this := (by first | exact len_this | (simp only [List.length_set]; exact len_this))) (g_this_text := g_this_text) (hz := (by omega))) (cwV 2 hT (gV ml_Source_128 im_Source_valueOf se_Source_valueOf ini_Source co_Source_valueOf) rfl rfl rfl (by decide +kernel) ⟨Nat.le_of_ble_eq_true rfl, Nat.le_of_ble_eq_true rfl⟩) ⟨fbS, va_recv hKc hPc (ci := 8) (q0 := 0) rfl rfl, fun U hU hW => ⟨rfl, by rw [hU]; exact hPc, va_K.moved hW.alike hKc⟩⟩ rfl rfl hl.1 rfl (lv_room (Nat.le_of_ble_eq_true rfl)) d_Source_scanRow_122 ⟨Nat.le_of_ble_eq_true rfl, Nat.le_of_ble_eq_true rfl⟩)) (fun r61 hr61 => ?_)
                  obtain rfl : r61 = vlo f_text a (k + 1) := hr61
                  refine lv_goto (tgt := 129) hx hb d_Source_scanRow_125 (by decide) ?_
                  have hPc := hP.sub (ws' := [oc h_this 8 fs_this, ic h_tokenKind k_tokenKind 4001 f_tokenKind, ic h_tokenStart k_tokenStart 4001 f_tokenStart, jc h_tokenName k_tokenName 4001 f_tokenName]) [0, 3, 4, 5] rfl
                  have hKc := hK.sub (tys' := [(k_tokenKind, .int), (k_tokenStart, .int), (k_tokenName, .long)]) [2, 3, 4] rfl
                  have hDc := hD.sub (ws' := [oc h_this 8 fs_this, ic h_tokenKind k_tokenKind 4001 f_tokenKind, ic h_tokenStart k_tokenStart 4001 f_tokenStart, jc h_tokenName k_tokenName 4001 f_tokenName]) [0, 3, 4, 5] (by decide) rfl
                  have hFc := va_free (wc := [oc h_this 8 fs_this, ic h_tokenKind k_tokenKind 4001 f_tokenKind, ic h_tokenStart k_tokenStart 4001 f_tokenStart, jc h_tokenName k_tokenName 4001 f_tokenName]) hD hS hA [0, 3, 4, 5] rfl
                  refine va_callv (va_runV (As := [.int 5, .int (nI a), .long (vlo f_text a (k + 1))]) (rest := []) ⟨hx, hb, hml, hown, hT⟩ (c_Source_addToken l dC dI (sz := H.size) (h_this := h_this) (h_tokenKind := h_tokenKind) (h_tokenStart := h_tokenStart) (h_tokenName := h_tokenName) (fs_this := fs_this) (k_tokenKind := k_tokenKind) (f_tokenKind := f_tokenKind) (k_tokenStart := k_tokenStart) (f_tokenStart := f_tokenStart) (k_tokenName := k_tokenName) (f_tokenName := f_tokenName) (p1 := 5) (p2 := (nI a)) (p3 := (vlo f_text a (k + 1))) (tn := tn) (len_this := (by first | exact len_this | (simp only [List.length_set]; exact len_this))) (g_this_tokens := g_this_tokens) (g_this_tokenKind := g_this_tokenKind) (g_this_tokenStart := g_this_tokenStart) (g_this_tokenName := g_this_tokenName) (ht0 := ht0)) (cwV 3 hT (gV ml_Source_109 im_Source_addToken se_Source_addToken ini_Source co_Source_addToken) rfl rfl rfl (by decide +kernel) ⟨Nat.le_of_ble_eq_true rfl, Nat.le_of_ble_eq_true rfl⟩) ⟨fbQ, va_recv hKc hPc (ci := 8) (q0 := 0) rfl rfl, fun U hU hW => ⟨rfl, by rw [hU], by rw [hU]; exact hPc, va_K.moved hW.alike hKc, hDc.weaken (fun _ _ _ _ => trivial)⟩⟩ rfl rfl hl.1 rfl (lv_room (Nat.le_of_ble_eq_true rfl)) d_Source_scanRow_129 ⟨Nat.le_of_ble_eq_true rfl, Nat.le_of_ble_eq_true rfl⟩) hS (fun q _ h => hFc q h) hFc (fun u t H1 locs ht hvm hw hB hz1 hk1 hS => ?_)
                  obtain ⟨fs_this_62, f_tokenKind_62, f_tokenStart_62, f_tokenName_62, ⟨hw62_0, hw62_1, hw62_2, hw62_3, hw62_4, hw62_5⟩, hP1, hK1, hD1⟩ := hB
                  rw [ht] at hP1
                  have hK1 := va_K.moved hvm.symm hK1
                  obtain ⟨hP, hD⟩ := va_join (wr := [ic h_text k_text 4000 f_text, jc h_words k_words 26 f_words]) (w1 := [oc h_this 8 fs_this_62, ic h_tokenKind k_tokenKind 4001 f_tokenKind_62, ic h_tokenStart k_tokenStart 4001 f_tokenStart_62, jc h_tokenName k_tokenName 4001 f_tokenName_62]) hP hD [0, 3, 4, 5] [1, 2] rfl rfl (by decide) (by decide) hk1 hFc hP1 hD1
                  generalize H1 = H at hP hS ⊢
                  have hP : va_P (dC, dI) cls_all [ic h_text k_text 4000 f_text, jc h_words k_words 26 f_words, oc h_this 8 fs_this_62, ic h_tokenKind k_tokenKind 4001 f_tokenKind_62, ic h_tokenStart k_tokenStart 4001 f_tokenStart_62, jc h_tokenName k_tokenName 4001 f_tokenName_62] H := hP
                  have hD : va_D A [ic h_text k_text 4000 f_text, jc h_words k_words 26 f_words, oc h_this 8 fs_this_62, ic h_tokenKind k_tokenKind 4001 f_tokenKind_62, ic h_tokenStart k_tokenStart 4001 f_tokenStart_62, jc h_tokenName k_tokenName 4001 f_tokenName_62] := hD
                  refine lv_goto (tgt := 158) hx hb d_Source_scanRow_132 (by decide) ?_
                  have eK : sK f_text f_words tz a = 5 := by unfold sK; rw [hN]; rw [if_neg h39, if_pos hdg, hfi]; rfl
                  have eV : sV f_text tz a = vlo f_text a (k + 1) := by unfold sV; rw [hN]; rw [if_neg h39, if_pos hdg, hfi]; rfl
                  refine lv_iload_n hx hb d_Source_scanRow_158 rfl (lv_at hl 1 rfl) ?_
                  have hP9 := hP.sub (ws' := [oc h_this 8 fs_this_62, ic h_text k_text 4000 f_text, jc h_words k_words 26 f_words, ic h_tokenKind k_tokenKind 4001 f_tokenKind_62, ic h_tokenStart k_tokenStart 4001 f_tokenStart_62, jc h_tokenName k_tokenName 4001 f_tokenName_62]) [2, 0, 1, 3, 4, 5] rfl
                  have hD9 := hD.sub (ws' := [oc h_this 8 fs_this_62, ic h_text k_text 4000 f_text, jc h_words k_words 26 f_words, ic h_tokenKind k_tokenKind 4001 f_tokenKind_62, ic h_tokenStart k_tokenStart 4001 f_tokenStart_62, jc h_tokenName k_tokenName 4001 f_tokenName_62]) [2, 0, 1, 3, 4, 5] (by decide) rfl
                  have hK9 := hK.sub (tys' := [(k_text, .char), (k_words, .long), (k_tokenKind, .int), (k_tokenStart, .int), (k_tokenName, .long)]) [0, 1, 2, 3, 4] rfl
                  have hv63 : fs_this_62[14]? = some (.int (nI (tn + 1))) := hw62_2
                  exact W.iret (v := (nI (a + 1 + k))) hx hb hr (fun t ht hW => ⟨⟨(nI (a + 1 + k)), (nI (a + 1 + k)), rfl, rfl, fs_this_62, f_tokenKind_62, f_tokenStart_62, f_tokenName_62, ⟨(by first | exact hw62_0 | (simp only [List.length_set]; exact hw62_0)), (fun j n14 => ((hw62_1 j n14).trans rfl)), (by first | exact hv63 | (rw [hv63]; refine congrArg some (congrArg _ ?_); first | (rw [hN]; done) | rfl)), (by first | (rw [eK]; assumption) | (rw [eV]; assumption) | assumption), (by first | (rw [eK]; assumption) | (rw [eV]; assumption) | assumption), (by first | (rw [eK]; assumption) | (rw [eV]; assumption) | assumption), (by first | (rw [hN]; done) | rfl)⟩, by rw [ht]; exact hP9, va_K.moved hW.alike hK9, hD9⟩, hS.F ht⟩) hS.2.2 d_Source_scanRow_159
          · have h39 : f_text a = 39 := c39
            refine lv_aload_n hx hb d_Source_scanRow_41 rfl (lv_at hl 1 rfl) ?_
            refine lv_aload_n hx hb d_Source_scanRow_42 rfl (lv_at hl 1 rfl) ?_
            refine lv_iload_n hx hb d_Source_scanRow_43 rfl (lv_at hl 2 rfl) ?_
            refine lv_iconst (v := 1) hx hb d_Source_scanRow_44 (by decide) ?_
            refine lv_iadd hx hb d_Source_scanRow_45 ?_
            refine lv_topi (fun x64 e64 => ?_)
            obtain rfl : x64 = nI (a + 1) := e64.trans (nI_add a 1)
            refine lv_iload_n hx hb d_Source_scanRow_46 rfl (lv_at hl 0 rfl) ?_
            have hPc := hP.sub (ws' := [oc h_this 8 fs_this, ic h_text k_text 4000 f_text]) [0, 1] rfl
            have hKc := hK.sub (tys' := [(k_text, .char)]) [0] rfl
            refine vp_callSi (va_Run.run (va_runV (As := [.int (nI (a + 1)), .int (nI (a + 1 + k))]) (rest := [.ref h_this]) ⟨hx, hb, hml, hown, hT⟩ (c_Source_kindOfRegion l dC dI (h_this := h_this) (h_text := h_text) (fs_this := fs_this) (k_text := k_text) (f_text := f_text) (a := (a + 1)) (n := k) (len_this := (by first | exact len_this | (simp only [List.length_set]; exact len_this))) (g_this_text := g_this_text) (hz := (by omega))) (cwV 2 hT (gV ml_Source_118 im_Source_kindOfRegion se_Source_kindOfRegion ini_Source co_Source_kindOfRegion) rfl rfl rfl (by decide +kernel) ⟨Nat.le_of_ble_eq_true rfl, Nat.le_of_ble_eq_true rfl⟩) ⟨fbS, va_recv hKc hPc (ci := 8) (q0 := 0) rfl rfl, fun U hU hW => ⟨rfl, by rw [hU]; exact hPc, va_K.moved hW.alike hKc⟩⟩ rfl rfl hl.1 rfl (lv_room (Nat.le_of_ble_eq_true rfl)) d_Source_scanRow_47 ⟨Nat.le_of_ble_eq_true rfl, Nat.le_of_ble_eq_true rfl⟩)) (fun r65 hr65 => ?_)
            obtain rfl : r65 = kReg f_text (a + 1) k := hr65
            refine lv_iload_n hx hb d_Source_scanRow_50 rfl (lv_at hl 2 rfl) ?_
            refine lv_aload_n hx hb d_Source_scanRow_51 rfl (lv_at hl 1 rfl) ?_
            refine va_get (D := (dC, dI)) (ci := 8) (v := .ref h_text) (C := R_Source) (T := F_Source) (N := 16) hx hb hT i_Source hown hK hP 0 rfl rfl 9 (by decide) (hT _ fl_Source_73) (fun _ h9 => h9) g_this_text d_Source_scanRow_52 ?_
            refine lv_iload_n hx hb d_Source_scanRow_55 rfl (lv_at hl 2 rfl) ?_
            refine lv_iconst (v := 1) hx hb d_Source_scanRow_56 (by decide) ?_
            refine lv_iadd hx hb d_Source_scanRow_57 ?_
            refine lv_topi (fun x66 e66 => ?_)
            obtain rfl : x66 = nI (a + 1) := e66.trans (nI_add a 1)
            refine lv_iload_n hx hb d_Source_scanRow_58 rfl (lv_at hl 0 rfl) ?_
            have hPc := hP.sub (ws' := [ic h_text k_text 4000 f_text]) [1] rfl
            have hKc := hK.sub (tys' := [(k_text, .char)]) [0] rfl
            refine vp_callSl (va_Run.run (va_runS (As := [.ref h_text, .int (nI (a + 1)), .int (nI (a + 1 + k))]) (rest := [.int (nI a), .int (kReg f_text (a + 1) k), .ref h_this]) ⟨hx, hb, hml, hown, hT⟩ (c_Source_packed l dC dI (h_a1 := h_text) (k_a1 := k_text) (f_a1 := f_text) (L := 4000) (a := (a + 1)) (b := (a + 1 + k)) (hL := (by decide)) (hab := (by first | assumption | (subst_vars; decide) | omega)) (hbL := (by omega))) (va_cwS 3 hT (gS ml_Source_69 st_Source_packed ini_Source co_Source_packed) rfl rfl rfl (by decide +kernel) ⟨Nat.le_of_ble_eq_true rfl, Nat.le_of_ble_eq_true rfl⟩) ⟨fbS, fun U hU hW => ⟨rfl, by rw [hU]; exact hPc, va_K.moved hW.alike hKc⟩⟩ rfl rfl hl.1 rfl (lv_room (Nat.le_of_ble_eq_true rfl)) d_Source_scanRow_59 ⟨Nat.le_of_ble_eq_true rfl, Nat.le_of_ble_eq_true rfl⟩)) (fun r67 hr67 => ?_)
            obtain rfl : r67 = pkd f_text (a + 1) k := hr67.trans (congrArg _ (by omega))
            have hPc := hP.sub (ws' := [oc h_this 8 fs_this, ic h_tokenKind k_tokenKind 4001 f_tokenKind, ic h_tokenStart k_tokenStart 4001 f_tokenStart, jc h_tokenName k_tokenName 4001 f_tokenName]) [0, 3, 4, 5] rfl
            have hKc := hK.sub (tys' := [(k_tokenKind, .int), (k_tokenStart, .int), (k_tokenName, .long)]) [2, 3, 4] rfl
            have hDc := hD.sub (ws' := [oc h_this 8 fs_this, ic h_tokenKind k_tokenKind 4001 f_tokenKind, ic h_tokenStart k_tokenStart 4001 f_tokenStart, jc h_tokenName k_tokenName 4001 f_tokenName]) [0, 3, 4, 5] (by decide) rfl
            have hFc := va_free (wc := [oc h_this 8 fs_this, ic h_tokenKind k_tokenKind 4001 f_tokenKind, ic h_tokenStart k_tokenStart 4001 f_tokenStart, jc h_tokenName k_tokenName 4001 f_tokenName]) hD hS hA [0, 3, 4, 5] rfl
            refine va_callv (va_runV (As := [.int (kReg f_text (a + 1) k), .int (nI a), .long (pkd f_text (a + 1) k)]) (rest := []) ⟨hx, hb, hml, hown, hT⟩ (c_Source_addToken l dC dI (sz := H.size) (h_this := h_this) (h_tokenKind := h_tokenKind) (h_tokenStart := h_tokenStart) (h_tokenName := h_tokenName) (fs_this := fs_this) (k_tokenKind := k_tokenKind) (f_tokenKind := f_tokenKind) (k_tokenStart := k_tokenStart) (f_tokenStart := f_tokenStart) (k_tokenName := k_tokenName) (f_tokenName := f_tokenName) (p1 := (kReg f_text (a + 1) k)) (p2 := (nI a)) (p3 := (pkd f_text (a + 1) k)) (tn := tn) (len_this := (by first | exact len_this | (simp only [List.length_set]; exact len_this))) (g_this_tokens := g_this_tokens) (g_this_tokenKind := g_this_tokenKind) (g_this_tokenStart := g_this_tokenStart) (g_this_tokenName := g_this_tokenName) (ht0 := ht0)) (cwV 3 hT (gV ml_Source_109 im_Source_addToken se_Source_addToken ini_Source co_Source_addToken) rfl rfl rfl (by decide +kernel) ⟨Nat.le_of_ble_eq_true rfl, Nat.le_of_ble_eq_true rfl⟩) ⟨fbQ, va_recv hKc hPc (ci := 8) (q0 := 0) rfl rfl, fun U hU hW => ⟨rfl, by rw [hU], by rw [hU]; exact hPc, va_K.moved hW.alike hKc, hDc.weaken (fun _ _ _ _ => trivial)⟩⟩ rfl rfl hl.1 rfl (lv_room (Nat.le_of_ble_eq_true rfl)) d_Source_scanRow_62 ⟨Nat.le_of_ble_eq_true rfl, Nat.le_of_ble_eq_true rfl⟩) hS (fun q _ h => hFc q h) hFc (fun u t H1 locs ht hvm hw hB hz1 hk1 hS => ?_)
            obtain ⟨fs_this_68, f_tokenKind_68, f_tokenStart_68, f_tokenName_68, ⟨hw68_0, hw68_1, hw68_2, hw68_3, hw68_4, hw68_5⟩, hP1, hK1, hD1⟩ := hB
            rw [ht] at hP1
            have hK1 := va_K.moved hvm.symm hK1
            obtain ⟨hP, hD⟩ := va_join (wr := [ic h_text k_text 4000 f_text, jc h_words k_words 26 f_words]) (w1 := [oc h_this 8 fs_this_68, ic h_tokenKind k_tokenKind 4001 f_tokenKind_68, ic h_tokenStart k_tokenStart 4001 f_tokenStart_68, jc h_tokenName k_tokenName 4001 f_tokenName_68]) hP hD [0, 3, 4, 5] [1, 2] rfl rfl (by decide) (by decide) hk1 hFc hP1 hD1
            generalize H1 = H at hP hS ⊢
            have hP : va_P (dC, dI) cls_all [ic h_text k_text 4000 f_text, jc h_words k_words 26 f_words, oc h_this 8 fs_this_68, ic h_tokenKind k_tokenKind 4001 f_tokenKind_68, ic h_tokenStart k_tokenStart 4001 f_tokenStart_68, jc h_tokenName k_tokenName 4001 f_tokenName_68] H := hP
            have hD : va_D A [ic h_text k_text 4000 f_text, jc h_words k_words 26 f_words, oc h_this 8 fs_this_68, ic h_tokenKind k_tokenKind 4001 f_tokenKind_68, ic h_tokenStart k_tokenStart 4001 f_tokenStart_68, jc h_tokenName k_tokenName 4001 f_tokenName_68] := hD
            refine lv_goto (tgt := 158) hx hb d_Source_scanRow_65 (by decide) ?_
            have eK : sK f_text f_words tz a = kReg f_text (a + 1) k := by unfold sK; rw [hN]; exact if_pos h39
            have eV : sV f_text tz a = pkd f_text (a + 1) k := by unfold sV; rw [hN]; exact if_pos h39
            refine lv_iload_n hx hb d_Source_scanRow_158 rfl (lv_at hl 0 rfl) ?_
            have hP9 := hP.sub (ws' := [oc h_this 8 fs_this_68, ic h_text k_text 4000 f_text, jc h_words k_words 26 f_words, ic h_tokenKind k_tokenKind 4001 f_tokenKind_68, ic h_tokenStart k_tokenStart 4001 f_tokenStart_68, jc h_tokenName k_tokenName 4001 f_tokenName_68]) [2, 0, 1, 3, 4, 5] rfl
            have hD9 := hD.sub (ws' := [oc h_this 8 fs_this_68, ic h_text k_text 4000 f_text, jc h_words k_words 26 f_words, ic h_tokenKind k_tokenKind 4001 f_tokenKind_68, ic h_tokenStart k_tokenStart 4001 f_tokenStart_68, jc h_tokenName k_tokenName 4001 f_tokenName_68]) [2, 0, 1, 3, 4, 5] (by decide) rfl
            have hK9 := hK.sub (tys' := [(k_text, .char), (k_words, .long), (k_tokenKind, .int), (k_tokenStart, .int), (k_tokenName, .long)]) [0, 1, 2, 3, 4] rfl
            have hv69 : fs_this_68[14]? = some (.int (nI (tn + 1))) := hw68_2
            exact W.iret (v := (nI (a + 1 + k))) hx hb hr (fun t ht hW => ⟨⟨(nI (a + 1 + k)), (nI (a + 1 + k)), rfl, rfl, fs_this_68, f_tokenKind_68, f_tokenStart_68, f_tokenName_68, ⟨(by first | exact hw68_0 | (simp only [List.length_set]; exact hw68_0)), (fun j n14 => ((hw68_1 j n14).trans rfl)), (by first | exact hv69 | (rw [hv69]; refine congrArg some (congrArg _ ?_); first | (rw [hN]; done) | rfl)), (by first | (rw [eK]; assumption) | (rw [eV]; assumption) | assumption), (by first | (rw [eK]; assumption) | (rw [eV]; assumption) | assumption), (by first | (rw [eK]; assumption) | (rw [eV]; assumption) | assumption), (by first | (rw [hN]; done) | rfl)⟩, by rw [ht]; exact hP9, va_K.moved hW.alike hK9, hD9⟩, hS.F ht⟩) hS.2.2 d_Source_scanRow_159
        · have hy : cL (f_text (a + 1 + k)) := cL_of (yz hr36 c37)
          refine lv_iinc (v := (nI (a + 1 + k + 1))) (lv' := [(2, .int (nI (a + 1 + k + 1))), (0, .ref h_this), (1, .int (nI a))]) hx hb d_Source_scanRow_24 hl (k := 0) rfl (nI_add (a + 1 + k) 1) (by decide) rfl (fun ls hl => ?_)
          refine lv_goto (tgt := 4) hx hb d_Source_scanRow_27 (by decide) ?_
          exact ih (k + 1) (by omega) (he.trans (by rw [rl_y hy (by omega)]; rw [show a + 1 + (k + 1) = a + 1 + k + 1 by omega, show tz - (a + 1) - (k + 1) = tz - (a + 1) - k - 1 by omega]; omega)) (by omega) _ _ hP hD hS ls (lv_sub hl [0, 1, 2] rfl)
  exact loop (tz - (a + 1) + 1) 0 (by omega) (by unfold sN; simp) (by omega) _ _ hP hD hS ls (lv_sub hl [0, 1, 2] rfl)
