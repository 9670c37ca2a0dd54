theorem dn {v : Int32} {k : Nat} (hv : v + 1 = nI k) (hk : k < 2 ^ 31) : (v < 0 → k = 0) ∧ (¬ v < 0 → ∃ j : Nat, k = j + 1 ∧ v = nI j) := by
  cases k with
  | zero =>
    have e : v = -1 := by
      have : v = nI 0 - 1 := by rw [← hv]; exact (Int32.add_sub_cancel v 1).symm
      rw [this]; rfl
    subst e
    exact ⟨fun _ => rfl, fun h => absurd (by decide) h⟩
  | succ j =>
    have e : v = nI j := by
      have : v = nI (j + 1) - 1 := by rw [← hv]; exact (Int32.add_sub_cancel v 1).symm
      rw [this]; exact nI_pred j
    subst e
    exact ⟨fun h => absurd h (nI_pos (by omega)), fun _ => ⟨j, rfl, rfl⟩⟩

set_option maxHeartbeats 1000000 in
set_option maxRecDepth 100000 in
theorem c_Model_findTitle (l : Launch) (dC : Nat → ClassId) (dI : Nat → Nat → Nat)  (h_this : Nat) (h_itemKind : Nat) (h_itemName : Nat) (fs_this : List Value) (k_itemKind : ClassId) (f_itemKind : Nat → Int32) (k_itemName : ClassId) (f_itemName : Nat → Int64) (p1 : Int64) (n : Nat) (len_this : fs_this.length = 153) (g_this_items : fs_this[11]? = some (.int (nI n))) (g_this_itemKind : fs_this[12]? = some (.ref h_itemKind)) (g_this_itemName : fs_this[13]? = some (.ref h_itemName)) (hz : n ≤ 24) : Met l y_Model_findTitle w_Model_findTitle ({ frames := 0, cells := 0, slots := 0, locals := 0 } : Room) (va_Pc [.ref h_this, .long p1] (fun U => va_P (dC, dI) cls_all [oc h_this 12 fs_this, ic h_itemKind k_itemKind 24 f_itemKind, jc h_itemName k_itemName 24 f_itemName] U.heap ∧ va_K (dC, dI) cls_all [(k_itemKind, .int), (k_itemName, .long)] U)) (vp_Si (fun r : Int32 => (r = ff (fun j => decide (f_itemKind j < 2) && decide (f_itemName j = p1)) 0 n))) 0 0 (fun _ => False) := by
  refine Met.ofW (cc := b_Model_findTitle) (maxL := 4) (ret := (some .int)) (by decide) rfl ?_
  intro p e s m args below meth c s₁ B hml hv
  obtain ⟨rfl, hP, hK⟩ := hv
  have hx := B.exec
  have hb := B.bytes
  have hr := B.returns
  have hT : ∀ w ∈ lw_good, w.before _ s = true := fun w h => atoms_spec (ws := w_Model_findTitle) B.pre w (List.mem_cons_of_mem _ h)
  have hown : s.vm.findClass R_Model = some m.cls := findClass_of_methodNamed B.named
  have hlocks := B.notSynchronized
  have hl := lv_entry ([.ref h_this, .long p1]) (n := 4) (Nat.le_of_ble_eq_true rfl)
  rw [lg_entry_eq]
  generalize (lg_sl ([.ref h_this, .long p1]) ++ List.replicate (4 - (lg_sl ([.ref h_this, .long p1])).length) Slot.unset).toArray = ls at hl ⊢
  have hl : lv_has ls 4 [(0, .ref h_this), (1, .long p1)] := hl
  refine lv_iconst (v := 0) hx hb d_Model_findTitle_0 (by decide) ?_
  refine lv_istore_n (lv' := [(3, .int 0), (0, .ref h_this), (1, .long p1)]) hx hb d_Model_findTitle_1 rfl hl (by decide) rfl (fun ls hl => ?_)
  have loop : ∀ (nn : Nat) (i : Nat), i ≤ n → ff (fun j => decide (f_itemKind j < 2) && decide (f_itemName j = p1)) 0 n = ff (fun j => decide (f_itemKind j < 2) && decide (f_itemName j = p1)) i (n - i) → n - i < nn → ∀ (ls : Array Slot), lv_has ls 4 [(3, .int (nI (i))), (0, .ref h_this), (1, .long p1)] → W p l e (headSpec w_Model_findTitle ({ frames := 0, cells := 0, slots := 0, locals := 0 } : Room)).room s m ([.ref h_this, .long p1] : List Value).toArray below meth c s.heap [] 0 0 (MQ below (vp_Si (fun r : Int32 => (r = ff (fun j => decide (f_itemKind j < 2) && decide (f_itemName j = p1)) 0 n))) ([.ref h_this, .long p1] : List Value).toArray s 0 0 (fun _ => False)) (F0 m 2 ls []) := by
    clear hl
    intro nn
    induction nn with
    | zero => intro i hi he hn ls hl; exfalso; omega
    | succ nn ih =>
      intro i hi he hn ls hl
      refine lv_iload_n hx hb d_Model_findTitle_2 rfl (lv_at hl 0 rfl) ?_
      refine lv_aload_n hx hb d_Model_findTitle_3 rfl (lv_at hl 1 rfl) ?_
      refine va_get (D := (dC, dI)) (ci := 12) (v := .int (nI n)) (C := R_Model) (T := F_Model) (N := 153) hx hb hT i_Model hown hK hP 0 rfl rfl 11 (by decide) (hT _ fl_Model_412) (fun _ h9 => h9) g_this_items d_Model_findTitle_4 ?_
      refine lv_icmp_ge (tgt := 39) hx hb d_Model_findTitle_7 (by decide) (fun c1 => ?_) (fun c1 => ?_)
      · have b1 : (n) ≤ ((i)) := (ni_le (by omega) (by omega)).1 c1
        refine lv_iconst (v := (-1)) hx hb d_Model_findTitle_39 (by decide) ?_
        refine W.iret (v := (-1)) hx hb hr (fun t ht hW => ⟨(-1), rfl, ?_, ht⟩) (fun q h => by cases h) d_Model_findTitle_40
        rw [he, show n - i = 0 by omega]; rfl
      · have b1 : ((i)) < (n) := (ni_le (by omega) (by omega)).2 c1
        refine lv_aload_n hx hb d_Model_findTitle_10 rfl (lv_at hl 1 rfl) ?_
        refine va_get (D := (dC, dI)) (ci := 12) (v := .ref h_itemKind) (C := R_Model) (T := F_Model) (N := 153) hx hb hT i_Model hown hK hP 0 rfl rfl 12 (by decide) (hT _ fl_Model_17) (fun _ h9 => h9) g_this_itemKind d_Model_findTitle_11 ?_
        refine lv_iload_n hx hb d_Model_findTitle_14 rfl (lv_at hl 0 rfl) ?_
        refine va_iald hx hb hK hP 1 0 rfl rfl (vp_in_nI (by omega) (by decide)) d_Model_findTitle_15 ?_
        refine lv_topi (fun x2 e2 => ?_)
        obtain rfl : x2 = f_itemKind (i) := e2.trans (congrArg f_itemKind (nI_clamp (by omega)))
        refine lv_iconst (v := 2) hx hb d_Model_findTitle_16 (by decide) ?_
        refine lv_icmp_ge (tgt := 33) hx hb d_Model_findTitle_17 (by decide) (fun c3 => ?_) (fun c3 => ?_)
        · refine lv_iinc (v := (nI (i + 1))) (lv' := [(3, .int (nI (i + 1))), (0, .ref h_this), (1, .long p1)]) hx hb d_Model_findTitle_33 hl (k := 0) rfl (nI_add (i) 1) (by decide) rfl (fun ls hl => ?_)
          refine lv_goto (tgt := 2) hx hb d_Model_findTitle_36 (by decide) ?_
          have hno : ¬ (fun j => decide (f_itemKind j < 2) && decide (f_itemName j = p1)) i = true := fun q => by (simp only [Bool.and_eq_true, decide_eq_true_eq] at q); first | exact absurd q.1 (Int32.not_lt.mpr c3) | exact c3 q.1 | exact c3 ((lg_cmp_eq _ _).mpr q.2) | exact c3 ((lg_cmp_eq _ _).mpr q)
          exact ih (i + 1) (by omega) (he.trans ((ff_no hno (by omega)).trans (congrArg _ (by omega)))) (by omega) ls (lv_sub hl [0, 1, 2] rfl)
        · refine lv_aload_n hx hb d_Model_findTitle_20 rfl (lv_at hl 1 rfl) ?_
          refine va_get (D := (dC, dI)) (ci := 12) (v := .ref h_itemName) (C := R_Model) (T := F_Model) (N := 153) hx hb hT i_Model hown hK hP 0 rfl rfl 13 (by decide) (hT _ fl_Model_20) (fun _ h9 => h9) g_this_itemName d_Model_findTitle_21 ?_
          refine lv_iload_n hx hb d_Model_findTitle_24 rfl (lv_at hl 0 rfl) ?_
          refine va_lald hx hb hK hP 2 1 rfl rfl (vp_in_nI (by omega) (by decide)) d_Model_findTitle_25 ?_
          refine lv_topl (fun x4 e4 => ?_)
          obtain rfl : x4 = f_itemName (i) := e4.trans (congrArg f_itemName (nI_clamp (by omega)))
          refine lv_lload_n hx hb d_Model_findTitle_26 rfl (lv_at hl 2 rfl) ?_
          refine W.lcmp hx hb d_Model_findTitle_27 ?_
          refine lv_if_ne (tgt := 33) hx hb d_Model_findTitle_28 (by decide) (fun c5 => ?_) (fun c5 => ?_)
          · refine lv_iinc (v := (nI (i + 1))) (lv' := [(3, .int (nI (i + 1))), (0, .ref h_this), (1, .long p1)]) hx hb d_Model_findTitle_33 hl (k := 0) rfl (nI_add (i) 1) (by decide) rfl (fun ls hl => ?_)
            refine lv_goto (tgt := 2) hx hb d_Model_findTitle_36 (by decide) ?_
            have hno : ¬ (fun j => decide (f_itemKind j < 2) && decide (f_itemName j = p1)) i = true := fun q => by (simp only [Bool.and_eq_true, decide_eq_true_eq] at q); first | exact absurd q.1 (Int32.not_lt.mpr c5) | exact c5 q.1 | exact c5 ((lg_cmp_eq _ _).mpr q.2) | exact c5 ((lg_cmp_eq _ _).mpr q)
            exact ih (i + 1) (by omega) (he.trans ((ff_no hno (by omega)).trans (congrArg _ (by omega)))) (by omega) ls (lv_sub hl [0, 1, 2] rfl)
          · refine lv_iload_n hx hb d_Model_findTitle_31 rfl (lv_at hl 0 rfl) ?_
            refine W.iret (v := (nI (i))) hx hb hr (fun t ht hW => ⟨(nI (i)), rfl, ?_, ht⟩) (fun q h => by cases h) d_Model_findTitle_32
            (try simp only [lg_cmp_eq] at *); exact (he.trans (ff_yes (by simp_all) (by omega))).symm
  exact loop (n + 1) 0 (by omega) rfl (by omega) ls (lv_sub hl [0, 1, 2] rfl)
set_option maxHeartbeats 1000000 in
set_option maxRecDepth 100000 in
theorem c_Model_findFun (l : Launch) (dC : Nat → ClassId) (dI : Nat → Nat → Nat)  (h_this : Nat) (h_itemKind : Nat) (h_itemName : Nat) (fs_this : List Value) (k_itemKind : ClassId) (f_itemKind : Nat → Int32) (k_itemName : ClassId) (f_itemName : Nat → Int64) (p1 : Int64) (n : Nat) (len_this : fs_this.length = 153) (g_this_items : fs_this[11]? = some (.int (nI n))) (g_this_itemKind : fs_this[12]? = some (.ref h_itemKind)) (g_this_itemName : fs_this[13]? = some (.ref h_itemName)) (hz : n ≤ 24) : Met l y_Model_findFun w_Model_findFun ({ frames := 0, cells := 0, slots := 0, locals := 0 } : Room) (va_Pc [.ref h_this, .long p1] (fun U => va_P (dC, dI) cls_all [oc h_this 12 fs_this, ic h_itemKind k_itemKind 24 f_itemKind, jc h_itemName k_itemName 24 f_itemName] U.heap ∧ va_K (dC, dI) cls_all [(k_itemKind, .int), (k_itemName, .long)] U)) (vp_Si (fun r : Int32 => (r = ff (fun j => decide (f_itemKind j = 2) && decide (f_itemName j = p1)) 0 n))) 0 0 (fun _ => False) := by
  refine Met.ofW (cc := b_Model_findFun) (maxL := 4) (ret := (some .int)) (by decide) rfl ?_
  intro p e s m args below meth c s₁ B hml hv
  obtain ⟨rfl, hP, hK⟩ := hv
  have hx := B.exec
  have hb := B.bytes
  have hr := B.returns
  have hT : ∀ w ∈ lw_good, w.before _ s = true := fun w h => atoms_spec (ws := w_Model_findFun) B.pre w (List.mem_cons_of_mem _ h)
  have hown : s.vm.findClass R_Model = some m.cls := findClass_of_methodNamed B.named
  have hlocks := B.notSynchronized
  have hl := lv_entry ([.ref h_this, .long p1]) (n := 4) (Nat.le_of_ble_eq_true rfl)
  rw [lg_entry_eq]
  generalize (lg_sl ([.ref h_this, .long p1]) ++ List.replicate (4 - (lg_sl ([.ref h_this, .long p1])).length) Slot.unset).toArray = ls at hl ⊢
  have hl : lv_has ls 4 [(0, .ref h_this), (1, .long p1)] := hl
  refine lv_iconst (v := 0) hx hb d_Model_findFun_0 (by decide) ?_
  refine lv_istore_n (lv' := [(3, .int 0), (0, .ref h_this), (1, .long p1)]) hx hb d_Model_findFun_1 rfl hl (by decide) rfl (fun ls hl => ?_)
  have loop : ∀ (nn : Nat) (i : Nat), i ≤ n → ff (fun j => decide (f_itemKind j = 2) && decide (f_itemName j = p1)) 0 n = ff (fun j => decide (f_itemKind j = 2) && decide (f_itemName j = p1)) i (n - i) → n - i < nn → ∀ (ls : Array Slot), lv_has ls 4 [(3, .int (nI (i))), (0, .ref h_this), (1, .long p1)] → W p l e (headSpec w_Model_findFun ({ frames := 0, cells := 0, slots := 0, locals := 0 } : Room)).room s m ([.ref h_this, .long p1] : List Value).toArray below meth c s.heap [] 0 0 (MQ below (vp_Si (fun r : Int32 => (r = ff (fun j => decide (f_itemKind j = 2) && decide (f_itemName j = p1)) 0 n))) ([.ref h_this, .long p1] : List Value).toArray s 0 0 (fun _ => False)) (F0 m 2 ls []) := by
    clear hl
    intro nn
    induction nn with
    | zero => intro i hi he hn ls hl; exfalso; omega
    | succ nn ih =>
      intro i hi he hn ls hl
      refine lv_iload_n hx hb d_Model_findFun_2 rfl (lv_at hl 0 rfl) ?_
      refine lv_aload_n hx hb d_Model_findFun_3 rfl (lv_at hl 1 rfl) ?_
      refine va_get (D := (dC, dI)) (ci := 12) (v := .int (nI n)) (C := R_Model) (T := F_Model) (N := 153) hx hb hT i_Model hown hK hP 0 rfl rfl 11 (by decide) (hT _ fl_Model_412) (fun _ h9 => h9) g_this_items d_Model_findFun_4 ?_
      refine lv_icmp_ge (tgt := 39) hx hb d_Model_findFun_7 (by decide) (fun c1 => ?_) (fun c1 => ?_)
      · have b1 : (n) ≤ ((i)) := (ni_le (by omega) (by omega)).1 c1
        refine lv_iconst (v := (-1)) hx hb d_Model_findFun_39 (by decide) ?_
        refine W.iret (v := (-1)) hx hb hr (fun t ht hW => ⟨(-1), rfl, ?_, ht⟩) (fun q h => by cases h) d_Model_findFun_40
        rw [he, show n - i = 0 by omega]; rfl
      · have b1 : ((i)) < (n) := (ni_le (by omega) (by omega)).2 c1
        refine lv_aload_n hx hb d_Model_findFun_10 rfl (lv_at hl 1 rfl) ?_
        refine va_get (D := (dC, dI)) (ci := 12) (v := .ref h_itemKind) (C := R_Model) (T := F_Model) (N := 153) hx hb hT i_Model hown hK hP 0 rfl rfl 12 (by decide) (hT _ fl_Model_17) (fun _ h9 => h9) g_this_itemKind d_Model_findFun_11 ?_
        refine lv_iload_n hx hb d_Model_findFun_14 rfl (lv_at hl 0 rfl) ?_
        refine va_iald hx hb hK hP 1 0 rfl rfl (vp_in_nI (by omega) (by decide)) d_Model_findFun_15 ?_
        refine lv_topi (fun x2 e2 => ?_)
        obtain rfl : x2 = f_itemKind (i) := e2.trans (congrArg f_itemKind (nI_clamp (by omega)))
        refine lv_iconst (v := 2) hx hb d_Model_findFun_16 (by decide) ?_
        refine lv_icmp_ne (tgt := 33) hx hb d_Model_findFun_17 (by decide) (fun c3 => ?_) (fun c3 => ?_)
        · refine lv_iinc (v := (nI (i + 1))) (lv' := [(3, .int (nI (i + 1))), (0, .ref h_this), (1, .long p1)]) hx hb d_Model_findFun_33 hl (k := 0) rfl (nI_add (i) 1) (by decide) rfl (fun ls hl => ?_)
          refine lv_goto (tgt := 2) hx hb d_Model_findFun_36 (by decide) ?_
          have hno : ¬ (fun j => decide (f_itemKind j = 2) && decide (f_itemName j = p1)) i = true := fun q => by (simp only [Bool.and_eq_true, decide_eq_true_eq] at q); first | exact absurd q.1 (Int32.not_lt.mpr c3) | exact c3 q.1 | exact c3 ((lg_cmp_eq _ _).mpr q.2) | exact c3 ((lg_cmp_eq _ _).mpr q)
          exact ih (i + 1) (by omega) (he.trans ((ff_no hno (by omega)).trans (congrArg _ (by omega)))) (by omega) ls (lv_sub hl [0, 1, 2] rfl)
        · refine lv_aload_n hx hb d_Model_findFun_20 rfl (lv_at hl 1 rfl) ?_
          refine va_get (D := (dC, dI)) (ci := 12) (v := .ref h_itemName) (C := R_Model) (T := F_Model) (N := 153) hx hb hT i_Model hown hK hP 0 rfl rfl 13 (by decide) (hT _ fl_Model_20) (fun _ h9 => h9) g_this_itemName d_Model_findFun_21 ?_
          refine lv_iload_n hx hb d_Model_findFun_24 rfl (lv_at hl 0 rfl) ?_
          refine va_lald hx hb hK hP 2 1 rfl rfl (vp_in_nI (by omega) (by decide)) d_Model_findFun_25 ?_
          refine lv_topl (fun x4 e4 => ?_)
          obtain rfl : x4 = f_itemName (i) := e4.trans (congrArg f_itemName (nI_clamp (by omega)))
          refine lv_lload_n hx hb d_Model_findFun_26 rfl (lv_at hl 2 rfl) ?_
          refine W.lcmp hx hb d_Model_findFun_27 ?_
          refine lv_if_ne (tgt := 33) hx hb d_Model_findFun_28 (by decide) (fun c5 => ?_) (fun c5 => ?_)
          · refine lv_iinc (v := (nI (i + 1))) (lv' := [(3, .int (nI (i + 1))), (0, .ref h_this), (1, .long p1)]) hx hb d_Model_findFun_33 hl (k := 0) rfl (nI_add (i) 1) (by decide) rfl (fun ls hl => ?_)
            refine lv_goto (tgt := 2) hx hb d_Model_findFun_36 (by decide) ?_
            have hno : ¬ (fun j => decide (f_itemKind j = 2) && decide (f_itemName j = p1)) i = true := fun q => by (simp only [Bool.and_eq_true, decide_eq_true_eq] at q); first | exact absurd q.1 (Int32.not_lt.mpr c5) | exact c5 q.1 | exact c5 ((lg_cmp_eq _ _).mpr q.2) | exact c5 ((lg_cmp_eq _ _).mpr q)
            exact ih (i + 1) (by omega) (he.trans ((ff_no hno (by omega)).trans (congrArg _ (by omega)))) (by omega) ls (lv_sub hl [0, 1, 2] rfl)
          · refine lv_iload_n hx hb d_Model_findFun_31 rfl (lv_at hl 0 rfl) ?_
            refine W.iret (v := (nI (i))) hx hb hr (fun t ht hW => ⟨(nI (i)), rfl, ?_, ht⟩) (fun q h => by cases h) d_Model_findFun_32
            (try simp only [lg_cmp_eq] at *); exact (he.trans (ff_yes (by simp_all) (by omega))).symm
  exact loop (n + 1) 0 (by omega) rfl (by omega) ls (lv_sub hl [0, 1, 2] rfl)
set_option maxHeartbeats 1000000 in
set_option maxRecDepth 100000 in
theorem c_Model_findField (l : Launch) (dC : Nat → ClassId) (dI : Nat → Nat → Nat)  (h_this : Nat) (h_manyFields : Nat) (h_fieldName : Nat) (h_firstField : Nat) (fs_this : List Value) (k_manyFields : ClassId) (f_manyFields : Nat → Int32) (k_fieldName : ClassId) (f_fieldName : Nat → Int64) (k_firstField : ClassId) (f_firstField : Nat → Int32) (p1 : Int32) (p2 : Int64) (n : Nat) (a : Nat) (len_this : fs_this.length = 153) (g_this_manyFields : fs_this[19]? = some (.ref h_manyFields)) (g_this_fieldName : fs_this[21]? = some (.ref h_fieldName)) (g_this_firstField : fs_this[18]? = some (.ref h_firstField)) (hz : vp_in p1 24) (hm : f_manyFields p1.toNatClampNeg = nI n) (hf : f_firstField p1.toNatClampNeg = nI a) (hr_ : a + n ≤ 220) : Met l y_Model_findField w_Model_findField ({ frames := 0, cells := 0, slots := 0, locals := 0 } : Room) (va_Pc [.ref h_this, .int p1, .long p2] (fun U => va_P (dC, dI) cls_all [oc h_this 12 fs_this, ic h_manyFields k_manyFields 24 f_manyFields, jc h_fieldName k_fieldName 220 f_fieldName, ic h_firstField k_firstField 24 f_firstField] U.heap ∧ va_K (dC, dI) cls_all [(k_manyFields, .int), (k_fieldName, .long), (k_firstField, .int)] U)) (vp_Si (fun r : Int32 => (r = ff (fun j => decide (f_fieldName (a + j) = p2)) 0 n))) 0 0 (fun _ => False) := by
  refine Met.ofW (cc := b_Model_findField) (maxL := 5) (ret := (some .int)) (by decide) rfl ?_
  intro p e s m args below meth c s₁ B hml hv
  obtain ⟨rfl, hP, hK⟩ := hv
  have hx := B.exec
  have hb := B.bytes
  have hr := B.returns
  have hT : ∀ w ∈ lw_good, w.before _ s = true := fun w h => atoms_spec (ws := w_Model_findField) B.pre w (List.mem_cons_of_mem _ h)
  have hown : s.vm.findClass R_Model = some m.cls := findClass_of_methodNamed B.named
  have hlocks := B.notSynchronized
  have hl := lv_entry ([.ref h_this, .int p1, .long p2]) (n := 5) (Nat.le_of_ble_eq_true rfl)
  rw [lg_entry_eq]
  generalize (lg_sl ([.ref h_this, .int p1, .long p2]) ++ List.replicate (5 - (lg_sl ([.ref h_this, .int p1, .long p2])).length) Slot.unset).toArray = ls at hl ⊢
  have hl : lv_has ls 5 [(0, .ref h_this), (1, .int p1), (2, .long p2)] := hl
  refine lv_iconst (v := 0) hx hb d_Model_findField_0 (by decide) ?_
  refine lv_istore (lv' := [(4, .int 0), (0, .ref h_this), (1, .int p1), (2, .long p2)]) hx hb d_Model_findField_1 hl (by decide) rfl (fun ls hl => ?_)
  have loop : ∀ (nn : Nat) (i : Nat), i ≤ n → ff (fun j => decide (f_fieldName (a + j) = p2)) 0 n = ff (fun j => decide (f_fieldName (a + j) = p2)) i (n - i) → n - i < nn → ∀ (ls : Array Slot), lv_has ls 5 [(4, .int (nI (i))), (0, .ref h_this), (1, .int p1), (2, .long p2)] → W p l e (headSpec w_Model_findField ({ frames := 0, cells := 0, slots := 0, locals := 0 } : Room)).room s m ([.ref h_this, .int p1, .long p2] : List Value).toArray below meth c s.heap [] 0 0 (MQ below (vp_Si (fun r : Int32 => (r = ff (fun j => decide (f_fieldName (a + j) = p2)) 0 n))) ([.ref h_this, .int p1, .long p2] : List Value).toArray s 0 0 (fun _ => False)) (F0 m 3 ls []) := by
    clear hl
    intro nn
    induction nn with
    | zero => intro i hi he hn ls hl; exfalso; omega
    | succ nn ih =>
      intro i hi he hn ls hl
      refine lv_iload hx hb d_Model_findField_3 (lv_at hl 0 rfl) ?_
      refine lv_aload_n hx hb d_Model_findField_5 rfl (lv_at hl 1 rfl) ?_
      refine va_get (D := (dC, dI)) (ci := 12) (v := .ref h_manyFields) (C := R_Model) (T := F_Model) (N := 153) hx hb hT i_Model hown hK hP 0 rfl rfl 19 (by decide) (hT _ fl_Model_39) (fun _ h9 => h9) g_this_manyFields d_Model_findField_6 ?_
      refine lv_iload_n hx hb d_Model_findField_9 rfl (lv_at hl 2 rfl) ?_
      refine va_iald hx hb hK hP 1 0 rfl rfl hz d_Model_findField_10 ?_
      refine lv_topi (fun x1 e1 => ?_)
      obtain rfl : x1 = nI n := e1.trans hm
      refine lv_icmp_ge (tgt := 42) hx hb d_Model_findField_11 (by decide) (fun c2 => ?_) (fun c2 => ?_)
      · have b2 : (n) ≤ ((i)) := (ni_le (by omega) (by omega)).1 c2
        refine lv_iconst (v := (-1)) hx hb d_Model_findField_42 (by decide) ?_
        refine W.iret (v := (-1)) hx hb hr (fun t ht hW => ⟨(-1), rfl, ?_, ht⟩) (fun q h => by cases h) d_Model_findField_43
        rw [he, show n - i = 0 by omega]; rfl
      · have b2 : ((i)) < (n) := (ni_le (by omega) (by omega)).2 c2
        refine lv_aload_n hx hb d_Model_findField_14 rfl (lv_at hl 1 rfl) ?_
        refine va_get (D := (dC, dI)) (ci := 12) (v := .ref h_fieldName) (C := R_Model) (T := F_Model) (N := 153) hx hb hT i_Model hown hK hP 0 rfl rfl 21 (by decide) (hT _ fl_Model_42) (fun _ h9 => h9) g_this_fieldName d_Model_findField_15 ?_
        refine lv_aload_n hx hb d_Model_findField_18 rfl (lv_at hl 1 rfl) ?_
        refine va_get (D := (dC, dI)) (ci := 12) (v := .ref h_firstField) (C := R_Model) (T := F_Model) (N := 153) hx hb hT i_Model hown hK hP 0 rfl rfl 18 (by decide) (hT _ fl_Model_36) (fun _ h9 => h9) g_this_firstField d_Model_findField_19 ?_
        refine lv_iload_n hx hb d_Model_findField_22 rfl (lv_at hl 2 rfl) ?_
        refine va_iald hx hb hK hP 3 2 rfl rfl hz d_Model_findField_23 ?_
        refine lv_topi (fun x3 e3 => ?_)
        obtain rfl : x3 = nI a := e3.trans hf
        refine lv_iload hx hb d_Model_findField_24 (lv_at hl 0 rfl) ?_
        refine lv_iadd hx hb d_Model_findField_26 ?_
        refine lv_topi (fun x4 e4 => ?_)
        obtain rfl : x4 = nI (a + (i)) := e4.trans (nI_add a (i))
        refine va_lald hx hb hK hP 2 1 rfl rfl (vp_in_nI (by omega) (by decide)) d_Model_findField_27 ?_
        refine lv_topl (fun x5 e5 => ?_)
        obtain rfl : x5 = f_fieldName (a + (i)) := e5.trans (congrArg f_fieldName (nI_clamp (by omega)))
        refine lv_lload_n hx hb d_Model_findField_28 rfl (lv_at hl 3 rfl) ?_
        refine W.lcmp hx hb d_Model_findField_29 ?_
        refine lv_if_ne (tgt := 36) hx hb d_Model_findField_30 (by decide) (fun c6 => ?_) (fun c6 => ?_)
        · refine lv_iinc (v := (nI (i + 1))) (lv' := [(4, .int (nI (i + 1))), (0, .ref h_this), (1, .int p1), (2, .long p2)]) hx hb d_Model_findField_36 hl (k := 0) rfl (nI_add (i) 1) (by decide) rfl (fun ls hl => ?_)
          refine lv_goto (tgt := 3) hx hb d_Model_findField_39 (by decide) ?_
          have hno : ¬ (fun j => decide (f_fieldName (a + j) = p2)) i = true := fun q => by (simp only [Bool.and_eq_true, decide_eq_true_eq] at q); first | exact absurd q.1 (Int32.not_lt.mpr c6) | exact c6 q.1 | exact c6 ((lg_cmp_eq _ _).mpr q.2) | exact c6 ((lg_cmp_eq _ _).mpr q)
          exact ih (i + 1) (by omega) (he.trans ((ff_no hno (by omega)).trans (congrArg _ (by omega)))) (by omega) ls (lv_sub hl [0, 1, 2, 3] rfl)
        · refine lv_iload hx hb d_Model_findField_33 (lv_at hl 0 rfl) ?_
          refine W.iret (v := (nI (i))) hx hb hr (fun t ht hW => ⟨(nI (i)), rfl, ?_, ht⟩) (fun q h => by cases h) d_Model_findField_35
          (try simp only [lg_cmp_eq] at *); exact (he.trans (ff_yes (by simp_all) (by omega))).symm
  exact loop (n + 1) 0 (by omega) rfl (by omega) ls (lv_sub hl [0, 1, 2, 3] rfl)
set_option maxHeartbeats 1000000 in
set_option maxRecDepth 100000 in
theorem c_Model_findVar (l : Launch) (dC : Nat → ClassId) (dI : Nat → Nat → Nat)  (h_this : Nat) (h_varName : Nat) (fs_this : List Value) (k_varName : ClassId) (f_varName : Nat → Int64) (p1 : Int64) (n : Nat) (len_this : fs_this.length = 153) (g_this_seenVars : fs_this[77]? = some (.int (nI n))) (g_this_varName : fs_this[78]? = some (.ref h_varName)) (hz : n ≤ 20) : Met l y_Model_findVar w_Model_findVar ({ frames := 0, cells := 0, slots := 0, locals := 0 } : Room) (va_Pc [.ref h_this, .long p1] (fun U => va_P (dC, dI) cls_all [oc h_this 12 fs_this, jc h_varName k_varName 20 f_varName] U.heap ∧ va_K (dC, dI) cls_all [(k_varName, .long)] U)) (vp_Si (fun r : Int32 => (r = fd (fun j => decide (f_varName j = p1)) n))) 0 0 (fun _ => False) := by
  refine Met.ofW (cc := b_Model_findVar) (maxL := 4) (ret := (some .int)) (by decide) rfl ?_
  intro p e s m args below meth c s₁ B hml hv
  obtain ⟨rfl, hP, hK⟩ := hv
  have hx := B.exec
  have hb := B.bytes
  have hr := B.returns
  have hT : ∀ w ∈ lw_good, w.before _ s = true := fun w h => atoms_spec (ws := w_Model_findVar) B.pre w (List.mem_cons_of_mem _ h)
  have hown : s.vm.findClass R_Model = some m.cls := findClass_of_methodNamed B.named
  have hlocks := B.notSynchronized
  have hl := lv_entry ([.ref h_this, .long p1]) (n := 4) (Nat.le_of_ble_eq_true rfl)
  rw [lg_entry_eq]
  generalize (lg_sl ([.ref h_this, .long p1]) ++ List.replicate (4 - (lg_sl ([.ref h_this, .long p1])).length) Slot.unset).toArray = ls at hl ⊢
  have hl : lv_has ls 4 [(0, .ref h_this), (1, .long p1)] := hl
  refine lv_aload_n hx hb d_Model_findVar_0 rfl (lv_at hl 0 rfl) ?_
  refine va_get (D := (dC, dI)) (ci := 12) (v := .int (nI n)) (C := R_Model) (T := F_Model) (N := 153) hx hb hT i_Model hown hK hP 0 rfl rfl 77 (by decide) (hT _ fl_Model_563) (fun _ h9 => h9) g_this_seenVars d_Model_findVar_1 ?_
  refine lv_iconst (v := 1) hx hb d_Model_findVar_4 (by decide) ?_
  refine lv_isub hx hb d_Model_findVar_5 ?_
  refine lv_topi (fun x1 e1 => ?_)
  refine lv_istore_n (lv' := [(3, .int x1), (0, .ref h_this), (1, .long p1)]) hx hb d_Model_findVar_6 rfl hl (by decide) rfl (fun ls hl => ?_)
  have loop : ∀ (nn : Nat) (k : Nat) (v : Int32), v + 1 = nI k → k ≤ n → fd (fun j => decide (f_varName j = p1)) n = fd (fun j => decide (f_varName j = p1)) k → k < nn → ∀ (ls : Array Slot), lv_has ls 4 [(3, .int v), (0, .ref h_this), (1, .long p1)] → W p l e (headSpec w_Model_findVar ({ frames := 0, cells := 0, slots := 0, locals := 0 } : Room)).room s m ([.ref h_this, .long p1] : List Value).toArray below meth c s.heap [] 0 0 (MQ below (vp_Si (fun r : Int32 => (r = fd (fun j => decide (f_varName j = p1)) n))) ([.ref h_this, .long p1] : List Value).toArray s 0 0 (fun _ => False)) (F0 m 7 ls []) := by
    clear hl
    intro nn
    induction nn with
    | zero => intro k v hv hk he hn ls hl; exfalso; omega
    | succ nn ih =>
      intro k v hv hk he hn ls hl
      refine lv_iload_n hx hb d_Model_findVar_7 rfl (lv_at hl 0 rfl) ?_
      refine lv_if_lt (tgt := 30) hx hb d_Model_findVar_8 (by decide) (fun c2 => ?_) (fun c2 => ?_)
      · refine lv_iconst (v := (-1)) hx hb d_Model_findVar_30 (by decide) ?_
        refine W.iret (v := (-1)) hx hb hr (fun t ht hW => ⟨(-1), rfl, ?_, ht⟩) (fun q h => by cases h) d_Model_findVar_31
        rw [he, (dn hv (by omega)).1 c2]; rfl
      · obtain ⟨j, rfl, rfl⟩ := (dn hv (by omega)).2 c2
        have hl : lv_has ls 4 [(3, .int (nI (j))), (0, .ref h_this), (1, .long p1)] := hl
        refine lv_aload_n hx hb d_Model_findVar_11 rfl (lv_at hl 1 rfl) ?_
        refine va_get (D := (dC, dI)) (ci := 12) (v := .ref h_varName) (C := R_Model) (T := F_Model) (N := 153) hx hb hT i_Model hown hK hP 0 rfl rfl 78 (by decide) (hT _ fl_Model_180) (fun _ h9 => h9) g_this_varName d_Model_findVar_12 ?_
        refine lv_iload_n hx hb d_Model_findVar_15 rfl (lv_at hl 0 rfl) ?_
        refine va_lald hx hb hK hP 1 0 rfl rfl (vp_in_nI (by omega) (by decide)) d_Model_findVar_16 ?_
        refine lv_topl (fun x3 e3 => ?_)
        obtain rfl : x3 = f_varName (j) := e3.trans (congrArg f_varName (nI_clamp (by omega)))
        refine lv_lload_n hx hb d_Model_findVar_17 rfl (lv_at hl 2 rfl) ?_
        refine W.lcmp hx hb d_Model_findVar_18 ?_
        refine lv_if_ne (tgt := 24) hx hb d_Model_findVar_19 (by decide) (fun c4 => ?_) (fun c4 => ?_)
        · obtain ⟨x5, e5⟩ : ∃ y : Int32, y = (nI (j)) + (-1) := ⟨_, rfl⟩
          refine lv_iinc (v := x5) (lv' := [(3, .int x5), (0, .ref h_this), (1, .long p1)]) hx hb d_Model_findVar_24 hl (k := 0) rfl (by rw [e5]; rfl) (by decide) rfl (fun ls hl => ?_)
          refine lv_goto (tgt := 7) hx hb d_Model_findVar_27 (by decide) ?_
          exact ih j x5 (by rw [e5, Int32.add_assoc, show ((-1 : Int32) + 1) = 0 by decide, Int32.add_zero]) (by omega) (he.trans (if_neg (fun q => c4 ((lg_cmp_eq _ _).mpr (of_decide_eq_true q))))) (by omega) ls (lv_sub hl [0, 1, 2] rfl)
        · refine lv_iload_n hx hb d_Model_findVar_22 rfl (lv_at hl 0 rfl) ?_
          refine W.iret (v := (nI (j))) hx hb hr (fun t ht hW => ⟨(nI (j)), rfl, ?_, ht⟩) (fun q h => by cases h) d_Model_findVar_23
          rw [he]; exact (if_pos (decide_eq_true ((lg_cmp_eq _ _).mp c4))).symm
  exact loop (n + 1) n _ (by rw [e1]; exact Int32.sub_add_cancel _ _) (Nat.le_refl n) rfl (by omega) ls (lv_sub hl [0, 1, 2] rfl)
