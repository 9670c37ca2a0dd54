theorem wr0 {F r : Int32} (hr : r = if (if F = 0 then 1 else F) = 0 then 0 else 1) (c : r = 0) : False := by
  by_cases h : F = 0
  · rw [if_pos h] at hr
    rw [hr] at c
    exact absurd c (by decide)
  · rw [if_neg h, if_neg h] at hr
    rw [hr] at c
    exact absurd c (by decide)
theorem bz {F r : Int32} (hr : r = if F = 0 then 0 else 1) (c : r = 0) : F = 0 := Decidable.byContradiction (fun z => absurd (c.symm.trans (hr.trans (if_neg z))) (by decide))
theorem bnz {F r : Int32} (hr : r = if F = 0 then 0 else 1) (c : ¬ r = 0) : ¬ F = 0 := fun z => c (hr.trans (if_pos z))

set_option maxHeartbeats 1000000 in
set_option maxRecDepth 100000 in
theorem c_Model_needName (l : Launch) (dC : Nat → ClassId) (dI : Nat → Nat → Nat) (sz : Nat) (ad : Nat → Nat) (av : Nat → Nat) (h_this : Nat) (h_text : Nat) (fs_this : List Value) (v_this_word : Int64) (v_this_number : Int32) (v_this_fault : Int32) (v_this_faultPlace : Int32) (k_text : ClassId) (f_text : Nat → Int32) (q : Nat) (tz : Nat) (len_this : fs_this.length = 153) (g_this_place : fs_this[3]? = some (.int (nI q))) (g_this_sort : fs_this[2]? = some (.int (tSort f_text tz q))) (g_this_after : fs_this[4]? = some (.int (nI (tAft f_text tz q)))) (g_this_size : fs_this[1]? = some (.int (nI tz))) (g_this_text : fs_this[0]? = some (.ref h_text)) (g_this_word : fs_this[6]? = some (.long v_this_word)) (g_this_number : fs_this[5]? = some (.int v_this_number)) (g_this_fault : fs_this[7]? = some (.int v_this_fault)) (g_this_faultPlace : fs_this[8]? = some (.int v_this_faultPlace)) (hq : q ≤ tz) (hz : tz ≤ 4000) : Met l y_Model_needName w_Model_needName ({ frames := 7, cells := 0, slots := 0, locals := 158 } : Room) (va_Pc [.ref h_this] (fun U => U.heap.size = sz ∧ va_P (dC, dI) cls_all [oc h_this 12 fs_this, ic h_text k_text 4000 f_text] U.heap ∧ va_K (dC, dI) cls_all [(k_text, .int)] U ∧ va_D (fun _ => True) [oc h_this 12 fs_this, ic h_text k_text 4000 f_text] ∧ env0 ad av (va_A [oc h_this 12 fs_this, ic h_text k_text 4000 f_text] sz) U U.heap)) (va_Ql (fun (z r : Int64) => z = r) (fun r t => ∃ (fs_this' : List Value), (fs_this'.length = 153 ∧ (∀ j : Nat, j ≠ 3 → j ≠ 2 → j ≠ 4 → j ≠ 6 → j ≠ 5 → j ≠ 7 → j ≠ 8 → fs_this'[j]? = fs_this[j]?) ∧ fs_this'[3]? = some (.int (nI (if (tSort f_text tz q = 1 ∧ v_this_fault = 0) then nq f_text tz q else q))) ∧ fs_this'[2]? = some (.int (tSort f_text tz (if (tSort f_text tz q = 1 ∧ v_this_fault = 0) then nq f_text tz q else q))) ∧ fs_this'[4]? = some (.int (nI (tAft f_text tz (if (tSort f_text tz q = 1 ∧ v_this_fault = 0) then nq f_text tz q else q)))) ∧ fs_this'[6]? = some (.long (if (tSort f_text tz q = 1 ∧ v_this_fault = 0) then tWord f_text tz (nq f_text tz q) v_this_word else v_this_word)) ∧ fs_this'[5]? = some (.int (if (tSort f_text tz q = 1 ∧ v_this_fault = 0) then tNum f_text tz (nq f_text tz q) v_this_number else v_this_number)) ∧ fs_this'[7]? = some (.int (if tSort f_text tz q = 1 then v_this_fault else if v_this_fault = 0 then 1 else v_this_fault)) ∧ fs_this'[8]? = some (.int (if tSort f_text tz q = 1 then v_this_faultPlace else if v_this_fault = 0 then nI q else v_this_faultPlace)) ∧ (r = v_this_word)) ∧ va_P (dC, dI) cls_all [oc h_this 12 fs_this', ic h_text k_text 4000 f_text] t.heap ∧ va_K (dC, dI) cls_all [(k_text, .int)] t ∧ va_D (va_A [oc h_this 12 fs_this, ic h_text k_text 4000 f_text] sz) [oc h_this 12 fs_this', ic h_text k_text 4000 f_text]) (va_A [oc h_this 12 fs_this, ic h_text k_text 4000 f_text] sz)) 0 0 (va_A [oc h_this 12 fs_this, ic h_text k_text 4000 f_text] sz) := by
  refine Met.ofW (cc := b_Model_needName) (maxL := 3) (ret := (some .long)) (by decide) rfl ?_
  intro p e s m args below meth c s₁ B hml hv
  obtain ⟨rfl, hsz, hP, hK, hD0, henv⟩ := hv
  have hx := B.exec
  have hb := B.bytes
  have hr := B.returns
  have hT : ∀ w ∈ lw_good, w.before _ s = true := fun w h => atoms_spec (ws := w_Model_needName) B.pre w (List.mem_cons_of_mem _ h)
  have hown : s.vm.findClass R_Model = some m.cls := findClass_of_methodNamed B.named
  have hlocks := B.notSynchronized
  subst hsz
  have hD := hD0.self (sz := s.heap.size)
  generalize hAe : va_A [oc h_this 12 fs_this, ic h_text k_text 4000 f_text] s.heap.size = A at hD henv ⊢
  have hA : ∀ q : Nat, s.heap.size ≤ q → A q := fun q h => by rw [← hAe]; exact Or.inr h
  have hS : va_S A s.heap s.heap [] := va_S.rf
  have hP : va_P (dC, dI) cls_all [oc h_this 12 fs_this, ic h_text k_text 4000 f_text] s.heap := hP
  have hl := lv_entry ([.ref h_this]) (n := 3) (Nat.le_of_ble_eq_true rfl)
  rw [lg_entry_eq]
  generalize (lg_sl ([.ref h_this]) ++ List.replicate (3 - (lg_sl ([.ref h_this])).length) Slot.unset).toArray = ls at hl ⊢
  have hl : lv_has ls 3 [(0, .ref h_this)] := hl
  refine lv_aload_n hx hb d_Model_needName_0 rfl (lv_at hl 0 rfl) ?_
  refine va_get (D := (dC, dI)) (ci := 12) (v := .int (tSort f_text tz q)) (C := R_Model) (T := F_Model) (N := 153) hx hb hT i_Model hown hK hP 0 rfl rfl 2 (by decide) (hT _ fl_Model_352) (fun _ h9 => h9) g_this_sort d_Model_needName_1 ?_
  refine lv_iconst (v := 1) hx hb d_Model_needName_4 (by decide) ?_
  refine lv_icmp_eq (tgt := 12) hx hb d_Model_needName_5 (by decide) (fun c1 => ?_) (fun c1 => ?_)
  · have hS1 : tSort f_text tz q = 1 := c1
    refine lv_aload_n hx hb d_Model_needName_12 rfl (lv_at hl 0 rfl) ?_
    refine va_get (D := (dC, dI)) (ci := 12) (v := .long v_this_word) (C := R_Model) (T := F_Model) (N := 153) hx hb hT i_Model hown hK hP 0 rfl rfl 6 (by decide) (hT _ fl_Model_365) (fun _ h9 => h9) g_this_word d_Model_needName_13 ?_
    refine lv_lstore_n (lv' := [(1, .long v_this_word), (0, .ref h_this)]) hx hb d_Model_needName_16 rfl hl (by decide) rfl (fun ls hl => ?_)
    refine lv_aload_n hx hb d_Model_needName_17 rfl (lv_at hl 1 rfl) ?_
    have hPc := hP.sub (ws' := [oc h_this 12 fs_this]) [0] rfl
    have hKc := hK.sub (tys' := []) [] rfl
    refine vp_callSi (va_Run.run (va_runV (As := []) (rest := []) ⟨hx, hb, hml, hown, hT⟩ (c_Model_bad l dC dI (h_this := h_this) (fs_this := fs_this) (v_this_fault := v_this_fault) (len_this := (by first | exact len_this | (simp only [List.length_set]; exact len_this))) (g_this_fault := g_this_fault)) (cwV 0 hT (gV ml_Model_385 im_Model_bad se_Model_bad ini_Model co_Model_bad) rfl rfl rfl (by decide +kernel) ⟨Nat.le_of_ble_eq_true rfl, Nat.le_of_ble_eq_true rfl⟩) ⟨fbS, va_recv hKc hPc (ci := 12) (q0 := 0) rfl rfl, fun U hU hW => ⟨rfl, by rw [hU]; exact hPc, va_K.moved hW.alike hKc⟩⟩ rfl rfl hl.1 rfl (lv_room (Nat.le_of_ble_eq_true rfl)) d_Model_needName_18 ⟨Nat.le_of_ble_eq_true rfl, Nat.le_of_ble_eq_true rfl⟩)) (fun r2 hr2 => ?_)
    refine lv_if_ne (tgt := 28) hx hb d_Model_needName_21 (by decide) (fun c3 => ?_) (fun c3 => ?_)
    · have hTk : ¬ (tSort f_text tz q = 1 ∧ v_this_fault = 0) := fun z => bnz hr2 c3 z.2
      refine lv_lload_n hx hb d_Model_needName_28 rfl (lv_at hl 0 rfl) ?_
      have hP9 := hP.sub (ws' := [oc h_this 12 fs_this, ic h_text k_text 4000 f_text]) [0, 1] rfl
      have hD9 := hD.sub (ws' := [oc h_this 12 fs_this, ic h_text k_text 4000 f_text]) [0, 1] (by decide) rfl
      have hK9 := hK.sub (tys' := [(k_text, .int)]) [0] rfl
      have hv4 : fs_this[3]? = some (.int (nI q)) := g_this_place
      have hv5 : fs_this[2]? = some (.int (tSort f_text tz q)) := g_this_sort
      have hv6 : fs_this[4]? = some (.int (nI (tAft f_text tz q))) := g_this_after
      have hv7 : fs_this[6]? = some (.long v_this_word) := g_this_word
      have hv8 : fs_this[5]? = some (.int v_this_number) := g_this_number
      have hv9 : fs_this[7]? = some (.int v_this_fault) := g_this_fault
      have hv10 : fs_this[8]? = some (.int v_this_faultPlace) := g_this_faultPlace
      exact W.lret (v := v_this_word) hx hb hr (fun t ht hW => ⟨⟨v_this_word, v_this_word, rfl, rfl, fs_this, ⟨(by first | exact len_this | (simp only [List.length_set]; exact len_this)), (fun j n3 n2 n4 n6 n5 n7 n8 => rfl), (by first | exact hv4 | (rw [hv4]; refine congrArg some (congrArg _ ?_); first | rfl | (rw [if_neg hTk]; done) | (rw [if_neg hTk]; rfl) | (rw [if_pos hS1]; done) | (rw [if_pos hS1]; rfl))), (by first | exact hv5 | (rw [hv5]; refine congrArg some (congrArg _ ?_); first | rfl | (rw [if_neg hTk]; done) | (rw [if_neg hTk]; rfl) | (rw [if_pos hS1]; done) | (rw [if_pos hS1]; rfl))), (by first | exact hv6 | (rw [hv6]; refine congrArg some (congrArg _ ?_); first | rfl | (rw [if_neg hTk]; done) | (rw [if_neg hTk]; rfl) | (rw [if_pos hS1]; done) | (rw [if_pos hS1]; rfl))), (by first | exact hv7 | (rw [hv7]; refine congrArg some (congrArg _ ?_); first | rfl | (rw [if_neg hTk]; done) | (rw [if_neg hTk]; rfl) | (rw [if_pos hS1]; done) | (rw [if_pos hS1]; rfl))), (by first | exact hv8 | (rw [hv8]; refine congrArg some (congrArg _ ?_); first | rfl | (rw [if_neg hTk]; done) | (rw [if_neg hTk]; rfl) | (rw [if_pos hS1]; done) | (rw [if_pos hS1]; rfl))), (by first | exact hv9 | (rw [hv9]; refine congrArg some (congrArg _ ?_); first | rfl | (rw [if_neg hTk]; done) | (rw [if_neg hTk]; rfl) | (rw [if_pos hS1]; done) | (rw [if_pos hS1]; rfl))), (by first | exact hv10 | (rw [hv10]; refine congrArg some (congrArg _ ?_); first | rfl | (rw [if_neg hTk]; done) | (rw [if_neg hTk]; rfl) | (rw [if_pos hS1]; done) | (rw [if_pos hS1]; rfl))), (by first | rfl | (rw [if_neg hTk]; done) | (rw [if_neg hTk]; rfl) | (rw [if_pos hS1]; done) | (rw [if_pos hS1]; rfl))⟩, by rw [ht]; exact hP9, va_K.moved hW.alike hK9, hD9⟩, hS.F ht⟩) hS.2.2 d_Model_needName_29
    · have hTk : (tSort f_text tz q = 1 ∧ v_this_fault = 0) := ⟨hS1, bz hr2 c3⟩
      refine lv_aload_n hx hb d_Model_needName_24 rfl (lv_at hl 1 rfl) ?_
      have hPc := hP.sub (ws' := [oc h_this 12 fs_this, ic h_text k_text 4000 f_text]) [0, 1] rfl
      have hKc := hK.sub (tys' := [(k_text, .int)]) [0] rfl
      have hDc := hD.sub (ws' := [oc h_this 12 fs_this, ic h_text k_text 4000 f_text]) [0, 1] (by decide) rfl
      have hFc := va_free (wc := [oc h_this 12 fs_this, ic h_text k_text 4000 f_text]) hD hS hA [0, 1] rfl
      refine va_callv (va_runV (As := []) (rest := []) ⟨hx, hb, hml, hown, hT⟩ (c_Model_advance l dC dI (sz := s.heap.size) (ad := ad) (av := av) (h_this := h_this) (h_text := h_text) (fs_this := fs_this) (v_this_word := v_this_word) (v_this_number := v_this_number) (k_text := k_text) (f_text := f_text) (a := (tAft f_text tz q)) (tz := tz) (len_this := (by first | exact len_this | (simp only [List.length_set]; exact len_this))) (g_this_after := g_this_after) (g_this_size := g_this_size) (g_this_text := g_this_text) (g_this_word := g_this_word) (g_this_number := g_this_number) (ha := (tAft_le hq)) (hz := hz)) (cwV 0 hT (gV ml_Model_396 im_Model_advance se_Model_advance ini_Model co_Model_advance) rfl rfl rfl (by decide +kernel) ⟨Nat.le_of_ble_eq_true rfl, Nat.le_of_ble_eq_true rfl⟩) ⟨fbQe, va_recv hKc hPc (ci := 12) (q0 := 0) rfl rfl, fun U hU hW => ⟨rfl, by rw [hU], by rw [hU]; exact hPc, va_K.moved hW.alike hKc, hDc.weaken (fun _ _ _ _ => trivial), env0.hand henv hS hU hW hFc⟩⟩ rfl rfl hl.1 rfl (lv_room (Nat.le_of_ble_eq_true rfl)) d_Model_needName_25 ⟨Nat.le_of_ble_eq_true rfl, Nat.le_of_ble_eq_true rfl⟩) hS (fun q _ h => hFc q h) hFc (fun u t H1 locs ht hvm hw hB hz1 hk1 hS => ?_)
      obtain ⟨fs_this_11, ⟨hw11_0, hw11_1, hw11_2, hw11_3, hw11_4, hw11_5, hw11_6⟩, hP1, hK1, hD1⟩ := hB
      rw [ht] at hP1
      have hK1 := va_K.moved hvm.symm hK1
      obtain ⟨hP, hD⟩ := va_join (wr := []) (w1 := [oc h_this 12 fs_this_11, ic h_text k_text 4000 f_text]) hP hD [0, 1] [] rfl rfl (by decide) (by decide) hk1 hFc hP1 hD1
      generalize H1 = H at hP hS ⊢
      have hP : va_P (dC, dI) cls_all [oc h_this 12 fs_this_11, ic h_text k_text 4000 f_text] H := hP
      have hD : va_D A [oc h_this 12 fs_this_11, ic h_text k_text 4000 f_text] := hD
      refine lv_lload_n hx hb d_Model_needName_28 rfl (lv_at hl 0 rfl) ?_
      have hP9 := hP.sub (ws' := [oc h_this 12 fs_this_11, ic h_text k_text 4000 f_text]) [0, 1] rfl
      have hD9 := hD.sub (ws' := [oc h_this 12 fs_this_11, ic h_text k_text 4000 f_text]) [0, 1] (by decide) rfl
      have hK9 := hK.sub (tys' := [(k_text, .int)]) [0] rfl
      have hv12 : fs_this_11[3]? = some (.int (nI ((tAft f_text tz q) + bs f_text (tAft f_text tz q) (tz - (tAft f_text tz q))))) := hw11_2
      have hv13 : fs_this_11[2]? = some (.int (tSort f_text tz ((tAft f_text tz q) + bs f_text (tAft f_text tz q) (tz - (tAft f_text tz q))))) := hw11_3
      have hv14 : fs_this_11[4]? = some (.int (nI (tAft f_text tz ((tAft f_text tz q) + bs f_text (tAft f_text tz q) (tz - (tAft f_text tz q)))))) := hw11_4
      have hv15 : fs_this_11[6]? = some (.long (tWord f_text tz ((tAft f_text tz q) + bs f_text (tAft f_text tz q) (tz - (tAft f_text tz q))) v_this_word)) := hw11_5
      have hv16 : fs_this_11[5]? = some (.int (tNum f_text tz ((tAft f_text tz q) + bs f_text (tAft f_text tz q) (tz - (tAft f_text tz q))) v_this_number)) := hw11_6
      have hv17 : fs_this_11[7]? = some (.int v_this_fault) := ((hw11_1 7 (by decide) (by decide) (by decide) (by decide) (by decide)).trans g_this_fault)
      have hv18 : fs_this_11[8]? = some (.int v_this_faultPlace) := ((hw11_1 8 (by decide) (by decide) (by decide) (by decide) (by decide)).trans g_this_faultPlace)
      exact W.lret (v := v_this_word) hx hb hr (fun t ht hW => ⟨⟨v_this_word, v_this_word, rfl, rfl, fs_this_11, ⟨(by first | exact hw11_0 | (simp only [List.length_set]; exact hw11_0)), (fun j n3 n2 n4 n6 n5 n7 n8 => ((hw11_1 j n3 n2 n4 n6 n5).trans rfl)), (by first | exact hv12 | (rw [hv12]; refine congrArg some (congrArg _ ?_); first | rfl | (rw [if_pos hTk]; done) | (rw [if_pos hTk]; rfl) | (rw [if_pos hS1]; done) | (rw [if_pos hS1]; rfl))), (by first | exact hv13 | (rw [hv13]; refine congrArg some (congrArg _ ?_); first | rfl | (rw [if_pos hTk]; done) | (rw [if_pos hTk]; rfl) | (rw [if_pos hS1]; done) | (rw [if_pos hS1]; rfl))), (by first | exact hv14 | (rw [hv14]; refine congrArg some (congrArg _ ?_); first | rfl | (rw [if_pos hTk]; done) | (rw [if_pos hTk]; rfl) | (rw [if_pos hS1]; done) | (rw [if_pos hS1]; rfl))), (by first | exact hv15 | (rw [hv15]; refine congrArg some (congrArg _ ?_); first | rfl | (rw [if_pos hTk]; done) | (rw [if_pos hTk]; rfl) | (rw [if_pos hS1]; done) | (rw [if_pos hS1]; rfl))), (by first | exact hv16 | (rw [hv16]; refine congrArg some (congrArg _ ?_); first | rfl | (rw [if_pos hTk]; done) | (rw [if_pos hTk]; rfl) | (rw [if_pos hS1]; done) | (rw [if_pos hS1]; rfl))), (by first | exact hv17 | (rw [hv17]; refine congrArg some (congrArg _ ?_); first | rfl | (rw [if_pos hTk]; done) | (rw [if_pos hTk]; rfl) | (rw [if_pos hS1]; done) | (rw [if_pos hS1]; rfl))), (by first | exact hv18 | (rw [hv18]; refine congrArg some (congrArg _ ?_); first | rfl | (rw [if_pos hTk]; done) | (rw [if_pos hTk]; rfl) | (rw [if_pos hS1]; done) | (rw [if_pos hS1]; rfl))), (by first | rfl | (rw [if_pos hTk]; done) | (rw [if_pos hTk]; rfl) | (rw [if_pos hS1]; done) | (rw [if_pos hS1]; rfl))⟩, by rw [ht]; exact hP9, va_K.moved hW.alike hK9, hD9⟩, hS.F ht⟩) hS.2.2 d_Model_needName_29
  · have hS1 : ¬ tSort f_text tz q = 1 := c1
    refine lv_aload_n hx hb d_Model_needName_8 rfl (lv_at hl 0 rfl) ?_
    have hPc := hP.sub (ws' := [oc h_this 12 fs_this]) [0] rfl
    have hKc := hK.sub (tys' := []) [] rfl
    have hDc := hD.sub (ws' := [oc h_this 12 fs_this]) [0] (by decide) rfl
    have hFc := va_free (wc := [oc h_this 12 fs_this]) hD hS hA [0] rfl
    refine va_callv (va_runV (As := []) (rest := []) ⟨hx, hb, hml, hown, hT⟩ (c_Model_wrong l dC dI (sz := s.heap.size) (h_this := h_this) (fs_this := fs_this) (v_this_fault := v_this_fault) (v_this_faultPlace := v_this_faultPlace) (v_this_place := (nI q)) (len_this := (by first | exact len_this | (simp only [List.length_set]; exact len_this))) (g_this_fault := g_this_fault) (g_this_faultPlace := g_this_faultPlace) (g_this_place := g_this_place)) (cwV 0 hT (gV ml_Model_406 im_Model_wrong se_Model_wrong ini_Model co_Model_wrong) rfl rfl rfl (by decide +kernel) ⟨Nat.le_of_ble_eq_true rfl, Nat.le_of_ble_eq_true rfl⟩) ⟨fbQ, va_recv hKc hPc (ci := 12) (q0 := 0) rfl rfl, fun U hU hW => ⟨rfl, by rw [hU], by rw [hU]; exact hPc, va_K.moved hW.alike hKc, hDc.weaken (fun _ _ _ _ => trivial)⟩⟩ rfl rfl hl.1 rfl (lv_room (Nat.le_of_ble_eq_true rfl)) d_Model_needName_9 ⟨Nat.le_of_ble_eq_true rfl, Nat.le_of_ble_eq_true rfl⟩) hS (fun q _ h => hFc q h) hFc (fun u t H1 locs ht hvm hw hB hz1 hk1 hS => ?_)
    obtain ⟨fs_this_19, ⟨hw19_0, hw19_1, hw19_2, hw19_3⟩, hP1, hK1, hD1⟩ := hB
    rw [ht] at hP1
    have hK1 := va_K.moved hvm.symm hK1
    obtain ⟨hP, hD⟩ := va_join (wr := [ic h_text k_text 4000 f_text]) (w1 := [oc h_this 12 fs_this_19]) hP hD [0] [1] rfl rfl (by decide) (by decide) hk1 hFc hP1 hD1
    generalize H1 = H at hP hS ⊢
    have hP : va_P (dC, dI) cls_all [ic h_text k_text 4000 f_text, oc h_this 12 fs_this_19] H := hP
    have hD : va_D A [ic h_text k_text 4000 f_text, oc h_this 12 fs_this_19] := hD
    refine lv_aload_n hx hb d_Model_needName_12 rfl (lv_at hl 0 rfl) ?_
    refine va_get (D := (dC, dI)) (ci := 12) (v := .long v_this_word) (C := R_Model) (T := F_Model) (N := 153) hx hb hT i_Model hown hK hP 1 rfl rfl 6 (by decide) (hT _ fl_Model_365) (fun _ h9 => h9) ((hw19_1 6 (by decide) (by decide)).trans g_this_word) d_Model_needName_13 ?_
    refine lv_lstore_n (lv' := [(1, .long v_this_word), (0, .ref h_this)]) hx hb d_Model_needName_16 rfl hl (by decide) rfl (fun ls hl => ?_)
    refine lv_aload_n hx hb d_Model_needName_17 rfl (lv_at hl 1 rfl) ?_
    have hPc := hP.sub (ws' := [oc h_this 12 fs_this_19]) [1] rfl
    have hKc := hK.sub (tys' := []) [] rfl
    refine vp_callSi (va_Run.run (va_runV (As := []) (rest := []) ⟨hx, hb, hml, hown, hT⟩ (c_Model_bad l dC dI (h_this := h_this) (fs_this := fs_this_19) (v_this_fault := (if v_this_fault = 0 then 1 else v_this_fault)) (len_this := (by first | exact hw19_0 | (simp only [List.length_set]; exact hw19_0))) (g_this_fault := hw19_2)) (cwV 0 hT (gV ml_Model_385 im_Model_bad se_Model_bad ini_Model co_Model_bad) rfl rfl rfl (by decide +kernel) ⟨Nat.le_of_ble_eq_true rfl, Nat.le_of_ble_eq_true rfl⟩) ⟨fbS, va_recv hKc hPc (ci := 12) (q0 := 0) rfl rfl, fun U hU hW => ⟨rfl, by rw [hU]; exact hPc, va_K.moved hW.alike hKc⟩⟩ rfl rfl hl.1 rfl (lv_room (Nat.le_of_ble_eq_true rfl)) d_Model_needName_18 ⟨Nat.le_of_ble_eq_true rfl, Nat.le_of_ble_eq_true rfl⟩)) (fun r20 hr20 => ?_)
    refine lv_if_ne (tgt := 28) hx hb d_Model_needName_21 (by decide) (fun c21 => ?_) (fun c21 => ?_)
    · have hTk : ¬ (tSort f_text tz q = 1 ∧ v_this_fault = 0) := fun z => hS1 z.1
      refine lv_lload_n hx hb d_Model_needName_28 rfl (lv_at hl 0 rfl) ?_
      have hP9 := hP.sub (ws' := [oc h_this 12 fs_this_19, ic h_text k_text 4000 f_text]) [1, 0] rfl
      have hD9 := hD.sub (ws' := [oc h_this 12 fs_this_19, ic h_text k_text 4000 f_text]) [1, 0] (by decide) rfl
      have hK9 := hK.sub (tys' := [(k_text, .int)]) [0] rfl
      have hv22 : fs_this_19[3]? = some (.int (nI q)) := ((hw19_1 3 (by decide) (by decide)).trans g_this_place)
      have hv23 : fs_this_19[2]? = some (.int (tSort f_text tz q)) := ((hw19_1 2 (by decide) (by decide)).trans g_this_sort)
      have hv24 : fs_this_19[4]? = some (.int (nI (tAft f_text tz q))) := ((hw19_1 4 (by decide) (by decide)).trans g_this_after)
      have hv25 : fs_this_19[6]? = some (.long v_this_word) := ((hw19_1 6 (by decide) (by decide)).trans g_this_word)
      have hv26 : fs_this_19[5]? = some (.int v_this_number) := ((hw19_1 5 (by decide) (by decide)).trans g_this_number)
      have hv27 : fs_this_19[7]? = some (.int (if v_this_fault = 0 then 1 else v_this_fault)) := hw19_2
      have hv28 : fs_this_19[8]? = some (.int (if v_this_fault = 0 then (nI q) else v_this_faultPlace)) := hw19_3
      exact W.lret (v := v_this_word) hx hb hr (fun t ht hW => ⟨⟨v_this_word, v_this_word, rfl, rfl, fs_this_19, ⟨(by first | exact hw19_0 | (simp only [List.length_set]; exact hw19_0)), (fun j n3 n2 n4 n6 n5 n7 n8 => ((hw19_1 j n7 n8).trans rfl)), (by first | exact hv22 | (rw [hv22]; refine congrArg some (congrArg _ ?_); first | rfl | (rw [if_neg hTk]; done) | (rw [if_neg hTk]; rfl) | (rw [if_neg hS1]; done) | (rw [if_neg hS1]; rfl))), (by first | exact hv23 | (rw [hv23]; refine congrArg some (congrArg _ ?_); first | rfl | (rw [if_neg hTk]; done) | (rw [if_neg hTk]; rfl) | (rw [if_neg hS1]; done) | (rw [if_neg hS1]; rfl))), (by first | exact hv24 | (rw [hv24]; refine congrArg some (congrArg _ ?_); first | rfl | (rw [if_neg hTk]; done) | (rw [if_neg hTk]; rfl) | (rw [if_neg hS1]; done) | (rw [if_neg hS1]; rfl))), (by first | exact hv25 | (rw [hv25]; refine congrArg some (congrArg _ ?_); first | rfl | (rw [if_neg hTk]; done) | (rw [if_neg hTk]; rfl) | (rw [if_neg hS1]; done) | (rw [if_neg hS1]; rfl))), (by first | exact hv26 | (rw [hv26]; refine congrArg some (congrArg _ ?_); first | rfl | (rw [if_neg hTk]; done) | (rw [if_neg hTk]; rfl) | (rw [if_neg hS1]; done) | (rw [if_neg hS1]; rfl))), (by first | exact hv27 | (rw [hv27]; refine congrArg some (congrArg _ ?_); first | rfl | (rw [if_neg hTk]; done) | (rw [if_neg hTk]; rfl) | (rw [if_neg hS1]; done) | (rw [if_neg hS1]; rfl))), (by first | exact hv28 | (rw [hv28]; refine congrArg some (congrArg _ ?_); first | rfl | (rw [if_neg hTk]; done) | (rw [if_neg hTk]; rfl) | (rw [if_neg hS1]; done) | (rw [if_neg hS1]; rfl))), (by first | rfl | (rw [if_neg hTk]; done) | (rw [if_neg hTk]; rfl) | (rw [if_neg hS1]; done) | (rw [if_neg hS1]; rfl))⟩, by rw [ht]; exact hP9, va_K.moved hW.alike hK9, hD9⟩, hS.F ht⟩) hS.2.2 d_Model_needName_29
    · exact absurd (wr0 hr20 c21) id
set_option maxHeartbeats 1000000 in
set_option maxRecDepth 100000 in
theorem c_Model_needRegion (l : Launch) (dC : Nat → ClassId) (dI : Nat → Nat → Nat) (sz : Nat) (ad : Nat → Nat) (av : Nat → Nat) (h_this : Nat) (h_text : Nat) (h_useName : Nat) (h_usePlace : Nat) (fs_this : List Value) (v_this_word : Int64) (v_this_number : Int32) (v_this_fault : Int32) (v_this_faultPlace : Int32) (k_text : ClassId) (f_text : Nat → Int32) (k_useName : ClassId) (f_useName : Nat → Int64) (k_usePlace : ClassId) (f_usePlace : Nat → Int32) (q : Nat) (tz : Nat) (un : Nat) (len_this : fs_this.length = 153) (g_this_place : fs_this[3]? = some (.int (nI q))) (g_this_sort : fs_this[2]? = some (.int (tSort f_text tz q))) (g_this_after : fs_this[4]? = some (.int (nI (tAft f_text tz q)))) (g_this_size : fs_this[1]? = some (.int (nI tz))) (g_this_text : fs_this[0]? = some (.ref h_text)) (g_this_word : fs_this[6]? = some (.long v_this_word)) (g_this_number : fs_this[5]? = some (.int v_this_number)) (g_this_fault : fs_this[7]? = some (.int v_this_fault)) (g_this_faultPlace : fs_this[8]? = some (.int v_this_faultPlace)) (g_this_uses : fs_this[45]? = some (.int (nI un))) (g_this_useName : fs_this[46]? = some (.ref h_useName)) (g_this_usePlace : fs_this[47]? = some (.ref h_usePlace)) (hq : q ≤ tz) (hz : tz ≤ 4000) (hu : un < 4000) : Met l y_Model_needRegion w_Model_needRegion ({ frames := 7, cells := 0, slots := 0, locals := 158 } : Room) (va_Pc [.ref h_this] (fun U => U.heap.size = sz ∧ va_P (dC, dI) cls_all [oc h_this 12 fs_this, ic h_text k_text 4000 f_text, jc h_useName k_useName 4000 f_useName, ic h_usePlace k_usePlace 4000 f_usePlace] U.heap ∧ va_K (dC, dI) cls_all [(k_text, .int), (k_useName, .long), (k_usePlace, .int)] U ∧ va_D (fun _ => True) [oc h_this 12 fs_this, ic h_text k_text 4000 f_text, jc h_useName k_useName 4000 f_useName, ic h_usePlace k_usePlace 4000 f_usePlace] ∧ env0 ad av (va_A [oc h_this 12 fs_this, ic h_text k_text 4000 f_text, jc h_useName k_useName 4000 f_useName, ic h_usePlace k_usePlace 4000 f_usePlace] sz) U U.heap)) (va_Qi (fun (z r : Int32) => z = r) (fun r t => ∃ (fs_this' : List Value) (f_useName' : Nat → Int64) (f_usePlace' : Nat → Int32), (fs_this'.length = 153 ∧ (∀ j : Nat, j ≠ 3 → j ≠ 2 → j ≠ 4 → j ≠ 6 → j ≠ 5 → j ≠ 7 → j ≠ 8 → j ≠ 45 → fs_this'[j]? = fs_this[j]?) ∧ fs_this'[3]? = some (.int (nI (if (tSort f_text tz q = 4 ∧ v_this_fault = 0) then nq f_text tz q else q))) ∧ fs_this'[2]? = some (.int (tSort f_text tz (if (tSort f_text tz q = 4 ∧ v_this_fault = 0) then nq f_text tz q else q))) ∧ fs_this'[4]? = some (.int (nI (tAft f_text tz (if (tSort f_text tz q = 4 ∧ v_this_fault = 0) then nq f_text tz q else q)))) ∧ fs_this'[6]? = some (.long (if (tSort f_text tz q = 4 ∧ v_this_fault = 0) then tWord f_text tz (nq f_text tz q) v_this_word else v_this_word)) ∧ fs_this'[5]? = some (.int (if (tSort f_text tz q = 4 ∧ v_this_fault = 0) then tNum f_text tz (nq f_text tz q) v_this_number else v_this_number)) ∧ fs_this'[7]? = some (.int (if tSort f_text tz q = 4 then v_this_fault else if v_this_fault = 0 then 1 else v_this_fault)) ∧ fs_this'[8]? = some (.int (if tSort f_text tz q = 4 then v_this_faultPlace else if v_this_fault = 0 then nI q else v_this_faultPlace)) ∧ fs_this'[45]? = some (.int (if (tSort f_text tz q = 4 ∧ v_this_fault = 0) then nI (un + 1) else nI un)) ∧ (f_useName' = if (tSort f_text tz q = 4 ∧ v_this_fault = 0) then vp_updL f_useName un v_this_word else f_useName) ∧ (f_usePlace' = if (tSort f_text tz q = 4 ∧ v_this_fault = 0) then upd f_usePlace un (nI q) else f_usePlace) ∧ (r = if (tSort f_text tz q = 4 ∧ v_this_fault = 0) then nI un else 0)) ∧ va_P (dC, dI) cls_all [oc h_this 12 fs_this', ic h_text k_text 4000 f_text, jc h_useName k_useName 4000 f_useName', ic h_usePlace k_usePlace 4000 f_usePlace'] t.heap ∧ va_K (dC, dI) cls_all [(k_text, .int), (k_useName, .long), (k_usePlace, .int)] t ∧ va_D (va_A [oc h_this 12 fs_this, ic h_text k_text 4000 f_text, jc h_useName k_useName 4000 f_useName, ic h_usePlace k_usePlace 4000 f_usePlace] sz) [oc h_this 12 fs_this', ic h_text k_text 4000 f_text, jc h_useName k_useName 4000 f_useName', ic h_usePlace k_usePlace 4000 f_usePlace']) (va_A [oc h_this 12 fs_this, ic h_text k_text 4000 f_text, jc h_useName k_useName 4000 f_useName, ic h_usePlace k_usePlace 4000 f_usePlace] sz)) 0 0 (va_A [oc h_this 12 fs_this, ic h_text k_text 4000 f_text, jc h_useName k_useName 4000 f_useName, ic h_usePlace k_usePlace 4000 f_usePlace] sz) := by
  refine Met.ofW (cc := b_Model_needRegion) (maxL := 1) (ret := (some .int)) (by decide) rfl ?_
  intro p e s m args below meth c s₁ B hml hv
  obtain ⟨rfl, hsz, hP, hK, hD0, henv⟩ := hv
  have hx := B.exec
  have hb := B.bytes
  have hr := B.returns
  have hT : ∀ w ∈ lw_good, w.before _ s = true := fun w h => atoms_spec (ws := w_Model_needRegion) B.pre w (List.mem_cons_of_mem _ h)
  have hown : s.vm.findClass R_Model = some m.cls := findClass_of_methodNamed B.named
  have hlocks := B.notSynchronized
  subst hsz
  have hD := hD0.self (sz := s.heap.size)
  generalize hAe : va_A [oc h_this 12 fs_this, ic h_text k_text 4000 f_text, jc h_useName k_useName 4000 f_useName, ic h_usePlace k_usePlace 4000 f_usePlace] s.heap.size = A at hD henv ⊢
  have hA : ∀ q : Nat, s.heap.size ≤ q → A q := fun q h => by rw [← hAe]; exact Or.inr h
  have hS : va_S A s.heap s.heap [] := va_S.rf
  have hP : va_P (dC, dI) cls_all [oc h_this 12 fs_this, ic h_text k_text 4000 f_text, jc h_useName k_useName 4000 f_useName, ic h_usePlace k_usePlace 4000 f_usePlace] s.heap := hP
  have hl := lv_entry ([.ref h_this]) (n := 1) (Nat.le_of_ble_eq_true rfl)
  rw [lg_entry_eq]
  generalize (lg_sl ([.ref h_this]) ++ List.replicate (1 - (lg_sl ([.ref h_this])).length) Slot.unset).toArray = ls at hl ⊢
  have hl : lv_has ls 1 [(0, .ref h_this)] := hl
  refine lv_aload_n hx hb d_Model_needRegion_0 rfl (lv_at hl 0 rfl) ?_
  refine va_get (D := (dC, dI)) (ci := 12) (v := .int (tSort f_text tz q)) (C := R_Model) (T := F_Model) (N := 153) hx hb hT i_Model hown hK hP 0 rfl rfl 2 (by decide) (hT _ fl_Model_352) (fun _ h9 => h9) g_this_sort d_Model_needRegion_1 ?_
  refine lv_iconst (v := 4) hx hb d_Model_needRegion_4 (by decide) ?_
  refine lv_icmp_eq (tgt := 12) hx hb d_Model_needRegion_5 (by decide) (fun c1 => ?_) (fun c1 => ?_)
  · have hS1 : tSort f_text tz q = 4 := c1
    refine lv_aload_n hx hb d_Model_needRegion_12 rfl (lv_at hl 0 rfl) ?_
    have hPc := hP.sub (ws' := [oc h_this 12 fs_this]) [0] rfl
    have hKc := hK.sub (tys' := []) [] rfl
    refine vp_callSi (va_Run.run (va_runV (As := []) (rest := []) ⟨hx, hb, hml, hown, hT⟩ (c_Model_bad l dC dI (h_this := h_this) (fs_this := fs_this) (v_this_fault := v_this_fault) (len_this := (by first | exact len_this | (simp only [List.length_set]; exact len_this))) (g_this_fault := g_this_fault)) (cwV 0 hT (gV ml_Model_385 im_Model_bad se_Model_bad ini_Model co_Model_bad) rfl rfl rfl (by decide +kernel) ⟨Nat.le_of_ble_eq_true rfl, Nat.le_of_ble_eq_true rfl⟩) ⟨fbS, va_recv hKc hPc (ci := 12) (q0 := 0) rfl rfl, fun U hU hW => ⟨rfl, by rw [hU]; exact hPc, va_K.moved hW.alike hKc⟩⟩ rfl rfl hl.1 rfl (lv_room (Nat.le_of_ble_eq_true rfl)) d_Model_needRegion_13 ⟨Nat.le_of_ble_eq_true rfl, Nat.le_of_ble_eq_true rfl⟩)) (fun r2 hr2 => ?_)
    refine lv_if_eq (tgt := 21) hx hb d_Model_needRegion_16 (by decide) (fun c3 => ?_) (fun c3 => ?_)
    · have hTk : (tSort f_text tz q = 4 ∧ v_this_fault = 0) := ⟨hS1, bz hr2 c3⟩
      refine lv_aload_n hx hb d_Model_needRegion_21 rfl (lv_at hl 0 rfl) ?_
      refine va_get (D := (dC, dI)) (ci := 12) (v := .ref h_useName) (C := R_Model) (T := F_Model) (N := 153) hx hb hT i_Model hown hK hP 0 rfl rfl 46 (by decide) (hT _ fl_Model_111) (fun _ h9 => h9) g_this_useName d_Model_needRegion_22 ?_
      refine lv_aload_n hx hb d_Model_needRegion_25 rfl (lv_at hl 0 rfl) ?_
      refine va_get (D := (dC, dI)) (ci := 12) (v := .int (nI un)) (C := R_Model) (T := F_Model) (N := 153) hx hb hT i_Model hown hK hP 0 rfl rfl 45 (by decide) (hT _ fl_Model_409) (fun _ h9 => h9) g_this_uses d_Model_needRegion_26 ?_
      refine lv_aload_n hx hb d_Model_needRegion_29 rfl (lv_at hl 0 rfl) ?_
      refine va_get (D := (dC, dI)) (ci := 12) (v := .long v_this_word) (C := R_Model) (T := F_Model) (N := 153) hx hb hT i_Model hown hK hP 0 rfl rfl 6 (by decide) (hT _ fl_Model_365) (fun _ h9 => h9) g_this_word d_Model_needRegion_30 ?_
      refine va_last hx hb hK hP hD hS 2 1 rfl rfl (vp_in_nI (by omega) (by decide)) d_Model_needRegion_33 (fun H locs hP hD hS => ?_)
      have es4 : vp_updL f_useName (nI un).toNatClampNeg v_this_word = vp_updL f_useName un v_this_word := (by rw [nI_clamp (by omega)])
      have hP : va_P (dC, dI) cls_all [oc h_this 12 fs_this, ic h_text k_text 4000 f_text, jc h_useName k_useName 4000 (vp_updL f_useName (nI un).toNatClampNeg v_this_word), ic h_usePlace k_usePlace 4000 f_usePlace] H := hP
      have hD : va_D A [oc h_this 12 fs_this, ic h_text k_text 4000 f_text, jc h_useName k_useName 4000 (vp_updL f_useName (nI un).toNatClampNeg v_this_word), ic h_usePlace k_usePlace 4000 f_usePlace] := hD
      rw [es4] at hP hD
      obtain ⟨f4, ef4⟩ : ∃ g, g = vp_updL f_useName un v_this_word := ⟨_, rfl⟩
      rw [← ef4] at hP hD
      refine lv_aload_n hx hb d_Model_needRegion_34 rfl (lv_at hl 0 rfl) ?_
      refine va_get (D := (dC, dI)) (ci := 12) (v := .ref h_usePlace) (C := R_Model) (T := F_Model) (N := 153) hx hb hT i_Model hown hK hP 0 rfl rfl 47 (by decide) (hT _ fl_Model_114) (fun _ h9 => h9) g_this_usePlace d_Model_needRegion_35 ?_
      refine lv_aload_n hx hb d_Model_needRegion_38 rfl (lv_at hl 0 rfl) ?_
      refine va_get (D := (dC, dI)) (ci := 12) (v := .int (nI un)) (C := R_Model) (T := F_Model) (N := 153) hx hb hT i_Model hown hK hP 0 rfl rfl 45 (by decide) (hT _ fl_Model_409) (fun _ h9 => h9) g_this_uses d_Model_needRegion_39 ?_
      refine lv_aload_n hx hb d_Model_needRegion_42 rfl (lv_at hl 0 rfl) ?_
      refine va_get (D := (dC, dI)) (ci := 12) (v := .int (nI q)) (C := R_Model) (T := F_Model) (N := 153) hx hb hT i_Model hown hK hP 0 rfl rfl 3 (by decide) (hT _ fl_Model_349) (fun _ h9 => h9) g_this_place d_Model_needRegion_43 ?_
      refine va_iast hx hb hK hP hD hS 3 2 rfl rfl (vp_in_nI (by omega) (by decide)) d_Model_needRegion_46 (fun H locs hP hD hS => ?_)
      have es5 : upd f_usePlace (nI un).toNatClampNeg (nI q) = upd f_usePlace un (nI q) := (by rw [nI_clamp (by omega)])
      have hP : va_P (dC, dI) cls_all [oc h_this 12 fs_this, ic h_text k_text 4000 f_text, jc h_useName k_useName 4000 f4, ic h_usePlace k_usePlace 4000 (upd f_usePlace (nI un).toNatClampNeg (nI q))] H := hP
      have hD : va_D A [oc h_this 12 fs_this, ic h_text k_text 4000 f_text, jc h_useName k_useName 4000 f4, ic h_usePlace k_usePlace 4000 (upd f_usePlace (nI un).toNatClampNeg (nI q))] := hD
      rw [es5] at hP hD
      obtain ⟨f5, ef5⟩ : ∃ g, g = upd f_usePlace un (nI q) := ⟨_, rfl⟩
      rw [← ef5] at hP hD
      refine lv_aload_n hx hb d_Model_needRegion_47 rfl (lv_at hl 0 rfl) ?_
      refine lv_dup hx hb d_Model_needRegion_48 rfl ?_
      refine va_get (D := (dC, dI)) (ci := 12) (v := .int (nI un)) (C := R_Model) (T := F_Model) (N := 153) hx hb hT i_Model hown hK hP 0 rfl rfl 45 (by decide) (hT _ fl_Model_409) (fun _ h9 => h9) g_this_uses d_Model_needRegion_49 ?_
      refine lv_iconst (v := 1) hx hb d_Model_needRegion_52 (by decide) ?_
      refine lv_iadd hx hb d_Model_needRegion_53 ?_
      refine lv_topi (fun x6 e6 => ?_)
      obtain rfl : x6 = nI (un + 1) := e6.trans (nI_add un 1)
      refine va_put (D := (dC, dI)) (ci := 12) (v := .int (nI (un + 1))) (ty := .int) (C := R_Model) (T := F_Model) (N := 153) hx hb hT i_Model t_Model t_Model_ok n_Model hown hK hP hD hS 0 rfl rfl 45 (by decide) (hT _ fl_Model_409) (fun _ h9 => h9) rfl (by decide +kernel) rfl rfl (by simp only [List.length_set, len_this]; decide) d_Model_needRegion_54 (fun H locs hP hD hS => ?_)
      have hP : va_P (dC, dI) cls_all [oc h_this 12 (fs_this.set 45 (.int (nI (un + 1)))), ic h_text k_text 4000 f_text, jc h_useName k_useName 4000 f4, ic h_usePlace k_usePlace 4000 f5] H := hP
      have hD : va_D A [oc h_this 12 (fs_this.set 45 (.int (nI (un + 1)))), ic h_text k_text 4000 f_text, jc h_useName k_useName 4000 f4, ic h_usePlace k_usePlace 4000 f5] := hD
      refine lv_aload_n hx hb d_Model_needRegion_57 rfl (lv_at hl 0 rfl) ?_
      have hPc := hP.sub (ws' := [oc h_this 12 (fs_this.set 45 (.int (nI (un + 1)))), ic h_text k_text 4000 f_text]) [0, 1] rfl
      have hKc := hK.sub (tys' := [(k_text, .int)]) [0] rfl
      have hDc := hD.sub (ws' := [oc h_this 12 (fs_this.set 45 (.int (nI (un + 1)))), ic h_text k_text 4000 f_text]) [0, 1] (by decide) rfl
      have hFc := va_free (wc := [oc h_this 12 (fs_this.set 45 (.int (nI (un + 1)))), ic h_text k_text 4000 f_text]) hD hS hA [0, 1] rfl
      refine va_callv (va_runV (As := []) (rest := []) ⟨hx, hb, hml, hown, hT⟩ (c_Model_advance l dC dI (sz := H.size) (ad := ad) (av := av) (h_this := h_this) (h_text := h_text) (fs_this := (fs_this.set 45 (.int (nI (un + 1))))) (v_this_word := v_this_word) (v_this_number := v_this_number) (k_text := k_text) (f_text := f_text) (a := (tAft f_text tz q)) (tz := tz) (len_this := (by first | exact len_this | (simp only [List.length_set]; exact len_this))) (g_this_after := ((ls_ne (by decide)).trans g_this_after)) (g_this_size := ((ls_ne (by decide)).trans g_this_size)) (g_this_text := ((ls_ne (by decide)).trans g_this_text)) (g_this_word := ((ls_ne (by decide)).trans g_this_word)) (g_this_number := ((ls_ne (by decide)).trans g_this_number)) (ha := (tAft_le hq)) (hz := hz)) (cwV 0 hT (gV ml_Model_396 im_Model_advance se_Model_advance ini_Model co_Model_advance) rfl rfl rfl (by decide +kernel) ⟨Nat.le_of_ble_eq_true rfl, Nat.le_of_ble_eq_true rfl⟩) ⟨fbQe, va_recv hKc hPc (ci := 12) (q0 := 0) rfl rfl, fun U hU hW => ⟨rfl, by rw [hU], by rw [hU]; exact hPc, va_K.moved hW.alike hKc, hDc.weaken (fun _ _ _ _ => trivial), env0.hand henv hS hU hW hFc⟩⟩ rfl rfl hl.1 rfl (lv_room (Nat.le_of_ble_eq_true rfl)) d_Model_needRegion_58 ⟨Nat.le_of_ble_eq_true rfl, Nat.le_of_ble_eq_true rfl⟩) hS (fun q _ h => hFc q h) hFc (fun u t H1 locs ht hvm hw hB hz1 hk1 hS => ?_)
      obtain ⟨fs_this_7, ⟨hw7_0, hw7_1, hw7_2, hw7_3, hw7_4, hw7_5, hw7_6⟩, hP1, hK1, hD1⟩ := hB
      rw [ht] at hP1
      have hK1 := va_K.moved hvm.symm hK1
      obtain ⟨hP, hD⟩ := va_join (wr := [jc h_useName k_useName 4000 f4, ic h_usePlace k_usePlace 4000 f5]) (w1 := [oc h_this 12 fs_this_7, ic h_text k_text 4000 f_text]) hP hD [0, 1] [2, 3] rfl rfl (by decide) (by decide) hk1 hFc hP1 hD1
      generalize H1 = H at hP hS ⊢
      have hP : va_P (dC, dI) cls_all [jc h_useName k_useName 4000 f4, ic h_usePlace k_usePlace 4000 f5, oc h_this 12 fs_this_7, ic h_text k_text 4000 f_text] H := hP
      have hD : va_D A [jc h_useName k_useName 4000 f4, ic h_usePlace k_usePlace 4000 f5, oc h_this 12 fs_this_7, ic h_text k_text 4000 f_text] := hD
      refine lv_aload_n hx hb d_Model_needRegion_61 rfl (lv_at hl 0 rfl) ?_
      refine va_get (D := (dC, dI)) (ci := 12) (v := .int (nI (un + 1))) (C := R_Model) (T := F_Model) (N := 153) hx hb hT i_Model hown hK hP 2 rfl rfl 45 (by decide) (hT _ fl_Model_409) (fun _ h9 => h9) ((hw7_1 45 (by decide) (by decide) (by decide) (by decide) (by decide)).trans (ls_eq (by simp only [List.length_set, len_this]; decide))) d_Model_needRegion_62 ?_
      refine lv_iconst (v := 1) hx hb d_Model_needRegion_65 (by decide) ?_
      refine lv_isub hx hb d_Model_needRegion_66 ?_
      refine lv_topi (fun x8 e8 => ?_)
      obtain rfl : x8 = nI ((un + 1) - 1) := e8.trans (pk_sub (a := (un + 1)) (b := 1) (by omega))
      have hP9 := hP.sub (ws' := [oc h_this 12 fs_this_7, ic h_text k_text 4000 f_text, jc h_useName k_useName 4000 f4, ic h_usePlace k_usePlace 4000 f5]) [2, 3, 0, 1] rfl
      have hD9 := hD.sub (ws' := [oc h_this 12 fs_this_7, ic h_text k_text 4000 f_text, jc h_useName k_useName 4000 f4, ic h_usePlace k_usePlace 4000 f5]) [2, 3, 0, 1] (by decide) rfl
      have hK9 := hK.sub (tys' := [(k_text, .int), (k_useName, .long), (k_usePlace, .int)]) [0, 1, 2] rfl
      have hv9 : fs_this_7[3]? = some (.int (nI ((tAft f_text tz q) + bs f_text (tAft f_text tz q) (tz - (tAft f_text tz q))))) := hw7_2
      have hv10 : fs_this_7[2]? = some (.int (tSort f_text tz ((tAft f_text tz q) + bs f_text (tAft f_text tz q) (tz - (tAft f_text tz q))))) := hw7_3
      have hv11 : fs_this_7[4]? = some (.int (nI (tAft f_text tz ((tAft f_text tz q) + bs f_text (tAft f_text tz q) (tz - (tAft f_text tz q)))))) := hw7_4
      have hv12 : fs_this_7[6]? = some (.long (tWord f_text tz ((tAft f_text tz q) + bs f_text (tAft f_text tz q) (tz - (tAft f_text tz q))) v_this_word)) := hw7_5
      have hv13 : fs_this_7[5]? = some (.int (tNum f_text tz ((tAft f_text tz q) + bs f_text (tAft f_text tz q) (tz - (tAft f_text tz q))) v_this_number)) := hw7_6
      have hv14 : fs_this_7[7]? = some (.int v_this_fault) := ((hw7_1 7 (by decide) (by decide) (by decide) (by decide) (by decide)).trans ((ls_ne (by decide)).trans g_this_fault))
      have hv15 : fs_this_7[8]? = some (.int v_this_faultPlace) := ((hw7_1 8 (by decide) (by decide) (by decide) (by decide) (by decide)).trans ((ls_ne (by decide)).trans g_this_faultPlace))
      have hv16 : fs_this_7[45]? = some (.int (nI (un + 1))) := ((hw7_1 45 (by decide) (by decide) (by decide) (by decide) (by decide)).trans (ls_eq (by simp only [List.length_set, len_this]; decide)))
      exact W.iret (v := (nI ((un + 1) - 1))) hx hb hr (fun t ht hW => ⟨⟨(nI ((un + 1) - 1)), (nI ((un + 1) - 1)), rfl, rfl, fs_this_7, f4, f5, ⟨(by first | exact hw7_0 | (simp only [List.length_set]; exact hw7_0)), (fun j n3 n2 n4 n6 n5 n7 n8 n45 => ((hw7_1 j n3 n2 n4 n6 n5).trans ((ls_ne n45).trans rfl))), (by first | exact hv9 | (rw [hv9]; refine congrArg some (congrArg _ ?_); first | rfl | (rw [if_pos hTk]; done) | (rw [if_pos hTk]; rfl) | (rw [if_pos hS1]; done) | (rw [if_pos hS1]; rfl))), (by first | exact hv10 | (rw [hv10]; refine congrArg some (congrArg _ ?_); first | rfl | (rw [if_pos hTk]; done) | (rw [if_pos hTk]; rfl) | (rw [if_pos hS1]; done) | (rw [if_pos hS1]; rfl))), (by first | exact hv11 | (rw [hv11]; refine congrArg some (congrArg _ ?_); first | rfl | (rw [if_pos hTk]; done) | (rw [if_pos hTk]; rfl) | (rw [if_pos hS1]; done) | (rw [if_pos hS1]; rfl))), (by first | exact hv12 | (rw [hv12]; refine congrArg some (congrArg _ ?_); first | rfl | (rw [if_pos hTk]; done) | (rw [if_pos hTk]; rfl) | (rw [if_pos hS1]; done) | (rw [if_pos hS1]; rfl))), (by first | exact hv13 | (rw [hv13]; refine congrArg some (congrArg _ ?_); first | rfl | (rw [if_pos hTk]; done) | (rw [if_pos hTk]; rfl) | (rw [if_pos hS1]; done) | (rw [if_pos hS1]; rfl))), (by first | exact hv14 | (rw [hv14]; refine congrArg some (congrArg _ ?_); first | rfl | (rw [if_pos hTk]; done) | (rw [if_pos hTk]; rfl) | (rw [if_pos hS1]; done) | (rw [if_pos hS1]; rfl))), (by first | exact hv15 | (rw [hv15]; refine congrArg some (congrArg _ ?_); first | rfl | (rw [if_pos hTk]; done) | (rw [if_pos hTk]; rfl) | (rw [if_pos hS1]; done) | (rw [if_pos hS1]; rfl))), (by first | exact hv16 | (rw [hv16]; refine congrArg some (congrArg _ ?_); first | rfl | (rw [if_pos hTk]; done) | (rw [if_pos hTk]; rfl) | (rw [if_pos hS1]; done) | (rw [if_pos hS1]; rfl))), (by first | exact (if_neg hTk).symm | (rw [if_pos hTk]; assumption) | (rw [if_pos hTk]; subst_vars; rfl)), (by first | exact (if_neg hTk).symm | (rw [if_pos hTk]; assumption) | (rw [if_pos hTk]; subst_vars; rfl)), (by first | rfl | (rw [if_pos hTk]; done) | (rw [if_pos hTk]; rfl) | (rw [if_pos hS1]; done) | (rw [if_pos hS1]; rfl))⟩, by rw [ht]; exact hP9, va_K.moved hW.alike hK9, hD9⟩, hS.F ht⟩) hS.2.2 d_Model_needRegion_67
    · have hTk : ¬ (tSort f_text tz q = 4 ∧ v_this_fault = 0) := fun z => bnz hr2 c3 z.2
      refine lv_iconst (v := 0) hx hb d_Model_needRegion_19 (by decide) ?_
      have hP9 := hP.sub (ws' := [oc h_this 12 fs_this, ic h_text k_text 4000 f_text, jc h_useName k_useName 4000 f_useName, ic h_usePlace k_usePlace 4000 f_usePlace]) [0, 1, 2, 3] rfl
      have hD9 := hD.sub (ws' := [oc h_this 12 fs_this, ic h_text k_text 4000 f_text, jc h_useName k_useName 4000 f_useName, ic h_usePlace k_usePlace 4000 f_usePlace]) [0, 1, 2, 3] (by decide) rfl
      have hK9 := hK.sub (tys' := [(k_text, .int), (k_useName, .long), (k_usePlace, .int)]) [0, 1, 2] rfl
      have hv17 : fs_this[3]? = some (.int (nI q)) := g_this_place
      have hv18 : fs_this[2]? = some (.int (tSort f_text tz q)) := g_this_sort
      have hv19 : fs_this[4]? = some (.int (nI (tAft f_text tz q))) := g_this_after
      have hv20 : fs_this[6]? = some (.long v_this_word) := g_this_word
      have hv21 : fs_this[5]? = some (.int v_this_number) := g_this_number
      have hv22 : fs_this[7]? = some (.int v_this_fault) := g_this_fault
      have hv23 : fs_this[8]? = some (.int v_this_faultPlace) := g_this_faultPlace
      have hv24 : fs_this[45]? = some (.int (nI un)) := g_this_uses
      exact W.iret (v := 0) hx hb hr (fun t ht hW => ⟨⟨0, 0, rfl, rfl, fs_this, f_useName, f_usePlace, ⟨(by first | exact len_this | (simp only [List.length_set]; exact len_this)), (fun j n3 n2 n4 n6 n5 n7 n8 n45 => rfl), (by first | exact hv17 | (rw [hv17]; refine congrArg some (congrArg _ ?_); first | rfl | (rw [if_neg hTk]; done) | (rw [if_neg hTk]; rfl) | (rw [if_pos hS1]; done) | (rw [if_pos hS1]; rfl))), (by first | exact hv18 | (rw [hv18]; refine congrArg some (congrArg _ ?_); first | rfl | (rw [if_neg hTk]; done) | (rw [if_neg hTk]; rfl) | (rw [if_pos hS1]; done) | (rw [if_pos hS1]; rfl))), (by first | exact hv19 | (rw [hv19]; refine congrArg some (congrArg _ ?_); first | rfl | (rw [if_neg hTk]; done) | (rw [if_neg hTk]; rfl) | (rw [if_pos hS1]; done) | (rw [if_pos hS1]; rfl))), (by first | exact hv20 | (rw [hv20]; refine congrArg some (congrArg _ ?_); first | rfl | (rw [if_neg hTk]; done) | (rw [if_neg hTk]; rfl) | (rw [if_pos hS1]; done) | (rw [if_pos hS1]; rfl))), (by first | exact hv21 | (rw [hv21]; refine congrArg some (congrArg _ ?_); first | rfl | (rw [if_neg hTk]; done) | (rw [if_neg hTk]; rfl) | (rw [if_pos hS1]; done) | (rw [if_pos hS1]; rfl))), (by first | exact hv22 | (rw [hv22]; refine congrArg some (congrArg _ ?_); first | rfl | (rw [if_neg hTk]; done) | (rw [if_neg hTk]; rfl) | (rw [if_pos hS1]; done) | (rw [if_pos hS1]; rfl))), (by first | exact hv23 | (rw [hv23]; refine congrArg some (congrArg _ ?_); first | rfl | (rw [if_neg hTk]; done) | (rw [if_neg hTk]; rfl) | (rw [if_pos hS1]; done) | (rw [if_pos hS1]; rfl))), (by first | exact hv24 | (rw [hv24]; refine congrArg some (congrArg _ ?_); first | rfl | (rw [if_neg hTk]; done) | (rw [if_neg hTk]; rfl) | (rw [if_pos hS1]; done) | (rw [if_pos hS1]; rfl))), (by first | exact (if_neg hTk).symm | (rw [if_pos hTk]; assumption) | (rw [if_pos hTk]; subst_vars; rfl)), (by first | exact (if_neg hTk).symm | (rw [if_pos hTk]; assumption) | (rw [if_pos hTk]; subst_vars; rfl)), (by first | rfl | (rw [if_neg hTk]; done) | (rw [if_neg hTk]; rfl) | (rw [if_pos hS1]; done) | (rw [if_pos hS1]; rfl))⟩, by rw [ht]; exact hP9, va_K.moved hW.alike hK9, hD9⟩, hS.F ht⟩) hS.2.2 d_Model_needRegion_20
  · have hS1 : ¬ tSort f_text tz q = 4 := c1
    refine lv_aload_n hx hb d_Model_needRegion_8 rfl (lv_at hl 0 rfl) ?_
    have hPc := hP.sub (ws' := [oc h_this 12 fs_this]) [0] rfl
    have hKc := hK.sub (tys' := []) [] rfl
    have hDc := hD.sub (ws' := [oc h_this 12 fs_this]) [0] (by decide) rfl
    have hFc := va_free (wc := [oc h_this 12 fs_this]) hD hS hA [0] rfl
    refine va_callv (va_runV (As := []) (rest := []) ⟨hx, hb, hml, hown, hT⟩ (c_Model_wrong l dC dI (sz := s.heap.size) (h_this := h_this) (fs_this := fs_this) (v_this_fault := v_this_fault) (v_this_faultPlace := v_this_faultPlace) (v_this_place := (nI q)) (len_this := (by first | exact len_this | (simp only [List.length_set]; exact len_this))) (g_this_fault := g_this_fault) (g_this_faultPlace := g_this_faultPlace) (g_this_place := g_this_place)) (cwV 0 hT (gV ml_Model_406 im_Model_wrong se_Model_wrong ini_Model co_Model_wrong) rfl rfl rfl (by decide +kernel) ⟨Nat.le_of_ble_eq_true rfl, Nat.le_of_ble_eq_true rfl⟩) ⟨fbQ, va_recv hKc hPc (ci := 12) (q0 := 0) rfl rfl, fun U hU hW => ⟨rfl, by rw [hU], by rw [hU]; exact hPc, va_K.moved hW.alike hKc, hDc.weaken (fun _ _ _ _ => trivial)⟩⟩ rfl rfl hl.1 rfl (lv_room (Nat.le_of_ble_eq_true rfl)) d_Model_needRegion_9 ⟨Nat.le_of_ble_eq_true rfl, Nat.le_of_ble_eq_true rfl⟩) hS (fun q _ h => hFc q h) hFc (fun u t H1 locs ht hvm hw hB hz1 hk1 hS => ?_)
    obtain ⟨fs_this_25, ⟨hw25_0, hw25_1, hw25_2, hw25_3⟩, hP1, hK1, hD1⟩ := hB
    rw [ht] at hP1
    have hK1 := va_K.moved hvm.symm hK1
    obtain ⟨hP, hD⟩ := va_join (wr := [ic h_text k_text 4000 f_text, jc h_useName k_useName 4000 f_useName, ic h_usePlace k_usePlace 4000 f_usePlace]) (w1 := [oc h_this 12 fs_this_25]) hP hD [0] [1, 2, 3] rfl rfl (by decide) (by decide) hk1 hFc hP1 hD1
    generalize H1 = H at hP hS ⊢
    have hP : va_P (dC, dI) cls_all [ic h_text k_text 4000 f_text, jc h_useName k_useName 4000 f_useName, ic h_usePlace k_usePlace 4000 f_usePlace, oc h_this 12 fs_this_25] H := hP
    have hD : va_D A [ic h_text k_text 4000 f_text, jc h_useName k_useName 4000 f_useName, ic h_usePlace k_usePlace 4000 f_usePlace, oc h_this 12 fs_this_25] := hD
    refine lv_aload_n hx hb d_Model_needRegion_12 rfl (lv_at hl 0 rfl) ?_
    have hPc := hP.sub (ws' := [oc h_this 12 fs_this_25]) [3] rfl
    have hKc := hK.sub (tys' := []) [] rfl
    refine vp_callSi (va_Run.run (va_runV (As := []) (rest := []) ⟨hx, hb, hml, hown, hT⟩ (c_Model_bad l dC dI (h_this := h_this) (fs_this := fs_this_25) (v_this_fault := (if v_this_fault = 0 then 1 else v_this_fault)) (len_this := (by first | exact hw25_0 | (simp only [List.length_set]; exact hw25_0))) (g_this_fault := hw25_2)) (cwV 0 hT (gV ml_Model_385 im_Model_bad se_Model_bad ini_Model co_Model_bad) rfl rfl rfl (by decide +kernel) ⟨Nat.le_of_ble_eq_true rfl, Nat.le_of_ble_eq_true rfl⟩) ⟨fbS, va_recv hKc hPc (ci := 12) (q0 := 0) rfl rfl, fun U hU hW => ⟨rfl, by rw [hU]; exact hPc, va_K.moved hW.alike hKc⟩⟩ rfl rfl hl.1 rfl (lv_room (Nat.le_of_ble_eq_true rfl)) d_Model_needRegion_13 ⟨Nat.le_of_ble_eq_true rfl, Nat.le_of_ble_eq_true rfl⟩)) (fun r26 hr26 => ?_)
    refine lv_if_eq (tgt := 21) hx hb d_Model_needRegion_16 (by decide) (fun c27 => ?_) (fun c27 => ?_)
    · exact absurd (wr0 hr26 c27) id
    · have hTk : ¬ (tSort f_text tz q = 4 ∧ v_this_fault = 0) := fun z => hS1 z.1
      refine lv_iconst (v := 0) hx hb d_Model_needRegion_19 (by decide) ?_
      have hP9 := hP.sub (ws' := [oc h_this 12 fs_this_25, ic h_text k_text 4000 f_text, jc h_useName k_useName 4000 f_useName, ic h_usePlace k_usePlace 4000 f_usePlace]) [3, 0, 1, 2] rfl
      have hD9 := hD.sub (ws' := [oc h_this 12 fs_this_25, ic h_text k_text 4000 f_text, jc h_useName k_useName 4000 f_useName, ic h_usePlace k_usePlace 4000 f_usePlace]) [3, 0, 1, 2] (by decide) rfl
      have hK9 := hK.sub (tys' := [(k_text, .int), (k_useName, .long), (k_usePlace, .int)]) [0, 1, 2] rfl
      have hv28 : fs_this_25[3]? = some (.int (nI q)) := ((hw25_1 3 (by decide) (by decide)).trans g_this_place)
      have hv29 : fs_this_25[2]? = some (.int (tSort f_text tz q)) := ((hw25_1 2 (by decide) (by decide)).trans g_this_sort)
      have hv30 : fs_this_25[4]? = some (.int (nI (tAft f_text tz q))) := ((hw25_1 4 (by decide) (by decide)).trans g_this_after)
      have hv31 : fs_this_25[6]? = some (.long v_this_word) := ((hw25_1 6 (by decide) (by decide)).trans g_this_word)
      have hv32 : fs_this_25[5]? = some (.int v_this_number) := ((hw25_1 5 (by decide) (by decide)).trans g_this_number)
      have hv33 : fs_this_25[7]? = some (.int (if v_this_fault = 0 then 1 else v_this_fault)) := hw25_2
      have hv34 : fs_this_25[8]? = some (.int (if v_this_fault = 0 then (nI q) else v_this_faultPlace)) := hw25_3
      have hv35 : fs_this_25[45]? = some (.int (nI un)) := ((hw25_1 45 (by decide) (by decide)).trans g_this_uses)
      exact W.iret (v := 0) hx hb hr (fun t ht hW => ⟨⟨0, 0, rfl, rfl, fs_this_25, f_useName, f_usePlace, ⟨(by first | exact hw25_0 | (simp only [List.length_set]; exact hw25_0)), (fun j n3 n2 n4 n6 n5 n7 n8 n45 => ((hw25_1 j n7 n8).trans rfl)), (by first | exact hv28 | (rw [hv28]; refine congrArg some (congrArg _ ?_); first | rfl | (rw [if_neg hTk]; done) | (rw [if_neg hTk]; rfl) | (rw [if_neg hS1]; done) | (rw [if_neg hS1]; rfl))), (by first | exact hv29 | (rw [hv29]; refine congrArg some (congrArg _ ?_); first | rfl | (rw [if_neg hTk]; done) | (rw [if_neg hTk]; rfl) | (rw [if_neg hS1]; done) | (rw [if_neg hS1]; rfl))), (by first | exact hv30 | (rw [hv30]; refine congrArg some (congrArg _ ?_); first | rfl | (rw [if_neg hTk]; done) | (rw [if_neg hTk]; rfl) | (rw [if_neg hS1]; done) | (rw [if_neg hS1]; rfl))), (by first | exact hv31 | (rw [hv31]; refine congrArg some (congrArg _ ?_); first | rfl | (rw [if_neg hTk]; done) | (rw [if_neg hTk]; rfl) | (rw [if_neg hS1]; done) | (rw [if_neg hS1]; rfl))), (by first | exact hv32 | (rw [hv32]; refine congrArg some (congrArg _ ?_); first | rfl | (rw [if_neg hTk]; done) | (rw [if_neg hTk]; rfl) | (rw [if_neg hS1]; done) | (rw [if_neg hS1]; rfl))), (by first | exact hv33 | (rw [hv33]; refine congrArg some (congrArg _ ?_); first | rfl | (rw [if_neg hTk]; done) | (rw [if_neg hTk]; rfl) | (rw [if_neg hS1]; done) | (rw [if_neg hS1]; rfl))), (by first | exact hv34 | (rw [hv34]; refine congrArg some (congrArg _ ?_); first | rfl | (rw [if_neg hTk]; done) | (rw [if_neg hTk]; rfl) | (rw [if_neg hS1]; done) | (rw [if_neg hS1]; rfl))), (by first | exact hv35 | (rw [hv35]; refine congrArg some (congrArg _ ?_); first | rfl | (rw [if_neg hTk]; done) | (rw [if_neg hTk]; rfl) | (rw [if_neg hS1]; done) | (rw [if_neg hS1]; rfl))), (by first | exact (if_neg hTk).symm | (rw [if_pos hTk]; assumption) | (rw [if_pos hTk]; subst_vars; rfl)), (by first | exact (if_neg hTk).symm | (rw [if_pos hTk]; assumption) | (rw [if_pos hTk]; subst_vars; rfl)), (by first | rfl | (rw [if_neg hTk]; done) | (rw [if_neg hTk]; rfl) | (rw [if_neg hS1]; done) | (rw [if_neg hS1]; rfl))⟩, by rw [ht]; exact hP9, va_K.moved hW.alike hK9, hD9⟩, hS.F ht⟩) hS.2.2 d_Model_needRegion_20
