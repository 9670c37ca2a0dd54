theorem tAft_le {f : Nat → Int32} {tz q : Nat} (h : q ≤ tz) : tAft f tz q ≤ tz := by
  have h1 := rl_le (f := f) (m := tz - (q + 1)) (a := q + 1)
  have h2 := rl_le (f := f) (m := tz - q) (a := q)
  unfold tAft
  by_cases c1 : tz ≤ q
  · rw [if_pos c1]; omega
  · rw [if_neg c1]
    by_cases c2 : cL (f q) ∨ f q = 39
    · rw [if_pos c2]
      unfold tN tFR
      by_cases c3 : f q = 39
      · rw [if_pos c3]; omega
      · rw [if_neg c3]; omega
    · rw [if_neg c2]
      by_cases c3 : f q = 61 ∧ (if nI (q + 1) < nI tz then f (q + 1) else -1) = 61
      · rw [if_pos c3]
        have : q + 1 < tz ∨ tz < 2 ^ 31 → q + 2 ≤ tz ∨ tz ≤ q + 1 := fun _ => by omega
        by_cases c4 : q + 1 < tz
        · omega
        · exfalso
          have e : tz = q + 1 := by omega
          have c5 : ¬ nI (q + 1) < nI tz := by rw [e]; exact Int32.lt_irrefl
          have := c3.2
          rw [if_neg c5] at this
          exact absurd this (by decide)
      · rw [if_neg c3]; omega
theorem bs_le {f : Nat → Int32} {m : Nat} : ∀ {a : Nat}, bs f a m ≤ m := by
  induction m with
  | zero => intro a; exact Nat.le_refl 0
  | succ m ih =>
    intro a
    by_cases h : f a = 32
    · rw [bs_y h (by omega)]
      have := ih (a := a + 1)
      simp only [Nat.add_sub_cancel]
      omega
    · rw [bs_n (Or.inr h)]
      omega
theorem nq_le {f : Nat → Int32} {tz q : Nat} (h : q ≤ tz) : nq f tz q ≤ tz := by
  have h1 := tAft_le (f := f) h
  have h2 := bs_le (f := f) (m := tz - tAft f tz q) (a := tAft f tz q)
  unfold nq
  omega

set_option maxHeartbeats 1000000 in
set_option maxRecDepth 100000 in
theorem c_Model_takes (l : Launch) (dC : Nat → ClassId) (dI : Nat → Nat → Nat) (sz : Nat) (ad : Nat → Nat) (av : Nat → Nat) (h_this : Nat) (h_text : Nat) (fs_this : List Value) (v_this_word : Int64) (v_this_number : Int32) (v_this_fault : Int32) (v_this_faultPlace : Int32) (k_text : ClassId) (f_text : Nat → Int32) (p1 : Int32) (q : Nat) (tz : Nat) (len_this : fs_this.length = 153) (g_this_place : fs_this[3]? = some (.int (nI q))) (g_this_sort : fs_this[2]? = some (.int (tSort f_text tz q))) (g_this_after : fs_this[4]? = some (.int (nI (tAft f_text tz q)))) (g_this_size : fs_this[1]? = some (.int (nI tz))) (g_this_text : fs_this[0]? = some (.ref h_text)) (g_this_word : fs_this[6]? = some (.long v_this_word)) (g_this_number : fs_this[5]? = some (.int v_this_number)) (g_this_fault : fs_this[7]? = some (.int v_this_fault)) (g_this_faultPlace : fs_this[8]? = some (.int v_this_faultPlace)) (hq : q ≤ tz) (hz : tz ≤ 4000) : Met l y_Model_takes w_Model_takes ({ frames := 7, cells := 0, slots := 0, locals := 158 } : Room) (va_Pc [.ref h_this, .int p1] (fun U => U.heap.size = sz ∧ va_P (dC, dI) cls_all [oc h_this 12 fs_this, ic h_text k_text 4000 f_text] U.heap ∧ va_K (dC, dI) cls_all [(k_text, .int)] U ∧ va_D (fun _ => True) [oc h_this 12 fs_this, ic h_text k_text 4000 f_text] ∧ env0 ad av (va_A [oc h_this 12 fs_this, ic h_text k_text 4000 f_text] sz) U U.heap)) (va_Qi (fun (z r : Int32) => z = r) (fun r t => ∃ (fs_this' : List Value), (fs_this'.length = 153 ∧ (∀ j : Nat, j ≠ 3 → j ≠ 2 → j ≠ 4 → j ≠ 6 → j ≠ 5 → fs_this'[j]? = fs_this[j]?) ∧ fs_this'[3]? = some (.int (nI (if (tSort f_text tz q = 6 ∧ v_this_number = p1 ∧ v_this_fault = 0) then nq f_text tz q else q))) ∧ fs_this'[2]? = some (.int (tSort f_text tz (if (tSort f_text tz q = 6 ∧ v_this_number = p1 ∧ v_this_fault = 0) then nq f_text tz q else q))) ∧ fs_this'[4]? = some (.int (nI (tAft f_text tz (if (tSort f_text tz q = 6 ∧ v_this_number = p1 ∧ v_this_fault = 0) then nq f_text tz q else q)))) ∧ fs_this'[6]? = some (.long (if (tSort f_text tz q = 6 ∧ v_this_number = p1 ∧ v_this_fault = 0) then tWord f_text tz (nq f_text tz q) v_this_word else v_this_word)) ∧ fs_this'[5]? = some (.int (if (tSort f_text tz q = 6 ∧ v_this_number = p1 ∧ v_this_fault = 0) then tNum f_text tz (nq f_text tz q) v_this_number else v_this_number)) ∧ (r = if (tSort f_text tz q = 6 ∧ v_this_number = p1 ∧ v_this_fault = 0) then 1 else 0)) ∧ va_P (dC, dI) cls_all [oc h_this 12 fs_this', ic h_text k_text 4000 f_text] t.heap ∧ va_K (dC, dI) cls_all [(k_text, .int)] t ∧ va_D (va_A [oc h_this 12 fs_this, ic h_text k_text 4000 f_text] sz) [oc h_this 12 fs_this', ic h_text k_text 4000 f_text]) (va_A [oc h_this 12 fs_this, ic h_text k_text 4000 f_text] sz)) 0 0 (va_A [oc h_this 12 fs_this, ic h_text k_text 4000 f_text] sz) := by
  refine Met.ofW (cc := b_Model_takes) (maxL := 2) (ret := (some .boolean)) (by decide) rfl ?_
  intro p e s m args below meth c s₁ B hml hv
  obtain ⟨rfl, hsz, hP, hK, hD0, henv⟩ := hv
  have hx := B.exec
  have hb := B.bytes
  have hr := B.returns
  have hT : ∀ w ∈ lw_good, w.before _ s = true := fun w h => atoms_spec (ws := w_Model_takes) B.pre w (List.mem_cons_of_mem _ h)
  have hown : s.vm.findClass R_Model = some m.cls := findClass_of_methodNamed B.named
  have hlocks := B.notSynchronized
  subst hsz
  have hD := hD0.self (sz := s.heap.size)
  generalize hAe : va_A [oc h_this 12 fs_this, ic h_text k_text 4000 f_text] s.heap.size = A at hD henv ⊢
  have hA : ∀ q : Nat, s.heap.size ≤ q → A q := fun q h => by rw [← hAe]; exact Or.inr h
  have hS : va_S A s.heap s.heap [] := va_S.rf
  have hP : va_P (dC, dI) cls_all [oc h_this 12 fs_this, ic h_text k_text 4000 f_text] s.heap := hP
  have hl := lv_entry ([.ref h_this, .int p1]) (n := 2) (Nat.le_of_ble_eq_true rfl)
  rw [lg_entry_eq]
  generalize (lg_sl ([.ref h_this, .int p1]) ++ List.replicate (2 - (lg_sl ([.ref h_this, .int p1])).length) Slot.unset).toArray = ls at hl ⊢
  have hl : lv_has ls 2 [(0, .ref h_this), (1, .int p1)] := hl
  refine lv_aload_n hx hb d_Model_takes_0 rfl (lv_at hl 0 rfl) ?_
  refine lv_iload_n hx hb d_Model_takes_1 rfl (lv_at hl 1 rfl) ?_
  have hPc := hP.sub (ws' := [oc h_this 12 fs_this]) [0] rfl
  have hKc := hK.sub (tys' := []) [] rfl
  refine vp_callSi (va_Run.run (va_runV (As := [.int p1]) (rest := []) ⟨hx, hb, hml, hown, hT⟩ (c_Model_isSign l dC dI (h_this := h_this) (fs_this := fs_this) (v_this_sort := (tSort f_text tz q)) (v_this_number := v_this_number) (v_this_fault := v_this_fault) (p1 := p1) (len_this := (by first | exact len_this | (simp only [List.length_set]; exact len_this))) (g_this_sort := g_this_sort) (g_this_number := g_this_number) (g_this_fault := g_this_fault)) (cwV 1 hT (gV ml_Model_393 im_Model_isSign se_Model_isSign ini_Model co_Model_isSign) rfl rfl rfl (by decide +kernel) ⟨Nat.le_of_ble_eq_true rfl, Nat.le_of_ble_eq_true rfl⟩) ⟨fbS, va_recv hKc hPc (ci := 12) (q0 := 0) rfl rfl, fun U hU hW => ⟨rfl, by rw [hU]; exact hPc, va_K.moved hW.alike hKc⟩⟩ rfl rfl hl.1 rfl (lv_room (Nat.le_of_ble_eq_true rfl)) d_Model_takes_2 ⟨Nat.le_of_ble_eq_true rfl, Nat.le_of_ble_eq_true rfl⟩)) (fun r1 hr1 => ?_)
  refine lv_if_ne (tgt := 10) hx hb d_Model_takes_5 (by decide) (fun c2 => ?_) (fun c2 => ?_)
  · have hTk := yz hr1 c2
    refine lv_aload_n hx hb d_Model_takes_10 rfl (lv_at hl 0 rfl) ?_
    have hPc := hP.sub (ws' := [oc h_this 12 fs_this, ic h_text k_text 4000 f_text]) [0, 1] rfl
    have hKc := hK.sub (tys' := [(k_text, .int)]) [0] rfl
    have hDc := hD.sub (ws' := [oc h_this 12 fs_this, ic h_text k_text 4000 f_text]) [0, 1] (by decide) rfl
    have hFc := va_free (wc := [oc h_this 12 fs_this, ic h_text k_text 4000 f_text]) hD hS hA [0, 1] rfl
    refine va_callv (va_runV (As := []) (rest := []) ⟨hx, hb, hml, hown, hT⟩ (c_Model_advance l dC dI (sz := s.heap.size) (ad := ad) (av := av) (h_this := h_this) (h_text := h_text) (fs_this := fs_this) (v_this_word := v_this_word) (v_this_number := v_this_number) (k_text := k_text) (f_text := f_text) (a := (tAft f_text tz q)) (tz := tz) (len_this := (by first | exact len_this | (simp only [List.length_set]; exact len_this))) (g_this_after := g_this_after) (g_this_size := g_this_size) (g_this_text := g_this_text) (g_this_word := g_this_word) (g_this_number := g_this_number) (ha := (tAft_le hq)) (hz := hz)) (cwV 0 hT (gV ml_Model_396 im_Model_advance se_Model_advance ini_Model co_Model_advance) rfl rfl rfl (by decide +kernel) ⟨Nat.le_of_ble_eq_true rfl, Nat.le_of_ble_eq_true rfl⟩) ⟨fbQe, va_recv hKc hPc (ci := 12) (q0 := 0) rfl rfl, fun U hU hW => ⟨rfl, by rw [hU], by rw [hU]; exact hPc, va_K.moved hW.alike hKc, hDc.weaken (fun _ _ _ _ => trivial), env0.hand henv hS hU hW hFc⟩⟩ rfl rfl hl.1 rfl (lv_room (Nat.le_of_ble_eq_true rfl)) d_Model_takes_11 ⟨Nat.le_of_ble_eq_true rfl, Nat.le_of_ble_eq_true rfl⟩) hS (fun q _ h => hFc q h) hFc (fun u t H1 locs ht hvm hw hB hz1 hk1 hS => ?_)
    obtain ⟨fs_this_3, ⟨hw3_0, hw3_1, hw3_2, hw3_3, hw3_4, hw3_5, hw3_6⟩, hP1, hK1, hD1⟩ := hB
    rw [ht] at hP1
    have hK1 := va_K.moved hvm.symm hK1
    obtain ⟨hP, hD⟩ := va_join (wr := []) (w1 := [oc h_this 12 fs_this_3, ic h_text k_text 4000 f_text]) hP hD [0, 1] [] rfl rfl (by decide) (by decide) hk1 hFc hP1 hD1
    generalize H1 = H at hP hS ⊢
    have hP : va_P (dC, dI) cls_all [oc h_this 12 fs_this_3, ic h_text k_text 4000 f_text] H := hP
    have hD : va_D A [oc h_this 12 fs_this_3, ic h_text k_text 4000 f_text] := hD
    refine lv_iconst (v := 1) hx hb d_Model_takes_14 (by decide) ?_
    have hP9 := hP.sub (ws' := [oc h_this 12 fs_this_3, ic h_text k_text 4000 f_text]) [0, 1] rfl
    have hD9 := hD.sub (ws' := [oc h_this 12 fs_this_3, ic h_text k_text 4000 f_text]) [0, 1] (by decide) rfl
    have hK9 := hK.sub (tys' := [(k_text, .int)]) [0] rfl
    have hv4 : fs_this_3[3]? = some (.int (nI ((tAft f_text tz q) + bs f_text (tAft f_text tz q) (tz - (tAft f_text tz q))))) := hw3_2
    have hv5 : fs_this_3[2]? = some (.int (tSort f_text tz ((tAft f_text tz q) + bs f_text (tAft f_text tz q) (tz - (tAft f_text tz q))))) := hw3_3
    have hv6 : fs_this_3[4]? = some (.int (nI (tAft f_text tz ((tAft f_text tz q) + bs f_text (tAft f_text tz q) (tz - (tAft f_text tz q)))))) := hw3_4
    have hv7 : fs_this_3[6]? = some (.long (tWord f_text tz ((tAft f_text tz q) + bs f_text (tAft f_text tz q) (tz - (tAft f_text tz q))) v_this_word)) := hw3_5
    have hv8 : fs_this_3[5]? = some (.int (tNum f_text tz ((tAft f_text tz q) + bs f_text (tAft f_text tz q) (tz - (tAft f_text tz q))) v_this_number)) := hw3_6
    exact W.zret (v := 1) hx hb hr (by first | rfl | decide | assumption) (fun t ht hW => ⟨⟨1, 1, rfl, rfl, fs_this_3, ⟨(by first | exact hw3_0 | (simp only [List.length_set]; exact hw3_0)), (fun j n3 n2 n4 n6 n5 => ((hw3_1 j n3 n2 n4 n6 n5).trans rfl)), (by first | exact hv4 | (rw [hv4]; refine congrArg some (congrArg _ ?_); first | (rw [if_pos hTk]; done) | (rw [if_pos hTk]; rfl) | (rw [if_neg hTk]; done) | rfl)), (by first | exact hv5 | (rw [hv5]; refine congrArg some (congrArg _ ?_); first | (rw [if_pos hTk]; done) | (rw [if_pos hTk]; rfl) | (rw [if_neg hTk]; done) | rfl)), (by first | exact hv6 | (rw [hv6]; refine congrArg some (congrArg _ ?_); first | (rw [if_pos hTk]; done) | (rw [if_pos hTk]; rfl) | (rw [if_neg hTk]; done) | rfl)), (by first | exact hv7 | (rw [hv7]; refine congrArg some (congrArg _ ?_); first | (rw [if_pos hTk]; done) | (rw [if_pos hTk]; rfl) | (rw [if_neg hTk]; done) | rfl)), (by first | exact hv8 | (rw [hv8]; refine congrArg some (congrArg _ ?_); first | (rw [if_pos hTk]; done) | (rw [if_pos hTk]; rfl) | (rw [if_neg hTk]; done) | rfl)), (by first | (rw [if_pos hTk]; done) | (rw [if_pos hTk]; rfl) | (rw [if_neg hTk]; done) | rfl)⟩, by rw [ht]; exact hP9, va_K.moved hW.alike hK9, hD9⟩, hS.F ht⟩) hS.2.2 d_Model_takes_15
  · have hTk := nz hr1 c2
    refine lv_iconst (v := 0) hx hb d_Model_takes_8 (by decide) ?_
    have hP9 := hP.sub (ws' := [oc h_this 12 fs_this, ic h_text k_text 4000 f_text]) [0, 1] rfl
    have hD9 := hD.sub (ws' := [oc h_this 12 fs_this, ic h_text k_text 4000 f_text]) [0, 1] (by decide) rfl
    have hK9 := hK.sub (tys' := [(k_text, .int)]) [0] rfl
    have hv9 : fs_this[3]? = some (.int (nI q)) := g_this_place
    have hv10 : fs_this[2]? = some (.int (tSort f_text tz q)) := g_this_sort
    have hv11 : fs_this[4]? = some (.int (nI (tAft f_text tz q))) := g_this_after
    have hv12 : fs_this[6]? = some (.long v_this_word) := g_this_word
    have hv13 : fs_this[5]? = some (.int v_this_number) := g_this_number
    exact W.zret (v := 0) hx hb hr (by first | rfl | decide | assumption) (fun t ht hW => ⟨⟨0, 0, rfl, rfl, fs_this, ⟨(by first | exact len_this | (simp only [List.length_set]; exact len_this)), (fun j n3 n2 n4 n6 n5 => rfl), (by first | exact hv9 | (rw [hv9]; refine congrArg some (congrArg _ ?_); first | (rw [if_pos hTk]; done) | (rw [if_pos hTk]; rfl) | (rw [if_neg hTk]; done) | rfl)), (by first | exact hv10 | (rw [hv10]; refine congrArg some (congrArg _ ?_); first | (rw [if_pos hTk]; done) | (rw [if_pos hTk]; rfl) | (rw [if_neg hTk]; done) | rfl)), (by first | exact hv11 | (rw [hv11]; refine congrArg some (congrArg _ ?_); first | (rw [if_pos hTk]; done) | (rw [if_pos hTk]; rfl) | (rw [if_neg hTk]; done) | rfl)), (by first | exact hv12 | (rw [hv12]; refine congrArg some (congrArg _ ?_); first | (rw [if_pos hTk]; done) | (rw [if_pos hTk]; rfl) | (rw [if_neg hTk]; done) | rfl)), (by first | exact hv13 | (rw [hv13]; refine congrArg some (congrArg _ ?_); first | (rw [if_pos hTk]; done) | (rw [if_pos hTk]; rfl) | (rw [if_neg hTk]; done) | rfl)), (by first | (rw [if_pos hTk]; done) | (rw [if_pos hTk]; rfl) | (rw [if_neg hTk]; done) | rfl)⟩, by rw [ht]; exact hP9, va_K.moved hW.alike hK9, hD9⟩, hS.F ht⟩) hS.2.2 d_Model_takes_9
set_option maxHeartbeats 1000000 in
set_option maxRecDepth 100000 in
theorem c_Model_isWord_l (l : Launch) (dC : Nat → ClassId) (dI : Nat → Nat → Nat)  (ad : Nat → Nat) (av : Nat → Nat) (h_this : Nat) (fs_this : List Value) (v_this_sort : Int32) (v_this_word : Int64) (v_this_fault : Int32) (i : Nat) (len_this : fs_this.length = 153) (g_this_sort : fs_this[2]? = some (.int v_this_sort)) (g_this_word : fs_this[6]? = some (.long v_this_word)) (g_this_fault : fs_this[7]? = some (.int v_this_fault)) (hi : i < 33) : Met l y_Model_isWord w_Model_isWord ({ frames := 5, cells := 0, slots := 0, locals := 108 } : Room) (va_Pc [.ref h_this, .ref (ad i)] (fun U => va_P (dC, dI) cls_all [oc h_this 12 fs_this] U.heap ∧ va_K (dC, dI) cls_all [] U ∧ env0 ad av (fun _ => False) U U.heap)) (vp_Si (fun r : Int32 => (r = if (v_this_sort = 2 ∧ v_this_word = pks i (s_len.getD i 0) ∧ v_this_fault = 0) then 1 else 0))) 0 0 (fun _ => False) := by
  refine Met.ofW (cc := b_Model_isWord) (maxL := 2) (ret := (some .boolean)) (by decide) rfl ?_
  intro p e s m args below meth c s₁ B hml hv
  obtain ⟨rfl, hP, hK, henv⟩ := hv
  have hx := B.exec
  have hb := B.bytes
  have hr := B.returns
  have hT : ∀ w ∈ lw_good, w.before _ s = true := fun w h => atoms_spec (ws := w_Model_isWord) B.pre w (List.mem_cons_of_mem _ h)
  have hown : s.vm.findClass R_Model = some m.cls := findClass_of_methodNamed B.named
  have hlocks := B.notSynchronized
  have hS : va_S (fun _ => False) s.heap s.heap [] := va_S.rf
  have hl := lv_entry ([.ref h_this, .ref (ad i)]) (n := 2) (Nat.le_of_ble_eq_true rfl)
  rw [lg_entry_eq]
  generalize (lg_sl ([.ref h_this, .ref (ad i)]) ++ List.replicate (2 - (lg_sl ([.ref h_this, .ref (ad i)])).length) Slot.unset).toArray = ls at hl ⊢
  have hl : lv_has ls 2 [(0, .ref h_this), (1, .ref (ad i))] := hl
  refine lv_aload_n hx hb d_Model_isWord_0 rfl (lv_at hl 0 rfl) ?_
  refine va_get (D := (dC, dI)) (ci := 12) (v := .int v_this_sort) (C := R_Model) (T := F_Model) (N := 153) hx hb hT i_Model hown hK hP 0 rfl rfl 2 (by decide) (hT _ fl_Model_352) (fun _ h9 => h9) g_this_sort d_Model_isWord_1 ?_
  refine lv_iconst (v := 2) hx hb d_Model_isWord_4 (by decide) ?_
  refine lv_icmp_ne (tgt := 31) hx hb d_Model_isWord_5 (by decide) (fun c1 => ?_) (fun c1 => ?_)
  · refine lv_iconst (v := 0) hx hb d_Model_isWord_31 (by decide) ?_
    refine W.zret (v := 0) hx hb hr (by first | rfl | decide | assumption) (fun t ht hW => ⟨0, rfl, ?_, ht⟩) (fun q h => by cases h) d_Model_isWord_32
    exact (if_neg (fun z => c1 z.1)).symm
  · refine lv_aload_n hx hb d_Model_isWord_8 rfl (lv_at hl 0 rfl) ?_
    refine va_get (D := (dC, dI)) (ci := 12) (v := .long v_this_word) (C := R_Model) (T := F_Model) (N := 153) hx hb hT i_Model hown hK hP 0 rfl rfl 6 (by decide) (hT _ fl_Model_365) (fun _ h9 => h9) g_this_word d_Model_isWord_9 ?_
    refine lv_aload_n hx hb d_Model_isWord_12 rfl (lv_at hl 1 rfl) ?_
    have hPc := hP.sub (ws' := []) [] rfl
    have hKc := hK.sub (tys' := []) [] rfl
    refine vp_callSl (va_Run.run (va_runS (As := [.ref (ad i)]) (rest := [.long v_this_word]) ⟨hx, hb, hml, hown, hT⟩ (c_Model_packed_l l dC dI (ad := ad) (av := av) (i := i) (hi := hi)) (va_cwS 1 hT (gS ml_Model_389 st_Model_packed ini_Model co_Model_packed) rfl rfl rfl (by decide +kernel) ⟨Nat.le_of_ble_eq_true rfl, Nat.le_of_ble_eq_true rfl⟩) ⟨fbSe, fun U hU hW => ⟨rfl, by rw [hU]; exact hPc, va_K.moved hW.alike hKc, env0.hand henv hS hU hW (fun q h => h.elim)⟩⟩ rfl rfl hl.1 rfl (lv_room (Nat.le_of_ble_eq_true rfl)) d_Model_isWord_13 ⟨Nat.le_of_ble_eq_true rfl, Nat.le_of_ble_eq_true rfl⟩)) (fun r2 hr2 => ?_)
    obtain rfl : r2 = pks i (s_len.getD i 0) := hr2
    refine W.lcmp hx hb d_Model_isWord_16 ?_
    refine lv_if_ne (tgt := 31) hx hb d_Model_isWord_17 (by decide) (fun c3 => ?_) (fun c3 => ?_)
    · refine lv_iconst (v := 0) hx hb d_Model_isWord_31 (by decide) ?_
      refine W.zret (v := 0) hx hb hr (by first | rfl | decide | assumption) (fun t ht hW => ⟨0, rfl, ?_, ht⟩) (fun q h => by cases h) d_Model_isWord_32
      exact (if_neg (fun z => c3 ((lg_cmp_eq _ _).mpr z.2.1))).symm
    · refine lv_aload_n hx hb d_Model_isWord_20 rfl (lv_at hl 0 rfl) ?_
      have hPc := hP.sub (ws' := [oc h_this 12 fs_this]) [0] rfl
      have hKc := hK.sub (tys' := []) [] rfl
      refine vp_callSi (va_Run.run (va_runV (As := []) (rest := []) ⟨hx, hb, hml, hown, hT⟩ (c_Model_bad l dC dI (h_this := h_this) (fs_this := fs_this) (v_this_fault := v_this_fault) (len_this := (by first | exact len_this | (simp only [List.length_set]; exact len_this))) (g_this_fault := g_this_fault)) (cwV 0 hT (gV ml_Model_385 im_Model_bad se_Model_bad ini_Model co_Model_bad) rfl rfl rfl (by decide +kernel) ⟨Nat.le_of_ble_eq_true rfl, Nat.le_of_ble_eq_true rfl⟩) ⟨fbS, va_recv hKc hPc (ci := 12) (q0 := 0) rfl rfl, fun U hU hW => ⟨rfl, by rw [hU]; exact hPc, va_K.moved hW.alike hKc⟩⟩ rfl rfl hl.1 rfl (lv_room (Nat.le_of_ble_eq_true rfl)) d_Model_isWord_21 ⟨Nat.le_of_ble_eq_true rfl, Nat.le_of_ble_eq_true rfl⟩)) (fun r4 hr4 => ?_)
      refine lv_if_ne (tgt := 31) hx hb d_Model_isWord_24 (by decide) (fun c5 => ?_) (fun c5 => ?_)
      · have hF0 : ¬ v_this_fault = 0 := fun z => c5 (hr4.trans (if_pos z))
        refine lv_iconst (v := 0) hx hb d_Model_isWord_31 (by decide) ?_
        refine W.zret (v := 0) hx hb hr (by first | rfl | decide | assumption) (fun t ht hW => ⟨0, rfl, ?_, ht⟩) (fun q h => by cases h) d_Model_isWord_32
        exact (if_neg (fun z => hF0 z.2.2)).symm
      · have hF0 : v_this_fault = 0 := Decidable.byContradiction (fun z => absurd (c5.symm.trans (hr4.trans (if_neg z))) (by decide))
        refine lv_iconst (v := 1) hx hb d_Model_isWord_27 (by decide) ?_
        refine lv_goto (tgt := 32) hx hb d_Model_isWord_28 (by decide) ?_
        refine W.zret (v := 1) hx hb hr (by first | rfl | decide | assumption) (fun t ht hW => ⟨1, rfl, ?_, ht⟩) (fun q h => by cases h) d_Model_isWord_32
        exact (if_pos ⟨c1, (lg_cmp_eq _ _).mp c3, hF0⟩).symm
set_option maxHeartbeats 1000000 in
set_option maxRecDepth 100000 in
theorem c_Model_takesWord_l (l : Launch) (dC : Nat → ClassId) (dI : Nat → Nat → Nat) (sz : Nat) (ad : Nat → Nat) (av : Nat → Nat) (h_this : Nat) (h_text : Nat) (fs_this : List Value) (v_this_word : Int64) (v_this_number : Int32) (v_this_fault : Int32) (v_this_faultPlace : Int32) (k_text : ClassId) (f_text : Nat → Int32) (q : Nat) (tz : Nat) (i : Nat) (len_this : fs_this.length = 153) (g_this_place : fs_this[3]? = some (.int (nI q))) (g_this_sort : fs_this[2]? = some (.int (tSort f_text tz q))) (g_this_after : fs_this[4]? = some (.int (nI (tAft f_text tz q)))) (g_this_size : fs_this[1]? = some (.int (nI tz))) (g_this_text : fs_this[0]? = some (.ref h_text)) (g_this_word : fs_this[6]? = some (.long v_this_word)) (g_this_number : fs_this[5]? = some (.int v_this_number)) (g_this_fault : fs_this[7]? = some (.int v_this_fault)) (g_this_faultPlace : fs_this[8]? = some (.int v_this_faultPlace)) (hq : q ≤ tz) (hz : tz ≤ 4000) (hi : i < 33) : Met l y_Model_takesWord w_Model_takesWord ({ frames := 7, cells := 0, slots := 0, locals := 158 } : Room) (va_Pc [.ref h_this, .ref (ad i)] (fun U => U.heap.size = sz ∧ va_P (dC, dI) cls_all [oc h_this 12 fs_this, ic h_text k_text 4000 f_text] U.heap ∧ va_K (dC, dI) cls_all [(k_text, .int)] U ∧ va_D (fun _ => True) [oc h_this 12 fs_this, ic h_text k_text 4000 f_text] ∧ env0 ad av (va_A [oc h_this 12 fs_this, ic h_text k_text 4000 f_text] sz) U U.heap)) (va_Qi (fun (z r : Int32) => z = r) (fun r t => ∃ (fs_this' : List Value), (fs_this'.length = 153 ∧ (∀ j : Nat, j ≠ 3 → j ≠ 2 → j ≠ 4 → j ≠ 6 → j ≠ 5 → fs_this'[j]? = fs_this[j]?) ∧ fs_this'[3]? = some (.int (nI (if (tSort f_text tz q = 2 ∧ v_this_word = pks i (s_len.getD i 0) ∧ v_this_fault = 0) then nq f_text tz q else q))) ∧ fs_this'[2]? = some (.int (tSort f_text tz (if (tSort f_text tz q = 2 ∧ v_this_word = pks i (s_len.getD i 0) ∧ v_this_fault = 0) then nq f_text tz q else q))) ∧ fs_this'[4]? = some (.int (nI (tAft f_text tz (if (tSort f_text tz q = 2 ∧ v_this_word = pks i (s_len.getD i 0) ∧ v_this_fault = 0) then nq f_text tz q else q)))) ∧ fs_this'[6]? = some (.long (if (tSort f_text tz q = 2 ∧ v_this_word = pks i (s_len.getD i 0) ∧ v_this_fault = 0) then tWord f_text tz (nq f_text tz q) v_this_word else v_this_word)) ∧ fs_this'[5]? = some (.int (if (tSort f_text tz q = 2 ∧ v_this_word = pks i (s_len.getD i 0) ∧ v_this_fault = 0) then tNum f_text tz (nq f_text tz q) v_this_number else v_this_number)) ∧ (r = if (tSort f_text tz q = 2 ∧ v_this_word = pks i (s_len.getD i 0) ∧ v_this_fault = 0) then 1 else 0)) ∧ va_P (dC, dI) cls_all [oc h_this 12 fs_this', ic h_text k_text 4000 f_text] t.heap ∧ va_K (dC, dI) cls_all [(k_text, .int)] t ∧ va_D (va_A [oc h_this 12 fs_this, ic h_text k_text 4000 f_text] sz) [oc h_this 12 fs_this', ic h_text k_text 4000 f_text]) (va_A [oc h_this 12 fs_this, ic h_text k_text 4000 f_text] sz)) 0 0 (va_A [oc h_this 12 fs_this, ic h_text k_text 4000 f_text] sz) := by
  refine Met.ofW (cc := b_Model_takesWord) (maxL := 2) (ret := (some .boolean)) (by decide) rfl ?_
  intro p e s m args below meth c s₁ B hml hv
  obtain ⟨rfl, hsz, hP, hK, hD0, henv⟩ := hv
  have hx := B.exec
  have hb := B.bytes
  have hr := B.returns
  have hT : ∀ w ∈ lw_good, w.before _ s = true := fun w h => atoms_spec (ws := w_Model_takesWord) B.pre w (List.mem_cons_of_mem _ h)
  have hown : s.vm.findClass R_Model = some m.cls := findClass_of_methodNamed B.named
  have hlocks := B.notSynchronized
  subst hsz
  have hD := hD0.self (sz := s.heap.size)
  generalize hAe : va_A [oc h_this 12 fs_this, ic h_text k_text 4000 f_text] s.heap.size = A at hD henv ⊢
  have hA : ∀ q : Nat, s.heap.size ≤ q → A q := fun q h => by rw [← hAe]; exact Or.inr h
  have hS : va_S A s.heap s.heap [] := va_S.rf
  have hP : va_P (dC, dI) cls_all [oc h_this 12 fs_this, ic h_text k_text 4000 f_text] s.heap := hP
  have hl := lv_entry ([.ref h_this, .ref (ad i)]) (n := 2) (Nat.le_of_ble_eq_true rfl)
  rw [lg_entry_eq]
  generalize (lg_sl ([.ref h_this, .ref (ad i)]) ++ List.replicate (2 - (lg_sl ([.ref h_this, .ref (ad i)])).length) Slot.unset).toArray = ls at hl ⊢
  have hl : lv_has ls 2 [(0, .ref h_this), (1, .ref (ad i))] := hl
  refine lv_aload_n hx hb d_Model_takesWord_0 rfl (lv_at hl 0 rfl) ?_
  refine lv_aload_n hx hb d_Model_takesWord_1 rfl (lv_at hl 1 rfl) ?_
  have hPc := hP.sub (ws' := [oc h_this 12 fs_this]) [0] rfl
  have hKc := hK.sub (tys' := []) [] rfl
  refine vp_callSi (va_Run.run (va_runV (As := [.ref (ad i)]) (rest := []) ⟨hx, hb, hml, hown, hT⟩ (c_Model_isWord_l l dC dI (ad := ad) (av := av) (h_this := h_this) (fs_this := fs_this) (v_this_sort := (tSort f_text tz q)) (v_this_word := v_this_word) (v_this_fault := v_this_fault) (i := i) (len_this := (by first | exact len_this | (simp only [List.length_set]; exact len_this))) (g_this_sort := g_this_sort) (g_this_word := g_this_word) (g_this_fault := g_this_fault) (hi := hi)) (cwV 1 hT (gV ml_Model_399 im_Model_isWord se_Model_isWord ini_Model co_Model_isWord) rfl rfl rfl (by decide +kernel) ⟨Nat.le_of_ble_eq_true rfl, Nat.le_of_ble_eq_true rfl⟩) ⟨fbSe, va_recv hKc hPc (ci := 12) (q0 := 0) rfl rfl, fun U hU hW => ⟨rfl, by rw [hU]; exact hPc, va_K.moved hW.alike hKc, env0.hand henv hS hU hW (fun q h => h.elim)⟩⟩ rfl rfl hl.1 rfl (lv_room (Nat.le_of_ble_eq_true rfl)) d_Model_takesWord_2 ⟨Nat.le_of_ble_eq_true rfl, Nat.le_of_ble_eq_true rfl⟩)) (fun r1 hr1 => ?_)
  refine lv_if_ne (tgt := 10) hx hb d_Model_takesWord_5 (by decide) (fun c2 => ?_) (fun c2 => ?_)
  · have hTk := yz hr1 c2
    refine lv_aload_n hx hb d_Model_takesWord_10 rfl (lv_at hl 0 rfl) ?_
    have hPc := hP.sub (ws' := [oc h_this 12 fs_this, ic h_text k_text 4000 f_text]) [0, 1] rfl
    have hKc := hK.sub (tys' := [(k_text, .int)]) [0] rfl
    have hDc := hD.sub (ws' := [oc h_this 12 fs_this, ic h_text k_text 4000 f_text]) [0, 1] (by decide) rfl
    have hFc := va_free (wc := [oc h_this 12 fs_this, ic h_text k_text 4000 f_text]) hD hS hA [0, 1] rfl
    refine va_callv (va_runV (As := []) (rest := []) ⟨hx, hb, hml, hown, hT⟩ (c_Model_advance l dC dI (sz := s.heap.size) (ad := ad) (av := av) (h_this := h_this) (h_text := h_text) (fs_this := fs_this) (v_this_word := v_this_word) (v_this_number := v_this_number) (k_text := k_text) (f_text := f_text) (a := (tAft f_text tz q)) (tz := tz) (len_this := (by first | exact len_this | (simp only [List.length_set]; exact len_this))) (g_this_after := g_this_after) (g_this_size := g_this_size) (g_this_text := g_this_text) (g_this_word := g_this_word) (g_this_number := g_this_number) (ha := (tAft_le hq)) (hz := hz)) (cwV 0 hT (gV ml_Model_396 im_Model_advance se_Model_advance ini_Model co_Model_advance) rfl rfl rfl (by decide +kernel) ⟨Nat.le_of_ble_eq_true rfl, Nat.le_of_ble_eq_true rfl⟩) ⟨fbQe, va_recv hKc hPc (ci := 12) (q0 := 0) rfl rfl, fun U hU hW => ⟨rfl, by rw [hU], by rw [hU]; exact hPc, va_K.moved hW.alike hKc, hDc.weaken (fun _ _ _ _ => trivial), env0.hand henv hS hU hW hFc⟩⟩ rfl rfl hl.1 rfl (lv_room (Nat.le_of_ble_eq_true rfl)) d_Model_takesWord_11 ⟨Nat.le_of_ble_eq_true rfl, Nat.le_of_ble_eq_true rfl⟩) hS (fun q _ h => hFc q h) hFc (fun u t H1 locs ht hvm hw hB hz1 hk1 hS => ?_)
    obtain ⟨fs_this_3, ⟨hw3_0, hw3_1, hw3_2, hw3_3, hw3_4, hw3_5, hw3_6⟩, hP1, hK1, hD1⟩ := hB
    rw [ht] at hP1
    have hK1 := va_K.moved hvm.symm hK1
    obtain ⟨hP, hD⟩ := va_join (wr := []) (w1 := [oc h_this 12 fs_this_3, ic h_text k_text 4000 f_text]) hP hD [0, 1] [] rfl rfl (by decide) (by decide) hk1 hFc hP1 hD1
    generalize H1 = H at hP hS ⊢
    have hP : va_P (dC, dI) cls_all [oc h_this 12 fs_this_3, ic h_text k_text 4000 f_text] H := hP
    have hD : va_D A [oc h_this 12 fs_this_3, ic h_text k_text 4000 f_text] := hD
    refine lv_iconst (v := 1) hx hb d_Model_takesWord_14 (by decide) ?_
    have hP9 := hP.sub (ws' := [oc h_this 12 fs_this_3, ic h_text k_text 4000 f_text]) [0, 1] rfl
    have hD9 := hD.sub (ws' := [oc h_this 12 fs_this_3, ic h_text k_text 4000 f_text]) [0, 1] (by decide) rfl
    have hK9 := hK.sub (tys' := [(k_text, .int)]) [0] rfl
    have hv4 : fs_this_3[3]? = some (.int (nI ((tAft f_text tz q) + bs f_text (tAft f_text tz q) (tz - (tAft f_text tz q))))) := hw3_2
    have hv5 : fs_this_3[2]? = some (.int (tSort f_text tz ((tAft f_text tz q) + bs f_text (tAft f_text tz q) (tz - (tAft f_text tz q))))) := hw3_3
    have hv6 : fs_this_3[4]? = some (.int (nI (tAft f_text tz ((tAft f_text tz q) + bs f_text (tAft f_text tz q) (tz - (tAft f_text tz q)))))) := hw3_4
    have hv7 : fs_this_3[6]? = some (.long (tWord f_text tz ((tAft f_text tz q) + bs f_text (tAft f_text tz q) (tz - (tAft f_text tz q))) v_this_word)) := hw3_5
    have hv8 : fs_this_3[5]? = some (.int (tNum f_text tz ((tAft f_text tz q) + bs f_text (tAft f_text tz q) (tz - (tAft f_text tz q))) v_this_number)) := hw3_6
    exact W.zret (v := 1) hx hb hr (by first | rfl | decide | assumption) (fun t ht hW => ⟨⟨1, 1, rfl, rfl, fs_this_3, ⟨(by first | exact hw3_0 | (simp only [List.length_set]; exact hw3_0)), (fun j n3 n2 n4 n6 n5 => ((hw3_1 j n3 n2 n4 n6 n5).trans rfl)), (by first | exact hv4 | (rw [hv4]; refine congrArg some (congrArg _ ?_); first | (rw [if_pos hTk]; done) | (rw [if_pos hTk]; rfl) | (rw [if_neg hTk]; done) | rfl)), (by first | exact hv5 | (rw [hv5]; refine congrArg some (congrArg _ ?_); first | (rw [if_pos hTk]; done) | (rw [if_pos hTk]; rfl) | (rw [if_neg hTk]; done) | rfl)), (by first | exact hv6 | (rw [hv6]; refine congrArg some (congrArg _ ?_); first | (rw [if_pos hTk]; done) | (rw [if_pos hTk]; rfl) | (rw [if_neg hTk]; done) | rfl)), (by first | exact hv7 | (rw [hv7]; refine congrArg some (congrArg _ ?_); first | (rw [if_pos hTk]; done) | (rw [if_pos hTk]; rfl) | (rw [if_neg hTk]; done) | rfl)), (by first | exact hv8 | (rw [hv8]; refine congrArg some (congrArg _ ?_); first | (rw [if_pos hTk]; done) | (rw [if_pos hTk]; rfl) | (rw [if_neg hTk]; done) | rfl)), (by first | (rw [if_pos hTk]; done) | (rw [if_pos hTk]; rfl) | (rw [if_neg hTk]; done) | rfl)⟩, by rw [ht]; exact hP9, va_K.moved hW.alike hK9, hD9⟩, hS.F ht⟩) hS.2.2 d_Model_takesWord_15
  · have hTk := nz hr1 c2
    refine lv_iconst (v := 0) hx hb d_Model_takesWord_8 (by decide) ?_
    have hP9 := hP.sub (ws' := [oc h_this 12 fs_this, ic h_text k_text 4000 f_text]) [0, 1] rfl
    have hD9 := hD.sub (ws' := [oc h_this 12 fs_this, ic h_text k_text 4000 f_text]) [0, 1] (by decide) rfl
    have hK9 := hK.sub (tys' := [(k_text, .int)]) [0] rfl
    have hv9 : fs_this[3]? = some (.int (nI q)) := g_this_place
    have hv10 : fs_this[2]? = some (.int (tSort f_text tz q)) := g_this_sort
    have hv11 : fs_this[4]? = some (.int (nI (tAft f_text tz q))) := g_this_after
    have hv12 : fs_this[6]? = some (.long v_this_word) := g_this_word
    have hv13 : fs_this[5]? = some (.int v_this_number) := g_this_number
    exact W.zret (v := 0) hx hb hr (by first | rfl | decide | assumption) (fun t ht hW => ⟨⟨0, 0, rfl, rfl, fs_this, ⟨(by first | exact len_this | (simp only [List.length_set]; exact len_this)), (fun j n3 n2 n4 n6 n5 => rfl), (by first | exact hv9 | (rw [hv9]; refine congrArg some (congrArg _ ?_); first | (rw [if_pos hTk]; done) | (rw [if_pos hTk]; rfl) | (rw [if_neg hTk]; done) | rfl)), (by first | exact hv10 | (rw [hv10]; refine congrArg some (congrArg _ ?_); first | (rw [if_pos hTk]; done) | (rw [if_pos hTk]; rfl) | (rw [if_neg hTk]; done) | rfl)), (by first | exact hv11 | (rw [hv11]; refine congrArg some (congrArg _ ?_); first | (rw [if_pos hTk]; done) | (rw [if_pos hTk]; rfl) | (rw [if_neg hTk]; done) | rfl)), (by first | exact hv12 | (rw [hv12]; refine congrArg some (congrArg _ ?_); first | (rw [if_pos hTk]; done) | (rw [if_pos hTk]; rfl) | (rw [if_neg hTk]; done) | rfl)), (by first | exact hv13 | (rw [hv13]; refine congrArg some (congrArg _ ?_); first | (rw [if_pos hTk]; done) | (rw [if_pos hTk]; rfl) | (rw [if_neg hTk]; done) | rfl)), (by first | (rw [if_pos hTk]; done) | (rw [if_pos hTk]; rfl) | (rw [if_neg hTk]; done) | rfl)⟩, by rw [ht]; exact hP9, va_K.moved hW.alike hK9, hD9⟩, hS.F ht⟩) hS.2.2 d_Model_takesWord_9
set_option maxHeartbeats 1000000 in
set_option maxRecDepth 100000 in
theorem c_Model_need (l : Launch) (dC : Nat → ClassId) (dI : Nat → Nat → Nat) (sz : Nat) (ad : Nat → Nat) (av : Nat → Nat) (h_this : Nat) (h_text : Nat) (fs_this : List Value) (v_this_word : Int64) (v_this_number : Int32) (v_this_fault : Int32) (v_this_faultPlace : Int32) (k_text : ClassId) (f_text : Nat → Int32) (p1 : Int32) (q : Nat) (tz : Nat) (len_this : fs_this.length = 153) (g_this_place : fs_this[3]? = some (.int (nI q))) (g_this_sort : fs_this[2]? = some (.int (tSort f_text tz q))) (g_this_after : fs_this[4]? = some (.int (nI (tAft f_text tz q)))) (g_this_size : fs_this[1]? = some (.int (nI tz))) (g_this_text : fs_this[0]? = some (.ref h_text)) (g_this_word : fs_this[6]? = some (.long v_this_word)) (g_this_number : fs_this[5]? = some (.int v_this_number)) (g_this_fault : fs_this[7]? = some (.int v_this_fault)) (g_this_faultPlace : fs_this[8]? = some (.int v_this_faultPlace)) (hq : q ≤ tz) (hz : tz ≤ 4000) : Met l y_Model_need w_Model_need ({ frames := 8, cells := 0, slots := 0, locals := 179 } : Room) (va_Pc [.ref h_this, .int p1] (fun U => U.heap.size = sz ∧ va_P (dC, dI) cls_all [oc h_this 12 fs_this, ic h_text k_text 4000 f_text] U.heap ∧ va_K (dC, dI) cls_all [(k_text, .int)] U ∧ va_D (fun _ => True) [oc h_this 12 fs_this, ic h_text k_text 4000 f_text] ∧ env0 ad av (va_A [oc h_this 12 fs_this, ic h_text k_text 4000 f_text] sz) U U.heap)) (va_Qv (fun (_ : Unit) => True) (fun _ t => ∃ (fs_this' : List Value), (fs_this'.length = 153 ∧ (∀ j : Nat, j ≠ 3 → j ≠ 2 → j ≠ 4 → j ≠ 6 → j ≠ 5 → j ≠ 7 → j ≠ 8 → fs_this'[j]? = fs_this[j]?) ∧ fs_this'[3]? = some (.int (nI (if (tSort f_text tz q = 6 ∧ v_this_number = p1 ∧ v_this_fault = 0) then nq f_text tz q else q))) ∧ fs_this'[2]? = some (.int (tSort f_text tz (if (tSort f_text tz q = 6 ∧ v_this_number = p1 ∧ v_this_fault = 0) then nq f_text tz q else q))) ∧ fs_this'[4]? = some (.int (nI (tAft f_text tz (if (tSort f_text tz q = 6 ∧ v_this_number = p1 ∧ v_this_fault = 0) then nq f_text tz q else q)))) ∧ fs_this'[6]? = some (.long (if (tSort f_text tz q = 6 ∧ v_this_number = p1 ∧ v_this_fault = 0) then tWord f_text tz (nq f_text tz q) v_this_word else v_this_word)) ∧ fs_this'[5]? = some (.int (if (tSort f_text tz q = 6 ∧ v_this_number = p1 ∧ v_this_fault = 0) then tNum f_text tz (nq f_text tz q) v_this_number else v_this_number)) ∧ fs_this'[7]? = some (.int (if (tSort f_text tz q = 6 ∧ v_this_number = p1 ∧ v_this_fault = 0) then v_this_fault else if v_this_fault = 0 then 1 else v_this_fault)) ∧ fs_this'[8]? = some (.int (if (tSort f_text tz q = 6 ∧ v_this_number = p1 ∧ v_this_fault = 0) then v_this_faultPlace else if v_this_fault = 0 then nI q else v_this_faultPlace))) ∧ va_P (dC, dI) cls_all [oc h_this 12 fs_this', ic h_text k_text 4000 f_text] t.heap ∧ va_K (dC, dI) cls_all [(k_text, .int)] t ∧ va_D (va_A [oc h_this 12 fs_this, ic h_text k_text 4000 f_text] sz) [oc h_this 12 fs_this', ic h_text k_text 4000 f_text]) (va_A [oc h_this 12 fs_this, ic h_text k_text 4000 f_text] sz)) 0 0 (va_A [oc h_this 12 fs_this, ic h_text k_text 4000 f_text] sz) := by
  refine Met.ofW (cc := b_Model_need) (maxL := 2) (ret := none) (by decide) rfl ?_
  intro p e s m args below meth c s₁ B hml hv
  obtain ⟨rfl, hsz, hP, hK, hD0, henv⟩ := hv
  have hx := B.exec
  have hb := B.bytes
  have hr := B.returns
  have hT : ∀ w ∈ lw_good, w.before _ s = true := fun w h => atoms_spec (ws := w_Model_need) B.pre w (List.mem_cons_of_mem _ h)
  have hown : s.vm.findClass R_Model = some m.cls := findClass_of_methodNamed B.named
  have hlocks := B.notSynchronized
  subst hsz
  have hD := hD0.self (sz := s.heap.size)
  generalize hAe : va_A [oc h_this 12 fs_this, ic h_text k_text 4000 f_text] s.heap.size = A at hD henv ⊢
  have hA : ∀ q : Nat, s.heap.size ≤ q → A q := fun q h => by rw [← hAe]; exact Or.inr h
  have hS : va_S A s.heap s.heap [] := va_S.rf
  have hP : va_P (dC, dI) cls_all [oc h_this 12 fs_this, ic h_text k_text 4000 f_text] s.heap := hP
  have hl := lv_entry ([.ref h_this, .int p1]) (n := 2) (Nat.le_of_ble_eq_true rfl)
  rw [lg_entry_eq]
  generalize (lg_sl ([.ref h_this, .int p1]) ++ List.replicate (2 - (lg_sl ([.ref h_this, .int p1])).length) Slot.unset).toArray = ls at hl ⊢
  have hl : lv_has ls 2 [(0, .ref h_this), (1, .int p1)] := hl
  refine lv_aload_n hx hb d_Model_need_0 rfl (lv_at hl 0 rfl) ?_
  refine lv_iload_n hx hb d_Model_need_1 rfl (lv_at hl 1 rfl) ?_
  have hPc := hP.sub (ws' := [oc h_this 12 fs_this, ic h_text k_text 4000 f_text]) [0, 1] rfl
  have hKc := hK.sub (tys' := [(k_text, .int)]) [0] rfl
  have hDc := hD.sub (ws' := [oc h_this 12 fs_this, ic h_text k_text 4000 f_text]) [0, 1] (by decide) rfl
  have hFc := va_free (wc := [oc h_this 12 fs_this, ic h_text k_text 4000 f_text]) hD hS hA [0, 1] rfl
  refine va_calli (va_runV (As := [.int p1]) (rest := []) ⟨hx, hb, hml, hown, hT⟩ (c_Model_takes l dC dI (sz := s.heap.size) (ad := ad) (av := av) (h_this := h_this) (h_text := h_text) (fs_this := fs_this) (v_this_word := v_this_word) (v_this_number := v_this_number) (v_this_fault := v_this_fault) (v_this_faultPlace := v_this_faultPlace) (k_text := k_text) (f_text := f_text) (p1 := p1) (q := q) (tz := tz) (len_this := (by first | exact len_this | (simp only [List.length_set]; exact len_this))) (g_this_place := g_this_place) (g_this_sort := g_this_sort) (g_this_after := g_this_after) (g_this_size := g_this_size) (g_this_text := g_this_text) (g_this_word := g_this_word) (g_this_number := g_this_number) (g_this_fault := g_this_fault) (g_this_faultPlace := g_this_faultPlace) (hq := hq) (hz := hz)) (cwV 1 hT (gV ml_Model_403 im_Model_takes se_Model_takes ini_Model co_Model_takes) rfl rfl rfl (by decide +kernel) ⟨Nat.le_of_ble_eq_true rfl, Nat.le_of_ble_eq_true rfl⟩) ⟨fbQe, va_recv hKc hPc (ci := 12) (q0 := 0) rfl rfl, fun U hU hW => ⟨rfl, by rw [hU], by rw [hU]; exact hPc, va_K.moved hW.alike hKc, hDc.weaken (fun _ _ _ _ => trivial), env0.hand henv hS hU hW hFc⟩⟩ rfl rfl hl.1 rfl (lv_room (Nat.le_of_ble_eq_true rfl)) d_Model_need_2 ⟨Nat.le_of_ble_eq_true rfl, Nat.le_of_ble_eq_true rfl⟩) hS (fun q _ h => hFc q h) hFc (fun r1 u t H1 locs ht hvm hw hB hz1 hk1 hS => ?_)
  subst hw
  obtain ⟨fs_this_1, ⟨hw1_0, hw1_1, hw1_2, hw1_3, hw1_4, hw1_5, hw1_6, hw1_7⟩, hP1, hK1, hD1⟩ := hB
  rw [ht] at hP1
  have hK1 := va_K.moved hvm.symm hK1
  obtain ⟨hP, hD⟩ := va_join (wr := []) (w1 := [oc h_this 12 fs_this_1, ic h_text k_text 4000 f_text]) hP hD [0, 1] [] rfl rfl (by decide) (by decide) hk1 hFc hP1 hD1
  generalize H1 = H at hP hS ⊢
  have hP : va_P (dC, dI) cls_all [oc h_this 12 fs_this_1, ic h_text k_text 4000 f_text] H := hP
  have hD : va_D A [oc h_this 12 fs_this_1, ic h_text k_text 4000 f_text] := hD
  refine lv_if_ne (tgt := 12) hx hb d_Model_need_5 (by decide) (fun c2 => ?_) (fun c2 => ?_)
  · have hTk : (tSort f_text tz q = 6 ∧ v_this_number = p1 ∧ v_this_fault = 0) := yz hw1_7 c2
    have hP9 := hP.sub (ws' := [oc h_this 12 fs_this_1, ic h_text k_text 4000 f_text]) [0, 1] rfl
    have hD9 := hD.sub (ws' := [oc h_this 12 fs_this_1, ic h_text k_text 4000 f_text]) [0, 1] (by decide) rfl
    have hK9 := hK.sub (tys' := [(k_text, .int)]) [0] rfl
    have hv3 : fs_this_1[3]? = some (.int (nI (if (tSort f_text tz q = 6 ∧ v_this_number = p1 ∧ v_this_fault = 0) then nq f_text tz q else q))) := hw1_2
    have hv4 : fs_this_1[2]? = some (.int (tSort f_text tz (if (tSort f_text tz q = 6 ∧ v_this_number = p1 ∧ v_this_fault = 0) then nq f_text tz q else q))) := hw1_3
    have hv5 : fs_this_1[4]? = some (.int (nI (tAft f_text tz (if (tSort f_text tz q = 6 ∧ v_this_number = p1 ∧ v_this_fault = 0) then nq f_text tz q else q)))) := hw1_4
    have hv6 : fs_this_1[6]? = some (.long (if (tSort f_text tz q = 6 ∧ v_this_number = p1 ∧ v_this_fault = 0) then tWord f_text tz (nq f_text tz q) v_this_word else v_this_word)) := hw1_5
    have hv7 : fs_this_1[5]? = some (.int (if (tSort f_text tz q = 6 ∧ v_this_number = p1 ∧ v_this_fault = 0) then tNum f_text tz (nq f_text tz q) v_this_number else v_this_number)) := hw1_6
    have hv8 : fs_this_1[7]? = some (.int v_this_fault) := ((hw1_1 7 (by decide) (by decide) (by decide) (by decide) (by decide)).trans g_this_fault)
    have hv9 : fs_this_1[8]? = some (.int v_this_faultPlace) := ((hw1_1 8 (by decide) (by decide) (by decide) (by decide) (by decide)).trans g_this_faultPlace)
    exact W.vret hx hb hr (fun t ht hW => ⟨⟨(), rfl, trivial, fs_this_1, ⟨(by first | exact hw1_0 | (simp only [List.length_set]; exact hw1_0)), (fun j n3 n2 n4 n6 n5 n7 n8 => ((hw1_1 j n3 n2 n4 n6 n5).trans rfl)), (by first | exact hv3 | (rw [hv3]; refine congrArg some (congrArg _ ?_); first | rfl | (rw [if_pos hTk]; done) | (rw [if_neg hTk]; done) | (simp only [if_neg hTk]; done))), (by first | exact hv4 | (rw [hv4]; refine congrArg some (congrArg _ ?_); first | rfl | (rw [if_pos hTk]; done) | (rw [if_neg hTk]; done) | (simp only [if_neg hTk]; done))), (by first | exact hv5 | (rw [hv5]; refine congrArg some (congrArg _ ?_); first | rfl | (rw [if_pos hTk]; done) | (rw [if_neg hTk]; done) | (simp only [if_neg hTk]; done))), (by first | exact hv6 | (rw [hv6]; refine congrArg some (congrArg _ ?_); first | rfl | (rw [if_pos hTk]; done) | (rw [if_neg hTk]; done) | (simp only [if_neg hTk]; done))), (by first | exact hv7 | (rw [hv7]; refine congrArg some (congrArg _ ?_); first | rfl | (rw [if_pos hTk]; done) | (rw [if_neg hTk]; done) | (simp only [if_neg hTk]; done))), (by first | exact hv8 | (rw [hv8]; refine congrArg some (congrArg _ ?_); first | rfl | (rw [if_pos hTk]; done) | (rw [if_neg hTk]; done) | (simp only [if_neg hTk]; done))), (by first | exact hv9 | (rw [hv9]; refine congrArg some (congrArg _ ?_); first | rfl | (rw [if_pos hTk]; done) | (rw [if_neg hTk]; done) | (simp only [if_neg hTk]; done)))⟩, by rw [ht]; exact hP9, va_K.moved hW.alike hK9, hD9⟩, hS.F ht⟩) hS.2.2 d_Model_need_12
  · have hTk : ¬ (tSort f_text tz q = 6 ∧ v_this_number = p1 ∧ v_this_fault = 0) := nz hw1_7 c2
    refine lv_aload_n hx hb d_Model_need_8 rfl (lv_at hl 0 rfl) ?_
    have hPc := hP.sub (ws' := [oc h_this 12 fs_this_1]) [0] rfl
    have hKc := hK.sub (tys' := []) [] rfl
    have hDc := hD.sub (ws' := [oc h_this 12 fs_this_1]) [0] (by decide) rfl
    have hFc := va_free (wc := [oc h_this 12 fs_this_1]) hD hS hA [0] rfl
    refine va_callv (va_runV (As := []) (rest := []) ⟨hx, hb, hml, hown, hT⟩ (c_Model_wrong l dC dI (sz := H.size) (h_this := h_this) (fs_this := fs_this_1) (v_this_fault := v_this_fault) (v_this_faultPlace := v_this_faultPlace) (v_this_place := (nI (if (tSort f_text tz q = 6 ∧ v_this_number = p1 ∧ v_this_fault = 0) then nq f_text tz q else q))) (len_this := (by first | exact hw1_0 | (simp only [List.length_set]; exact hw1_0))) (g_this_fault := ((hw1_1 7 (by decide) (by decide) (by decide) (by decide) (by decide)).trans g_this_fault)) (g_this_faultPlace := ((hw1_1 8 (by decide) (by decide) (by decide) (by decide) (by decide)).trans g_this_faultPlace)) (g_this_place := hw1_2)) (cwV 0 hT (gV ml_Model_406 im_Model_wrong se_Model_wrong ini_Model co_Model_wrong) rfl rfl rfl (by decide +kernel) ⟨Nat.le_of_ble_eq_true rfl, Nat.le_of_ble_eq_true rfl⟩) ⟨fbQ, va_recv hKc hPc (ci := 12) (q0 := 0) rfl rfl, fun U hU hW => ⟨rfl, by rw [hU], by rw [hU]; exact hPc, va_K.moved hW.alike hKc, hDc.weaken (fun _ _ _ _ => trivial)⟩⟩ rfl rfl hl.1 rfl (lv_room (Nat.le_of_ble_eq_true rfl)) d_Model_need_9 ⟨Nat.le_of_ble_eq_true rfl, Nat.le_of_ble_eq_true rfl⟩) hS (fun q _ h => hFc q h) hFc (fun u t H1 locs ht hvm hw hB hz1 hk1 hS => ?_)
    obtain ⟨fs_this_10, ⟨hw10_0, hw10_1, hw10_2, hw10_3⟩, hP1, hK1, hD1⟩ := hB
    rw [ht] at hP1
    have hK1 := va_K.moved hvm.symm hK1
    obtain ⟨hP, hD⟩ := va_join (wr := [ic h_text k_text 4000 f_text]) (w1 := [oc h_this 12 fs_this_10]) hP hD [0] [1] rfl rfl (by decide) (by decide) hk1 hFc hP1 hD1
    generalize H1 = H at hP hS ⊢
    have hP : va_P (dC, dI) cls_all [ic h_text k_text 4000 f_text, oc h_this 12 fs_this_10] H := hP
    have hD : va_D A [ic h_text k_text 4000 f_text, oc h_this 12 fs_this_10] := hD
    have hP9 := hP.sub (ws' := [oc h_this 12 fs_this_10, ic h_text k_text 4000 f_text]) [1, 0] rfl
    have hD9 := hD.sub (ws' := [oc h_this 12 fs_this_10, ic h_text k_text 4000 f_text]) [1, 0] (by decide) rfl
    have hK9 := hK.sub (tys' := [(k_text, .int)]) [0] rfl
    have hv11 : fs_this_10[3]? = some (.int (nI (if (tSort f_text tz q = 6 ∧ v_this_number = p1 ∧ v_this_fault = 0) then nq f_text tz q else q))) := ((hw10_1 3 (by decide) (by decide)).trans hw1_2)
    have hv12 : fs_this_10[2]? = some (.int (tSort f_text tz (if (tSort f_text tz q = 6 ∧ v_this_number = p1 ∧ v_this_fault = 0) then nq f_text tz q else q))) := ((hw10_1 2 (by decide) (by decide)).trans hw1_3)
    have hv13 : fs_this_10[4]? = some (.int (nI (tAft f_text tz (if (tSort f_text tz q = 6 ∧ v_this_number = p1 ∧ v_this_fault = 0) then nq f_text tz q else q)))) := ((hw10_1 4 (by decide) (by decide)).trans hw1_4)
    have hv14 : fs_this_10[6]? = some (.long (if (tSort f_text tz q = 6 ∧ v_this_number = p1 ∧ v_this_fault = 0) then tWord f_text tz (nq f_text tz q) v_this_word else v_this_word)) := ((hw10_1 6 (by decide) (by decide)).trans hw1_5)
    have hv15 : fs_this_10[5]? = some (.int (if (tSort f_text tz q = 6 ∧ v_this_number = p1 ∧ v_this_fault = 0) then tNum f_text tz (nq f_text tz q) v_this_number else v_this_number)) := ((hw10_1 5 (by decide) (by decide)).trans hw1_6)
    have hv16 : fs_this_10[7]? = some (.int (if v_this_fault = 0 then 1 else v_this_fault)) := hw10_2
    have hv17 : fs_this_10[8]? = some (.int (if v_this_fault = 0 then (nI (if (tSort f_text tz q = 6 ∧ v_this_number = p1 ∧ v_this_fault = 0) then nq f_text tz q else q)) else v_this_faultPlace)) := hw10_3
    exact W.vret hx hb hr (fun t ht hW => ⟨⟨(), rfl, trivial, fs_this_10, ⟨(by first | exact hw10_0 | (simp only [List.length_set]; exact hw10_0)), (fun j n3 n2 n4 n6 n5 n7 n8 => ((hw10_1 j n7 n8).trans ((hw1_1 j n3 n2 n4 n6 n5).trans rfl))), (by first | exact hv11 | (rw [hv11]; refine congrArg some (congrArg _ ?_); first | rfl | (rw [if_pos hTk]; done) | (rw [if_neg hTk]; done) | (simp only [if_neg hTk]; done))), (by first | exact hv12 | (rw [hv12]; refine congrArg some (congrArg _ ?_); first | rfl | (rw [if_pos hTk]; done) | (rw [if_neg hTk]; done) | (simp only [if_neg hTk]; done))), (by first | exact hv13 | (rw [hv13]; refine congrArg some (congrArg _ ?_); first | rfl | (rw [if_pos hTk]; done) | (rw [if_neg hTk]; done) | (simp only [if_neg hTk]; done))), (by first | exact hv14 | (rw [hv14]; refine congrArg some (congrArg _ ?_); first | rfl | (rw [if_pos hTk]; done) | (rw [if_neg hTk]; done) | (simp only [if_neg hTk]; done))), (by first | exact hv15 | (rw [hv15]; refine congrArg some (congrArg _ ?_); first | rfl | (rw [if_pos hTk]; done) | (rw [if_neg hTk]; done) | (simp only [if_neg hTk]; done))), (by first | exact hv16 | (rw [hv16]; refine congrArg some (congrArg _ ?_); first | rfl | (rw [if_pos hTk]; done) | (rw [if_neg hTk]; done) | (simp only [if_neg hTk]; done))), (by first | exact hv17 | (rw [hv17]; refine congrArg some (congrArg _ ?_); first | rfl | (rw [if_pos hTk]; done) | (rw [if_neg hTk]; done) | (simp only [if_neg hTk]; done)))⟩, by rw [ht]; exact hP9, va_K.moved hW.alike hK9, hD9⟩, hS.F ht⟩) hS.2.2 d_Model_need_12
