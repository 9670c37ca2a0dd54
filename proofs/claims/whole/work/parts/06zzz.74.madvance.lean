theorem see32 {r : Int32} {f : Nat → Int32} {q tz : Nat} (hq : q < 2 ^ 31) (ht : tz < 2 ^ 31) (hr : r = if nI q < nI tz then f (nI q).toNatClampNeg else -1) (c : r = 32) : q < tz ∧ f q = 32 := by
  rw [nI_clamp hq] at hr
  by_cases h : nI q < nI tz
  · rw [if_pos h] at hr
    exact ⟨(ni_lt hq ht).1 h, hr.symm.trans c⟩
  · rw [if_neg h] at hr
    rw [hr] at c
    exact absurd c (by decide)
theorem see_n {r : Int32} {f : Nat → Int32} {q tz m : Nat} (hq : q < 2 ^ 31) (ht : tz < 2 ^ 31) (hm : m = tz - q) (hr : r = if nI q < nI tz then f (nI q).toNatClampNeg else -1) (c : ¬ r = 32) : m = 0 ∨ ¬ f q = 32 := by
  rw [nI_clamp hq] at hr
  by_cases h : nI q < nI tz
  · rw [if_pos h] at hr
    exact Or.inr (fun e => c (hr.trans e))
  · exact Or.inl (by have := (ni_lt hq ht).2 h; omega)
theorem nI_ite {P : Prop} [Decidable P] (x y : Nat) : (if P then nI x else nI y) = nI (if P then x else y) := by
  split <;> rfl
set_option maxHeartbeats 4000000 in
set_option maxRecDepth 100000 in
theorem c_Model_advance (l : Launch) (dC : Nat → ClassId) (dI : Nat → Nat → Nat) (sz : Nat) (ad : Nat → Nat) (av : Nat → Nat) (h_this : Nat) (h_text : Nat) (fs_this : List Value) (v_this_word : Int64) (v_this_number : Int32) (k_text : ClassId) (f_text : Nat → Int32) (a : Nat) (tz : Nat) (len_this : fs_this.length = 153) (g_this_after : fs_this[4]? = some (.int (nI a))) (g_this_size : fs_this[1]? = some (.int (nI tz))) (g_this_text : fs_this[0]? = some (.ref h_text)) (g_this_word : fs_this[6]? = some (.long v_this_word)) (g_this_number : fs_this[5]? = some (.int v_this_number)) (ha : a ≤ tz) (hz : tz ≤ 4000) : Met l y_Model_advance w_Model_advance ({ frames := 6, cells := 0, slots := 0, locals := 136 } : Room) (va_Pc [.ref h_this] (fun U => U.heap.size = sz ∧ va_P (dC, dI) cls_all [oc h_this 12 fs_this, ic h_text k_text 4000 f_text] U.heap ∧ va_K (dC, dI) cls_all [(k_text, .int)] U ∧ va_D (fun _ => True) [oc h_this 12 fs_this, ic h_text k_text 4000 f_text] ∧ env0 ad av (va_A [oc h_this 12 fs_this, ic h_text k_text 4000 f_text] sz) U U.heap)) (va_Qv (fun (_ : Unit) => True) (fun _ t => ∃ (fs_this' : List Value), (fs_this'.length = 153 ∧ (∀ j : Nat, j ≠ 3 → j ≠ 2 → j ≠ 4 → j ≠ 6 → j ≠ 5 → fs_this'[j]? = fs_this[j]?) ∧ fs_this'[3]? = some (.int (nI (a + bs f_text a (tz - a)))) ∧ fs_this'[2]? = some (.int (tSort f_text tz (a + bs f_text a (tz - a)))) ∧ fs_this'[4]? = some (.int (nI (tAft f_text tz (a + bs f_text a (tz - a))))) ∧ fs_this'[6]? = some (.long (tWord f_text tz (a + bs f_text a (tz - a)) v_this_word)) ∧ fs_this'[5]? = some (.int (tNum f_text tz (a + bs f_text a (tz - a)) v_this_number))) ∧ va_P (dC, dI) cls_all [oc h_this 12 fs_this', ic h_text k_text 4000 f_text] t.heap ∧ va_K (dC, dI) cls_all [(k_text, .int)] t ∧ va_D (va_A [oc h_this 12 fs_this, ic h_text k_text 4000 f_text] sz) [oc h_this 12 fs_this', ic h_text k_text 4000 f_text]) (va_A [oc h_this 12 fs_this, ic h_text k_text 4000 f_text] sz)) 0 0 (va_A [oc h_this 12 fs_this, ic h_text k_text 4000 f_text] sz) := by
  refine Met.ofW (cc := b_Model_advance) (maxL := 3) (ret := none) (by decide) rfl ?_
  intro p e s m args below meth c s₁ B hml hv
  obtain ⟨rfl, hsz, hP, hK, hD0, henv⟩ := hv
  have hx := B.exec
  have hb := B.bytes
  have hr := B.returns
  have hT : ∀ w ∈ lw_good, w.before _ s = true := fun w h => atoms_spec (ws := w_Model_advance) B.pre w (List.mem_cons_of_mem _ h)
  have hown : s.vm.findClass R_Model = some m.cls := findClass_of_methodNamed B.named
  have hlocks := B.notSynchronized
  subst hsz
  have hD := hD0.self (sz := s.heap.size)
  generalize hAe : va_A [oc h_this 12 fs_this, ic h_text k_text 4000 f_text] s.heap.size = A at hD henv ⊢
  have hA : ∀ q : Nat, s.heap.size ≤ q → A q := fun q h => by rw [← hAe]; exact Or.inr h
  have hS : va_S A s.heap s.heap [] := va_S.rf
  have hP : va_P (dC, dI) cls_all [oc h_this 12 fs_this, ic h_text k_text 4000 f_text] s.heap := hP
  have hl := lv_entry ([.ref h_this]) (n := 3) (Nat.le_of_ble_eq_true rfl)
  rw [lg_entry_eq]
  generalize (lg_sl ([.ref h_this]) ++ List.replicate (3 - (lg_sl ([.ref h_this])).length) Slot.unset).toArray = ls at hl ⊢
  have hl : lv_has ls 3 [(0, .ref h_this)] := hl
  refine lv_aload_n hx hb d_Model_advance_0 rfl (lv_at hl 0 rfl) ?_
  refine va_get (D := (dC, dI)) (ci := 12) (v := .int (nI a)) (C := R_Model) (T := F_Model) (N := 153) hx hb hT i_Model hown hK hP 0 rfl rfl 4 (by decide) (hT _ fl_Model_342) (fun _ h9 => h9) g_this_after d_Model_advance_1 ?_
  refine lv_istore_n (lv' := [(1, .int (nI a)), (0, .ref h_this)]) hx hb d_Model_advance_4 rfl hl (by decide) rfl (fun ls hl => ?_)
  have loop : ∀ (nn : Nat) (k : Nat), a + k ≤ tz → bs f_text a (tz - a) = k + bs f_text (a + k) (tz - a - k) → tz - a - k < nn → ∀ (H : Heap) (locs : List Loc), va_P (dC, dI) cls_all [oc h_this 12 fs_this, ic h_text k_text 4000 f_text] H → va_D A [oc h_this 12 fs_this, ic h_text k_text 4000 f_text] → va_S A s.heap H locs → ∀ (ls : Array Slot), lv_has ls 3 [(1, .int (nI (a + k))), (0, .ref h_this)] → W p l e (headSpec w_Model_advance ({ frames := 6, cells := 0, slots := 0, locals := 136 } : Room)).room s m ([.ref h_this] : List Value).toArray below meth c H locs 0 0 (MQ below (va_Qv (fun (_ : Unit) => True) (fun _ t => ∃ (fs_this' : List Value), (fs_this'.length = 153 ∧ (∀ j : Nat, j ≠ 3 → j ≠ 2 → j ≠ 4 → j ≠ 6 → j ≠ 5 → fs_this'[j]? = fs_this[j]?) ∧ fs_this'[3]? = some (.int (nI (a + bs f_text a (tz - a)))) ∧ fs_this'[2]? = some (.int (tSort f_text tz (a + bs f_text a (tz - a)))) ∧ fs_this'[4]? = some (.int (nI (tAft f_text tz (a + bs f_text a (tz - a))))) ∧ fs_this'[6]? = some (.long (tWord f_text tz (a + bs f_text a (tz - a)) v_this_word)) ∧ fs_this'[5]? = some (.int (tNum f_text tz (a + bs f_text a (tz - a)) v_this_number))) ∧ va_P (dC, dI) cls_all [oc h_this 12 fs_this', ic h_text k_text 4000 f_text] t.heap ∧ va_K (dC, dI) cls_all [(k_text, .int)] t ∧ va_D A [oc h_this 12 fs_this', ic h_text k_text 4000 f_text]) A) ([.ref h_this] : List Value).toArray s 0 0 A) (F0 m 5 ls []) := by
    clear hP hD hS
    clear hl
    intro nn
    induction nn with
    | zero => intro k hk he hn H locs hP hD hS ls hl; exfalso; omega
    | succ nn ih =>
      intro k hk he hn H locs hP hD hS ls hl
      refine lv_aload_n hx hb d_Model_advance_5 rfl (lv_at hl 1 rfl) ?_
      refine lv_iload_n hx hb d_Model_advance_6 rfl (lv_at hl 0 rfl) ?_
      have hPc := hP.sub (ws' := [oc h_this 12 fs_this, ic h_text k_text 4000 f_text]) [0, 1] rfl
      have hKc := hK.sub (tys' := [(k_text, .int)]) [0] rfl
      refine vp_callSi (va_Run.run (va_runV (As := [.int (nI (a + k))]) (rest := []) ⟨hx, hb, hml, hown, hT⟩ (c_Model_see l dC dI (h_this := h_this) (h_text := h_text) (fs_this := fs_this) (v_this_size := (nI tz)) (k_text := k_text) (f_text := f_text) (p1 := (nI (a + k))) (len_this := (by first | exact len_this | (simp only [List.length_set]; exact len_this))) (g_this_size := g_this_size) (g_this_text := g_this_text) (h0 := (nI_pos' (by omega))) (hs := (nI_le (b := 4000) (by omega) (by decide)))) (cwV 1 hT (gV ml_Model_345 im_Model_see_I se_Model_see_I ini_Model co_Model_see_I) rfl rfl rfl (by decide +kernel) ⟨Nat.le_of_ble_eq_true rfl, Nat.le_of_ble_eq_true rfl⟩) ⟨fbS, va_recv hKc hPc (ci := 12) (q0 := 0) rfl rfl, fun U hU hW => ⟨rfl, by rw [hU]; exact hPc, va_K.moved hW.alike hKc⟩⟩ rfl rfl hl.1 rfl (lv_room (Nat.le_of_ble_eq_true rfl)) d_Model_advance_7 ⟨Nat.le_of_ble_eq_true rfl, Nat.le_of_ble_eq_true rfl⟩)) (fun r1 hr1 => ?_)
      refine lv_bipush (v := 32) hx hb d_Model_advance_10 (by decide) ?_
      refine lv_icmp_ne (tgt := 21) hx hb d_Model_advance_12 (by decide) (fun c2 => ?_) (fun c2 => ?_)
      · have hN : bs f_text a (tz - a) = k := he.trans (by rw [bs_n (see_n (by omega) (by omega) (by omega) hr1 c2)]; rfl)
        refine lv_aload_n hx hb d_Model_advance_21 rfl (lv_at hl 1 rfl) ?_
        refine lv_iload_n hx hb d_Model_advance_22 rfl (lv_at hl 0 rfl) ?_
        refine va_put (D := (dC, dI)) (ci := 12) (v := .int (nI (a + k))) (ty := .int) (C := R_Model) (T := F_Model) (N := 153) hx hb hT i_Model t_Model t_Model_ok n_Model hown hK hP hD hS 0 rfl rfl 3 (by decide) (hT _ fl_Model_349) (fun _ h9 => h9) rfl (by decide +kernel) rfl rfl (by simp only [List.length_set, len_this]; decide) d_Model_advance_23 (fun H locs hP hD hS => ?_)
        have hP : va_P (dC, dI) cls_all [oc h_this 12 (fs_this.set 3 (.int (nI (a + k)))), ic h_text k_text 4000 f_text] H := hP
        have hD : va_D A [oc h_this 12 (fs_this.set 3 (.int (nI (a + k)))), ic h_text k_text 4000 f_text] := hD
        refine lv_iload_n hx hb d_Model_advance_26 rfl (lv_at hl 0 rfl) ?_
        refine lv_aload_n hx hb d_Model_advance_27 rfl (lv_at hl 1 rfl) ?_
        refine va_get (D := (dC, dI)) (ci := 12) (v := .int (nI tz)) (C := R_Model) (T := F_Model) (N := 153) hx hb hT i_Model hown hK hP 0 rfl rfl 1 (by decide) (hT _ fl_Model_313) (fun _ h9 => h9) ((ls_ne (by decide)).trans g_this_size) d_Model_advance_28 ?_
        refine lv_icmp_lt (tgt := 46) hx hb d_Model_advance_31 (by decide) (fun c3 => ?_) (fun c3 => ?_)
        · have b3 : ((a + k)) < (tz) := (ni_lt (by omega) (by omega) ).1 c3
          have hlt : ¬ tz ≤ a + k := Nat.not_le.mpr b3
          refine lv_aload_n hx hb d_Model_advance_46 rfl (lv_at hl 1 rfl) ?_
          refine va_get (D := (dC, dI)) (ci := 12) (v := .ref h_text) (C := R_Model) (T := F_Model) (N := 153) hx hb hT i_Model hown hK hP 0 rfl rfl 0 (by decide) (hT _ fl_Model_7) (fun _ h9 => h9) ((ls_ne (by decide)).trans g_this_text) d_Model_advance_47 ?_
          refine lv_iload_n hx hb d_Model_advance_50 rfl (lv_at hl 0 rfl) ?_
          refine va_iald hx hb hK hP 1 0 rfl rfl (vp_in_nI (by omega) (by decide)) d_Model_advance_51 ?_
          refine lv_topi (fun x4 e4 => ?_)
          obtain rfl : x4 = f_text (a + k) := e4.trans (congrArg f_text (nI_clamp (by omega)))
          refine lv_istore_n (lv' := [(2, .int (f_text (a + k))), (1, .int (nI (a + k))), (0, .ref h_this)]) hx hb d_Model_advance_52 rfl hl (by decide) rfl (fun ls hl => ?_)
          refine lv_iload_n hx hb d_Model_advance_53 rfl (lv_at hl 0 rfl) ?_
          have hPc := hP.sub (ws' := []) [] rfl
          have hKc := hK.sub (tys' := []) [] rfl
          refine vp_callSi (va_Run.run (va_runS (As := [.int (f_text (a + k))]) (rest := []) ⟨hx, hb, hml, hown, hT⟩ (c_Model_isLetter l dC dI (p1 := (f_text (a + k))) ) (va_cwS 1 hT (gS ml_Model_355 st_Model_isLetter ini_Model co_Model_isLetter) rfl rfl rfl (by decide +kernel) ⟨Nat.le_of_ble_eq_true rfl, Nat.le_of_ble_eq_true rfl⟩) ⟨fbS, fun U hU hW => ⟨rfl, by rw [hU]; exact hPc, va_K.moved hW.alike hKc⟩⟩ rfl rfl hl.1 rfl (lv_room (Nat.le_of_ble_eq_true rfl)) d_Model_advance_54 ⟨Nat.le_of_ble_eq_true rfl, Nat.le_of_ble_eq_true rfl⟩)) (fun r5 hr5 => ?_)
          refine lv_if_ne (tgt := 66) hx hb d_Model_advance_57 (by decide) (fun c6 => ?_) (fun c6 => ?_)
          · have hor : cL (f_text (a + k)) ∨ f_text (a + k) = 39 := Or.inl (yz hr5 c6)
            refine lv_aload_n hx hb d_Model_advance_66 rfl (lv_at hl 2 rfl) ?_
            refine lv_iload_n hx hb d_Model_advance_67 rfl (lv_at hl 0 rfl) ?_
            refine lv_bipush (v := 39) hx hb d_Model_advance_68 (by decide) ?_
            refine lv_icmp_ne (tgt := 79) hx hb d_Model_advance_70 (by decide) (fun c7 => ?_) (fun c7 => ?_)
            · have hF : tFR f_text (a + k) = (a + k) := if_neg c7
              refine lv_iload_n hx hb d_Model_advance_79 rfl (lv_at hl 1 rfl) ?_
              refine lv_iload_n hx hb d_Model_advance_80 rfl (lv_at hl 0 rfl) ?_
              refine lv_bipush (v := 39) hx hb d_Model_advance_81 (by decide) ?_
              refine lv_icmp_ne (tgt := 90) hx hb d_Model_advance_83 (by decide) (fun c8 => ?_) (fun c8 => absurd c8 c7)
              refine lv_iconst (v := 0) hx hb d_Model_advance_90 (by decide) ?_
              have hPc := hP.sub (ws' := [oc h_this 12 (fs_this.set 3 (.int (nI (a + k)))), ic h_text k_text 4000 f_text]) [0, 1] rfl
              have hKc := hK.sub (tys' := [(k_text, .int)]) [0] rfl
              have hDc := hD.sub (ws' := [oc h_this 12 (fs_this.set 3 (.int (nI (a + k)))), ic h_text k_text 4000 f_text]) [0, 1] (by decide) rfl
              have hFc := va_free (wc := [oc h_this 12 (fs_this.set 3 (.int (nI (a + k)))), ic h_text k_text 4000 f_text]) hD hS hA [0, 1] rfl
              refine va_callv (va_runV (As := [.int (nI (a + k)), .int 0]) (rest := []) ⟨hx, hb, hml, hown, hT⟩ (c_Model_row l dC dI (sz := H.size) (ad := ad) (av := av) (h_this := h_this) (h_text := h_text) (fs_this := (fs_this.set 3 (.int (nI (a + k))))) (k_text := k_text) (f_text := f_text) (p2 := 0) (a := (a + k)) (tz := tz) (len_this := (by first | exact len_this | (simp only [List.length_set]; exact len_this))) (g_this_size := ((ls_ne (by decide)).trans g_this_size)) (g_this_text := ((ls_ne (by decide)).trans g_this_text)) (ha := (by omega)) (hz := (by omega))) (cwV 2 hT (gV ml_Model_358 im_Model_row se_Model_row ini_Model co_Model_row) rfl rfl rfl (by decide +kernel) ⟨Nat.le_of_ble_eq_true rfl, Nat.le_of_ble_eq_true rfl⟩) ⟨fbQe, va_recv hKc hPc (ci := 12) (q0 := 0) rfl rfl, fun U hU hW => ⟨rfl, by rw [hU], by rw [hU]; exact hPc, va_K.moved hW.alike hKc, hDc.weaken (fun _ _ _ _ => trivial), env0.hand henv hS hU hW hFc⟩⟩ rfl rfl hl.1 rfl (lv_room (Nat.le_of_ble_eq_true rfl)) d_Model_advance_91 ⟨Nat.le_of_ble_eq_true rfl, Nat.le_of_ble_eq_true rfl⟩) hS (fun q _ h => hFc q h) hFc (fun u t H1 locs ht hvm hw hB hz1 hk1 hS => ?_)
              obtain ⟨fs_this_9, ⟨hw9_0, hw9_1, hw9_2, hw9_3, hw9_4, hw9_5⟩, hP1, hK1, hD1⟩ := hB
              rw [ht] at hP1
              have hK1 := va_K.moved hvm.symm hK1
              obtain ⟨hP, hD⟩ := va_join (wr := []) (w1 := [oc h_this 12 fs_this_9, ic h_text k_text 4000 f_text]) hP hD [0, 1] [] rfl rfl (by decide) (by decide) hk1 hFc hP1 hD1
              generalize H1 = H at hP hS ⊢
              have hP : va_P (dC, dI) cls_all [oc h_this 12 fs_this_9, ic h_text k_text 4000 f_text] H := hP
              have hD : va_D A [oc h_this 12 fs_this_9, ic h_text k_text 4000 f_text] := hD
              refine lv_goto (tgt := 102) hx hb d_Model_advance_94 (by decide) ?_
              have hP9 := hP.sub (ws' := [oc h_this 12 fs_this_9, ic h_text k_text 4000 f_text]) [0, 1] rfl
              have hD9 := hD.sub (ws' := [oc h_this 12 fs_this_9, ic h_text k_text 4000 f_text]) [0, 1] (by decide) rfl
              have hK9 := hK.sub (tys' := [(k_text, .int)]) [0] rfl
              have hv10 : fs_this_9[3]? = some (.int (nI (a + k))) := ((hw9_1 3 (by decide) (by decide) (by decide) (by decide)).trans (ls_eq (by simp only [List.length_set, len_this]; decide)))
              have hv11 : fs_this_9[2]? = some (.int (srt (0 : Int32) (nI (rl f_text (a + k) (tz - (a + k)))) (if nI (a + k) < nI tz then f_text (a + k) else -1) (dgs f_text (a + k) (rl f_text (a + k) (tz - (a + k)))) (sml f_text (a + k) (rl f_text (a + k) (tz - (a + k)))) (if ff (khit (pkd f_text (a + k) (rl f_text (a + k) (tz - (a + k))))) 0 133 = -1 then 0 else 1))) := hw9_5
              have hv12 : fs_this_9[4]? = some (.int (nI ((a + k) + (rl f_text (a + k) (tz - (a + k)))))) := hw9_4
              have hv13 : fs_this_9[6]? = some (.long (pkd f_text (a + k) (rl f_text (a + k) (tz - (a + k))))) := hw9_2
              have hv14 : fs_this_9[5]? = some (.int (nmb f_text (a + k) (rl f_text (a + k) (tz - (a + k))))) := hw9_3
              exact W.vret hx hb hr (fun t ht hW => ⟨⟨(), rfl, trivial, fs_this_9, ⟨(by first | exact hw9_0 | (simp only [List.length_set]; exact hw9_0)), (fun j n3 n2 n4 n6 n5 => ((hw9_1 j n6 n5 n4 n2).trans ((ls_ne n3).trans rfl))), (by first | exact hv10 | (rw [hv10]; refine congrArg some (congrArg _ ?_); first | (rw [hN]; done) | (rw [hN]; simp only [tSort, tAft, tWord, tNum, if_neg hlt, if_pos hor, tN, hF, if_neg c7]; done))), (by first | exact hv11 | (rw [hv11]; refine congrArg some (congrArg _ ?_); first | (rw [hN]; done) | (rw [hN]; simp only [tSort, tAft, tWord, tNum, if_neg hlt, if_pos hor, tN, hF, if_neg c7]; done))), (by first | exact hv12 | (rw [hv12]; refine congrArg some (congrArg _ ?_); first | (rw [hN]; done) | (rw [hN]; simp only [tSort, tAft, tWord, tNum, if_neg hlt, if_pos hor, tN, hF, if_neg c7]; done))), (by first | exact hv13 | (rw [hv13]; refine congrArg some (congrArg _ ?_); first | (rw [hN]; done) | (rw [hN]; simp only [tSort, tAft, tWord, tNum, if_neg hlt, if_pos hor, tN, hF, if_neg c7]; done))), (by first | exact hv14 | (rw [hv14]; refine congrArg some (congrArg _ ?_); first | (rw [hN]; done) | (rw [hN]; simp only [tSort, tAft, tWord, tNum, if_neg hlt, if_pos hor, tN, hF, if_neg c7]; done)))⟩, by rw [ht]; exact hP9, va_K.moved hW.alike hK9, hD9⟩, hS.F ht⟩) hS.2.2 d_Model_advance_102
            · have hF : tFR f_text (a + k) = (a + k) + 1 := if_pos c7
              refine lv_iload_n hx hb d_Model_advance_73 rfl (lv_at hl 1 rfl) ?_
              refine lv_iconst (v := 1) hx hb d_Model_advance_74 (by decide) ?_
              refine lv_iadd hx hb d_Model_advance_75 ?_
              refine lv_topi (fun x15 e15 => ?_)
              obtain rfl : x15 = nI ((a + k) + 1) := e15.trans (nI_add (a + k) 1)
              refine lv_goto (tgt := 80) hx hb d_Model_advance_76 (by decide) ?_
              refine lv_iload_n hx hb d_Model_advance_80 rfl (lv_at hl 0 rfl) ?_
              refine lv_bipush (v := 39) hx hb d_Model_advance_81 (by decide) ?_
              refine lv_icmp_ne (tgt := 90) hx hb d_Model_advance_83 (by decide) (fun c16 => absurd c7 c16) (fun c16 => ?_)
              refine lv_iconst (v := 1) hx hb d_Model_advance_86 (by decide) ?_
              refine lv_goto (tgt := 91) hx hb d_Model_advance_87 (by decide) ?_
              have hPc := hP.sub (ws' := [oc h_this 12 (fs_this.set 3 (.int (nI (a + k)))), ic h_text k_text 4000 f_text]) [0, 1] rfl
              have hKc := hK.sub (tys' := [(k_text, .int)]) [0] rfl
              have hDc := hD.sub (ws' := [oc h_this 12 (fs_this.set 3 (.int (nI (a + k)))), ic h_text k_text 4000 f_text]) [0, 1] (by decide) rfl
              have hFc := va_free (wc := [oc h_this 12 (fs_this.set 3 (.int (nI (a + k)))), ic h_text k_text 4000 f_text]) hD hS hA [0, 1] rfl
              refine va_callv (va_runV (As := [.int (nI ((a + k) + 1)), .int 1]) (rest := []) ⟨hx, hb, hml, hown, hT⟩ (c_Model_row l dC dI (sz := H.size) (ad := ad) (av := av) (h_this := h_this) (h_text := h_text) (fs_this := (fs_this.set 3 (.int (nI (a + k))))) (k_text := k_text) (f_text := f_text) (p2 := 1) (a := (a + k + 1)) (tz := tz) (len_this := (by first | exact len_this | (simp only [List.length_set]; exact len_this))) (g_this_size := ((ls_ne (by decide)).trans g_this_size)) (g_this_text := ((ls_ne (by decide)).trans g_this_text)) (ha := (by omega)) (hz := (by omega))) (cwV 2 hT (gV ml_Model_358 im_Model_row se_Model_row ini_Model co_Model_row) rfl rfl rfl (by decide +kernel) ⟨Nat.le_of_ble_eq_true rfl, Nat.le_of_ble_eq_true rfl⟩) ⟨fbQe, va_recv hKc hPc (ci := 12) (q0 := 0) rfl rfl, fun U hU hW => ⟨rfl, by rw [hU], by rw [hU]; exact hPc, va_K.moved hW.alike hKc, hDc.weaken (fun _ _ _ _ => trivial), env0.hand henv hS hU hW hFc⟩⟩ rfl rfl hl.1 rfl (lv_room (Nat.le_of_ble_eq_true rfl)) d_Model_advance_91 ⟨Nat.le_of_ble_eq_true rfl, Nat.le_of_ble_eq_true rfl⟩) hS (fun q _ h => hFc q h) hFc (fun u t H1 locs ht hvm hw hB hz1 hk1 hS => ?_)
              obtain ⟨fs_this_17, ⟨hw17_0, hw17_1, hw17_2, hw17_3, hw17_4, hw17_5⟩, hP1, hK1, hD1⟩ := hB
              rw [ht] at hP1
              have hK1 := va_K.moved hvm.symm hK1
              obtain ⟨hP, hD⟩ := va_join (wr := []) (w1 := [oc h_this 12 fs_this_17, ic h_text k_text 4000 f_text]) hP hD [0, 1] [] rfl rfl (by decide) (by decide) hk1 hFc hP1 hD1
              generalize H1 = H at hP hS ⊢
              have hP : va_P (dC, dI) cls_all [oc h_this 12 fs_this_17, ic h_text k_text 4000 f_text] H := hP
              have hD : va_D A [oc h_this 12 fs_this_17, ic h_text k_text 4000 f_text] := hD
              refine lv_goto (tgt := 102) hx hb d_Model_advance_94 (by decide) ?_
              have hP9 := hP.sub (ws' := [oc h_this 12 fs_this_17, ic h_text k_text 4000 f_text]) [0, 1] rfl
              have hD9 := hD.sub (ws' := [oc h_this 12 fs_this_17, ic h_text k_text 4000 f_text]) [0, 1] (by decide) rfl
              have hK9 := hK.sub (tys' := [(k_text, .int)]) [0] rfl
              have hv18 : fs_this_17[3]? = some (.int (nI (a + k))) := ((hw17_1 3 (by decide) (by decide) (by decide) (by decide)).trans (ls_eq (by simp only [List.length_set, len_this]; decide)))
              have hv19 : fs_this_17[2]? = some (.int (srt (1 : Int32) (nI (rl f_text (a + k + 1) (tz - (a + k + 1)))) (if nI (a + k + 1) < nI tz then f_text (a + k + 1) else -1) (dgs f_text (a + k + 1) (rl f_text (a + k + 1) (tz - (a + k + 1)))) (sml f_text (a + k + 1) (rl f_text (a + k + 1) (tz - (a + k + 1)))) (if ff (khit (pkd f_text (a + k + 1) (rl f_text (a + k + 1) (tz - (a + k + 1))))) 0 133 = -1 then 0 else 1))) := hw17_5
              have hv20 : fs_this_17[4]? = some (.int (nI ((a + k + 1) + (rl f_text (a + k + 1) (tz - (a + k + 1)))))) := hw17_4
              have hv21 : fs_this_17[6]? = some (.long (pkd f_text (a + k + 1) (rl f_text (a + k + 1) (tz - (a + k + 1))))) := hw17_2
              have hv22 : fs_this_17[5]? = some (.int (nmb f_text (a + k + 1) (rl f_text (a + k + 1) (tz - (a + k + 1))))) := hw17_3
              exact W.vret hx hb hr (fun t ht hW => ⟨⟨(), rfl, trivial, fs_this_17, ⟨(by first | exact hw17_0 | (simp only [List.length_set]; exact hw17_0)), (fun j n3 n2 n4 n6 n5 => ((hw17_1 j n6 n5 n4 n2).trans ((ls_ne n3).trans rfl))), (by first | exact hv18 | (rw [hv18]; refine congrArg some (congrArg _ ?_); first | (rw [hN]; done) | (rw [hN]; simp only [tSort, tAft, tWord, tNum, if_neg hlt, if_pos hor, tN, hF, if_pos c7]; done))), (by first | exact hv19 | (rw [hv19]; refine congrArg some (congrArg _ ?_); first | (rw [hN]; done) | (rw [hN]; simp only [tSort, tAft, tWord, tNum, if_neg hlt, if_pos hor, tN, hF, if_pos c7]; done))), (by first | exact hv20 | (rw [hv20]; refine congrArg some (congrArg _ ?_); first | (rw [hN]; done) | (rw [hN]; simp only [tSort, tAft, tWord, tNum, if_neg hlt, if_pos hor, tN, hF, if_pos c7]; done))), (by first | exact hv21 | (rw [hv21]; refine congrArg some (congrArg _ ?_); first | (rw [hN]; done) | (rw [hN]; simp only [tSort, tAft, tWord, tNum, if_neg hlt, if_pos hor, tN, hF, if_pos c7]; done))), (by first | exact hv22 | (rw [hv22]; refine congrArg some (congrArg _ ?_); first | (rw [hN]; done) | (rw [hN]; simp only [tSort, tAft, tWord, tNum, if_neg hlt, if_pos hor, tN, hF, if_pos c7]; done)))⟩, by rw [ht]; exact hP9, va_K.moved hW.alike hK9, hD9⟩, hS.F ht⟩) hS.2.2 d_Model_advance_102
          · refine lv_iload_n hx hb d_Model_advance_60 rfl (lv_at hl 0 rfl) ?_
            refine lv_bipush (v := 39) hx hb d_Model_advance_61 (by decide) ?_
            refine lv_icmp_ne (tgt := 97) hx hb d_Model_advance_63 (by decide) (fun c23 => ?_) (fun c23 => ?_)
            · have hnor : ¬ (cL (f_text (a + k)) ∨ f_text (a + k) = 39) := fun z => z.elim (nz hr5 c6) c23
              refine lv_aload_n hx hb d_Model_advance_97 rfl (lv_at hl 2 rfl) ?_
              refine lv_iload_n hx hb d_Model_advance_98 rfl (lv_at hl 0 rfl) ?_
              have hPc := hP.sub (ws' := [oc h_this 12 (fs_this.set 3 (.int (nI (a + k)))), ic h_text k_text 4000 f_text]) [0, 1] rfl
              have hKc := hK.sub (tys' := [(k_text, .int)]) [0] rfl
              have hDc := hD.sub (ws' := [oc h_this 12 (fs_this.set 3 (.int (nI (a + k)))), ic h_text k_text 4000 f_text]) [0, 1] (by decide) rfl
              have hFc := va_free (wc := [oc h_this 12 (fs_this.set 3 (.int (nI (a + k)))), ic h_text k_text 4000 f_text]) hD hS hA [0, 1] rfl
              refine va_callv (va_runV (As := [.int (f_text (a + k))]) (rest := []) ⟨hx, hb, hml, hown, hT⟩ (c_Model_sign l dC dI (sz := H.size) (ad := ad) (av := av) (h_this := h_this) (h_text := h_text) (fs_this := (fs_this.set 3 (.int (nI (a + k))))) (k_text := k_text) (f_text := f_text) (p1 := (f_text (a + k))) (a := (a + k)) (tz := tz) (len_this := (by first | exact len_this | (simp only [List.length_set]; exact len_this))) (g_this_size := ((ls_ne (by decide)).trans g_this_size)) (g_this_text := ((ls_ne (by decide)).trans g_this_text)) (g_this_place := (ls_eq (by simp only [List.length_set, len_this]; decide))) (ha := (by omega)) (hz := (by omega))) (cwV 1 hT (gV ml_Model_362 im_Model_sign se_Model_sign ini_Model co_Model_sign) rfl rfl rfl (by decide +kernel) ⟨Nat.le_of_ble_eq_true rfl, Nat.le_of_ble_eq_true rfl⟩) ⟨fbQe, va_recv hKc hPc (ci := 12) (q0 := 0) rfl rfl, fun U hU hW => ⟨rfl, by rw [hU], by rw [hU]; exact hPc, va_K.moved hW.alike hKc, hDc.weaken (fun _ _ _ _ => trivial), env0.hand henv hS hU hW hFc⟩⟩ rfl rfl hl.1 rfl (lv_room (Nat.le_of_ble_eq_true rfl)) d_Model_advance_99 ⟨Nat.le_of_ble_eq_true rfl, Nat.le_of_ble_eq_true rfl⟩) hS (fun q _ h => hFc q h) hFc (fun u t H1 locs ht hvm hw hB hz1 hk1 hS => ?_)
              obtain ⟨fs_this_24, ⟨hw24_0, hw24_1, hw24_2, hw24_3, hw24_4⟩, hP1, hK1, hD1⟩ := hB
              rw [ht] at hP1
              have hK1 := va_K.moved hvm.symm hK1
              obtain ⟨hP, hD⟩ := va_join (wr := []) (w1 := [oc h_this 12 fs_this_24, ic h_text k_text 4000 f_text]) hP hD [0, 1] [] rfl rfl (by decide) (by decide) hk1 hFc hP1 hD1
              generalize H1 = H at hP hS ⊢
              have hP : va_P (dC, dI) cls_all [oc h_this 12 fs_this_24, ic h_text k_text 4000 f_text] H := hP
              have hD : va_D A [oc h_this 12 fs_this_24, ic h_text k_text 4000 f_text] := hD
              have hP9 := hP.sub (ws' := [oc h_this 12 fs_this_24, ic h_text k_text 4000 f_text]) [0, 1] rfl
              have hD9 := hD.sub (ws' := [oc h_this 12 fs_this_24, ic h_text k_text 4000 f_text]) [0, 1] (by decide) rfl
              have hK9 := hK.sub (tys' := [(k_text, .int)]) [0] rfl
              have hv25 : fs_this_24[3]? = some (.int (nI (a + k))) := ((hw24_1 3 (by decide) (by decide) (by decide)).trans (ls_eq (by simp only [List.length_set, len_this]; decide)))
              have hv26 : fs_this_24[2]? = some (.int (sgs (f_text (a + k)) 22)) := hw24_4
              have hv27 : fs_this_24[4]? = some (.int (if (f_text (a + k)) = 61 ∧ (if nI ((a + k) + 1) < nI tz then f_text ((a + k) + 1) else -1) = 61 then nI ((a + k) + 2) else nI ((a + k) + 1))) := hw24_2
              have hv28 : fs_this_24[6]? = some (.long v_this_word) := ((hw24_1 6 (by decide) (by decide) (by decide)).trans ((ls_ne (by decide)).trans g_this_word))
              have hv29 : fs_this_24[5]? = some (.int (if (f_text (a + k)) = 61 ∧ (if nI ((a + k) + 1) < nI tz then f_text ((a + k) + 1) else -1) = 61 then 256 else (f_text (a + k)))) := hw24_3
              exact W.vret hx hb hr (fun t ht hW => ⟨⟨(), rfl, trivial, fs_this_24, ⟨(by first | exact hw24_0 | (simp only [List.length_set]; exact hw24_0)), (fun j n3 n2 n4 n6 n5 => ((hw24_1 j n4 n5 n2).trans ((ls_ne n3).trans rfl))), (by first | exact hv25 | (rw [hv25]; refine congrArg some (congrArg _ ?_); first | (rw [hN]; done) | (rw [hN]; simp only [tSort, tAft, tWord, tNum, if_neg hlt, if_neg hnor]; first | done | exact nI_ite _ _))), (by first | exact hv26 | (rw [hv26]; refine congrArg some (congrArg _ ?_); first | (rw [hN]; done) | (rw [hN]; simp only [tSort, tAft, tWord, tNum, if_neg hlt, if_neg hnor]; first | done | exact nI_ite _ _))), (by first | exact hv27 | (rw [hv27]; refine congrArg some (congrArg _ ?_); first | (rw [hN]; done) | (rw [hN]; simp only [tSort, tAft, tWord, tNum, if_neg hlt, if_neg hnor]; first | done | exact nI_ite _ _))), (by first | exact hv28 | (rw [hv28]; refine congrArg some (congrArg _ ?_); first | (rw [hN]; done) | (rw [hN]; simp only [tSort, tAft, tWord, tNum, if_neg hlt, if_neg hnor]; first | done | exact nI_ite _ _))), (by first | exact hv29 | (rw [hv29]; refine congrArg some (congrArg _ ?_); first | (rw [hN]; done) | (rw [hN]; simp only [tSort, tAft, tWord, tNum, if_neg hlt, if_neg hnor]; first | done | exact nI_ite _ _)))⟩, by rw [ht]; exact hP9, va_K.moved hW.alike hK9, hD9⟩, hS.F ht⟩) hS.2.2 d_Model_advance_102
            · have hor : cL (f_text (a + k)) ∨ f_text (a + k) = 39 := Or.inr c23
              refine lv_aload_n hx hb d_Model_advance_66 rfl (lv_at hl 2 rfl) ?_
              refine lv_iload_n hx hb d_Model_advance_67 rfl (lv_at hl 0 rfl) ?_
              refine lv_bipush (v := 39) hx hb d_Model_advance_68 (by decide) ?_
              refine lv_icmp_ne (tgt := 79) hx hb d_Model_advance_70 (by decide) (fun c30 => ?_) (fun c30 => ?_)
              · have hF : tFR f_text (a + k) = (a + k) := if_neg c30
                refine lv_iload_n hx hb d_Model_advance_79 rfl (lv_at hl 1 rfl) ?_
                refine lv_iload_n hx hb d_Model_advance_80 rfl (lv_at hl 0 rfl) ?_
                refine lv_bipush (v := 39) hx hb d_Model_advance_81 (by decide) ?_
                refine lv_icmp_ne (tgt := 90) hx hb d_Model_advance_83 (by decide) (fun c31 => ?_) (fun c31 => absurd c31 c30)
                refine lv_iconst (v := 0) hx hb d_Model_advance_90 (by decide) ?_
                have hPc := hP.sub (ws' := [oc h_this 12 (fs_this.set 3 (.int (nI (a + k)))), ic h_text k_text 4000 f_text]) [0, 1] rfl
                have hKc := hK.sub (tys' := [(k_text, .int)]) [0] rfl
                have hDc := hD.sub (ws' := [oc h_this 12 (fs_this.set 3 (.int (nI (a + k)))), ic h_text k_text 4000 f_text]) [0, 1] (by decide) rfl
                have hFc := va_free (wc := [oc h_this 12 (fs_this.set 3 (.int (nI (a + k)))), ic h_text k_text 4000 f_text]) hD hS hA [0, 1] rfl
                refine va_callv (va_runV (As := [.int (nI (a + k)), .int 0]) (rest := []) ⟨hx, hb, hml, hown, hT⟩ (c_Model_row l dC dI (sz := H.size) (ad := ad) (av := av) (h_this := h_this) (h_text := h_text) (fs_this := (fs_this.set 3 (.int (nI (a + k))))) (k_text := k_text) (f_text := f_text) (p2 := 0) (a := (a + k)) (tz := tz) (len_this := (by first | exact len_this | (simp only [List.length_set]; exact len_this))) (g_this_size := ((ls_ne (by decide)).trans g_this_size)) (g_this_text := ((ls_ne (by decide)).trans g_this_text)) (ha := (by omega)) (hz := (by omega))) (cwV 2 hT (gV ml_Model_358 im_Model_row se_Model_row ini_Model co_Model_row) rfl rfl rfl (by decide +kernel) ⟨Nat.le_of_ble_eq_true rfl, Nat.le_of_ble_eq_true rfl⟩) ⟨fbQe, va_recv hKc hPc (ci := 12) (q0 := 0) rfl rfl, fun U hU hW => ⟨rfl, by rw [hU], by rw [hU]; exact hPc, va_K.moved hW.alike hKc, hDc.weaken (fun _ _ _ _ => trivial), env0.hand henv hS hU hW hFc⟩⟩ rfl rfl hl.1 rfl (lv_room (Nat.le_of_ble_eq_true rfl)) d_Model_advance_91 ⟨Nat.le_of_ble_eq_true rfl, Nat.le_of_ble_eq_true rfl⟩) hS (fun q _ h => hFc q h) hFc (fun u t H1 locs ht hvm hw hB hz1 hk1 hS => ?_)
                obtain ⟨fs_this_32, ⟨hw32_0, hw32_1, hw32_2, hw32_3, hw32_4, hw32_5⟩, hP1, hK1, hD1⟩ := hB
                rw [ht] at hP1
                have hK1 := va_K.moved hvm.symm hK1
                obtain ⟨hP, hD⟩ := va_join (wr := []) (w1 := [oc h_this 12 fs_this_32, ic h_text k_text 4000 f_text]) hP hD [0, 1] [] rfl rfl (by decide) (by decide) hk1 hFc hP1 hD1
                generalize H1 = H at hP hS ⊢
                have hP : va_P (dC, dI) cls_all [oc h_this 12 fs_this_32, ic h_text k_text 4000 f_text] H := hP
                have hD : va_D A [oc h_this 12 fs_this_32, ic h_text k_text 4000 f_text] := hD
                refine lv_goto (tgt := 102) hx hb d_Model_advance_94 (by decide) ?_
                have hP9 := hP.sub (ws' := [oc h_this 12 fs_this_32, ic h_text k_text 4000 f_text]) [0, 1] rfl
                have hD9 := hD.sub (ws' := [oc h_this 12 fs_this_32, ic h_text k_text 4000 f_text]) [0, 1] (by decide) rfl
                have hK9 := hK.sub (tys' := [(k_text, .int)]) [0] rfl
                have hv33 : fs_this_32[3]? = some (.int (nI (a + k))) := ((hw32_1 3 (by decide) (by decide) (by decide) (by decide)).trans (ls_eq (by simp only [List.length_set, len_this]; decide)))
                have hv34 : fs_this_32[2]? = some (.int (srt (0 : Int32) (nI (rl f_text (a + k) (tz - (a + k)))) (if nI (a + k) < nI tz then f_text (a + k) else -1) (dgs f_text (a + k) (rl f_text (a + k) (tz - (a + k)))) (sml f_text (a + k) (rl f_text (a + k) (tz - (a + k)))) (if ff (khit (pkd f_text (a + k) (rl f_text (a + k) (tz - (a + k))))) 0 133 = -1 then 0 else 1))) := hw32_5
                have hv35 : fs_this_32[4]? = some (.int (nI ((a + k) + (rl f_text (a + k) (tz - (a + k)))))) := hw32_4
                have hv36 : fs_this_32[6]? = some (.long (pkd f_text (a + k) (rl f_text (a + k) (tz - (a + k))))) := hw32_2
                have hv37 : fs_this_32[5]? = some (.int (nmb f_text (a + k) (rl f_text (a + k) (tz - (a + k))))) := hw32_3
                exact W.vret hx hb hr (fun t ht hW => ⟨⟨(), rfl, trivial, fs_this_32, ⟨(by first | exact hw32_0 | (simp only [List.length_set]; exact hw32_0)), (fun j n3 n2 n4 n6 n5 => ((hw32_1 j n6 n5 n4 n2).trans ((ls_ne n3).trans rfl))), (by first | exact hv33 | (rw [hv33]; refine congrArg some (congrArg _ ?_); first | (rw [hN]; done) | (rw [hN]; simp only [tSort, tAft, tWord, tNum, if_neg hlt, if_pos hor, tN, hF, if_neg c30]; done))), (by first | exact hv34 | (rw [hv34]; refine congrArg some (congrArg _ ?_); first | (rw [hN]; done) | (rw [hN]; simp only [tSort, tAft, tWord, tNum, if_neg hlt, if_pos hor, tN, hF, if_neg c30]; done))), (by first | exact hv35 | (rw [hv35]; refine congrArg some (congrArg _ ?_); first | (rw [hN]; done) | (rw [hN]; simp only [tSort, tAft, tWord, tNum, if_neg hlt, if_pos hor, tN, hF, if_neg c30]; done))), (by first | exact hv36 | (rw [hv36]; refine congrArg some (congrArg _ ?_); first | (rw [hN]; done) | (rw [hN]; simp only [tSort, tAft, tWord, tNum, if_neg hlt, if_pos hor, tN, hF, if_neg c30]; done))), (by first | exact hv37 | (rw [hv37]; refine congrArg some (congrArg _ ?_); first | (rw [hN]; done) | (rw [hN]; simp only [tSort, tAft, tWord, tNum, if_neg hlt, if_pos hor, tN, hF, if_neg c30]; done)))⟩, by rw [ht]; exact hP9, va_K.moved hW.alike hK9, hD9⟩, hS.F ht⟩) hS.2.2 d_Model_advance_102
              · have hF : tFR f_text (a + k) = (a + k) + 1 := if_pos c30
                refine lv_iload_n hx hb d_Model_advance_73 rfl (lv_at hl 1 rfl) ?_
                refine lv_iconst (v := 1) hx hb d_Model_advance_74 (by decide) ?_
                refine lv_iadd hx hb d_Model_advance_75 ?_
                refine lv_topi (fun x38 e38 => ?_)
                obtain rfl : x38 = nI ((a + k) + 1) := e38.trans (nI_add (a + k) 1)
                refine lv_goto (tgt := 80) hx hb d_Model_advance_76 (by decide) ?_
                refine lv_iload_n hx hb d_Model_advance_80 rfl (lv_at hl 0 rfl) ?_
                refine lv_bipush (v := 39) hx hb d_Model_advance_81 (by decide) ?_
                refine lv_icmp_ne (tgt := 90) hx hb d_Model_advance_83 (by decide) (fun c39 => absurd c30 c39) (fun c39 => ?_)
                refine lv_iconst (v := 1) hx hb d_Model_advance_86 (by decide) ?_
                refine lv_goto (tgt := 91) hx hb d_Model_advance_87 (by decide) ?_
                have hPc := hP.sub (ws' := [oc h_this 12 (fs_this.set 3 (.int (nI (a + k)))), ic h_text k_text 4000 f_text]) [0, 1] rfl
                have hKc := hK.sub (tys' := [(k_text, .int)]) [0] rfl
                have hDc := hD.sub (ws' := [oc h_this 12 (fs_this.set 3 (.int (nI (a + k)))), ic h_text k_text 4000 f_text]) [0, 1] (by decide) rfl
                have hFc := va_free (wc := [oc h_this 12 (fs_this.set 3 (.int (nI (a + k)))), ic h_text k_text 4000 f_text]) hD hS hA [0, 1] rfl
                refine va_callv (va_runV (As := [.int (nI ((a + k) + 1)), .int 1]) (rest := []) ⟨hx, hb, hml, hown, hT⟩ (c_Model_row l dC dI (sz := H.size) (ad := ad) (av := av) (h_this := h_this) (h_text := h_text) (fs_this := (fs_this.set 3 (.int (nI (a + k))))) (k_text := k_text) (f_text := f_text) (p2 := 1) (a := (a + k + 1)) (tz := tz) (len_this := (by first | exact len_this | (simp only [List.length_set]; exact len_this))) (g_this_size := ((ls_ne (by decide)).trans g_this_size)) (g_this_text := ((ls_ne (by decide)).trans g_this_text)) (ha := (by omega)) (hz := (by omega))) (cwV 2 hT (gV ml_Model_358 im_Model_row se_Model_row ini_Model co_Model_row) rfl rfl rfl (by decide +kernel) ⟨Nat.le_of_ble_eq_true rfl, Nat.le_of_ble_eq_true rfl⟩) ⟨fbQe, va_recv hKc hPc (ci := 12) (q0 := 0) rfl rfl, fun U hU hW => ⟨rfl, by rw [hU], by rw [hU]; exact hPc, va_K.moved hW.alike hKc, hDc.weaken (fun _ _ _ _ => trivial), env0.hand henv hS hU hW hFc⟩⟩ rfl rfl hl.1 rfl (lv_room (Nat.le_of_ble_eq_true rfl)) d_Model_advance_91 ⟨Nat.le_of_ble_eq_true rfl, Nat.le_of_ble_eq_true rfl⟩) hS (fun q _ h => hFc q h) hFc (fun u t H1 locs ht hvm hw hB hz1 hk1 hS => ?_)
                obtain ⟨fs_this_40, ⟨hw40_0, hw40_1, hw40_2, hw40_3, hw40_4, hw40_5⟩, hP1, hK1, hD1⟩ := hB
                rw [ht] at hP1
                have hK1 := va_K.moved hvm.symm hK1
                obtain ⟨hP, hD⟩ := va_join (wr := []) (w1 := [oc h_this 12 fs_this_40, ic h_text k_text 4000 f_text]) hP hD [0, 1] [] rfl rfl (by decide) (by decide) hk1 hFc hP1 hD1
                generalize H1 = H at hP hS ⊢
                have hP : va_P (dC, dI) cls_all [oc h_this 12 fs_this_40, ic h_text k_text 4000 f_text] H := hP
                have hD : va_D A [oc h_this 12 fs_this_40, ic h_text k_text 4000 f_text] := hD
                refine lv_goto (tgt := 102) hx hb d_Model_advance_94 (by decide) ?_
                have hP9 := hP.sub (ws' := [oc h_this 12 fs_this_40, ic h_text k_text 4000 f_text]) [0, 1] rfl
                have hD9 := hD.sub (ws' := [oc h_this 12 fs_this_40, ic h_text k_text 4000 f_text]) [0, 1] (by decide) rfl
                have hK9 := hK.sub (tys' := [(k_text, .int)]) [0] rfl
                have hv41 : fs_this_40[3]? = some (.int (nI (a + k))) := ((hw40_1 3 (by decide) (by decide) (by decide) (by decide)).trans (ls_eq (by simp only [List.length_set, len_this]; decide)))
                have hv42 : fs_this_40[2]? = some (.int (srt (1 : Int32) (nI (rl f_text (a + k + 1) (tz - (a + k + 1)))) (if nI (a + k + 1) < nI tz then f_text (a + k + 1) else -1) (dgs f_text (a + k + 1) (rl f_text (a + k + 1) (tz - (a + k + 1)))) (sml f_text (a + k + 1) (rl f_text (a + k + 1) (tz - (a + k + 1)))) (if ff (khit (pkd f_text (a + k + 1) (rl f_text (a + k + 1) (tz - (a + k + 1))))) 0 133 = -1 then 0 else 1))) := hw40_5
                have hv43 : fs_this_40[4]? = some (.int (nI ((a + k + 1) + (rl f_text (a + k + 1) (tz - (a + k + 1)))))) := hw40_4
                have hv44 : fs_this_40[6]? = some (.long (pkd f_text (a + k + 1) (rl f_text (a + k + 1) (tz - (a + k + 1))))) := hw40_2
                have hv45 : fs_this_40[5]? = some (.int (nmb f_text (a + k + 1) (rl f_text (a + k + 1) (tz - (a + k + 1))))) := hw40_3
                exact W.vret hx hb hr (fun t ht hW => ⟨⟨(), rfl, trivial, fs_this_40, ⟨(by first | exact hw40_0 | (simp only [List.length_set]; exact hw40_0)), (fun j n3 n2 n4 n6 n5 => ((hw40_1 j n6 n5 n4 n2).trans ((ls_ne n3).trans rfl))), (by first | exact hv41 | (rw [hv41]; refine congrArg some (congrArg _ ?_); first | (rw [hN]; done) | (rw [hN]; simp only [tSort, tAft, tWord, tNum, if_neg hlt, if_pos hor, tN, hF, if_pos c30]; done))), (by first | exact hv42 | (rw [hv42]; refine congrArg some (congrArg _ ?_); first | (rw [hN]; done) | (rw [hN]; simp only [tSort, tAft, tWord, tNum, if_neg hlt, if_pos hor, tN, hF, if_pos c30]; done))), (by first | exact hv43 | (rw [hv43]; refine congrArg some (congrArg _ ?_); first | (rw [hN]; done) | (rw [hN]; simp only [tSort, tAft, tWord, tNum, if_neg hlt, if_pos hor, tN, hF, if_pos c30]; done))), (by first | exact hv44 | (rw [hv44]; refine congrArg some (congrArg _ ?_); first | (rw [hN]; done) | (rw [hN]; simp only [tSort, tAft, tWord, tNum, if_neg hlt, if_pos hor, tN, hF, if_pos c30]; done))), (by first | exact hv45 | (rw [hv45]; refine congrArg some (congrArg _ ?_); first | (rw [hN]; done) | (rw [hN]; simp only [tSort, tAft, tWord, tNum, if_neg hlt, if_pos hor, tN, hF, if_pos c30]; done)))⟩, by rw [ht]; exact hP9, va_K.moved hW.alike hK9, hD9⟩, hS.F ht⟩) hS.2.2 d_Model_advance_102
        · have b3 : (tz) ≤ ((a + k)) := (ni_lt (by omega) (by omega) ).2 c3
          have hge : tz ≤ a + k := b3
          refine lv_aload_n hx hb d_Model_advance_34 rfl (lv_at hl 1 rfl) ?_
          refine lv_bipush (v := 7) hx hb d_Model_advance_35 (by decide) ?_
          refine va_put (D := (dC, dI)) (ci := 12) (v := .int 7) (ty := .int) (C := R_Model) (T := F_Model) (N := 153) hx hb hT i_Model t_Model t_Model_ok n_Model hown hK hP hD hS 0 rfl rfl 2 (by decide) (hT _ fl_Model_352) (fun _ h9 => h9) rfl (by decide +kernel) rfl rfl (by simp only [List.length_set, len_this]; decide) d_Model_advance_37 (fun H locs hP hD hS => ?_)
          have hP : va_P (dC, dI) cls_all [oc h_this 12 ((fs_this.set 3 (.int (nI (a + k)))).set 2 (.int 7)), ic h_text k_text 4000 f_text] H := hP
          have hD : va_D A [oc h_this 12 ((fs_this.set 3 (.int (nI (a + k)))).set 2 (.int 7)), ic h_text k_text 4000 f_text] := hD
          refine lv_aload_n hx hb d_Model_advance_40 rfl (lv_at hl 1 rfl) ?_
          refine lv_iload_n hx hb d_Model_advance_41 rfl (lv_at hl 0 rfl) ?_
          refine va_put (D := (dC, dI)) (ci := 12) (v := .int (nI (a + k))) (ty := .int) (C := R_Model) (T := F_Model) (N := 153) hx hb hT i_Model t_Model t_Model_ok n_Model hown hK hP hD hS 0 rfl rfl 4 (by decide) (hT _ fl_Model_342) (fun _ h9 => h9) rfl (by decide +kernel) rfl rfl (by simp only [List.length_set, len_this]; decide) d_Model_advance_42 (fun H locs hP hD hS => ?_)
          have hP : va_P (dC, dI) cls_all [oc h_this 12 (((fs_this.set 3 (.int (nI (a + k)))).set 2 (.int 7)).set 4 (.int (nI (a + k)))), ic h_text k_text 4000 f_text] H := hP
          have hD : va_D A [oc h_this 12 (((fs_this.set 3 (.int (nI (a + k)))).set 2 (.int 7)).set 4 (.int (nI (a + k)))), ic h_text k_text 4000 f_text] := hD
          have hP9 := hP.sub (ws' := [oc h_this 12 (((fs_this.set 3 (.int (nI (a + k)))).set 2 (.int 7)).set 4 (.int (nI (a + k)))), ic h_text k_text 4000 f_text]) [0, 1] rfl
          have hD9 := hD.sub (ws' := [oc h_this 12 (((fs_this.set 3 (.int (nI (a + k)))).set 2 (.int 7)).set 4 (.int (nI (a + k)))), ic h_text k_text 4000 f_text]) [0, 1] (by decide) rfl
          have hK9 := hK.sub (tys' := [(k_text, .int)]) [0] rfl
          have hv46 : (((fs_this.set 3 (.int (nI (a + k)))).set 2 (.int 7)).set 4 (.int (nI (a + k))))[3]? = some (.int (nI (a + k))) := ((ls_ne (by decide)).trans ((ls_ne (by decide)).trans (ls_eq (by simp only [List.length_set, len_this]; decide))))
          have hv47 : (((fs_this.set 3 (.int (nI (a + k)))).set 2 (.int 7)).set 4 (.int (nI (a + k))))[2]? = some (.int 7) := ((ls_ne (by decide)).trans (ls_eq (by simp only [List.length_set, len_this]; decide)))
          have hv48 : (((fs_this.set 3 (.int (nI (a + k)))).set 2 (.int 7)).set 4 (.int (nI (a + k))))[4]? = some (.int (nI (a + k))) := (ls_eq (by simp only [List.length_set, len_this]; decide))
          have hv49 : (((fs_this.set 3 (.int (nI (a + k)))).set 2 (.int 7)).set 4 (.int (nI (a + k))))[6]? = some (.long v_this_word) := ((ls_ne (by decide)).trans ((ls_ne (by decide)).trans ((ls_ne (by decide)).trans g_this_word)))
          have hv50 : (((fs_this.set 3 (.int (nI (a + k)))).set 2 (.int 7)).set 4 (.int (nI (a + k))))[5]? = some (.int v_this_number) := ((ls_ne (by decide)).trans ((ls_ne (by decide)).trans ((ls_ne (by decide)).trans g_this_number)))
          exact W.vret hx hb hr (fun t ht hW => ⟨⟨(), rfl, trivial, (((fs_this.set 3 (.int (nI (a + k)))).set 2 (.int 7)).set 4 (.int (nI (a + k)))), ⟨(by first | exact len_this | (simp only [List.length_set]; exact len_this)), (fun j n3 n2 n4 n6 n5 => ((ls_ne n4).trans ((ls_ne n2).trans ((ls_ne n3).trans rfl)))), (by first | exact hv46 | (rw [hv46]; refine congrArg some (congrArg _ ?_); first | (rw [hN]; done) | (rw [hN]; simp only [tSort, tAft, tWord, tNum, if_pos hge]; done))), (by first | exact hv47 | (rw [hv47]; refine congrArg some (congrArg _ ?_); first | (rw [hN]; done) | (rw [hN]; simp only [tSort, tAft, tWord, tNum, if_pos hge]; done))), (by first | exact hv48 | (rw [hv48]; refine congrArg some (congrArg _ ?_); first | (rw [hN]; done) | (rw [hN]; simp only [tSort, tAft, tWord, tNum, if_pos hge]; done))), (by first | exact hv49 | (rw [hv49]; refine congrArg some (congrArg _ ?_); first | (rw [hN]; done) | (rw [hN]; simp only [tSort, tAft, tWord, tNum, if_pos hge]; done))), (by first | exact hv50 | (rw [hv50]; refine congrArg some (congrArg _ ?_); first | (rw [hN]; done) | (rw [hN]; simp only [tSort, tAft, tWord, tNum, if_pos hge]; done)))⟩, by rw [ht]; exact hP9, va_K.moved hW.alike hK9, hD9⟩, hS.F ht⟩) hS.2.2 d_Model_advance_45
      · have hb2 : a + k < tz ∧ f_text (a + k) = 32 := see32 (by omega) (by omega) hr1 c2
        refine lv_iinc (v := (nI (a + k + 1))) (lv' := [(1, .int (nI (a + k + 1))), (0, .ref h_this)]) hx hb d_Model_advance_15 hl (k := 0) rfl (nI_add (a + k) 1) (by decide) rfl (fun ls hl => ?_)
        refine lv_goto (tgt := 5) hx hb d_Model_advance_18 (by decide) ?_
        exact ih (k + 1) (by omega) (he.trans (by rw [bs_y hb2.2 (by omega)]; rw [show a + (k + 1) = a + k + 1 by omega, show tz - a - (k + 1) = tz - a - k - 1 by omega]; omega)) (by omega) _ _ hP hD hS ls (lv_sub hl [0, 1] rfl)
  exact loop (tz - a + 1) 0 (by omega) (by simp) (by omega) _ _ hP hD hS ls (lv_sub hl [0, 1] rfl)
