abbrev b_Model_isKept : ByteArray := prog_14_method_10_code
abbrev y_Model_isKept : MethodName := ⟨R_Model, "isKept", "(J)Z"⟩
theorem co_Model_isKept : Cond.code y_Model_isKept b_Model_isKept 5 (some .boolean) ∈ lw_good := lg_in (tin_10 _ (List.mem_of_getElem? (i := 169) rfl)) rfl
abbrev w_Model_isKept : List Cond := Cond.code y_Model_isKept b_Model_isKept 5 (some .boolean) :: lw_good
theorem st_Model_isKept : Cond.static y_Model_isKept ∈ lw_good := lg_right (i := 2328) (by decide +kernel) rfl
theorem d_Model_isKept_0 : decode b_Model_isKept 0 = .ok (.lconst 0, 1) := by decide +kernel
theorem d_Model_isKept_1 : decode b_Model_isKept 1 = .ok (.lstore_n 2, 1) := by decide +kernel
theorem d_Model_isKept_2 : decode b_Model_isKept 2 = .ok (.iconst 0, 1) := by decide +kernel
theorem d_Model_isKept_3 : decode b_Model_isKept 3 = .ok (.istore 4, 2) := by decide +kernel
theorem d_Model_isKept_5 : decode b_Model_isKept 5 = .ok (.iload 4, 2) := by decide +kernel
theorem d_Model_isKept_7 : decode b_Model_isKept 7 = .ok (.ldc_w 340, 3) := by decide +kernel
theorem d_Model_isKept_10 : decode b_Model_isKept 10 = .ok (.invokevirtual 330, 3) := by decide +kernel
theorem d_Model_isKept_13 : decode b_Model_isKept 13 = .ok (.if_icmp .ge 50, 3) := by decide +kernel
theorem d_Model_isKept_16 : decode b_Model_isKept 16 = .ok (.ldc_w 340, 3) := by decide +kernel
theorem d_Model_isKept_19 : decode b_Model_isKept 19 = .ok (.iload 4, 2) := by decide +kernel
theorem d_Model_isKept_21 : decode b_Model_isKept 21 = .ok (.invokevirtual 336, 3) := by decide +kernel
theorem d_Model_isKept_24 : decode b_Model_isKept 24 = .ok (.bipush 32, 2) := by decide +kernel
theorem d_Model_isKept_26 : decode b_Model_isKept 26 = .ok (.if_icmp .eq 21, 3) := by decide +kernel
theorem d_Model_isKept_29 : decode b_Model_isKept 29 = .ok (.lload_n 2, 1) := by decide +kernel
theorem d_Model_isKept_30 : decode b_Model_isKept 30 = .ok (.bipush 8, 2) := by decide +kernel
theorem d_Model_isKept_32 : decode b_Model_isKept 32 = .ok (.lshl, 1) := by decide +kernel
theorem d_Model_isKept_33 : decode b_Model_isKept 33 = .ok (.ldc_w 340, 3) := by decide +kernel
theorem d_Model_isKept_36 : decode b_Model_isKept 36 = .ok (.iload 4, 2) := by decide +kernel
theorem d_Model_isKept_38 : decode b_Model_isKept 38 = .ok (.invokevirtual 336, 3) := by decide +kernel
theorem d_Model_isKept_41 : decode b_Model_isKept 41 = .ok (.i2l, 1) := by decide +kernel
theorem d_Model_isKept_42 : decode b_Model_isKept 42 = .ok (.lor, 1) := by decide +kernel
theorem d_Model_isKept_43 : decode b_Model_isKept 43 = .ok (.lstore_n 2, 1) := by decide +kernel
theorem d_Model_isKept_44 : decode b_Model_isKept 44 = .ok (.goto 13, 3) := by decide +kernel
theorem d_Model_isKept_47 : decode b_Model_isKept 47 = .ok (.lload_n 2, 1) := by decide +kernel
theorem d_Model_isKept_48 : decode b_Model_isKept 48 = .ok (.lload_n 0, 1) := by decide +kernel
theorem d_Model_isKept_49 : decode b_Model_isKept 49 = .ok (.lcmp, 1) := by decide +kernel
theorem d_Model_isKept_50 : decode b_Model_isKept 50 = .ok (.ifCond .ne 5, 3) := by decide +kernel
theorem d_Model_isKept_53 : decode b_Model_isKept 53 = .ok (.iconst 1, 1) := by decide +kernel
theorem d_Model_isKept_54 : decode b_Model_isKept 54 = .ok (.ireturn, 1) := by decide +kernel
theorem d_Model_isKept_55 : decode b_Model_isKept 55 = .ok (.lconst 0, 1) := by decide +kernel
theorem d_Model_isKept_56 : decode b_Model_isKept 56 = .ok (.lstore_n 2, 1) := by decide +kernel
theorem d_Model_isKept_57 : decode b_Model_isKept 57 = .ok (.iinc 4 1, 3) := by decide +kernel
theorem d_Model_isKept_60 : decode b_Model_isKept 60 = .ok (.goto (-55), 3) := by decide +kernel
theorem d_Model_isKept_63 : decode b_Model_isKept 63 = .ok (.iconst 0, 1) := by decide +kernel
theorem d_Model_isKept_64 : decode b_Model_isKept 64 = .ok (.ireturn, 1) := by decide +kernel
theorem kcur_s {k : Nat} (h : s_ch 4 k = 32) : kcur (k + 1) = 0 := if_pos h
theorem kcur_n {k : Nat} (h : ¬ s_ch 4 k = 32) : kcur (k + 1) = (kcur k <<< ((8 : Int32).toInt64 &&& 63)) ||| (s_ch 4 k).toInt64 := if_neg h
theorem ff_yes1 {p : Nat → Bool} {i k : Nat} (h : p i = true) (hk : 0 < k) (hi : i < 2 ^ 31) : ¬ ff p i k = -1 := by
  rw [ff_yes h hk]
  exact fun q => absurd (q ▸ nI_pos hi : ¬ (-1 : Int32) < 0) (by decide)
set_option maxHeartbeats 1000000 in
set_option maxRecDepth 100000 in
theorem c_Model_packed_l (l : Launch) (dC : Nat → ClassId) (dI : Nat → Nat → Nat)  (ad : Nat → Nat) (av : Nat → Nat) (i : Nat) (hi : i < 33) : Met l y_Model_packed w_Model_packed ({ frames := 4, cells := 0, slots := 0, locals := 85 } : Room) (va_Pc [.ref (ad i)] (fun U => va_P (dC, dI) cls_all [] U.heap ∧ va_K (dC, dI) cls_all [] U ∧ env0 ad av (fun _ => False) U U.heap)) (vp_Sl (fun r : Int64 => (r = pks i (s_len.getD i 0)))) 0 0 (fun _ => False) := by
  refine Met.ofW (cc := b_Model_packed) (maxL := 4) (ret := (some .long)) (by decide) rfl ?_
  intro p e s m args below meth c s₁ B hml hv
  obtain ⟨rfl, hP, hK, henv⟩ := hv
  have hx := B.exec
  have hb := B.bytes
  have hr := B.returns
  have hT : ∀ w ∈ lw_good, w.before _ s = true := fun w h => atoms_spec (ws := w_Model_packed) B.pre w (List.mem_cons_of_mem _ h)
  have hown : s.vm.findClass R_Model = some m.cls := findClass_of_methodNamed B.named
  have hlocks := B.notSynchronized
  have hS : va_S (fun _ => False) s.heap s.heap [] := va_S.rf
  have hl := lv_entry ([.ref (ad i)]) (n := 4) (Nat.le_of_ble_eq_true rfl)
  rw [lg_entry_eq]
  generalize (lg_sl ([.ref (ad i)]) ++ List.replicate (4 - (lg_sl ([.ref (ad i)])).length) Slot.unset).toArray = ls at hl ⊢
  have hl : lv_has ls 4 [(0, .ref (ad i))] := hl
  have hl31 : s_len.getD i 0 < 2 ^ 31 := s_l31 i hi
  refine lv_lconst (v := 0) hx hb d_Model_packed_0 (by decide) ?_
  refine lv_lstore_n (lv' := [(1, .long 0), (0, .ref (ad i))]) hx hb d_Model_packed_1 rfl hl (by decide) rfl (fun ls hl => ?_)
  refine lv_iconst (v := 0) hx hb d_Model_packed_2 (by decide) ?_
  refine lv_istore_n (lv' := [(3, .int 0), (1, .long 0), (0, .ref (ad i))]) hx hb d_Model_packed_3 rfl hl (by decide) rfl (fun ls hl => ?_)
  have loop : ∀ (nn : Nat) (k : Nat), k ≤ s_len.getD i 0 → s_len.getD i 0 - k < nn → ∀ (ls : Array Slot), lv_has ls 4 [(3, .int (nI (k))), (1, .long (pks i k)), (0, .ref (ad i))] → W p l e (headSpec w_Model_packed ({ frames := 4, cells := 0, slots := 0, locals := 85 } : Room)).room s m ([.ref (ad i)] : List Value).toArray below meth c s.heap [] 0 0 (MQ below (vp_Sl (fun r : Int64 => (r = pks i (s_len.getD i 0)))) ([.ref (ad i)] : List Value).toArray s 0 0 (fun _ => False)) (F0 m 4 ls []) := by
    clear hl
    intro nn
    induction nn with
    | zero => intro k hk hn ls hl; exfalso; omega
    | succ nn ih =>
      intro k hk hn ls hl
      refine lv_iload_n hx hb d_Model_packed_4 rfl (lv_at hl 0 rfl) ?_
      refine lv_aload_n hx hb d_Model_packed_5 rfl (lv_at hl 2 rfl) ?_
      have hPc := hP.sub (ws' := []) [] rfl
      have hKc := hK.sub (tys' := []) [] rfl
      refine vp_callSi (va_Run.run (va_runV (As := []) (rest := [.int (nI (k))]) ⟨hx, hb, hml, hown, hT⟩ (c_Str_length_l l dC dI (ad := ad) (av := av) (i := i) (hi := hi)) (cwV 0 hT (gV ml_Model_330 im_Str_length se_Str_length ini_Str co_Str_length) rfl rfl rfl (by decide +kernel) ⟨Nat.le_of_ble_eq_true rfl, Nat.le_of_ble_eq_true rfl⟩) ⟨fbSe, (env_recv henv hi hS), fun U hU hW => ⟨rfl, by rw [hU]; exact hPc, va_K.moved hW.alike hKc, env0.hand henv hS hU hW (fun q h => h.elim)⟩⟩ rfl rfl hl.1 rfl (lv_room (Nat.le_of_ble_eq_true rfl)) d_Model_packed_6 ⟨Nat.le_of_ble_eq_true rfl, Nat.le_of_ble_eq_true rfl⟩)) (fun r1 hr1 => ?_)
      obtain rfl := hr1
      refine lv_icmp_ge (tgt := 30) hx hb d_Model_packed_9 (by decide) (fun c2 => ?_) (fun c2 => ?_)
      · have b2 : ((s_len.getD i 0)) ≤ ((k)) := (ni_le (by omega) (by omega)).1 c2
        refine lv_lload_n hx hb d_Model_packed_30 rfl (lv_at hl 1 rfl) ?_
        refine W.lret (v := (pks i k)) hx hb hr (fun t ht hW => ⟨(pks i k), rfl, ?_, ht⟩) (fun q h => by cases h) d_Model_packed_31
        exact congrArg (pks i) (by omega)
      · have b2 : ((k)) < ((s_len.getD i 0)) := (ni_le (by omega) (by omega)).2 c2
        refine lv_lload_n hx hb d_Model_packed_12 rfl (lv_at hl 1 rfl) ?_
        refine lv_bipush (v := 8) hx hb d_Model_packed_13 (by decide) ?_
        obtain ⟨x3, e3⟩ : ∃ z : Int64, (pks i k) <<< ((8 : Int32).toInt64 &&& 63) = z := ⟨_, rfl⟩
        refine lv_lshl (v := x3) hx hb d_Model_packed_15 e3 ?_
        refine lv_aload_n hx hb d_Model_packed_16 rfl (lv_at hl 2 rfl) ?_
        refine lv_iload_n hx hb d_Model_packed_17 rfl (lv_at hl 0 rfl) ?_
        have hPc := hP.sub (ws' := []) [] rfl
        have hKc := hK.sub (tys' := []) [] rfl
        refine vp_callSi (va_Run.run (va_runV (As := [.int (nI (k))]) (rest := [.long x3]) ⟨hx, hb, hml, hown, hT⟩ (c_Str_charAt_l l dC dI (ad := ad) (av := av) (p1 := (nI (k))) (i := i) (hi := hi) (h1 := (nI_pos (by omega))) (h2 := (nI_lt (by omega) (by omega)))) (cwV 1 hT (gV ml_Model_336 im_Str_charAt se_Str_charAt ini_Str co_Str_charAt) rfl rfl rfl (by decide +kernel) ⟨Nat.le_of_ble_eq_true rfl, Nat.le_of_ble_eq_true rfl⟩) ⟨fbSe, (env_recv henv hi hS), fun U hU hW => ⟨rfl, by rw [hU]; exact hPc, va_K.moved hW.alike hKc, env0.hand henv hS hU hW (fun q h => h.elim)⟩⟩ rfl rfl hl.1 rfl (lv_room (Nat.le_of_ble_eq_true rfl)) d_Model_packed_18 ⟨Nat.le_of_ble_eq_true rfl, Nat.le_of_ble_eq_true rfl⟩)) (fun r4 hr4 => ?_)
        obtain rfl : r4 = s_ch i k := hr4.trans (by rw [nI_clamp (by omega)])
        obtain ⟨x5, e5⟩ : ∃ z : Int64, ((s_ch i k) : Int32).toInt64 = z := ⟨_, rfl⟩
        refine lv_i2l (v := x5) hx hb d_Model_packed_21 e5 ?_
        refine lv_lor hx hb d_Model_packed_22 ?_
        refine lv_topl (fun x6 e6 => ?_)
        obtain rfl : x6 = pks i (k + 1) := by rw [e6, ← e3, ← e5]; rfl
        refine lv_lstore_n (lv' := [(1, .long (pks i (k + 1))), (3, .int (nI (k))), (0, .ref (ad i))]) hx hb d_Model_packed_23 rfl hl (by decide) rfl (fun ls hl => ?_)
        refine lv_iinc (v := (nI (k + 1))) (lv' := [(3, .int (nI (k + 1))), (1, .long (pks i (k + 1))), (0, .ref (ad i))]) hx hb d_Model_packed_24 hl (k := 1) rfl (nI_add (k) 1) (by decide) rfl (fun ls hl => ?_)
        refine lv_goto (tgt := 4) hx hb d_Model_packed_27 (by decide) ?_
        exact ih (k + 1) (by omega) (by omega) ls (lv_sub hl [0, 1, 2] rfl)
  exact loop (s_len.getD i 0 + 1) 0 (by omega) (by omega) ls (lv_sub hl [0, 1, 2] rfl)
set_option maxHeartbeats 1000000 in
set_option maxRecDepth 100000 in
theorem c_Model_isKept (l : Launch) (dC : Nat → ClassId) (dI : Nat → Nat → Nat)  (ad : Nat → Nat) (av : Nat → Nat) (p1 : Int64) : Met l y_Model_isKept w_Model_isKept ({ frames := 4, cells := 0, slots := 0, locals := 85 } : Room) (va_Pc [.long p1] (fun U => va_P (dC, dI) cls_all [] U.heap ∧ va_K (dC, dI) cls_all [] U ∧ env0 ad av (fun _ => False) U U.heap)) (vp_Si (fun r : Int32 => (r = if ff (khit p1) 0 133 = -1 then 0 else 1))) 0 0 (fun _ => False) := by
  refine Met.ofW (cc := b_Model_isKept) (maxL := 5) (ret := (some .boolean)) (by decide) rfl ?_
  intro p e s m args below meth c s₁ B hml hv
  obtain ⟨rfl, hP, hK, henv⟩ := hv
  have hx := B.exec
  have hb := B.bytes
  have hr := B.returns
  have hT : ∀ w ∈ lw_good, w.before _ s = true := fun w h => atoms_spec (ws := w_Model_isKept) B.pre w (List.mem_cons_of_mem _ h)
  have hown : s.vm.findClass R_Model = some m.cls := findClass_of_methodNamed B.named
  have hlocks := B.notSynchronized
  have hS : va_S (fun _ => False) s.heap s.heap [] := va_S.rf
  have hl := lv_entry ([.long p1]) (n := 5) (Nat.le_of_ble_eq_true rfl)
  rw [lg_entry_eq]
  generalize (lg_sl ([.long p1]) ++ List.replicate (5 - (lg_sl ([.long p1])).length) Slot.unset).toArray = ls at hl ⊢
  have hl : lv_has ls 5 [(0, .long p1)] := hl
  refine lv_lconst (v := 0) hx hb d_Model_isKept_0 (by decide) ?_
  refine lv_lstore_n (lv' := [(2, .long 0), (0, .long p1)]) hx hb d_Model_isKept_1 rfl hl (by decide) rfl (fun ls hl => ?_)
  refine lv_iconst (v := 0) hx hb d_Model_isKept_2 (by decide) ?_
  refine lv_istore (lv' := [(4, .int 0), (2, .long 0), (0, .long p1)]) hx hb d_Model_isKept_3 hl (by decide) rfl (fun ls hl => ?_)
  have loop : ∀ (nn : Nat) (k : Nat), k ≤ 133 → ff (khit p1) 0 133 = ff (khit p1) k (133 - k) → 133 - k < nn → ∀ (ls : Array Slot), lv_has ls 5 [(4, .int (nI (k))), (2, .long (kcur k)), (0, .long p1)] → W p l e (headSpec w_Model_isKept ({ frames := 4, cells := 0, slots := 0, locals := 85 } : Room)).room s m ([.long p1] : List Value).toArray below meth c s.heap [] 0 0 (MQ below (vp_Si (fun r : Int32 => (r = if ff (khit p1) 0 133 = -1 then 0 else 1))) ([.long p1] : List Value).toArray s 0 0 (fun _ => False)) (F0 m 5 ls []) := by
    clear hl
    intro nn
    induction nn with
    | zero => intro k hk he hn ls hl; exfalso; omega
    | succ nn ih =>
      intro k hk he hn ls hl
      refine lv_iload hx hb d_Model_isKept_5 (lv_at hl 0 rfl) ?_
      refine va_ldcwS (own := R_Model) (index := 340) (q := ad 4) hx hb hown (henv.2.2 4 (by decide)).2 d_Model_isKept_7 ?_
      have hPc := hP.sub (ws' := []) [] rfl
      have hKc := hK.sub (tys' := []) [] rfl
      refine vp_callSi (va_Run.run (va_runV (As := []) (rest := [.int (nI (k))]) ⟨hx, hb, hml, hown, hT⟩ (c_Str_length_l l dC dI (ad := ad) (av := av) (i := 4) (hi := (by decide))) (cwV 0 hT (gV ml_Model_330 im_Str_length se_Str_length ini_Str co_Str_length) rfl rfl rfl (by decide +kernel) ⟨Nat.le_of_ble_eq_true rfl, Nat.le_of_ble_eq_true rfl⟩) ⟨fbSe, (env_recv henv (by decide) hS), fun U hU hW => ⟨rfl, by rw [hU]; exact hPc, va_K.moved hW.alike hKc, env0.hand henv hS hU hW (fun q h => h.elim)⟩⟩ rfl rfl hl.1 rfl (lv_room (Nat.le_of_ble_eq_true rfl)) d_Model_isKept_10 ⟨Nat.le_of_ble_eq_true rfl, Nat.le_of_ble_eq_true rfl⟩)) (fun r1 hr1 => ?_)
      obtain rfl : r1 = nI 133 := hr1.trans rfl
      refine lv_icmp_ge (tgt := 63) hx hb d_Model_isKept_13 (by decide) (fun c2 => ?_) (fun c2 => ?_)
      · have b2 : (133) ≤ ((k)) := (ni_le (by omega) (by omega)).1 c2
        refine lv_iconst (v := 0) hx hb d_Model_isKept_63 (by decide) ?_
        refine W.zret (v := 0) hx hb hr (by first | rfl | decide | assumption) (fun t ht hW => ⟨0, rfl, ?_, ht⟩) (fun q h => by cases h) d_Model_isKept_64
        rw [he, show 133 - k = 0 by omega]; rfl
      · have b2 : ((k)) < (133) := (ni_le (by omega) (by omega)).2 c2
        refine va_ldcwS (own := R_Model) (index := 340) (q := ad 4) hx hb hown (henv.2.2 4 (by decide)).2 d_Model_isKept_16 ?_
        refine lv_iload hx hb d_Model_isKept_19 (lv_at hl 0 rfl) ?_
        have hPc := hP.sub (ws' := []) [] rfl
        have hKc := hK.sub (tys' := []) [] rfl
        refine vp_callSi (va_Run.run (va_runV (As := [.int (nI (k))]) (rest := []) ⟨hx, hb, hml, hown, hT⟩ (c_Str_charAt_l l dC dI (ad := ad) (av := av) (p1 := (nI (k))) (i := 4) (hi := (by decide)) (h1 := (nI_pos (by omega))) (h2 := (show nI k < nI 133 from nI_lt (by omega) (by decide)))) (cwV 1 hT (gV ml_Model_336 im_Str_charAt se_Str_charAt ini_Str co_Str_charAt) rfl rfl rfl (by decide +kernel) ⟨Nat.le_of_ble_eq_true rfl, Nat.le_of_ble_eq_true rfl⟩) ⟨fbSe, (env_recv henv (by decide) hS), fun U hU hW => ⟨rfl, by rw [hU]; exact hPc, va_K.moved hW.alike hKc, env0.hand henv hS hU hW (fun q h => h.elim)⟩⟩ rfl rfl hl.1 rfl (lv_room (Nat.le_of_ble_eq_true rfl)) d_Model_isKept_21 ⟨Nat.le_of_ble_eq_true rfl, Nat.le_of_ble_eq_true rfl⟩)) (fun r3 hr3 => ?_)
        obtain rfl : r3 = s_ch 4 k := hr3.trans (by rw [nI_clamp (by omega)])
        refine lv_bipush (v := 32) hx hb d_Model_isKept_24 (by decide) ?_
        refine lv_icmp_eq (tgt := 47) hx hb d_Model_isKept_26 (by decide) (fun c4 => ?_) (fun c4 => ?_)
        · refine lv_lload_n hx hb d_Model_isKept_47 rfl (lv_at hl 1 rfl) ?_
          refine lv_lload_n hx hb d_Model_isKept_48 rfl (lv_at hl 2 rfl) ?_
          refine W.lcmp hx hb d_Model_isKept_49 ?_
          refine lv_if_ne (tgt := 55) hx hb d_Model_isKept_50 (by decide) (fun c5 => ?_) (fun c5 => ?_)
          · refine lv_lconst (v := 0) hx hb d_Model_isKept_55 (by decide) ?_
            refine lv_lstore_n (lv' := [(2, .long 0), (4, .int (nI (k))), (0, .long p1)]) hx hb d_Model_isKept_56 rfl hl (by decide) rfl (fun ls hl => ?_)
            refine lv_iinc (v := (nI (k + 1))) (lv' := [(4, .int (nI (k + 1))), (2, .long 0), (0, .long p1)]) hx hb d_Model_isKept_57 hl (k := 1) rfl (nI_add (k) 1) (by decide) rfl (fun ls hl => ?_)
            refine lv_goto (tgt := 5) hx hb d_Model_isKept_60 (by decide) ?_
            have hl : lv_has ls 5 [(4, .int (nI (k + 1))), (2, .long (kcur (k + 1))), (0, .long p1)] := by rw [kcur_s c4]; exact hl
            have hno : ¬ khit p1 k = true := fun q => by (simp only [khit, Bool.and_eq_true, decide_eq_true_eq] at q); exact c5 ((lg_cmp_eq _ _).mpr q.2)
            exact ih (k + 1) (by omega) (he.trans ((ff_no hno (by omega)).trans (congrArg _ (by omega)))) (by omega) ls (lv_sub hl [0, 1, 2] rfl)
          · refine lv_iconst (v := 1) hx hb d_Model_isKept_53 (by decide) ?_
            refine W.zret (v := 1) hx hb hr (by first | rfl | decide | assumption) (fun t ht hW => ⟨1, rfl, ?_, ht⟩) (fun q h => by cases h) d_Model_isKept_54
            rw [he]; exact (if_neg (ff_yes1 (by simp only [khit, Bool.and_eq_true, decide_eq_true_eq]; exact ⟨c4, (lg_cmp_eq _ _).mp c5⟩) (by omega) (by omega))).symm
        · refine lv_lload_n hx hb d_Model_isKept_29 rfl (lv_at hl 1 rfl) ?_
          refine lv_bipush (v := 8) hx hb d_Model_isKept_30 (by decide) ?_
          obtain ⟨x6, e6⟩ : ∃ z : Int64, (kcur k) <<< ((8 : Int32).toInt64 &&& 63) = z := ⟨_, rfl⟩
          refine lv_lshl (v := x6) hx hb d_Model_isKept_32 e6 ?_
          refine va_ldcwS (own := R_Model) (index := 340) (q := ad 4) hx hb hown (henv.2.2 4 (by decide)).2 d_Model_isKept_33 ?_
          refine lv_iload hx hb d_Model_isKept_36 (lv_at hl 0 rfl) ?_
          have hPc := hP.sub (ws' := []) [] rfl
          have hKc := hK.sub (tys' := []) [] rfl
          refine vp_callSi (va_Run.run (va_runV (As := [.int (nI (k))]) (rest := [.long x6]) ⟨hx, hb, hml, hown, hT⟩ (c_Str_charAt_l l dC dI (ad := ad) (av := av) (p1 := (nI (k))) (i := 4) (hi := (by decide)) (h1 := (nI_pos (by omega))) (h2 := (show nI k < nI 133 from nI_lt (by omega) (by decide)))) (cwV 1 hT (gV ml_Model_336 im_Str_charAt se_Str_charAt ini_Str co_Str_charAt) rfl rfl rfl (by decide +kernel) ⟨Nat.le_of_ble_eq_true rfl, Nat.le_of_ble_eq_true rfl⟩) ⟨fbSe, (env_recv henv (by decide) hS), fun U hU hW => ⟨rfl, by rw [hU]; exact hPc, va_K.moved hW.alike hKc, env0.hand henv hS hU hW (fun q h => h.elim)⟩⟩ rfl rfl hl.1 rfl (lv_room (Nat.le_of_ble_eq_true rfl)) d_Model_isKept_38 ⟨Nat.le_of_ble_eq_true rfl, Nat.le_of_ble_eq_true rfl⟩)) (fun r7 hr7 => ?_)
          obtain rfl : r7 = s_ch 4 k := hr7.trans (by rw [nI_clamp (by omega)])
          obtain ⟨x8, e8⟩ : ∃ z : Int64, ((s_ch 4 k) : Int32).toInt64 = z := ⟨_, rfl⟩
          refine lv_i2l (v := x8) hx hb d_Model_isKept_41 e8 ?_
          refine lv_lor hx hb d_Model_isKept_42 ?_
          refine lv_topl (fun x9 e9 => ?_)
          obtain rfl : x9 = (kcur k <<< ((8 : Int32).toInt64 &&& 63)) ||| (s_ch 4 k).toInt64 := by rw [e9, ← e6, ← e8]
          refine lv_lstore_n (lv' := [(2, .long ((kcur k <<< ((8 : Int32).toInt64 &&& 63)) ||| (s_ch 4 k).toInt64)), (4, .int (nI (k))), (0, .long p1)]) hx hb d_Model_isKept_43 rfl hl (by decide) rfl (fun ls hl => ?_)
          refine lv_goto (tgt := 57) hx hb d_Model_isKept_44 (by decide) ?_
          refine lv_iinc (v := (nI (k + 1))) (lv' := [(4, .int (nI (k + 1))), (2, .long ((kcur k <<< ((8 : Int32).toInt64 &&& 63)) ||| (s_ch 4 k).toInt64)), (0, .long p1)]) hx hb d_Model_isKept_57 hl (k := 1) rfl (nI_add (k) 1) (by decide) rfl (fun ls hl => ?_)
          refine lv_goto (tgt := 5) hx hb d_Model_isKept_60 (by decide) ?_
          have hl : lv_has ls 5 [(4, .int (nI (k + 1))), (2, .long (kcur (k + 1))), (0, .long p1)] := by rw [kcur_n c4]; exact hl
          have hno : ¬ khit p1 k = true := fun q => by (simp only [khit, Bool.and_eq_true, decide_eq_true_eq] at q); exact c4 q.1
          exact ih (k + 1) (by omega) (he.trans ((ff_no hno (by omega)).trans (congrArg _ (by omega)))) (by omega) ls (lv_sub hl [0, 1, 2] rfl)
  exact loop 134 0 (by omega) rfl (by omega) ls (lv_sub hl [0, 1, 2] rfl)
